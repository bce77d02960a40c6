theorem mB_X11_415 (T0 : Cond) : ∀ w ∈ ([.methodLink RX11 415 Lib.Math.min.name, .static Lib.Math.min.name, .initialized "java/lang/Math", .code Lib.Math.min.name Lib.Math.min.code 2 (some .int)] : List Cond), w ∈ T0 :: BIG := by
  intro w h
  simp only [List.mem_cons, List.not_mem_nil, or_false] at h
  rcases h with rfl | rfl | rfl | rfl
  · exact List.mem_cons_of_mem _ (inB26 _ (List.mem_of_getElem? (i := 23) rfl))
  · exact List.mem_cons_of_mem _ (inB12 _ (List.mem_of_getElem? (i := 7) rfl))
  · exact List.mem_cons_of_mem _ (inB12 _ (List.mem_of_getElem? (i := 8) rfl))
  · exact List.mem_cons_of_mem _ (inB12 _ (List.mem_of_getElem? (i := 9) rfl))
theorem mB_X11_253 (T0 : Cond) : ∀ w ∈ ([.methodLink RX11 253 Lib.Math.max.name, .static Lib.Math.max.name, .initialized "java/lang/Math", .code Lib.Math.max.name Lib.Math.max.code 2 (some .int)] : List Cond), w ∈ T0 :: BIG := by
  intro w h
  simp only [List.mem_cons, List.not_mem_nil, or_false] at h
  rcases h with rfl | rfl | rfl | rfl
  · exact List.mem_cons_of_mem _ (inB27 _ (List.mem_of_getElem? (i := 0) rfl))
  · exact List.mem_cons_of_mem _ (inB27 _ (List.mem_of_getElem? (i := 1) rfl))
  · exact List.mem_cons_of_mem _ (inB12 _ (List.mem_of_getElem? (i := 8) rfl))
  · exact List.mem_cons_of_mem _ (inB27 _ (List.mem_of_getElem? (i := 2) rfl))
theorem kB_J6_265 (T0 : Cond) : Cond.constant RJ6 265 (1431655765 : Int32) ∈ T0 :: BIG := List.mem_cons_of_mem _ (inB26 _ (List.mem_of_getElem? (i := 2) rfl))
theorem kB_J6_266 (T0 : Cond) : Cond.constant RJ6 266 (858993459 : Int32) ∈ T0 :: BIG := List.mem_cons_of_mem _ (inB26 _ (List.mem_of_getElem? (i := 3) rfl))
theorem kB_J6_267 (T0 : Cond) : Cond.constant RJ6 267 (252645135 : Int32) ∈ T0 :: BIG := List.mem_cons_of_mem _ (inB26 _ (List.mem_of_getElem? (i := 4) rfl))
theorem eB_X2_24 (T0 : Cond) : aF (T0 :: BIG) RX2 24 2 0 := ⟨RX2, TX2, 5, rfl, fun w h => List.mem_cons_of_mem _ (inBX2 w h), by decide, List.mem_cons_of_mem _ (inB13 _ (List.mem_of_getElem? (i := 13) rfl))⟩
theorem eB_X2_21 (T0 : Cond) : aF (T0 :: BIG) RX2 21 2 4 := ⟨RX2, TX2, 5, rfl, fun w h => List.mem_cons_of_mem _ (inBX2 w h), by decide, List.mem_cons_of_mem _ (inB4 _ (List.mem_of_getElem? (i := 14) rfl))⟩
theorem eB_X2_18 (T0 : Cond) : aF (T0 :: BIG) RX2 18 2 3 := ⟨RX2, TX2, 5, rfl, fun w h => List.mem_cons_of_mem _ (inBX2 w h), by decide, List.mem_cons_of_mem _ (inB4 _ (List.mem_of_getElem? (i := 13) rfl))⟩
theorem eB_X5_9 (T0 : Cond) : aF (T0 :: BIG) RX5 9 5 0 := ⟨RX5, TX5, 5, rfl, fun w h => List.mem_cons_of_mem _ (inBX5 w h), by decide, List.mem_cons_of_mem _ (inB4 _ (List.mem_of_getElem? (i := 3) rfl))⟩
theorem eB_X5_22 (T0 : Cond) : aF (T0 :: BIG) RX5 22 5 3 := ⟨RX5, TX5, 5, rfl, fun w h => List.mem_cons_of_mem _ (inBX5 w h), by decide, List.mem_cons_of_mem _ (inB4 _ (List.mem_of_getElem? (i := 6) rfl))⟩
theorem eB_X5_15 (T0 : Cond) : aF (T0 :: BIG) RX5 15 5 1 := ⟨RX5, TX5, 5, rfl, fun w h => List.mem_cons_of_mem _ (inBX5 w h), by decide, List.mem_cons_of_mem _ (inB4 _ (List.mem_of_getElem? (i := 4) rfl))⟩
theorem cB_X5_41 (T0 : Cond) : ∀ w ∈ ([.methodLink RX5 41 arraycopyName, .native arraycopyName, .static arraycopyName, .initialized "java/lang/System"] : List Cond), w ∈ T0 :: BIG := by
  intro w h
  simp only [List.mem_cons, List.not_mem_nil, or_false] at h
  rcases h with rfl | rfl | rfl | rfl
  · exact List.mem_cons_of_mem _ (inB10 _ (List.mem_of_getElem? (i := 16) rfl))
  · exact List.mem_cons_of_mem _ (inB5 _ (List.mem_of_getElem? (i := 3) rfl))
  · exact List.mem_cons_of_mem _ (inB5 _ (List.mem_of_getElem? (i := 4) rfl))
  · exact List.mem_cons_of_mem _ (inB5 _ (List.mem_of_getElem? (i := 5) rfl))
theorem eB_X5_25 (T0 : Cond) : aF (T0 :: BIG) RX5 25 5 4 := ⟨RX5, TX5, 5, rfl, fun w h => List.mem_cons_of_mem _ (inBX5 w h), by decide, List.mem_cons_of_mem _ (inB4 _ (List.mem_of_getElem? (i := 7) rfl))⟩
theorem eB_X5_19 (T0 : Cond) : aF (T0 :: BIG) RX5 19 5 2 := ⟨RX5, TX5, 5, rfl, fun w h => List.mem_cons_of_mem _ (inBX5 w h), by decide, List.mem_cons_of_mem _ (inB4 _ (List.mem_of_getElem? (i := 5) rfl))⟩
theorem eB_X5_28 (T0 : Cond) : aF (T0 :: BIG) RX5 28 10 1 := ⟨RX10, TX10, 2, rfl, fun w h => List.mem_cons_of_mem _ (inBX10 w h), by decide, List.mem_cons_of_mem _ (inB10 _ (List.mem_of_getElem? (i := 14) rfl))⟩
theorem gB_X5_37 (T0 : Cond) : GoodIn (T0 :: BIG) wsX11_isDigit := gBN (inB10 _ (List.mem_of_getElem? (i := 18) rfl))
theorem wB_X5_iX11 (T0 : Cond) : Cond.initialized RX11 ∈ T0 :: BIG := List.mem_cons_of_mem _ (inB1 _ (List.mem_of_getElem? (i := 2) rfl))
theorem wB_X5_sX11_isDigit (T0 : Cond) : Cond.static yX11_isDigit ∈ T0 :: BIG := List.mem_cons_of_mem _ (inB10 _ (List.mem_of_getElem? (i := 17) rfl))
theorem eB_X5_33 (T0 : Cond) : aF (T0 :: BIG) RX5 33 10 0 := ⟨RX10, TX10, 2, rfl, fun w h => List.mem_cons_of_mem _ (inBX10 w h), by decide, List.mem_cons_of_mem _ (inB10 _ (List.mem_of_getElem? (i := 15) rfl))⟩
theorem eB_X8_15 (T0 : Cond) : aF (T0 :: BIG) RX8 15 8 1 := ⟨RX8, TX8, 2, rfl, fun w h => List.mem_cons_of_mem _ (inBX8 w h), by decide, List.mem_cons_of_mem _ (inB30 _ (List.mem_of_getElem? (i := 15) rfl))⟩
theorem eB_X8_9 (T0 : Cond) : aF (T0 :: BIG) RX8 9 8 0 := ⟨RX8, TX8, 2, rfl, fun w h => List.mem_cons_of_mem _ (inBX8 w h), by decide, List.mem_cons_of_mem _ (inB3 _ (List.mem_of_getElem? (i := 23) rfl))⟩
theorem gB_X8_19 (T0 : Cond) : GoodIn (T0 :: BIG) (wsV RX8 19 RX8 yX8_clear wsX8_clear) := gBV (inB30 _ (List.mem_of_getElem? (i := 11) rfl)) (inB30 _ (List.mem_of_getElem? (i := 12) rfl)) (inB30 _ (List.mem_of_getElem? (i := 13) rfl)) (inB1 _ (List.mem_of_getElem? (i := 19) rfl)) (inB30 _ (List.mem_of_getElem? (i := 14) rfl))
theorem gB_X8_22 (T0 : Cond) : GoodIn (T0 :: BIG) (wsV RX8 22 RX8 yX8_add wsX8_add) := gBV (inB30 _ (List.mem_of_getElem? (i := 16) rfl)) (inB30 _ (List.mem_of_getElem? (i := 17) rfl)) (inB30 _ (List.mem_of_getElem? (i := 18) rfl)) (inB1 _ (List.mem_of_getElem? (i := 19) rfl)) (inB30 _ (List.mem_of_getElem? (i := 19) rfl))
theorem eB_X10_9 (T0 : Cond) : aF (T0 :: BIG) RX10 9 10 0 := ⟨RX10, TX10, 2, rfl, fun w h => List.mem_cons_of_mem _ (inBX10 w h), by decide, List.mem_cons_of_mem _ (inB3 _ (List.mem_of_getElem? (i := 19) rfl))⟩
theorem eB_X10_15 (T0 : Cond) : aF (T0 :: BIG) RX10 15 10 1 := ⟨RX10, TX10, 2, rfl, fun w h => List.mem_cons_of_mem _ (inBX10 w h), by decide, List.mem_cons_of_mem _ (inB9 _ (List.mem_of_getElem? (i := 7) rfl))⟩
theorem gB_X2_49 (T0 : Cond) : GoodIn (T0 :: BIG) wsX11_within := gBN (inB13 _ (List.mem_of_getElem? (i := 23) rfl))
theorem wB_X2_iX11 (T0 : Cond) : Cond.initialized RX11 ∈ T0 :: BIG := List.mem_cons_of_mem _ (inB1 _ (List.mem_of_getElem? (i := 2) rfl))
theorem wB_X2_sX11_within (T0 : Cond) : Cond.static yX11_within ∈ T0 :: BIG := List.mem_cons_of_mem _ (inB13 _ (List.mem_of_getElem? (i := 22) rfl))
theorem gB_X2_37 (T0 : Cond) : GoodIn (T0 :: BIG) (wsV RX2 37 RX10 yX10_signAt wsX10_signAt) := gBV (inB13 _ (List.mem_of_getElem? (i := 18) rfl)) (inB13 _ (List.mem_of_getElem? (i := 19) rfl)) (inB13 _ (List.mem_of_getElem? (i := 20) rfl)) (inB1 _ (List.mem_of_getElem? (i := 15) rfl)) (inB13 _ (List.mem_of_getElem? (i := 21) rfl))
theorem eB_X2_9 (T0 : Cond) : aF (T0 :: BIG) RX2 9 2 1 := ⟨RX2, TX2, 5, rfl, fun w h => List.mem_cons_of_mem _ (inBX2 w h), by decide, List.mem_cons_of_mem _ (inB4 _ (List.mem_of_getElem? (i := 11) rfl))⟩
theorem eB_X2_15 (T0 : Cond) : aF (T0 :: BIG) RX2 15 2 2 := ⟨RX2, TX2, 5, rfl, fun w h => List.mem_cons_of_mem _ (inBX2 w h), by decide, List.mem_cons_of_mem _ (inB4 _ (List.mem_of_getElem? (i := 12) rfl))⟩
theorem gB_X2_45 (T0 : Cond) : GoodIn (T0 :: BIG) wsX11_isDigit := gBN (inB10 _ (List.mem_of_getElem? (i := 18) rfl))
theorem wB_X2_sX11_isDigit (T0 : Cond) : Cond.static yX11_isDigit ∈ T0 :: BIG := List.mem_cons_of_mem _ (inB10 _ (List.mem_of_getElem? (i := 17) rfl))
theorem eB_X2_28 (T0 : Cond) : aF (T0 :: BIG) RX2 28 10 1 := ⟨RX10, TX10, 2, rfl, fun w h => List.mem_cons_of_mem _ (inBX10 w h), by decide, List.mem_cons_of_mem _ (inB13 _ (List.mem_of_getElem? (i := 12) rfl))⟩
theorem gB_X2_41 (T0 : Cond) : GoodIn (T0 :: BIG) (wsV RX2 41 RX2 yX2_befriend wsX2_befriend) := gBV (inB14 _ (List.mem_of_getElem? (i := 0) rfl)) (inB14 _ (List.mem_of_getElem? (i := 1) rfl)) (inB14 _ (List.mem_of_getElem? (i := 2) rfl)) (inB2 _ (List.mem_of_getElem? (i := 3) rfl)) (inB14 _ (List.mem_of_getElem? (i := 3) rfl))
theorem gB_X2_33 (T0 : Cond) : GoodIn (T0 :: BIG) (wsV RX2 33 RX2 yX2_readLine wsX2_readLine) := gBV (inB13 _ (List.mem_of_getElem? (i := 14) rfl)) (inB13 _ (List.mem_of_getElem? (i := 15) rfl)) (inB13 _ (List.mem_of_getElem? (i := 16) rfl)) (inB2 _ (List.mem_of_getElem? (i := 3) rfl)) (inB13 _ (List.mem_of_getElem? (i := 17) rfl))
theorem eB_X9_9 (T0 : Cond) : aF (T0 :: BIG) RX9 9 9 2 := ⟨RX9, TX9, 9, rfl, fun w h => List.mem_cons_of_mem _ (inBX9 w h), by decide, List.mem_cons_of_mem _ (inB5 _ (List.mem_of_getElem? (i := 11) rfl))⟩
theorem cB_X9_32 (T0 : Cond) : ∀ w ∈ ([.methodLink RX9 32 arraycopyName, .native arraycopyName, .static arraycopyName, .initialized "java/lang/System"] : List Cond), w ∈ T0 :: BIG := by
  intro w h
  simp only [List.mem_cons, List.not_mem_nil, or_false] at h
  rcases h with rfl | rfl | rfl | rfl
  · exact List.mem_cons_of_mem _ (inB28 _ (List.mem_of_getElem? (i := 2) rfl))
  · exact List.mem_cons_of_mem _ (inB5 _ (List.mem_of_getElem? (i := 3) rfl))
  · exact List.mem_cons_of_mem _ (inB5 _ (List.mem_of_getElem? (i := 4) rfl))
  · exact List.mem_cons_of_mem _ (inB5 _ (List.mem_of_getElem? (i := 5) rfl))
theorem eB_X9_15 (T0 : Cond) : aF (T0 :: BIG) RX9 15 9 3 := ⟨RX9, TX9, 9, rfl, fun w h => List.mem_cons_of_mem _ (inBX9 w h), by decide, List.mem_cons_of_mem _ (inB5 _ (List.mem_of_getElem? (i := 12) rfl))⟩
theorem eB_X9_18 (T0 : Cond) : aF (T0 :: BIG) RX9 18 9 4 := ⟨RX9, TX9, 9, rfl, fun w h => List.mem_cons_of_mem _ (inBX9 w h), by decide, List.mem_cons_of_mem _ (inB5 _ (List.mem_of_getElem? (i := 13) rfl))⟩
theorem eB_X9_21 (T0 : Cond) : aF (T0 :: BIG) RX9 21 9 5 := ⟨RX9, TX9, 9, rfl, fun w h => List.mem_cons_of_mem _ (inBX9 w h), by decide, List.mem_cons_of_mem _ (inB5 _ (List.mem_of_getElem? (i := 14) rfl))⟩
theorem eB_X9_38 (T0 : Cond) : aF (T0 :: BIG) RX9 38 9 6 := ⟨RX9, TX9, 9, rfl, fun w h => List.mem_cons_of_mem _ (inBX9 w h), by decide, List.mem_cons_of_mem _ (inB10 _ (List.mem_of_getElem? (i := 23) rfl))⟩
theorem eB_X9_42 (T0 : Cond) : aF (T0 :: BIG) RX9 42 9 7 := ⟨RX9, TX9, 9, rfl, fun w h => List.mem_cons_of_mem _ (inBX9 w h), by decide, List.mem_cons_of_mem _ (inB24 _ (List.mem_of_getElem? (i := 3) rfl))⟩
theorem eB_X9_45 (T0 : Cond) : aF (T0 :: BIG) RX9 45 9 8 := ⟨RX9, TX9, 9, rfl, fun w h => List.mem_cons_of_mem _ (inBX9 w h), by decide, List.mem_cons_of_mem _ (inB11 _ (List.mem_of_getElem? (i := 0) rfl))⟩
theorem gB_X9_48 (T0 : Cond) : GoodIn (T0 :: BIG) (va_wsS RX9 48 yJ7_fill_53178 wsJ7_fill_53178) := gBS (inB11 _ (List.mem_of_getElem? (i := 1) rfl)) (inB11 _ (List.mem_of_getElem? (i := 2) rfl)) (inB11 _ (List.mem_of_getElem? (i := 3) rfl)) (inB11 _ (List.mem_of_getElem? (i := 4) rfl))
theorem eB_X9_28 (T0 : Cond) : aF (T0 :: BIG) RX9 28 9 1 := ⟨RX9, TX9, 9, rfl, fun w h => List.mem_cons_of_mem _ (inBX9 w h), by decide, List.mem_cons_of_mem _ (inB5 _ (List.mem_of_getElem? (i := 16) rfl))⟩
theorem eB_X9_54 (T0 : Cond) : aF (T0 :: BIG) RX9 54 2 0 := ⟨RX2, TX2, 5, rfl, fun w h => List.mem_cons_of_mem _ (inBX2 w h), by decide, List.mem_cons_of_mem _ (inB14 _ (List.mem_of_getElem? (i := 8) rfl))⟩
theorem eB_X9_24 (T0 : Cond) : aF (T0 :: BIG) RX9 24 9 0 := ⟨RX9, TX9, 9, rfl, fun w h => List.mem_cons_of_mem _ (inBX9 w h), by decide, List.mem_cons_of_mem _ (inB5 _ (List.mem_of_getElem? (i := 15) rfl))⟩
theorem eB_X9_59 (T0 : Cond) : aF (T0 :: BIG) RX9 59 5 1 := ⟨RX5, TX5, 5, rfl, fun w h => List.mem_cons_of_mem _ (inBX5 w h), by decide, List.mem_cons_of_mem _ (inB21 _ (List.mem_of_getElem? (i := 21) rfl))⟩
theorem eB_X9_68 (T0 : Cond) : aF (T0 :: BIG) RX9 68 5 0 := ⟨RX5, TX5, 5, rfl, fun w h => List.mem_cons_of_mem _ (inBX5 w h), by decide, List.mem_cons_of_mem _ (inB29 _ (List.mem_of_getElem? (i := 15) rfl))⟩
theorem gB_X9_64 (T0 : Cond) : GoodIn (T0 :: BIG) (wsV RX9 64 RX9 yX9_top wsX9_top) := gBV (inB31 _ (List.mem_of_getElem? (i := 23) rfl)) (inB21 _ (List.mem_of_getElem? (i := 18) rfl)) (inB21 _ (List.mem_of_getElem? (i := 19) rfl)) (inB2 _ (List.mem_of_getElem? (i := 13) rfl)) (inB21 _ (List.mem_of_getElem? (i := 20) rfl))
theorem mB_X9_71 (T0 : Cond) : ∀ w ∈ ([.methodLink RX9 71 Lib.Math.min.name, .static Lib.Math.min.name, .initialized "java/lang/Math", .code Lib.Math.min.name Lib.Math.min.code 2 (some .int)] : List Cond), w ∈ T0 :: BIG := by
  intro w h
  simp only [List.mem_cons, List.not_mem_nil, or_false] at h
  rcases h with rfl | rfl | rfl | rfl
  · exact List.mem_cons_of_mem _ (inB29 _ (List.mem_of_getElem? (i := 2) rfl))
  · exact List.mem_cons_of_mem _ (inB12 _ (List.mem_of_getElem? (i := 7) rfl))
  · exact List.mem_cons_of_mem _ (inB12 _ (List.mem_of_getElem? (i := 8) rfl))
  · exact List.mem_cons_of_mem _ (inB12 _ (List.mem_of_getElem? (i := 9) rfl))
theorem gB_X9_77 (T0 : Cond) : GoodIn (T0 :: BIG) (wsV RX9 77 RX9 yX9_childrenAt wsX9_childrenAt) := gBV (inB29 _ (List.mem_of_getElem? (i := 20) rfl)) (inB21 _ (List.mem_of_getElem? (i := 14) rfl)) (inB21 _ (List.mem_of_getElem? (i := 15) rfl)) (inB2 _ (List.mem_of_getElem? (i := 13) rfl)) (inB21 _ (List.mem_of_getElem? (i := 16) rfl))
theorem mB_X9_97 (T0 : Cond) : ∀ w ∈ ([.methodLink RX9 97 Lib.Math.abs.name, .static Lib.Math.abs.name, .initialized "java/lang/Math", .code Lib.Math.abs.name Lib.Math.abs.code 1 (some .int)] : List Cond), w ∈ T0 :: BIG := by
  intro w h
  simp only [List.mem_cons, List.not_mem_nil, or_false] at h
  rcases h with rfl | rfl | rfl | rfl
  · exact List.mem_cons_of_mem _ (inB24 _ (List.mem_of_getElem? (i := 10) rfl))
  · exact List.mem_cons_of_mem _ (inB24 _ (List.mem_of_getElem? (i := 11) rfl))
  · exact List.mem_cons_of_mem _ (inB12 _ (List.mem_of_getElem? (i := 8) rfl))
  · exact List.mem_cons_of_mem _ (inB24 _ (List.mem_of_getElem? (i := 12) rfl))
theorem eB_X9_83 (T0 : Cond) : aF (T0 :: BIG) RX9 83 2 4 := ⟨RX2, TX2, 5, rfl, fun w h => List.mem_cons_of_mem _ (inBX2 w h), by decide, List.mem_cons_of_mem _ (inB24 _ (List.mem_of_getElem? (i := 4) rfl))⟩
theorem eB_X9_119 (T0 : Cond) : aF (T0 :: BIG) RX9 119 5 2 := ⟨RX5, TX5, 5, rfl, fun w h => List.mem_cons_of_mem _ (inBX5 w h), by decide, List.mem_cons_of_mem _ (inB32 _ (List.mem_of_getElem? (i := 6) rfl))⟩
theorem mB_X9_109 (T0 : Cond) : ∀ w ∈ ([.methodLink RX9 109 Lib.Math.max.name, .static Lib.Math.max.name, .initialized "java/lang/Math", .code Lib.Math.max.name Lib.Math.max.code 2 (some .int)] : List Cond), w ∈ T0 :: BIG := by
  intro w h
  simp only [List.mem_cons, List.not_mem_nil, or_false] at h
  rcases h with rfl | rfl | rfl | rfl
  · exact List.mem_cons_of_mem _ (inB30 _ (List.mem_of_getElem? (i := 5) rfl))
  · exact List.mem_cons_of_mem _ (inB27 _ (List.mem_of_getElem? (i := 1) rfl))
  · exact List.mem_cons_of_mem _ (inB12 _ (List.mem_of_getElem? (i := 8) rfl))
  · exact List.mem_cons_of_mem _ (inB27 _ (List.mem_of_getElem? (i := 2) rfl))
theorem gB_X9_122 (T0 : Cond) : GoodIn (T0 :: BIG) (wsV RX9 122 RX2 yX2_has wsX2_has) := gBV (inB28 _ (List.mem_of_getElem? (i := 11) rfl)) (inB23 _ (List.mem_of_getElem? (i := 19) rfl)) (inB23 _ (List.mem_of_getElem? (i := 20) rfl)) (inB2 _ (List.mem_of_getElem? (i := 3) rfl)) (inB23 _ (List.mem_of_getElem? (i := 21) rfl))
theorem gB_X9_106 (T0 : Cond) : GoodIn (T0 :: BIG) (wsV RX9 106 RX5 yX5_has wsX5_has) := gBV (inB28 _ (List.mem_of_getElem? (i := 12) rfl)) (inB21 _ (List.mem_of_getElem? (i := 10) rfl)) (inB21 _ (List.mem_of_getElem? (i := 11) rfl)) (inB1 _ (List.mem_of_getElem? (i := 23) rfl)) (inB21 _ (List.mem_of_getElem? (i := 12) rfl))
theorem gB_X9_123 (T0 : Cond) : GoodIn (T0 :: BIG) (va_wsS RX9 123 yJ6_bitCount_0f7a4 wsJ6_bitCount_0f7a4) := gBS (inB28 _ (List.mem_of_getElem? (i := 21) rfl)) (inB25 _ (List.mem_of_getElem? (i := 23) rfl)) (inB26 _ (List.mem_of_getElem? (i := 0) rfl)) (inB26 _ (List.mem_of_getElem? (i := 1) rfl))
theorem gB_X9_132 (T0 : Cond) : GoodIn (T0 :: BIG) (wsV RX9 132 RX9 yX9_wet wsX9_wet) := gBV (inB32 _ (List.mem_of_getElem? (i := 15) rfl)) (inB32 _ (List.mem_of_getElem? (i := 16) rfl)) (inB32 _ (List.mem_of_getElem? (i := 17) rfl)) (inB2 _ (List.mem_of_getElem? (i := 13) rfl)) (inB32 _ (List.mem_of_getElem? (i := 18) rfl))
theorem gB_X9_128 (T0 : Cond) : GoodIn (T0 :: BIG) wsX11_within := gBN (inB13 _ (List.mem_of_getElem? (i := 23) rfl))
theorem wB_X9_iX11 (T0 : Cond) : Cond.initialized RX11 ∈ T0 :: BIG := List.mem_cons_of_mem _ (inB1 _ (List.mem_of_getElem? (i := 2) rfl))
theorem wB_X9_sX11_within (T0 : Cond) : Cond.static yX11_within ∈ T0 :: BIG := List.mem_cons_of_mem _ (inB13 _ (List.mem_of_getElem? (i := 22) rfl))
theorem eB_X9_90 (T0 : Cond) : aF (T0 :: BIG) RX9 90 2 1 := ⟨RX2, TX2, 5, rfl, fun w h => List.mem_cons_of_mem _ (inBX2 w h), by decide, List.mem_cons_of_mem _ (inB24 _ (List.mem_of_getElem? (i := 5) rfl))⟩
theorem gB_X9_93 (T0 : Cond) : GoodIn (T0 :: BIG) (va_wsS RX9 93 yX9_halved wsX9_halved) := gBS (inB24 _ (List.mem_of_getElem? (i := 13) rfl)) (inB24 _ (List.mem_of_getElem? (i := 14) rfl)) (inB2 _ (List.mem_of_getElem? (i := 13) rfl)) (inB24 _ (List.mem_of_getElem? (i := 15) rfl))
theorem gB_X9_86 (T0 : Cond) : GoodIn (T0 :: BIG) (wsV RX9 86 RX9 yX9_palNear wsX9_palNear) := gBV (inB24 _ (List.mem_of_getElem? (i := 6) rfl)) (inB24 _ (List.mem_of_getElem? (i := 7) rfl)) (inB24 _ (List.mem_of_getElem? (i := 8) rfl)) (inB2 _ (List.mem_of_getElem? (i := 13) rfl)) (inB24 _ (List.mem_of_getElem? (i := 9) rfl))
theorem eB_X9_80 (T0 : Cond) : aF (T0 :: BIG) RX9 80 2 2 := ⟨RX2, TX2, 5, rfl, fun w h => List.mem_cons_of_mem _ (inBX2 w h), by decide, List.mem_cons_of_mem _ (inB24 _ (List.mem_of_getElem? (i := 2) rfl))⟩
theorem gB_X9_100 (T0 : Cond) : GoodIn (T0 :: BIG) (wsV RX9 100 RX9 yX9_buckets wsX9_buckets) := gBV (inB30 _ (List.mem_of_getElem? (i := 6) rfl)) (inB23 _ (List.mem_of_getElem? (i := 23) rfl)) (inB24 _ (List.mem_of_getElem? (i := 0) rfl)) (inB2 _ (List.mem_of_getElem? (i := 13) rfl)) (inB24 _ (List.mem_of_getElem? (i := 1) rfl))
theorem gB_X9_116 (T0 : Cond) : GoodIn (T0 :: BIG) (wsV RX9 116 RX9 yX9_spread wsX9_spread) := gBV (inB32 _ (List.mem_of_getElem? (i := 2) rfl)) (inB32 _ (List.mem_of_getElem? (i := 3) rfl)) (inB32 _ (List.mem_of_getElem? (i := 4) rfl)) (inB2 _ (List.mem_of_getElem? (i := 13) rfl)) (inB32 _ (List.mem_of_getElem? (i := 5) rfl))
theorem gB_X9_112 (T0 : Cond) : GoodIn (T0 :: BIG) wsX11_wash := gBN (inB32 _ (List.mem_of_getElem? (i := 1) rfl))
theorem wB_X9_sX11_wash (T0 : Cond) : Cond.static yX11_wash ∈ T0 :: BIG := List.mem_cons_of_mem _ (inB32 _ (List.mem_of_getElem? (i := 0) rfl))
theorem gB_X9_103 (T0 : Cond) : GoodIn (T0 :: BIG) (wsV RX9 103 RX9 yX9_spell wsX9_spell) := gBV (inB30 _ (List.mem_of_getElem? (i := 1) rfl)) (inB30 _ (List.mem_of_getElem? (i := 2) rfl)) (inB30 _ (List.mem_of_getElem? (i := 3) rfl)) (inB2 _ (List.mem_of_getElem? (i := 13) rfl)) (inB30 _ (List.mem_of_getElem? (i := 4) rfl))
theorem eB_X0_19 (T0 : Cond) : aF (T0 :: BIG) RX0 19 0 0 := ⟨RX0, TX0, 3, rfl, fun w h => List.mem_cons_of_mem _ (inBX0 w h), by decide, List.mem_cons_of_mem _ (inB57 _ (List.mem_of_getElem? (i := 9) rfl))⟩
theorem kB_X0_23 (T0 : Cond) : Cond.constant RX0 23 (1103515245 : Int32) ∈ T0 :: BIG := List.mem_cons_of_mem _ (inB57 _ (List.mem_of_getElem? (i := 10) rfl))
theorem eB_X0_9 (T0 : Cond) : aF (T0 :: BIG) RX0 9 0 1 := ⟨RX0, TX0, 3, rfl, fun w h => List.mem_cons_of_mem _ (inBX0 w h), by decide, List.mem_cons_of_mem _ (inB7 _ (List.mem_of_getElem? (i := 6) rfl))⟩
theorem kB_X0_30 (T0 : Cond) : Cond.constantLong RX0 30 (10 : Int64) ∈ T0 :: BIG := List.mem_cons_of_mem _ (inB55 _ (List.mem_of_getElem? (i := 2) rfl))
theorem mB_X0_32 (T0 : Cond) : ∀ w ∈ ([.methodLink RX0 32 Lib.Math.min.name, .static Lib.Math.min.name, .initialized "java/lang/Math", .code Lib.Math.min.name Lib.Math.min.code 2 (some .int)] : List Cond), w ∈ T0 :: BIG := by
  intro w h
  simp only [List.mem_cons, List.not_mem_nil, or_false] at h
  rcases h with rfl | rfl | rfl | rfl
  · exact List.mem_cons_of_mem _ (inB55 _ (List.mem_of_getElem? (i := 3) rfl))
  · exact List.mem_cons_of_mem _ (inB12 _ (List.mem_of_getElem? (i := 7) rfl))
  · exact List.mem_cons_of_mem _ (inB12 _ (List.mem_of_getElem? (i := 8) rfl))
  · exact List.mem_cons_of_mem _ (inB12 _ (List.mem_of_getElem? (i := 9) rfl))
theorem gB_X0_24 (T0 : Cond) : GoodIn (T0 :: BIG) (va_wsS RX0 24 yJ7_fill_d0a16 wsJ7_fill_d0a16) := gBS (inB55 _ (List.mem_of_getElem? (i := 4) rfl)) (inB55 _ (List.mem_of_getElem? (i := 5) rfl)) (inB11 _ (List.mem_of_getElem? (i := 3) rfl)) (inB55 _ (List.mem_of_getElem? (i := 6) rfl))
theorem wB_X6_pl21 (T0 : Cond) : Cond.fieldLink RX6 21 RX6 "PLAIN" "[I" ∈ T0 :: BIG := List.mem_cons_of_mem _ (inB5 _ (List.mem_of_getElem? (i := 1) rfl))
theorem eB_X6_9 (T0 : Cond) : aF (T0 :: BIG) RX6 9 6 0 := ⟨RX6, TX6, 6, rfl, fun w h => List.mem_cons_of_mem _ (inBX6 w h), by decide, List.mem_cons_of_mem _ (inB4 _ (List.mem_of_getElem? (i := 19) rfl))⟩
theorem cB_X6_24 (T0 : Cond) : ∀ w ∈ ([.methodLink RX6 24 arraycopyName, .native arraycopyName, .static arraycopyName, .initialized "java/lang/System"] : List Cond), w ∈ T0 :: BIG := by
  intro w h
  simp only [List.mem_cons, List.not_mem_nil, or_false] at h
  rcases h with rfl | rfl | rfl | rfl
  · exact List.mem_cons_of_mem _ (inB5 _ (List.mem_of_getElem? (i := 2) rfl))
  · exact List.mem_cons_of_mem _ (inB5 _ (List.mem_of_getElem? (i := 3) rfl))
  · exact List.mem_cons_of_mem _ (inB5 _ (List.mem_of_getElem? (i := 4) rfl))
  · exact List.mem_cons_of_mem _ (inB5 _ (List.mem_of_getElem? (i := 5) rfl))
theorem eB_X6_30 (T0 : Cond) : aF (T0 :: BIG) RX6 30 6 2 := ⟨RX6, TX6, 6, rfl, fun w h => List.mem_cons_of_mem _ (inBX6 w h), by decide, List.mem_cons_of_mem _ (inB5 _ (List.mem_of_getElem? (i := 6) rfl))⟩
theorem eB_X6_40 (T0 : Cond) : aF (T0 :: BIG) RX6 40 6 3 := ⟨RX6, TX6, 6, rfl, fun w h => List.mem_cons_of_mem _ (inBX6 w h), by decide, List.mem_cons_of_mem _ (inB15 _ (List.mem_of_getElem? (i := 16) rfl))⟩
theorem gB_X6_81 (T0 : Cond) : GoodIn (T0 :: BIG) (wsV RX6 81 RX10 yX10_signAt wsX10_signAt) := gBV (inB15 _ (List.mem_of_getElem? (i := 22) rfl)) (inB13 _ (List.mem_of_getElem? (i := 19) rfl)) (inB13 _ (List.mem_of_getElem? (i := 20) rfl)) (inB1 _ (List.mem_of_getElem? (i := 15) rfl)) (inB13 _ (List.mem_of_getElem? (i := 21) rfl))
theorem eB_X6_54 (T0 : Cond) : aF (T0 :: BIG) RX6 54 6 4 := ⟨RX6, TX6, 6, rfl, fun w h => List.mem_cons_of_mem _ (inBX6 w h), by decide, List.mem_cons_of_mem _ (inB15 _ (List.mem_of_getElem? (i := 21) rfl))⟩
theorem eB_X6_37 (T0 : Cond) : aF (T0 :: BIG) RX6 37 6 5 := ⟨RX6, TX6, 6, rfl, fun w h => List.mem_cons_of_mem _ (inBX6 w h), by decide, List.mem_cons_of_mem _ (inB15 _ (List.mem_of_getElem? (i := 15) rfl))⟩
theorem eB_X7_9 (T0 : Cond) : aF (T0 :: BIG) RX7 9 7 1 := ⟨RX7, TX7, 5, rfl, fun w h => List.mem_cons_of_mem _ (inBX7 w h), by decide, List.mem_cons_of_mem _ (inB6 _ (List.mem_of_getElem? (i := 23) rfl))⟩
theorem eB_X7_58 (T0 : Cond) : aF (T0 :: BIG) RX7 58 9 8 := ⟨RX9, TX9, 9, rfl, fun w h => List.mem_cons_of_mem _ (inBX9 w h), by decide, List.mem_cons_of_mem _ (inB48 _ (List.mem_of_getElem? (i := 9) rfl))⟩
theorem eB_X7_21 (T0 : Cond) : aF (T0 :: BIG) RX7 21 7 0 := ⟨RX7, TX7, 5, rfl, fun w h => List.mem_cons_of_mem _ (inBX7 w h), by decide, List.mem_cons_of_mem _ (inB7 _ (List.mem_of_getElem? (i := 2) rfl))⟩
theorem eB_X7_61 (T0 : Cond) : aF (T0 :: BIG) RX7 61 5 1 := ⟨RX5, TX5, 5, rfl, fun w h => List.mem_cons_of_mem _ (inBX5 w h), by decide, List.mem_cons_of_mem _ (inB48 _ (List.mem_of_getElem? (i := 10) rfl))⟩
theorem gB_X7_64 (T0 : Cond) : GoodIn (T0 :: BIG) wsX11_wash := gBN (inB32 _ (List.mem_of_getElem? (i := 1) rfl))
theorem wB_X7_iX11 (T0 : Cond) : Cond.initialized RX11 ∈ T0 :: BIG := List.mem_cons_of_mem _ (inB1 _ (List.mem_of_getElem? (i := 2) rfl))
theorem wB_X7_sX11_wash (T0 : Cond) : Cond.static yX11_wash ∈ T0 :: BIG := List.mem_cons_of_mem _ (inB32 _ (List.mem_of_getElem? (i := 0) rfl))
theorem mB_X7_68 (T0 : Cond) : ∀ w ∈ ([.methodLink RX7 68 Lib.Math.max.name, .static Lib.Math.max.name, .initialized "java/lang/Math", .code Lib.Math.max.name Lib.Math.max.code 2 (some .int)] : List Cond), w ∈ T0 :: BIG := by
  intro w h
  simp only [List.mem_cons, List.not_mem_nil, or_false] at h
  rcases h with rfl | rfl | rfl | rfl
  · exact List.mem_cons_of_mem _ (inB48 _ (List.mem_of_getElem? (i := 11) rfl))
  · exact List.mem_cons_of_mem _ (inB27 _ (List.mem_of_getElem? (i := 1) rfl))
  · exact List.mem_cons_of_mem _ (inB12 _ (List.mem_of_getElem? (i := 8) rfl))
  · exact List.mem_cons_of_mem _ (inB27 _ (List.mem_of_getElem? (i := 2) rfl))
theorem eB_X7_53 (T0 : Cond) : aF (T0 :: BIG) RX7 53 9 2 := ⟨RX9, TX9, 9, rfl, fun w h => List.mem_cons_of_mem _ (inBX9 w h), by decide, List.mem_cons_of_mem _ (inB48 _ (List.mem_of_getElem? (i := 8) rfl))⟩
theorem mB_X7_74 (T0 : Cond) : ∀ w ∈ ([.methodLink RX7 74 Lib.Math.min.name, .static Lib.Math.min.name, .initialized "java/lang/Math", .code Lib.Math.min.name Lib.Math.min.code 2 (some .int)] : List Cond), w ∈ T0 :: BIG := by
  intro w h
  simp only [List.mem_cons, List.not_mem_nil, or_false] at h
  rcases h with rfl | rfl | rfl | rfl
  · exact List.mem_cons_of_mem _ (inB48 _ (List.mem_of_getElem? (i := 17) rfl))
  · exact List.mem_cons_of_mem _ (inB12 _ (List.mem_of_getElem? (i := 7) rfl))
  · exact List.mem_cons_of_mem _ (inB12 _ (List.mem_of_getElem? (i := 8) rfl))
  · exact List.mem_cons_of_mem _ (inB12 _ (List.mem_of_getElem? (i := 9) rfl))
theorem eB_X7_25 (T0 : Cond) : aF (T0 :: BIG) RX7 25 5 0 := ⟨RX5, TX5, 5, rfl, fun w h => List.mem_cons_of_mem _ (inBX5 w h), by decide, List.mem_cons_of_mem _ (inB48 _ (List.mem_of_getElem? (i := 1) rfl))⟩
theorem eB_X7_15 (T0 : Cond) : aF (T0 :: BIG) RX7 15 7 2 := ⟨RX7, TX7, 5, rfl, fun w h => List.mem_cons_of_mem _ (inBX7 w h), by decide, List.mem_cons_of_mem _ (inB7 _ (List.mem_of_getElem? (i := 0) rfl))⟩
theorem eB_X7_18 (T0 : Cond) : aF (T0 :: BIG) RX7 18 7 3 := ⟨RX7, TX7, 5, rfl, fun w h => List.mem_cons_of_mem _ (inBX7 w h), by decide, List.mem_cons_of_mem _ (inB7 _ (List.mem_of_getElem? (i := 1) rfl))⟩
theorem eB_X0_15 (T0 : Cond) : aF (T0 :: BIG) RX0 15 0 2 := ⟨RX0, TX0, 3, rfl, fun w h => List.mem_cons_of_mem _ (inBX0 w h), by decide, List.mem_cons_of_mem _ (inB7 _ (List.mem_of_getElem? (i := 7) rfl))⟩
theorem gB_X0_38 (T0 : Cond) : GoodIn (T0 :: BIG) (va_wsS RX0 38 yX0_share wsX0_share) := gBS (inB56 _ (List.mem_of_getElem? (i := 7) rfl)) (inB56 _ (List.mem_of_getElem? (i := 8) rfl)) (inB3 _ (List.mem_of_getElem? (i := 13) rfl)) (inB56 _ (List.mem_of_getElem? (i := 9) rfl))
theorem mB_X0_42 (T0 : Cond) : ∀ w ∈ ([.methodLink RX0 42 Lib.Math.max.name, .static Lib.Math.max.name, .initialized "java/lang/Math", .code Lib.Math.max.name Lib.Math.max.code 2 (some .int)] : List Cond), w ∈ T0 :: BIG := by
  intro w h
  simp only [List.mem_cons, List.not_mem_nil, or_false] at h
  rcases h with rfl | rfl | rfl | rfl
  · exact List.mem_cons_of_mem _ (inB56 _ (List.mem_of_getElem? (i := 6) rfl))
  · exact List.mem_cons_of_mem _ (inB27 _ (List.mem_of_getElem? (i := 1) rfl))
  · exact List.mem_cons_of_mem _ (inB12 _ (List.mem_of_getElem? (i := 8) rfl))
  · exact List.mem_cons_of_mem _ (inB27 _ (List.mem_of_getElem? (i := 2) rfl))
theorem gB_X6_57 (T0 : Cond) : GoodIn (T0 :: BIG) (wsV RX6 57 RX6 yX6_put wsX6_put) := gBV (inB16 _ (List.mem_of_getElem? (i := 6) rfl)) (inB16 _ (List.mem_of_getElem? (i := 7) rfl)) (inB16 _ (List.mem_of_getElem? (i := 8) rfl)) (inB2 _ (List.mem_of_getElem? (i := 7) rfl)) (inB16 _ (List.mem_of_getElem? (i := 9) rfl))
theorem gB_X6_67 (T0 : Cond) : GoodIn (T0 :: BIG) wsX11_isDigit := gBN (inB10 _ (List.mem_of_getElem? (i := 18) rfl))
theorem wB_X6_iX11 (T0 : Cond) : Cond.initialized RX11 ∈ T0 :: BIG := List.mem_cons_of_mem _ (inB1 _ (List.mem_of_getElem? (i := 2) rfl))
theorem wB_X6_sX11_isDigit (T0 : Cond) : Cond.static yX11_isDigit ∈ T0 :: BIG := List.mem_cons_of_mem _ (inB10 _ (List.mem_of_getElem? (i := 17) rfl))
theorem gB_X6_43 (T0 : Cond) : GoodIn (T0 :: BIG) (wsV RX6 43 RX6 yX6_step wsX6_step) := gBV (inB15 _ (List.mem_of_getElem? (i := 17) rfl)) (inB15 _ (List.mem_of_getElem? (i := 18) rfl)) (inB15 _ (List.mem_of_getElem? (i := 19) rfl)) (inB2 _ (List.mem_of_getElem? (i := 7) rfl)) (inB15 _ (List.mem_of_getElem? (i := 20) rfl))
theorem eB_X6_15 (T0 : Cond) : aF (T0 :: BIG) RX6 15 6 1 := ⟨RX6, TX6, 6, rfl, fun w h => List.mem_cons_of_mem _ (inBX6 w h), by decide, List.mem_cons_of_mem _ (inB4 _ (List.mem_of_getElem? (i := 20) rfl))⟩
theorem gB_X6_93 (T0 : Cond) : GoodIn (T0 :: BIG) wsX11_clamp := gBN (inB26 _ (List.mem_of_getElem? (i := 22) rfl))
theorem wB_X6_sX11_clamp (T0 : Cond) : Cond.static yX11_clamp ∈ T0 :: BIG := List.mem_cons_of_mem _ (inB26 _ (List.mem_of_getElem? (i := 21) rfl))
theorem gB_X6_89 (T0 : Cond) : GoodIn (T0 :: BIG) (va_wsS RX6 89 yX6_joined wsX6_joined) := gBS (inB31 _ (List.mem_of_getElem? (i := 16) rfl)) (inB31 _ (List.mem_of_getElem? (i := 17) rfl)) (inB2 _ (List.mem_of_getElem? (i := 7) rfl)) (inB31 _ (List.mem_of_getElem? (i := 18) rfl))
theorem gB_X6_85 (T0 : Cond) : GoodIn (T0 :: BIG) (va_wsS RX6 85 yX6_operand wsX6_operand) := gBS (inB31 _ (List.mem_of_getElem? (i := 13) rfl)) (inB31 _ (List.mem_of_getElem? (i := 14) rfl)) (inB2 _ (List.mem_of_getElem? (i := 7) rfl)) (inB31 _ (List.mem_of_getElem? (i := 15) rfl))
theorem gB_X7_41 (T0 : Cond) : GoodIn (T0 :: BIG) (va_wsS RX7 41 yJ6_bitCount_0f7a4 wsJ6_bitCount_0f7a4) := gBS (inB48 _ (List.mem_of_getElem? (i := 12) rfl)) (inB25 _ (List.mem_of_getElem? (i := 23) rfl)) (inB26 _ (List.mem_of_getElem? (i := 0) rfl)) (inB26 _ (List.mem_of_getElem? (i := 1) rfl))
theorem gB_X7_47 (T0 : Cond) : GoodIn (T0 :: BIG) (wsV RX7 47 RX7 yX7_firstBreak wsX7_firstBreak) := gBV (inB48 _ (List.mem_of_getElem? (i := 13) rfl)) (inB48 _ (List.mem_of_getElem? (i := 14) rfl)) (inB48 _ (List.mem_of_getElem? (i := 15) rfl)) (inB3 _ (List.mem_of_getElem? (i := 9) rfl)) (inB48 _ (List.mem_of_getElem? (i := 16) rfl))
theorem eB_X7_50 (T0 : Cond) : aF (T0 :: BIG) RX7 50 7 4 := ⟨RX7, TX7, 5, rfl, fun w h => List.mem_cons_of_mem _ (inBX7 w h), by decide, List.mem_cons_of_mem _ (inB48 _ (List.mem_of_getElem? (i := 2) rfl))⟩
theorem gB_X7_37 (T0 : Cond) : GoodIn (T0 :: BIG) (wsV RX7 37 RX7 yX7_lasts wsX7_lasts) := gBV (inB48 _ (List.mem_of_getElem? (i := 4) rfl)) (inB48 _ (List.mem_of_getElem? (i := 5) rfl)) (inB48 _ (List.mem_of_getElem? (i := 6) rfl)) (inB3 _ (List.mem_of_getElem? (i := 9) rfl)) (inB48 _ (List.mem_of_getElem? (i := 7) rfl))
theorem gB_X7_31 (T0 : Cond) : GoodIn (T0 :: BIG) (wsV RX7 31 RX6 yX6_value wsX6_value) := gBV (inB48 _ (List.mem_of_getElem? (i := 3) rfl)) (inB31 _ (List.mem_of_getElem? (i := 10) rfl)) (inB31 _ (List.mem_of_getElem? (i := 11) rfl)) (inB2 _ (List.mem_of_getElem? (i := 7) rfl)) (inB31 _ (List.mem_of_getElem? (i := 12) rfl))
theorem gB_X6_78 (T0 : Cond) : GoodIn (T0 :: BIG) (wsV RX6 78 RX6 yX6_fail wsX6_fail) := gBV (inB17 _ (List.mem_of_getElem? (i := 2) rfl)) (inB17 _ (List.mem_of_getElem? (i := 3) rfl)) (inB17 _ (List.mem_of_getElem? (i := 4) rfl)) (inB2 _ (List.mem_of_getElem? (i := 7) rfl)) (inB17 _ (List.mem_of_getElem? (i := 5) rfl))
theorem gB_X6_74 (T0 : Cond) : GoodIn (T0 :: BIG) (va_wsS RX6 74 yX6_variable wsX6_variable) := gBS (inB16 _ (List.mem_of_getElem? (i := 23) rfl)) (inB17 _ (List.mem_of_getElem? (i := 0) rfl)) (inB2 _ (List.mem_of_getElem? (i := 7) rfl)) (inB17 _ (List.mem_of_getElem? (i := 1) rfl))
theorem gB_X6_47 (T0 : Cond) : GoodIn (T0 :: BIG) (wsV RX6 47 RX6 yX6_readComparison wsX6_readComparison) := gBV (inB15 _ (List.mem_of_getElem? (i := 23) rfl)) (inB16 _ (List.mem_of_getElem? (i := 0) rfl)) (inB16 _ (List.mem_of_getElem? (i := 1) rfl)) (inB2 _ (List.mem_of_getElem? (i := 7) rfl)) (inB16 _ (List.mem_of_getElem? (i := 2) rfl))
theorem gB_X6_71 (T0 : Cond) : GoodIn (T0 :: BIG) (wsV RX6 71 RX6 yX6_readNumber wsX6_readNumber) := gBV (inB16 _ (List.mem_of_getElem? (i := 19) rfl)) (inB16 _ (List.mem_of_getElem? (i := 20) rfl)) (inB16 _ (List.mem_of_getElem? (i := 21) rfl)) (inB2 _ (List.mem_of_getElem? (i := 7) rfl)) (inB16 _ (List.mem_of_getElem? (i := 22) rfl))
theorem gB_X6_64 (T0 : Cond) : GoodIn (T0 :: BIG) (wsV RX6 64 RX6 yX6_readThing wsX6_readThing) := gBV (inB16 _ (List.mem_of_getElem? (i := 11) rfl)) (inB16 _ (List.mem_of_getElem? (i := 12) rfl)) (inB16 _ (List.mem_of_getElem? (i := 13) rfl)) (inB2 _ (List.mem_of_getElem? (i := 7) rfl)) (inB16 _ (List.mem_of_getElem? (i := 18) rfl))
theorem gB_X6_61 (T0 : Cond) : GoodIn (T0 :: BIG) (wsV RX6 61 RX6 yX6_readProduct wsX6_readProduct) := gBV (inB16 _ (List.mem_of_getElem? (i := 15) rfl)) (inB16 _ (List.mem_of_getElem? (i := 16) rfl)) (inB16 _ (List.mem_of_getElem? (i := 17) rfl)) (inB2 _ (List.mem_of_getElem? (i := 7) rfl)) (inB16 _ (List.mem_of_getElem? (i := 10) rfl))
theorem gB_X6_51 (T0 : Cond) : GoodIn (T0 :: BIG) (wsV RX6 51 RX6 yX6_readSum wsX6_readSum) := gBV (inB16 _ (List.mem_of_getElem? (i := 3) rfl)) (inB16 _ (List.mem_of_getElem? (i := 4) rfl)) (inB16 _ (List.mem_of_getElem? (i := 5) rfl)) (inB2 _ (List.mem_of_getElem? (i := 7) rfl)) (inB16 _ (List.mem_of_getElem? (i := 14) rfl))
theorem eB_X6_34 (T0 : Cond) : aF (T0 :: BIG) RX6 34 10 1 := ⟨RX10, TX10, 2, rfl, fun w h => List.mem_cons_of_mem _ (inBX10 w h), by decide, List.mem_cons_of_mem _ (inB15 _ (List.mem_of_getElem? (i := 14) rfl))⟩
theorem gB_X6_18 (T0 : Cond) : GoodIn (T0 :: BIG) (wsV RX6 18 RX6 yX6_usePlain wsX6_usePlain) := gBV (inB4 _ (List.mem_of_getElem? (i := 21) rfl)) (inB4 _ (List.mem_of_getElem? (i := 22) rfl)) (inB4 _ (List.mem_of_getElem? (i := 23) rfl)) (inB2 _ (List.mem_of_getElem? (i := 7) rfl)) (inB5 _ (List.mem_of_getElem? (i := 0) rfl))
theorem eB_X1_68 (T0 : Cond) : aF (T0 :: BIG) RX1 68 9 4 := ⟨RX9, TX9, 9, rfl, fun w h => List.mem_cons_of_mem _ (inBX9 w h), by decide, List.mem_cons_of_mem _ (inB45 _ (List.mem_of_getElem? (i := 6) rfl))⟩
theorem eB_X1_29 (T0 : Cond) : aF (T0 :: BIG) RX1 29 1 6 := ⟨RX1, TX1, 8, rfl, fun w h => List.mem_cons_of_mem _ (inBX1 w h), by decide, List.mem_cons_of_mem _ (inB44 _ (List.mem_of_getElem? (i := 21) rfl))⟩
theorem eB_X1_25 (T0 : Cond) : aF (T0 :: BIG) RX1 25 1 1 := ⟨RX1, TX1, 8, rfl, fun w h => List.mem_cons_of_mem _ (inBX1 w h), by decide, List.mem_cons_of_mem _ (inB6 _ (List.mem_of_getElem? (i := 18) rfl))⟩
theorem eB_X1_84 (T0 : Cond) : aF (T0 :: BIG) RX1 84 2 1 := ⟨RX2, TX2, 5, rfl, fun w h => List.mem_cons_of_mem _ (inBX2 w h), by decide, List.mem_cons_of_mem _ (inB45 _ (List.mem_of_getElem? (i := 15) rfl))⟩
theorem gB_X1_87 (T0 : Cond) : GoodIn (T0 :: BIG) (va_wsS RX1 87 yX9_halved wsX9_halved) := gBS (inB45 _ (List.mem_of_getElem? (i := 16) rfl)) (inB24 _ (List.mem_of_getElem? (i := 14) rfl)) (inB2 _ (List.mem_of_getElem? (i := 13) rfl)) (inB24 _ (List.mem_of_getElem? (i := 15) rfl))
theorem eB_X1_78 (T0 : Cond) : aF (T0 :: BIG) RX1 78 2 2 := ⟨RX2, TX2, 5, rfl, fun w h => List.mem_cons_of_mem _ (inBX2 w h), by decide, List.mem_cons_of_mem _ (inB45 _ (List.mem_of_getElem? (i := 13) rfl))⟩
theorem eB_X1_81 (T0 : Cond) : aF (T0 :: BIG) RX1 81 9 7 := ⟨RX9, TX9, 9, rfl, fun w h => List.mem_cons_of_mem _ (inBX9 w h), by decide, List.mem_cons_of_mem _ (inB45 _ (List.mem_of_getElem? (i := 14) rfl))⟩
theorem eB_X1_63 (T0 : Cond) : aF (T0 :: BIG) RX1 63 2 0 := ⟨RX2, TX2, 5, rfl, fun w h => List.mem_cons_of_mem _ (inBX2 w h), by decide, List.mem_cons_of_mem _ (inB45 _ (List.mem_of_getElem? (i := 5) rfl))⟩
theorem eB_X1_18 (T0 : Cond) : aF (T0 :: BIG) RX1 18 1 4 := ⟨RX1, TX1, 8, rfl, fun w h => List.mem_cons_of_mem _ (inBX1 w h), by decide, List.mem_cons_of_mem _ (inB6 _ (List.mem_of_getElem? (i := 16) rfl))⟩
theorem eB_X1_21 (T0 : Cond) : aF (T0 :: BIG) RX1 21 1 0 := ⟨RX1, TX1, 8, rfl, fun w h => List.mem_cons_of_mem _ (inBX1 w h), by decide, List.mem_cons_of_mem _ (inB6 _ (List.mem_of_getElem? (i := 17) rfl))⟩
theorem eB_X1_53 (T0 : Cond) : aF (T0 :: BIG) RX1 53 5 0 := ⟨RX5, TX5, 5, rfl, fun w h => List.mem_cons_of_mem _ (inBX5 w h), by decide, List.mem_cons_of_mem _ (inB45 _ (List.mem_of_getElem? (i := 4) rfl))⟩
theorem eB_X1_15 (T0 : Cond) : aF (T0 :: BIG) RX1 15 1 3 := ⟨RX1, TX1, 8, rfl, fun w h => List.mem_cons_of_mem _ (inBX1 w h), by decide, List.mem_cons_of_mem _ (inB6 _ (List.mem_of_getElem? (i := 15) rfl))⟩
theorem eB_X1_40 (T0 : Cond) : aF (T0 :: BIG) RX1 40 1 5 := ⟨RX1, TX1, 8, rfl, fun w h => List.mem_cons_of_mem _ (inBX1 w h), by decide, List.mem_cons_of_mem _ (inB44 _ (List.mem_of_getElem? (i := 23) rfl))⟩
theorem gB_X1_43 (T0 : Cond) : GoodIn (T0 :: BIG) (va_wsS RX1 43 yJ6_bitCount_0f7a4 wsJ6_bitCount_0f7a4) := gBS (inB45 _ (List.mem_of_getElem? (i := 17) rfl)) (inB25 _ (List.mem_of_getElem? (i := 23) rfl)) (inB26 _ (List.mem_of_getElem? (i := 0) rfl)) (inB26 _ (List.mem_of_getElem? (i := 1) rfl))
theorem eB_X1_33 (T0 : Cond) : aF (T0 :: BIG) RX1 33 1 7 := ⟨RX1, TX1, 8, rfl, fun w h => List.mem_cons_of_mem _ (inBX1 w h), by decide, List.mem_cons_of_mem _ (inB44 _ (List.mem_of_getElem? (i := 22) rfl))⟩
theorem gB_X1_113 (T0 : Cond) : GoodIn (T0 :: BIG) (wsV RX1 113 RX9 yX9_below wsX9_below) := gBV (inB46 _ (List.mem_of_getElem? (i := 10) rfl)) (inB41 _ (List.mem_of_getElem? (i := 3) rfl)) (inB41 _ (List.mem_of_getElem? (i := 4) rfl)) (inB2 _ (List.mem_of_getElem? (i := 13) rfl)) (inB41 _ (List.mem_of_getElem? (i := 5) rfl))
theorem gB_X1_110 (T0 : Cond) : GoodIn (T0 :: BIG) (wsV RX1 110 RX9 yX9_spell wsX9_spell) := gBV (inB46 _ (List.mem_of_getElem? (i := 9) rfl)) (inB30 _ (List.mem_of_getElem? (i := 2) rfl)) (inB30 _ (List.mem_of_getElem? (i := 3) rfl)) (inB2 _ (List.mem_of_getElem? (i := 13) rfl)) (inB30 _ (List.mem_of_getElem? (i := 4) rfl))
theorem gB_X1_99 (T0 : Cond) : GoodIn (T0 :: BIG) (wsV RX1 99 RX9 yX9_copy wsX9_copy) := gBV (inB46 _ (List.mem_of_getElem? (i := 8) rfl)) (inB27 _ (List.mem_of_getElem? (i := 23) rfl)) (inB28 _ (List.mem_of_getElem? (i := 0) rfl)) (inB2 _ (List.mem_of_getElem? (i := 13) rfl)) (inB28 _ (List.mem_of_getElem? (i := 1) rfl))
theorem eB_X1_9 (T0 : Cond) : aF (T0 :: BIG) RX1 9 1 2 := ⟨RX1, TX1, 8, rfl, fun w h => List.mem_cons_of_mem _ (inBX1 w h), by decide, List.mem_cons_of_mem _ (inB6 _ (List.mem_of_getElem? (i := 14) rfl))⟩
theorem eB_X1_103 (T0 : Cond) : aF (T0 :: BIG) RX1 103 9 5 := ⟨RX9, TX9, 9, rfl, fun w h => List.mem_cons_of_mem _ (inBX9 w h), by decide, List.mem_cons_of_mem _ (inB46 _ (List.mem_of_getElem? (i := 6) rfl))⟩
theorem cB_X1_104 (T0 : Cond) : ∀ w ∈ ([.methodLink RX1 104 arraycopyName, .native arraycopyName, .static arraycopyName, .initialized "java/lang/System"] : List Cond), w ∈ T0 :: BIG := by
  intro w h
  simp only [List.mem_cons, List.not_mem_nil, or_false] at h
  rcases h with rfl | rfl | rfl | rfl
  · exact List.mem_cons_of_mem _ (inB46 _ (List.mem_of_getElem? (i := 7) rfl))
  · exact List.mem_cons_of_mem _ (inB5 _ (List.mem_of_getElem? (i := 3) rfl))
  · exact List.mem_cons_of_mem _ (inB5 _ (List.mem_of_getElem? (i := 4) rfl))
  · exact List.mem_cons_of_mem _ (inB5 _ (List.mem_of_getElem? (i := 5) rfl))
theorem eB_X3_31 (T0 : Cond) : aF (T0 :: BIG) RX3 31 3 1 := ⟨RX3, TX3, 7, rfl, fun w h => List.mem_cons_of_mem _ (inBX3 w h), by decide, List.mem_cons_of_mem _ (inB11 _ (List.mem_of_getElem? (i := 9) rfl))⟩
theorem gB_X3_35 (T0 : Cond) : GoodIn (T0 :: BIG) (va_wsS RX3 35 yJ6_bitCount_0f7a4 wsJ6_bitCount_0f7a4) := gBS (inB51 _ (List.mem_of_getElem? (i := 7) rfl)) (inB25 _ (List.mem_of_getElem? (i := 23) rfl)) (inB26 _ (List.mem_of_getElem? (i := 0) rfl)) (inB26 _ (List.mem_of_getElem? (i := 1) rfl))
theorem eB_X3_9 (T0 : Cond) : aF (T0 :: BIG) RX3 9 3 2 := ⟨RX3, TX3, 7, rfl, fun w h => List.mem_cons_of_mem _ (inBX3 w h), by decide, List.mem_cons_of_mem _ (inB6 _ (List.mem_of_getElem? (i := 4) rfl))⟩
theorem eB_X3_18 (T0 : Cond) : aF (T0 :: BIG) RX3 18 3 4 := ⟨RX3, TX3, 7, rfl, fun w h => List.mem_cons_of_mem _ (inBX3 w h), by decide, List.mem_cons_of_mem _ (inB6 _ (List.mem_of_getElem? (i := 6) rfl))⟩
theorem eB_X3_27 (T0 : Cond) : aF (T0 :: BIG) RX3 27 3 0 := ⟨RX3, TX3, 7, rfl, fun w h => List.mem_cons_of_mem _ (inBX3 w h), by decide, List.mem_cons_of_mem _ (inB6 _ (List.mem_of_getElem? (i := 9) rfl))⟩
theorem eB_X3_52 (T0 : Cond) : aF (T0 :: BIG) RX3 52 2 2 := ⟨RX2, TX2, 5, rfl, fun w h => List.mem_cons_of_mem _ (inBX2 w h), by decide, List.mem_cons_of_mem _ (inB52 _ (List.mem_of_getElem? (i := 7) rfl))⟩
theorem eB_X3_47 (T0 : Cond) : aF (T0 :: BIG) RX3 47 2 0 := ⟨RX2, TX2, 5, rfl, fun w h => List.mem_cons_of_mem _ (inBX2 w h), by decide, List.mem_cons_of_mem _ (inB52 _ (List.mem_of_getElem? (i := 6) rfl))⟩
theorem eB_X3_15 (T0 : Cond) : aF (T0 :: BIG) RX3 15 3 3 := ⟨RX3, TX3, 7, rfl, fun w h => List.mem_cons_of_mem _ (inBX3 w h), by decide, List.mem_cons_of_mem _ (inB6 _ (List.mem_of_getElem? (i := 5) rfl))⟩
theorem cB_X3_41 (T0 : Cond) : ∀ w ∈ ([.methodLink RX3 41 arraycopyName, .native arraycopyName, .static arraycopyName, .initialized "java/lang/System"] : List Cond), w ∈ T0 :: BIG := by
  intro w h
  simp only [List.mem_cons, List.not_mem_nil, or_false] at h
  rcases h with rfl | rfl | rfl | rfl
  · exact List.mem_cons_of_mem _ (inB52 _ (List.mem_of_getElem? (i := 5) rfl))
  · exact List.mem_cons_of_mem _ (inB5 _ (List.mem_of_getElem? (i := 3) rfl))
  · exact List.mem_cons_of_mem _ (inB5 _ (List.mem_of_getElem? (i := 4) rfl))
  · exact List.mem_cons_of_mem _ (inB5 _ (List.mem_of_getElem? (i := 5) rfl))
theorem eB_X3_24 (T0 : Cond) : aF (T0 :: BIG) RX3 24 3 6 := ⟨RX3, TX3, 7, rfl, fun w h => List.mem_cons_of_mem _ (inBX3 w h), by decide, List.mem_cons_of_mem _ (inB6 _ (List.mem_of_getElem? (i := 8) rfl))⟩
theorem eB_X3_21 (T0 : Cond) : aF (T0 :: BIG) RX3 21 3 5 := ⟨RX3, TX3, 7, rfl, fun w h => List.mem_cons_of_mem _ (inBX3 w h), by decide, List.mem_cons_of_mem _ (inB6 _ (List.mem_of_getElem? (i := 7) rfl))⟩
theorem eB_X4_20 (T0 : Cond) : aF (T0 :: BIG) RX4 20 4 2 := ⟨RX4, TX4, 3, rfl, fun w h => List.mem_cons_of_mem _ (inBX4 w h), by decide, List.mem_cons_of_mem _ (inB11 _ (List.mem_of_getElem? (i := 14) rfl))⟩
theorem eB_X4_13 (T0 : Cond) : aF (T0 :: BIG) RX4 13 4 0 := ⟨RX4, TX4, 3, rfl, fun w h => List.mem_cons_of_mem _ (inBX4 w h), by decide, List.mem_cons_of_mem _ (inB5 _ (List.mem_of_getElem? (i := 22) rfl))⟩
theorem eB_X4_24 (T0 : Cond) : aF (T0 :: BIG) RX4 24 4 1 := ⟨RX4, TX4, 3, rfl, fun w h => List.mem_cons_of_mem _ (inBX4 w h), by decide, List.mem_cons_of_mem _ (inB27 _ (List.mem_of_getElem? (i := 21) rfl))⟩
theorem gB_X4_27 (T0 : Cond) : GoodIn (T0 :: BIG) (wsV RX4 27 RX9 yX9_copy wsX9_copy) := gBV (inB27 _ (List.mem_of_getElem? (i := 22) rfl)) (inB27 _ (List.mem_of_getElem? (i := 23) rfl)) (inB28 _ (List.mem_of_getElem? (i := 0) rfl)) (inB2 _ (List.mem_of_getElem? (i := 13) rfl)) (inB28 _ (List.mem_of_getElem? (i := 1) rfl))
theorem mB_X4_31 (T0 : Cond) : ∀ w ∈ ([.methodLink RX4 31 Lib.Math.min.name, .static Lib.Math.min.name, .initialized "java/lang/Math", .code Lib.Math.min.name Lib.Math.min.code 2 (some .int)] : List Cond), w ∈ T0 :: BIG := by
  intro w h
  simp only [List.mem_cons, List.not_mem_nil, or_false] at h
  rcases h with rfl | rfl | rfl | rfl
  · exact List.mem_cons_of_mem _ (inB32 _ (List.mem_of_getElem? (i := 23) rfl))
  · exact List.mem_cons_of_mem _ (inB12 _ (List.mem_of_getElem? (i := 7) rfl))
  · exact List.mem_cons_of_mem _ (inB12 _ (List.mem_of_getElem? (i := 8) rfl))
  · exact List.mem_cons_of_mem _ (inB12 _ (List.mem_of_getElem? (i := 9) rfl))
theorem gB_X1_74 (T0 : Cond) : GoodIn (T0 :: BIG) (wsV RX1 74 RX1 yX1_mostOf wsX1_mostOf) := gBV (inB45 _ (List.mem_of_getElem? (i := 9) rfl)) (inB45 _ (List.mem_of_getElem? (i := 10) rfl)) (inB45 _ (List.mem_of_getElem? (i := 11) rfl)) (inB3 _ (List.mem_of_getElem? (i := 5) rfl)) (inB45 _ (List.mem_of_getElem? (i := 12) rfl))
theorem eB_X1_71 (T0 : Cond) : aF (T0 :: BIG) RX1 71 2 4 := ⟨RX2, TX2, 5, rfl, fun w h => List.mem_cons_of_mem _ (inBX2 w h), by decide, List.mem_cons_of_mem _ (inB45 _ (List.mem_of_getElem? (i := 7) rfl))⟩
theorem gB_X1_58 (T0 : Cond) : GoodIn (T0 :: BIG) (wsV RX1 58 RX9 yX9_top wsX9_top) := gBV (inB45 _ (List.mem_of_getElem? (i := 8) rfl)) (inB21 _ (List.mem_of_getElem? (i := 18) rfl)) (inB21 _ (List.mem_of_getElem? (i := 19) rfl)) (inB2 _ (List.mem_of_getElem? (i := 13) rfl)) (inB21 _ (List.mem_of_getElem? (i := 20) rfl))
theorem gB_X1_49 (T0 : Cond) : GoodIn (T0 :: BIG) (wsV RX1 49 RX1 yX1_settle wsX1_settle) := gBV (inB45 _ (List.mem_of_getElem? (i := 18) rfl)) (inB45 _ (List.mem_of_getElem? (i := 19) rfl)) (inB45 _ (List.mem_of_getElem? (i := 20) rfl)) (inB3 _ (List.mem_of_getElem? (i := 5) rfl)) (inB45 _ (List.mem_of_getElem? (i := 21) rfl))
theorem gB_X1_91 (T0 : Cond) : GoodIn (T0 :: BIG) (wsV RX1 91 RX1 yX1_hopeless wsX1_hopeless) := gBV (inB45 _ (List.mem_of_getElem? (i := 22) rfl)) (inB45 _ (List.mem_of_getElem? (i := 23) rfl)) (inB46 _ (List.mem_of_getElem? (i := 0) rfl)) (inB3 _ (List.mem_of_getElem? (i := 5) rfl)) (inB46 _ (List.mem_of_getElem? (i := 1) rfl))
theorem gB_X1_95 (T0 : Cond) : GoodIn (T0 :: BIG) (wsV RX1 95 RX1 yX1_stands wsX1_stands) := gBV (inB46 _ (List.mem_of_getElem? (i := 2) rfl)) (inB46 _ (List.mem_of_getElem? (i := 3) rfl)) (inB46 _ (List.mem_of_getElem? (i := 4) rfl)) (inB3 _ (List.mem_of_getElem? (i := 5) rfl)) (inB46 _ (List.mem_of_getElem? (i := 5) rfl))
theorem gB_X3_65 (T0 : Cond) : GoodIn (T0 :: BIG) (wsV RX3 65 RX3 yX3_addTeams wsX3_addTeams) := gBV (inB52 _ (List.mem_of_getElem? (i := 17) rfl)) (inB52 _ (List.mem_of_getElem? (i := 18) rfl)) (inB52 _ (List.mem_of_getElem? (i := 19) rfl)) (inB3 _ (List.mem_of_getElem? (i := 1) rfl)) (inB52 _ (List.mem_of_getElem? (i := 20) rfl))
theorem gB_X3_55 (T0 : Cond) : GoodIn (T0 :: BIG) (va_wsS RX3 55 yJ7_fill_53178 wsJ7_fill_53178) := gBS (inB52 _ (List.mem_of_getElem? (i := 12) rfl)) (inB11 _ (List.mem_of_getElem? (i := 2) rfl)) (inB11 _ (List.mem_of_getElem? (i := 3) rfl)) (inB11 _ (List.mem_of_getElem? (i := 4) rfl))
theorem gB_X1_36 (T0 : Cond) : GoodIn (T0 :: BIG) (wsV RX1 36 RX1 yX1_prepare wsX1_prepare) := gBV (inB45 _ (List.mem_of_getElem? (i := 0) rfl)) (inB45 _ (List.mem_of_getElem? (i := 1) rfl)) (inB45 _ (List.mem_of_getElem? (i := 2) rfl)) (inB3 _ (List.mem_of_getElem? (i := 5) rfl)) (inB45 _ (List.mem_of_getElem? (i := 3) rfl))
theorem gB_X3_61 (T0 : Cond) : GoodIn (T0 :: BIG) (wsV RX3 61 RX3 yX3_fillCell wsX3_fillCell) := gBV (inB52 _ (List.mem_of_getElem? (i := 13) rfl)) (inB52 _ (List.mem_of_getElem? (i := 14) rfl)) (inB52 _ (List.mem_of_getElem? (i := 15) rfl)) (inB3 _ (List.mem_of_getElem? (i := 1) rfl)) (inB52 _ (List.mem_of_getElem? (i := 16) rfl))
theorem gB_X3_83 (T0 : Cond) : GoodIn (T0 :: BIG) (wsV RX3 83 RX3 yX3_fitting wsX3_fitting) := gBV (inB53 _ (List.mem_of_getElem? (i := 6) rfl)) (inB52 _ (List.mem_of_getElem? (i := 9) rfl)) (inB52 _ (List.mem_of_getElem? (i := 10) rfl)) (inB3 _ (List.mem_of_getElem? (i := 1) rfl)) (inB52 _ (List.mem_of_getElem? (i := 11) rfl))
theorem gB_X3_86 (T0 : Cond) : GoodIn (T0 :: BIG) (wsV RX3 86 RX3 yX3_canBeAt wsX3_canBeAt) := gBV (inB53 _ (List.mem_of_getElem? (i := 7) rfl)) (inB53 _ (List.mem_of_getElem? (i := 8) rfl)) (inB53 _ (List.mem_of_getElem? (i := 9) rfl)) (inB3 _ (List.mem_of_getElem? (i := 1) rfl)) (inB53 _ (List.mem_of_getElem? (i := 10) rfl))
theorem gB_X3_73 (T0 : Cond) : GoodIn (T0 :: BIG) (wsV RX3 73 RX3 yX3_leastOf wsX3_leastOf) := gBV (inB53 _ (List.mem_of_getElem? (i := 2) rfl)) (inB53 _ (List.mem_of_getElem? (i := 3) rfl)) (inB53 _ (List.mem_of_getElem? (i := 4) rfl)) (inB3 _ (List.mem_of_getElem? (i := 1) rfl)) (inB53 _ (List.mem_of_getElem? (i := 5) rfl))
theorem gB_X3_77 (T0 : Cond) : GoodIn (T0 :: BIG) (wsV RX3 77 RX8 yX8_add wsX8_add) := gBV (inB53 _ (List.mem_of_getElem? (i := 11) rfl)) (inB30 _ (List.mem_of_getElem? (i := 17) rfl)) (inB30 _ (List.mem_of_getElem? (i := 18) rfl)) (inB1 _ (List.mem_of_getElem? (i := 19) rfl)) (inB30 _ (List.mem_of_getElem? (i := 19) rfl))
theorem gB_X3_69 (T0 : Cond) : GoodIn (T0 :: BIG) (wsV RX3 69 RX2 yX2_all wsX2_all) := gBV (inB53 _ (List.mem_of_getElem? (i := 1) rfl)) (inB50 _ (List.mem_of_getElem? (i := 0) rfl)) (inB50 _ (List.mem_of_getElem? (i := 1) rfl)) (inB2 _ (List.mem_of_getElem? (i := 3) rfl)) (inB50 _ (List.mem_of_getElem? (i := 2) rfl))
theorem eB_X11_10 (T0 : Cond) : aF (T0 :: BIG) RX11 10 11 0 := ⟨RX11, TX11, 17, rfl, fun w h => List.mem_cons_of_mem _ (inBX11 w h), by decide, List.mem_cons_of_mem _ (inB1 _ (List.mem_of_getElem? (i := 16) rfl))⟩
theorem gB_X11_110 (T0 : Cond) : GoodIn (T0 :: BIG) (wsV RX11 110 RX10 yX10_add wsX10_add) := gBV (inB9 _ (List.mem_of_getElem? (i := 3) rfl)) (inB9 _ (List.mem_of_getElem? (i := 4) rfl)) (inB9 _ (List.mem_of_getElem? (i := 5) rfl)) (inB1 _ (List.mem_of_getElem? (i := 15) rfl)) (inB9 _ (List.mem_of_getElem? (i := 6) rfl))
theorem eB_X11_114 (T0 : Cond) : aF (T0 :: BIG) RX11 114 10 1 := ⟨RX10, TX10, 2, rfl, fun w h => List.mem_cons_of_mem _ (inBX10 w h), by decide, List.mem_cons_of_mem _ (inB9 _ (List.mem_of_getElem? (i := 2) rfl))⟩
theorem gB_X11_117 (T0 : Cond) : GoodIn (T0 :: BIG) (wsV RX11 117 RX10 yX10_cut wsX10_cut) := gBV (inB9 _ (List.mem_of_getElem? (i := 18) rfl)) (inB9 _ (List.mem_of_getElem? (i := 19) rfl)) (inB9 _ (List.mem_of_getElem? (i := 20) rfl)) (inB1 _ (List.mem_of_getElem? (i := 15) rfl)) (inB9 _ (List.mem_of_getElem? (i := 21) rfl))
theorem eB_X11_26 (T0 : Cond) : aF (T0 :: BIG) RX11 26 11 2 := ⟨RX11, TX11, 17, rfl, fun w h => List.mem_cons_of_mem _ (inBX11 w h), by decide, List.mem_cons_of_mem _ (inB2 _ (List.mem_of_getElem? (i := 0) rfl))⟩
theorem eB_X11_131 (T0 : Cond) : aF (T0 :: BIG) RX11 131 5 0 := ⟨RX5, TX5, 5, rfl, fun w h => List.mem_cons_of_mem _ (inBX5 w h), by decide, List.mem_cons_of_mem _ (inB10 _ (List.mem_of_getElem? (i := 9) rfl))⟩
theorem eB_X11_74 (T0 : Cond) : aF (T0 :: BIG) RX11 74 11 12 := ⟨RX11, TX11, 17, rfl, fun w h => List.mem_cons_of_mem _ (inBX11 w h), by decide, List.mem_cons_of_mem _ (inB2 _ (List.mem_of_getElem? (i := 22) rfl))⟩
theorem gB_X11_120 (T0 : Cond) : GoodIn (T0 :: BIG) (wsV RX11 120 RX5 yX5_read wsX5_read) := gBV (inB10 _ (List.mem_of_getElem? (i := 10) rfl)) (inB10 _ (List.mem_of_getElem? (i := 11) rfl)) (inB10 _ (List.mem_of_getElem? (i := 12) rfl)) (inB1 _ (List.mem_of_getElem? (i := 23) rfl)) (inB10 _ (List.mem_of_getElem? (i := 13) rfl))
theorem eB_X11_56 (T0 : Cond) : aF (T0 :: BIG) RX11 56 11 8 := ⟨RX11, TX11, 17, rfl, fun w h => List.mem_cons_of_mem _ (inBX11 w h), by decide, List.mem_cons_of_mem _ (inB2 _ (List.mem_of_getElem? (i := 14) rfl))⟩
theorem gB_X11_124 (T0 : Cond) : GoodIn (T0 :: BIG) (wsV RX11 124 RX9 yX9_startAnew wsX9_startAnew) := gBV (inB10 _ (List.mem_of_getElem? (i := 19) rfl)) (inB10 _ (List.mem_of_getElem? (i := 20) rfl)) (inB10 _ (List.mem_of_getElem? (i := 21) rfl)) (inB2 _ (List.mem_of_getElem? (i := 13) rfl)) (inB10 _ (List.mem_of_getElem? (i := 22) rfl))
theorem eB_X11_83 (T0 : Cond) : aF (T0 :: BIG) RX11 83 11 13 := ⟨RX11, TX11, 17, rfl, fun w h => List.mem_cons_of_mem _ (inBX11 w h), by decide, List.mem_cons_of_mem _ (inB3 _ (List.mem_of_getElem? (i := 2) rfl))⟩
theorem gB_X11_127 (T0 : Cond) : GoodIn (T0 :: BIG) (wsV RX11 127 RX3 yX3_clear wsX3_clear) := gBV (inB11 _ (List.mem_of_getElem? (i := 5) rfl)) (inB11 _ (List.mem_of_getElem? (i := 6) rfl)) (inB11 _ (List.mem_of_getElem? (i := 7) rfl)) (inB3 _ (List.mem_of_getElem? (i := 1) rfl)) (inB11 _ (List.mem_of_getElem? (i := 8) rfl))
theorem eB_X11_66 (T0 : Cond) : aF (T0 :: BIG) RX11 66 11 10 := ⟨RX11, TX11, 17, rfl, fun w h => List.mem_cons_of_mem _ (inBX11 w h), by decide, List.mem_cons_of_mem _ (inB2 _ (List.mem_of_getElem? (i := 19) rfl))⟩
theorem gB_X11_130 (T0 : Cond) : GoodIn (T0 :: BIG) (wsV RX11 130 RX4 yX4_clear wsX4_clear) := gBV (inB11 _ (List.mem_of_getElem? (i := 10) rfl)) (inB11 _ (List.mem_of_getElem? (i := 11) rfl)) (inB11 _ (List.mem_of_getElem? (i := 12) rfl)) (inB2 _ (List.mem_of_getElem? (i := 18) rfl)) (inB11 _ (List.mem_of_getElem? (i := 13) rfl))
theorem eB_X11_33 (T0 : Cond) : aF (T0 :: BIG) RX11 33 11 3 := ⟨RX11, TX11, 17, rfl, fun w h => List.mem_cons_of_mem _ (inBX11 w h), by decide, List.mem_cons_of_mem _ (inB2 _ (List.mem_of_getElem? (i := 4) rfl))⟩
theorem eB_X11_134 (T0 : Cond) : aF (T0 :: BIG) RX11 134 2 0 := ⟨RX2, TX2, 5, rfl, fun w h => List.mem_cons_of_mem _ (inBX2 w h), by decide, List.mem_cons_of_mem _ (inB13 _ (List.mem_of_getElem? (i := 7) rfl))⟩
theorem gB_X11_137 (T0 : Cond) : GoodIn (T0 :: BIG) (wsV RX11 137 RX2 yX2_read wsX2_read) := gBV (inB13 _ (List.mem_of_getElem? (i := 8) rfl)) (inB13 _ (List.mem_of_getElem? (i := 9) rfl)) (inB13 _ (List.mem_of_getElem? (i := 10) rfl)) (inB2 _ (List.mem_of_getElem? (i := 3) rfl)) (inB13 _ (List.mem_of_getElem? (i := 11) rfl))
theorem gB_X11_138 (T0 : Cond) : GoodIn (T0 :: BIG) (wsV RX11 138 RX9 yX9_welcome wsX9_welcome) := gBV (inB14 _ (List.mem_of_getElem? (i := 4) rfl)) (inB14 _ (List.mem_of_getElem? (i := 5) rfl)) (inB14 _ (List.mem_of_getElem? (i := 6) rfl)) (inB2 _ (List.mem_of_getElem? (i := 13) rfl)) (inB14 _ (List.mem_of_getElem? (i := 7) rfl))
theorem eB_X11_44 (T0 : Cond) : aF (T0 :: BIG) RX11 44 11 5 := ⟨RX11, TX11, 17, rfl, fun w h => List.mem_cons_of_mem _ (inBX11 w h), by decide, List.mem_cons_of_mem _ (inB2 _ (List.mem_of_getElem? (i := 9) rfl))⟩
theorem gB_X11_142 (T0 : Cond) : GoodIn (T0 :: BIG) (wsV RX11 142 RX6 yX6_read wsX6_read) := gBV (inB15 _ (List.mem_of_getElem? (i := 10) rfl)) (inB15 _ (List.mem_of_getElem? (i := 11) rfl)) (inB15 _ (List.mem_of_getElem? (i := 12) rfl)) (inB2 _ (List.mem_of_getElem? (i := 7) rfl)) (inB15 _ (List.mem_of_getElem? (i := 13) rfl))
theorem eB_X11_40 (T0 : Cond) : aF (T0 :: BIG) RX11 40 11 4 := ⟨RX11, TX11, 17, rfl, fun w h => List.mem_cons_of_mem _ (inBX11 w h), by decide, List.mem_cons_of_mem _ (inB2 _ (List.mem_of_getElem? (i := 8) rfl))⟩
theorem eB_X11_192 (T0 : Cond) : aF (T0 :: BIG) RX11 192 9 7 := ⟨RX9, TX9, 9, rfl, fun w h => List.mem_cons_of_mem _ (inBX9 w h), by decide, List.mem_cons_of_mem _ (inB23 _ (List.mem_of_getElem? (i := 16) rfl))⟩
theorem gB_X11_210 (T0 : Cond) : GoodIn (T0 :: BIG) (va_wsS RX11 210 yJ6_bitCount_0f7a4 wsJ6_bitCount_0f7a4) := gBS (inB25 _ (List.mem_of_getElem? (i := 22) rfl)) (inB25 _ (List.mem_of_getElem? (i := 23) rfl)) (inB26 _ (List.mem_of_getElem? (i := 0) rfl)) (inB26 _ (List.mem_of_getElem? (i := 1) rfl))
theorem gB_X11_203 (T0 : Cond) : GoodIn (T0 :: BIG) (va_wsS RX11 203 yX11_within wsX11_within) := gBS (inB25 _ (List.mem_of_getElem? (i := 21) rfl)) (inB13 _ (List.mem_of_getElem? (i := 22) rfl)) (inB1 _ (List.mem_of_getElem? (i := 2) rfl)) (inB13 _ (List.mem_of_getElem? (i := 23) rfl))
theorem eB_X11_47 (T0 : Cond) : aF (T0 :: BIG) RX11 47 11 7 := ⟨RX11, TX11, 17, rfl, fun w h => List.mem_cons_of_mem _ (inBX11 w h), by decide, List.mem_cons_of_mem _ (inB2 _ (List.mem_of_getElem? (i := 10) rfl))⟩
theorem eB_X11_207 (T0 : Cond) : aF (T0 :: BIG) RX11 207 11 6 := ⟨RX11, TX11, 17, rfl, fun w h => List.mem_cons_of_mem _ (inBX11 w h), by decide, List.mem_cons_of_mem _ (inB25 _ (List.mem_of_getElem? (i := 20) rfl))⟩
theorem gB_X11_268 (T0 : Cond) : GoodIn (T0 :: BIG) (wsV RX11 268 RX4 yX4_takeBack wsX4_takeBack) := gBV (inB40 _ (List.mem_of_getElem? (i := 14) rfl)) (inB40 _ (List.mem_of_getElem? (i := 15) rfl)) (inB40 _ (List.mem_of_getElem? (i := 16) rfl)) (inB2 _ (List.mem_of_getElem? (i := 18) rfl)) (inB40 _ (List.mem_of_getElem? (i := 17) rfl))
theorem gB_X11_143 (T0 : Cond) : GoodIn (T0 :: BIG) (wsV RX11 143 RX5 yX5_has wsX5_has) := gBV (inB21 _ (List.mem_of_getElem? (i := 9) rfl)) (inB21 _ (List.mem_of_getElem? (i := 10) rfl)) (inB21 _ (List.mem_of_getElem? (i := 11) rfl)) (inB1 _ (List.mem_of_getElem? (i := 23) rfl)) (inB21 _ (List.mem_of_getElem? (i := 12) rfl))
theorem eB_X11_60 (T0 : Cond) : aF (T0 :: BIG) RX11 60 11 9 := ⟨RX11, TX11, 17, rfl, fun w h => List.mem_cons_of_mem _ (inBX11 w h), by decide, List.mem_cons_of_mem _ (inB2 _ (List.mem_of_getElem? (i := 15) rfl))⟩
theorem eB_X11_162 (T0 : Cond) : aF (T0 :: BIG) RX11 162 9 3 := ⟨RX9, TX9, 9, rfl, fun w h => List.mem_cons_of_mem _ (inBX9 w h), by decide, List.mem_cons_of_mem _ (inB21 _ (List.mem_of_getElem? (i := 7) rfl))⟩
theorem gB_X11_215 (T0 : Cond) : GoodIn (T0 :: BIG) (va_wsS RX11 215 yJ7_fill_53178 wsJ7_fill_53178) := gBS (inB26 _ (List.mem_of_getElem? (i := 16) rfl)) (inB11 _ (List.mem_of_getElem? (i := 2) rfl)) (inB11 _ (List.mem_of_getElem? (i := 3) rfl)) (inB11 _ (List.mem_of_getElem? (i := 4) rfl))
theorem gB_X11_298 (T0 : Cond) : GoodIn (T0 :: BIG) (wsV RX11 298 RX9 yX9_spread wsX9_spread) := gBV (inB43 _ (List.mem_of_getElem? (i := 14) rfl)) (inB32 _ (List.mem_of_getElem? (i := 3) rfl)) (inB32 _ (List.mem_of_getElem? (i := 4) rfl)) (inB2 _ (List.mem_of_getElem? (i := 13) rfl)) (inB32 _ (List.mem_of_getElem? (i := 5) rfl))
theorem eB_X11_19 (T0 : Cond) : aF (T0 :: BIG) RX11 19 11 1 := ⟨RX11, TX11, 17, rfl, fun w h => List.mem_cons_of_mem _ (inBX11 w h), by decide, List.mem_cons_of_mem _ (inB1 _ (List.mem_of_getElem? (i := 20) rfl))⟩
theorem gB_X11_261 (T0 : Cond) : GoodIn (T0 :: BIG) (wsV RX11 261 RX9 yX9_wet wsX9_wet) := gBV (inB39 _ (List.mem_of_getElem? (i := 20) rfl)) (inB32 _ (List.mem_of_getElem? (i := 16) rfl)) (inB32 _ (List.mem_of_getElem? (i := 17) rfl)) (inB2 _ (List.mem_of_getElem? (i := 13) rfl)) (inB32 _ (List.mem_of_getElem? (i := 18) rfl))
theorem gB_X11_292 (T0 : Cond) : GoodIn (T0 :: BIG) (wsV RX11 292 RX9 yX9_water wsX9_water) := gBV (inB31 _ (List.mem_of_getElem? (i := 0) rfl)) (inB31 _ (List.mem_of_getElem? (i := 1) rfl)) (inB31 _ (List.mem_of_getElem? (i := 2) rfl)) (inB2 _ (List.mem_of_getElem? (i := 13) rfl)) (inB31 _ (List.mem_of_getElem? (i := 3) rfl))
theorem gB_X11_264 (T0 : Cond) : GoodIn (T0 :: BIG) (wsV RX11 264 RX8 yX8_tell_ wsX8_tell_) := gBV (inB32 _ (List.mem_of_getElem? (i := 7) rfl)) (inB32 _ (List.mem_of_getElem? (i := 8) rfl)) (inB32 _ (List.mem_of_getElem? (i := 9) rfl)) (inB1 _ (List.mem_of_getElem? (i := 19) rfl)) (inB32 _ (List.mem_of_getElem? (i := 10) rfl))
theorem gB_X11_279 (T0 : Cond) : GoodIn (T0 :: BIG) (wsV RX11 279 RX8 yX8_tell wsX8_tell) := gBV (inB30 _ (List.mem_of_getElem? (i := 7) rfl)) (inB30 _ (List.mem_of_getElem? (i := 8) rfl)) (inB30 _ (List.mem_of_getElem? (i := 9) rfl)) (inB1 _ (List.mem_of_getElem? (i := 19) rfl)) (inB30 _ (List.mem_of_getElem? (i := 10) rfl))
theorem eB_X11_165 (T0 : Cond) : aF (T0 :: BIG) RX11 165 5 2 := ⟨RX5, TX5, 5, rfl, fun w h => List.mem_cons_of_mem _ (inBX5 w h), by decide, List.mem_cons_of_mem _ (inB21 _ (List.mem_of_getElem? (i := 8) rfl))⟩
theorem eB_X11_99 (T0 : Cond) : aF (T0 :: BIG) RX11 99 11 15 := ⟨RX11, TX11, 17, rfl, fun w h => List.mem_cons_of_mem _ (inBX11 w h), by decide, List.mem_cons_of_mem _ (inB3 _ (List.mem_of_getElem? (i := 10) rfl))⟩
theorem gB_X11_315 (T0 : Cond) : GoodIn (T0 :: BIG) (wsV RX11 315 RX7 yX7_find wsX7_find) := gBV (inB47 _ (List.mem_of_getElem? (i := 21) rfl)) (inB47 _ (List.mem_of_getElem? (i := 22) rfl)) (inB47 _ (List.mem_of_getElem? (i := 23) rfl)) (inB3 _ (List.mem_of_getElem? (i := 9) rfl)) (inB48 _ (List.mem_of_getElem? (i := 0) rfl))
theorem eB_X11_318 (T0 : Cond) : aF (T0 :: BIG) RX11 318 7 4 := ⟨RX7, TX7, 5, rfl, fun w h => List.mem_cons_of_mem _ (inBX7 w h), by decide, List.mem_cons_of_mem _ (inB47 _ (List.mem_of_getElem? (i := 20) rfl))⟩
theorem gB_X11_307 (T0 : Cond) : GoodIn (T0 :: BIG) (wsV RX11 307 RX8 yX8_add wsX8_add) := gBV (inB46 _ (List.mem_of_getElem? (i := 12) rfl)) (inB30 _ (List.mem_of_getElem? (i := 17) rfl)) (inB30 _ (List.mem_of_getElem? (i := 18) rfl)) (inB1 _ (List.mem_of_getElem? (i := 19) rfl)) (inB30 _ (List.mem_of_getElem? (i := 19) rfl))
theorem eB_X11_189 (T0 : Cond) : aF (T0 :: BIG) RX11 189 9 4 := ⟨RX9, TX9, 9, rfl, fun w h => List.mem_cons_of_mem _ (inBX9 w h), by decide, List.mem_cons_of_mem _ (inB23 _ (List.mem_of_getElem? (i := 15) rfl))⟩
theorem gB_X11_305 (T0 : Cond) : GoodIn (T0 :: BIG) (wsV RX11 305 RX8 yX8_clear wsX8_clear) := gBV (inB46 _ (List.mem_of_getElem? (i := 11) rfl)) (inB30 _ (List.mem_of_getElem? (i := 12) rfl)) (inB30 _ (List.mem_of_getElem? (i := 13) rfl)) (inB1 _ (List.mem_of_getElem? (i := 19) rfl)) (inB30 _ (List.mem_of_getElem? (i := 14) rfl))
theorem gB_X11_327 (T0 : Cond) : GoodIn (T0 :: BIG) (wsV RX11 327 RX2 yX2_all wsX2_all) := gBV (inB49 _ (List.mem_of_getElem? (i := 23) rfl)) (inB50 _ (List.mem_of_getElem? (i := 0) rfl)) (inB50 _ (List.mem_of_getElem? (i := 1) rfl)) (inB2 _ (List.mem_of_getElem? (i := 3) rfl)) (inB50 _ (List.mem_of_getElem? (i := 2) rfl))
theorem gB_X11_330 (T0 : Cond) : GoodIn (T0 :: BIG) (wsV RX11 330 RX9 yX9_atHome wsX9_atHome) := gBV (inB29 _ (List.mem_of_getElem? (i := 16) rfl)) (inB29 _ (List.mem_of_getElem? (i := 17) rfl)) (inB29 _ (List.mem_of_getElem? (i := 18) rfl)) (inB2 _ (List.mem_of_getElem? (i := 13) rfl)) (inB29 _ (List.mem_of_getElem? (i := 19) rfl))
theorem gB_X11_333 (T0 : Cond) : GoodIn (T0 :: BIG) (wsV RX11 333 RX9 yX9_sand wsX9_sand) := gBV (inB29 _ (List.mem_of_getElem? (i := 11) rfl)) (inB29 _ (List.mem_of_getElem? (i := 12) rfl)) (inB29 _ (List.mem_of_getElem? (i := 13) rfl)) (inB2 _ (List.mem_of_getElem? (i := 13) rfl)) (inB29 _ (List.mem_of_getElem? (i := 14) rfl))
theorem eB_X11_156 (T0 : Cond) : aF (T0 :: BIG) RX11 156 9 2 := ⟨RX9, TX9, 9, rfl, fun w h => List.mem_cons_of_mem _ (inBX9 w h), by decide, List.mem_cons_of_mem _ (inB21 _ (List.mem_of_getElem? (i := 5) rfl))⟩
theorem gB_X11_282 (T0 : Cond) : GoodIn (T0 :: BIG) (wsV RX11 282 RX9 yX9_copy wsX9_copy) := gBV (inB41 _ (List.mem_of_getElem? (i := 14) rfl)) (inB27 _ (List.mem_of_getElem? (i := 23) rfl)) (inB28 _ (List.mem_of_getElem? (i := 0) rfl)) (inB2 _ (List.mem_of_getElem? (i := 13) rfl)) (inB28 _ (List.mem_of_getElem? (i := 1) rfl))
theorem gB_X11_309 (T0 : Cond) : GoodIn (T0 :: BIG) (wsV RX11 309 RX9 yX9_buildOn wsX9_buildOn) := gBV (inB29 _ (List.mem_of_getElem? (i := 21) rfl)) (inB29 _ (List.mem_of_getElem? (i := 22) rfl)) (inB29 _ (List.mem_of_getElem? (i := 23) rfl)) (inB2 _ (List.mem_of_getElem? (i := 13) rfl)) (inB30 _ (List.mem_of_getElem? (i := 0) rfl))
theorem gB_X11_336 (T0 : Cond) : GoodIn (T0 :: BIG) (wsV RX11 336 RX3 yX3_note wsX3_note) := gBV (inB51 _ (List.mem_of_getElem? (i := 3) rfl)) (inB51 _ (List.mem_of_getElem? (i := 4) rfl)) (inB51 _ (List.mem_of_getElem? (i := 5) rfl)) (inB3 _ (List.mem_of_getElem? (i := 1) rfl)) (inB51 _ (List.mem_of_getElem? (i := 6) rfl))
theorem eB_X11_339 (T0 : Cond) : aF (T0 :: BIG) RX11 339 3 1 := ⟨RX3, TX3, 7, rfl, fun w h => List.mem_cons_of_mem _ (inBX3 w h), by decide, List.mem_cons_of_mem _ (inB51 _ (List.mem_of_getElem? (i := 16) rfl))⟩
theorem gB_X11_340 (T0 : Cond) : GoodIn (T0 :: BIG) (wsV RX11 340 RX3 yX3_begin wsX3_begin) := gBV (inB52 _ (List.mem_of_getElem? (i := 1) rfl)) (inB52 _ (List.mem_of_getElem? (i := 2) rfl)) (inB52 _ (List.mem_of_getElem? (i := 3) rfl)) (inB3 _ (List.mem_of_getElem? (i := 1) rfl)) (inB52 _ (List.mem_of_getElem? (i := 4) rfl))
theorem gB_X11_343 (T0 : Cond) : GoodIn (T0 :: BIG) (wsV RX11 343 RX3 yX3_fitting wsX3_fitting) := gBV (inB52 _ (List.mem_of_getElem? (i := 8) rfl)) (inB52 _ (List.mem_of_getElem? (i := 9) rfl)) (inB52 _ (List.mem_of_getElem? (i := 10) rfl)) (inB3 _ (List.mem_of_getElem? (i := 1) rfl)) (inB52 _ (List.mem_of_getElem? (i := 11) rfl))
theorem gB_X11_346 (T0 : Cond) : GoodIn (T0 :: BIG) (wsV RX11 346 RX3 yX3_tellLeast wsX3_tellLeast) := gBV (inB52 _ (List.mem_of_getElem? (i := 21) rfl)) (inB52 _ (List.mem_of_getElem? (i := 22) rfl)) (inB52 _ (List.mem_of_getElem? (i := 23) rfl)) (inB3 _ (List.mem_of_getElem? (i := 1) rfl)) (inB53 _ (List.mem_of_getElem? (i := 0) rfl))
theorem gB_X11_350 (T0 : Cond) : GoodIn (T0 :: BIG) (wsV RX11 350 RX3 yX3_cellsOf wsX3_cellsOf) := gBV (inB54 _ (List.mem_of_getElem? (i := 9) rfl)) (inB54 _ (List.mem_of_getElem? (i := 10) rfl)) (inB54 _ (List.mem_of_getElem? (i := 11) rfl)) (inB3 _ (List.mem_of_getElem? (i := 1) rfl)) (inB54 _ (List.mem_of_getElem? (i := 12) rfl))
theorem gB_X11_177 (T0 : Cond) : GoodIn (T0 :: BIG) (wsV RX11 177 RX2 yX2_has wsX2_has) := gBV (inB23 _ (List.mem_of_getElem? (i := 18) rfl)) (inB23 _ (List.mem_of_getElem? (i := 19) rfl)) (inB23 _ (List.mem_of_getElem? (i := 20) rfl)) (inB2 _ (List.mem_of_getElem? (i := 3) rfl)) (inB23 _ (List.mem_of_getElem? (i := 21) rfl))
theorem eB_X11_106 (T0 : Cond) : aF (T0 :: BIG) RX11 106 11 16 := ⟨RX11, TX11, 17, rfl, fun w h => List.mem_cons_of_mem _ (inBX11 w h), by decide, List.mem_cons_of_mem _ (inB3 _ (List.mem_of_getElem? (i := 14) rfl))⟩
theorem gB_X11_367 (T0 : Cond) : GoodIn (T0 :: BIG) (wsV RX11 367 RX0 yX0_atRest wsX0_atRest) := gBV (inB56 _ (List.mem_of_getElem? (i := 10) rfl)) (inB56 _ (List.mem_of_getElem? (i := 11) rfl)) (inB56 _ (List.mem_of_getElem? (i := 12) rfl)) (inB3 _ (List.mem_of_getElem? (i := 13) rfl)) (inB56 _ (List.mem_of_getElem? (i := 13) rfl))
theorem gB_X11_363 (T0 : Cond) : GoodIn (T0 :: BIG) (wsV RX11 363 RX0 yX0_weigh wsX0_weigh) := gBV (inB56 _ (List.mem_of_getElem? (i := 2) rfl)) (inB56 _ (List.mem_of_getElem? (i := 3) rfl)) (inB56 _ (List.mem_of_getElem? (i := 4) rfl)) (inB3 _ (List.mem_of_getElem? (i := 13) rfl)) (inB56 _ (List.mem_of_getElem? (i := 5) rfl))
theorem eB_X11_70 (T0 : Cond) : aF (T0 :: BIG) RX11 70 11 11 := ⟨RX11, TX11, 17, rfl, fun w h => List.mem_cons_of_mem _ (inBX11 w h), by decide, List.mem_cons_of_mem _ (inB2 _ (List.mem_of_getElem? (i := 20) rfl))⟩
theorem eB_X11_380 (T0 : Cond) : aF (T0 :: BIG) RX11 380 9 8 := ⟨RX9, TX9, 9, rfl, fun w h => List.mem_cons_of_mem _ (inBX9 w h), by decide, List.mem_cons_of_mem _ (inB31 _ (List.mem_of_getElem? (i := 8) rfl))⟩
theorem eB_X11_159 (T0 : Cond) : aF (T0 :: BIG) RX11 159 9 6 := ⟨RX9, TX9, 9, rfl, fun w h => List.mem_cons_of_mem _ (inBX9 w h), by decide, List.mem_cons_of_mem _ (inB21 _ (List.mem_of_getElem? (i := 6) rfl))⟩
theorem eB_X11_383 (T0 : Cond) : aF (T0 :: BIG) RX11 383 4 2 := ⟨RX4, TX4, 3, rfl, fun w h => List.mem_cons_of_mem _ (inBX4 w h), by decide, List.mem_cons_of_mem _ (inB58 _ (List.mem_of_getElem? (i := 22) rfl))⟩
theorem eB_X11_384 (T0 : Cond) : aF (T0 :: BIG) RX11 384 8 1 := ⟨RX8, TX8, 2, rfl, fun w h => List.mem_cons_of_mem _ (inBX8 w h), by decide, List.mem_cons_of_mem _ (inB58 _ (List.mem_of_getElem? (i := 23) rfl))⟩
theorem gB_X11_421 (T0 : Cond) : GoodIn (T0 :: BIG) (va_wsS RX11 421 yX11_isDigit wsX11_isDigit) := gBS (inB39 _ (List.mem_of_getElem? (i := 15) rfl)) (inB10 _ (List.mem_of_getElem? (i := 17) rfl)) (inB1 _ (List.mem_of_getElem? (i := 2) rfl)) (inB10 _ (List.mem_of_getElem? (i := 18) rfl))
theorem eB_X11_240 (T0 : Cond) : aF (T0 :: BIG) RX11 240 10 0 := ⟨RX10, TX10, 2, rfl, fun w h => List.mem_cons_of_mem _ (inBX10 w h), by decide, List.mem_cons_of_mem _ (inB39 _ (List.mem_of_getElem? (i := 4) rfl))⟩
theorem gB_X11_424 (T0 : Cond) : GoodIn (T0 :: BIG) (wsV RX11 424 RX6 yX6_value wsX6_value) := gBV (inB31 _ (List.mem_of_getElem? (i := 9) rfl)) (inB31 _ (List.mem_of_getElem? (i := 10) rfl)) (inB31 _ (List.mem_of_getElem? (i := 11) rfl)) (inB2 _ (List.mem_of_getElem? (i := 7) rfl)) (inB31 _ (List.mem_of_getElem? (i := 12) rfl))
theorem gB_X11_272 (T0 : Cond) : GoodIn (T0 :: BIG) (wsV RX11 272 RX11 yX11_heightOf wsX11_heightOf) := gBV (inB31 _ (List.mem_of_getElem? (i := 4) rfl)) (inB31 _ (List.mem_of_getElem? (i := 5) rfl)) (inB31 _ (List.mem_of_getElem? (i := 6) rfl)) (inB1 _ (List.mem_of_getElem? (i := 2) rfl)) (inB31 _ (List.mem_of_getElem? (i := 7) rfl))
theorem gB_X11_285 (T0 : Cond) : GoodIn (T0 :: BIG) (wsV RX11 285 RX9 yX9_surge wsX9_surge) := gBV (inB31 _ (List.mem_of_getElem? (i := 19) rfl)) (inB31 _ (List.mem_of_getElem? (i := 20) rfl)) (inB31 _ (List.mem_of_getElem? (i := 21) rfl)) (inB2 _ (List.mem_of_getElem? (i := 13) rfl)) (inB31 _ (List.mem_of_getElem? (i := 22) rfl))
theorem gB_X11_198 (T0 : Cond) : GoodIn (T0 :: BIG) (wsV RX11 198 RX9 yX9_buckets wsX9_buckets) := gBV (inB23 _ (List.mem_of_getElem? (i := 22) rfl)) (inB23 _ (List.mem_of_getElem? (i := 23) rfl)) (inB24 _ (List.mem_of_getElem? (i := 0) rfl)) (inB2 _ (List.mem_of_getElem? (i := 13) rfl)) (inB24 _ (List.mem_of_getElem? (i := 1) rfl))
theorem gB_X11_374 (T0 : Cond) : GoodIn (T0 :: BIG) (wsV RX11 374 RX0 yX0_draw wsX0_draw) := gBV (inB57 _ (List.mem_of_getElem? (i := 5) rfl)) (inB57 _ (List.mem_of_getElem? (i := 6) rfl)) (inB57 _ (List.mem_of_getElem? (i := 7) rfl)) (inB3 _ (List.mem_of_getElem? (i := 13) rfl)) (inB57 _ (List.mem_of_getElem? (i := 8) rfl))
theorem eB_X11_195 (T0 : Cond) : aF (T0 :: BIG) RX11 195 9 5 := ⟨RX9, TX9, 9, rfl, fun w h => List.mem_cons_of_mem _ (inBX9 w h), by decide, List.mem_cons_of_mem _ (inB23 _ (List.mem_of_getElem? (i := 17) rfl))⟩
theorem gB_X11_221 (T0 : Cond) : GoodIn (T0 :: BIG) (va_wsS RX11 221 yX11_narrowed wsX11_narrowed) := gBS (inB26 _ (List.mem_of_getElem? (i := 17) rfl)) (inB26 _ (List.mem_of_getElem? (i := 18) rfl)) (inB1 _ (List.mem_of_getElem? (i := 2) rfl)) (inB26 _ (List.mem_of_getElem? (i := 19) rfl))
theorem gB_X11_225 (T0 : Cond) : GoodIn (T0 :: BIG) (va_wsS RX11 225 yX11_clamp wsX11_clamp) := gBS (inB26 _ (List.mem_of_getElem? (i := 20) rfl)) (inB26 _ (List.mem_of_getElem? (i := 21) rfl)) (inB1 _ (List.mem_of_getElem? (i := 2) rfl)) (inB26 _ (List.mem_of_getElem? (i := 22) rfl))
theorem gB_X11_276 (T0 : Cond) : GoodIn (T0 :: BIG) (wsV RX11 276 RX9 yX9_below wsX9_below) := gBV (inB41 _ (List.mem_of_getElem? (i := 2) rfl)) (inB41 _ (List.mem_of_getElem? (i := 3) rfl)) (inB41 _ (List.mem_of_getElem? (i := 4) rfl)) (inB2 _ (List.mem_of_getElem? (i := 13) rfl)) (inB41 _ (List.mem_of_getElem? (i := 5) rfl))
theorem gB_X11_288 (T0 : Cond) : GoodIn (T0 :: BIG) (wsV RX11 288 RX11 yX11_breaksOf wsX11_breaksOf) := gBV (inB42 _ (List.mem_of_getElem? (i := 8) rfl)) (inB42 _ (List.mem_of_getElem? (i := 9) rfl)) (inB42 _ (List.mem_of_getElem? (i := 10) rfl)) (inB1 _ (List.mem_of_getElem? (i := 2) rfl)) (inB42 _ (List.mem_of_getElem? (i := 11) rfl))
theorem gB_X11_295 (T0 : Cond) : GoodIn (T0 :: BIG) (wsV RX11 295 RX9 yX9_spell wsX9_spell) := gBV (inB43 _ (List.mem_of_getElem? (i := 1) rfl)) (inB30 _ (List.mem_of_getElem? (i := 2) rfl)) (inB30 _ (List.mem_of_getElem? (i := 3) rfl)) (inB2 _ (List.mem_of_getElem? (i := 13) rfl)) (inB30 _ (List.mem_of_getElem? (i := 4) rfl))
theorem eB_X11_90 (T0 : Cond) : aF (T0 :: BIG) RX11 90 11 14 := ⟨RX11, TX11, 17, rfl, fun w h => List.mem_cons_of_mem _ (inBX11 w h), by decide, List.mem_cons_of_mem _ (inB3 _ (List.mem_of_getElem? (i := 6) rfl))⟩
theorem eB_X11_306 (T0 : Cond) : aF (T0 :: BIG) RX11 306 1 2 := ⟨RX1, TX1, 8, rfl, fun w h => List.mem_cons_of_mem _ (inBX1 w h), by decide, List.mem_cons_of_mem _ (inB44 _ (List.mem_of_getElem? (i := 16) rfl))⟩
theorem gB_X11_301 (T0 : Cond) : GoodIn (T0 :: BIG) (wsV RX11 301 RX1 yX1_find wsX1_find) := gBV (inB44 _ (List.mem_of_getElem? (i := 17) rfl)) (inB44 _ (List.mem_of_getElem? (i := 18) rfl)) (inB44 _ (List.mem_of_getElem? (i := 19) rfl)) (inB3 _ (List.mem_of_getElem? (i := 5) rfl)) (inB44 _ (List.mem_of_getElem? (i := 20) rfl))
theorem gB_X11_312 (T0 : Cond) : GoodIn (T0 :: BIG) (wsV RX11 312 RX9 yX9_lowestTop wsX9_lowestTop) := gBV (inB47 _ (List.mem_of_getElem? (i := 7) rfl)) (inB47 _ (List.mem_of_getElem? (i := 8) rfl)) (inB47 _ (List.mem_of_getElem? (i := 9) rfl)) (inB2 _ (List.mem_of_getElem? (i := 13) rfl)) (inB47 _ (List.mem_of_getElem? (i := 10) rfl))
theorem gB_X11_324 (T0 : Cond) : GoodIn (T0 :: BIG) (wsV RX11 324 RX9 yX9_bucketsTogether wsX9_bucketsTogether) := gBV (inB49 _ (List.mem_of_getElem? (i := 7) rfl)) (inB49 _ (List.mem_of_getElem? (i := 8) rfl)) (inB49 _ (List.mem_of_getElem? (i := 9) rfl)) (inB2 _ (List.mem_of_getElem? (i := 13) rfl)) (inB49 _ (List.mem_of_getElem? (i := 10) rfl))
theorem gB_X11_321 (T0 : Cond) : GoodIn (T0 :: BIG) (wsV RX11 321 RX11 yX11_bestForSpade wsX11_bestForSpade) := gBV (inB49 _ (List.mem_of_getElem? (i := 3) rfl)) (inB49 _ (List.mem_of_getElem? (i := 4) rfl)) (inB49 _ (List.mem_of_getElem? (i := 5) rfl)) (inB1 _ (List.mem_of_getElem? (i := 2) rfl)) (inB49 _ (List.mem_of_getElem? (i := 6) rfl))
theorem gB_X11_359 (T0 : Cond) : GoodIn (T0 :: BIG) (va_wsS RX11 359 yX11_divisor wsX11_divisor) := gBS (inB55 _ (List.mem_of_getElem? (i := 7) rfl)) (inB55 _ (List.mem_of_getElem? (i := 8) rfl)) (inB1 _ (List.mem_of_getElem? (i := 2) rfl)) (inB55 _ (List.mem_of_getElem? (i := 9) rfl))
theorem kB_X11_357 (T0 : Cond) : Cond.constantLong RX11 357 (10 : Int64) ∈ T0 :: BIG := List.mem_cons_of_mem _ (inB54 _ (List.mem_of_getElem? (i := 21) rfl))
theorem gB_X11_353 (T0 : Cond) : GoodIn (T0 :: BIG) (wsV RX11 353 RX0 yX0_longRains wsX0_longRains) := gBV (inB54 _ (List.mem_of_getElem? (i := 22) rfl)) (inB54 _ (List.mem_of_getElem? (i := 23) rfl)) (inB55 _ (List.mem_of_getElem? (i := 0) rfl)) (inB3 _ (List.mem_of_getElem? (i := 13) rfl)) (inB55 _ (List.mem_of_getElem? (i := 1) rfl))
theorem gB_X11_377 (T0 : Cond) : GoodIn (T0 :: BIG) (wsV RX11 377 RX11 yX11_sendDrawn wsX11_sendDrawn) := gBV (inB57 _ (List.mem_of_getElem? (i := 11) rfl)) (inB57 _ (List.mem_of_getElem? (i := 12) rfl)) (inB57 _ (List.mem_of_getElem? (i := 13) rfl)) (inB1 _ (List.mem_of_getElem? (i := 2) rfl)) (inB57 _ (List.mem_of_getElem? (i := 14) rfl))
theorem eB_X11_371 (T0 : Cond) : aF (T0 :: BIG) RX11 371 0 0 := ⟨RX0, TX0, 3, rfl, fun w h => List.mem_cons_of_mem _ (inBX0 w h), by decide, List.mem_cons_of_mem _ (inB57 _ (List.mem_of_getElem? (i := 4) rfl))⟩
theorem gB_X11_418 (T0 : Cond) : GoodIn (T0 :: BIG) (va_wsS RX11 418 yX11_wordFits wsX11_wordFits) := gBS (inB39 _ (List.mem_of_getElem? (i := 12) rfl)) (inB39 _ (List.mem_of_getElem? (i := 13) rfl)) (inB1 _ (List.mem_of_getElem? (i := 2) rfl)) (inB39 _ (List.mem_of_getElem? (i := 14) rfl))
theorem gB_X11_244 (T0 : Cond) : GoodIn (T0 :: BIG) (va_wsS RX11 244 yX11_wordsOf wsX11_wordsOf) := gBS (inB39 _ (List.mem_of_getElem? (i := 9) rfl)) (inB39 _ (List.mem_of_getElem? (i := 10) rfl)) (inB1 _ (List.mem_of_getElem? (i := 2) rfl)) (inB39 _ (List.mem_of_getElem? (i := 11) rfl))
theorem gB_X11_406 (T0 : Cond) : GoodIn (T0 :: BIG) (wsV RX11 406 RX11 yX11_buildAndTell wsX11_buildAndTell) := gBV (inB29 _ (List.mem_of_getElem? (i := 7) rfl)) (inB29 _ (List.mem_of_getElem? (i := 8) rfl)) (inB29 _ (List.mem_of_getElem? (i := 9) rfl)) (inB1 _ (List.mem_of_getElem? (i := 2) rfl)) (inB29 _ (List.mem_of_getElem? (i := 10) rfl))
theorem gB_X11_391 (T0 : Cond) : GoodIn (T0 :: BIG) (wsV RX11 391 RX9 yX9_send wsX9_send) := gBV (inB28 _ (List.mem_of_getElem? (i := 7) rfl)) (inB28 _ (List.mem_of_getElem? (i := 8) rfl)) (inB28 _ (List.mem_of_getElem? (i := 9) rfl)) (inB2 _ (List.mem_of_getElem? (i := 13) rfl)) (inB28 _ (List.mem_of_getElem? (i := 10) rfl))
theorem gB_X11_394 (T0 : Cond) : GoodIn (T0 :: BIG) (wsV RX11 394 RX9 yX9_sendHome wsX9_sendHome) := gBV (inB28 _ (List.mem_of_getElem? (i := 13) rfl)) (inB28 _ (List.mem_of_getElem? (i := 14) rfl)) (inB28 _ (List.mem_of_getElem? (i := 15) rfl)) (inB2 _ (List.mem_of_getElem? (i := 13) rfl)) (inB28 _ (List.mem_of_getElem? (i := 16) rfl))
theorem gB_X11_403 (T0 : Cond) : GoodIn (T0 :: BIG) (wsV RX11 403 RX9 yX9_dig wsX9_dig) := gBV (inB29 _ (List.mem_of_getElem? (i := 3) rfl)) (inB29 _ (List.mem_of_getElem? (i := 4) rfl)) (inB29 _ (List.mem_of_getElem? (i := 5) rfl)) (inB2 _ (List.mem_of_getElem? (i := 13) rfl)) (inB29 _ (List.mem_of_getElem? (i := 6) rfl))
theorem gB_X11_412 (T0 : Cond) : GoodIn (T0 :: BIG) (wsV RX11 412 RX9 yX9_drain wsX9_drain) := gBV (inB32 _ (List.mem_of_getElem? (i := 11) rfl)) (inB32 _ (List.mem_of_getElem? (i := 12) rfl)) (inB32 _ (List.mem_of_getElem? (i := 13) rfl)) (inB2 _ (List.mem_of_getElem? (i := 13) rfl)) (inB32 _ (List.mem_of_getElem? (i := 14) rfl))
theorem gB_X11_397 (T0 : Cond) : GoodIn (T0 :: BIG) (wsV RX11 397 RX9 yX9_passSpade wsX9_passSpade) := gBV (inB28 _ (List.mem_of_getElem? (i := 17) rfl)) (inB28 _ (List.mem_of_getElem? (i := 18) rfl)) (inB28 _ (List.mem_of_getElem? (i := 19) rfl)) (inB2 _ (List.mem_of_getElem? (i := 13) rfl)) (inB28 _ (List.mem_of_getElem? (i := 20) rfl))
theorem gB_X11_400 (T0 : Cond) : GoodIn (T0 :: BIG) (wsV RX11 400 RX9 yX9_cheer wsX9_cheer) := gBV (inB28 _ (List.mem_of_getElem? (i := 22) rfl)) (inB28 _ (List.mem_of_getElem? (i := 23) rfl)) (inB29 _ (List.mem_of_getElem? (i := 0) rfl)) (inB2 _ (List.mem_of_getElem? (i := 13) rfl)) (inB29 _ (List.mem_of_getElem? (i := 1) rfl))
theorem gB_X11_409 (T0 : Cond) : GoodIn (T0 :: BIG) (wsV RX11 409 RX11 yX11_surgeAndTell wsX11_surgeAndTell) := gBV (inB30 _ (List.mem_of_getElem? (i := 20) rfl)) (inB30 _ (List.mem_of_getElem? (i := 21) rfl)) (inB30 _ (List.mem_of_getElem? (i := 22) rfl)) (inB1 _ (List.mem_of_getElem? (i := 2) rfl)) (inB30 _ (List.mem_of_getElem? (i := 23) rfl))
theorem gB_X11_258 (T0 : Cond) : GoodIn (T0 :: BIG) (wsV RX11 258 RX4 yX4_keepMarked wsX4_keepMarked) := gBV (inB32 _ (List.mem_of_getElem? (i := 19) rfl)) (inB32 _ (List.mem_of_getElem? (i := 20) rfl)) (inB32 _ (List.mem_of_getElem? (i := 21) rfl)) (inB2 _ (List.mem_of_getElem? (i := 18) rfl)) (inB32 _ (List.mem_of_getElem? (i := 22) rfl))
theorem gB_X11_250 (T0 : Cond) : GoodIn (T0 :: BIG) (wsV RX11 250 RX11 yX11_perform wsX11_perform) := gBV (inB28 _ (List.mem_of_getElem? (i := 3) rfl)) (inB28 _ (List.mem_of_getElem? (i := 4) rfl)) (inB28 _ (List.mem_of_getElem? (i := 5) rfl)) (inB1 _ (List.mem_of_getElem? (i := 2) rfl)) (inB28 _ (List.mem_of_getElem? (i := 6) rfl))
theorem gB_X11_247 (T0 : Cond) : GoodIn (T0 :: BIG) (wsV RX11 247 RX11 yX11_wordAt wsX11_wordAt) := gBV (inB39 _ (List.mem_of_getElem? (i := 16) rfl)) (inB39 _ (List.mem_of_getElem? (i := 17) rfl)) (inB39 _ (List.mem_of_getElem? (i := 18) rfl)) (inB1 _ (List.mem_of_getElem? (i := 2) rfl)) (inB39 _ (List.mem_of_getElem? (i := 19) rfl))
theorem gB_X11_232 (T0 : Cond) : GoodIn (T0 :: BIG) (wsV RX11 232 RX11 yX11_faultOfTale wsX11_faultOfTale) := gBV (inB39 _ (List.mem_of_getElem? (i := 5) rfl)) (inB39 _ (List.mem_of_getElem? (i := 6) rfl)) (inB39 _ (List.mem_of_getElem? (i := 7) rfl)) (inB1 _ (List.mem_of_getElem? (i := 2) rfl)) (inB39 _ (List.mem_of_getElem? (i := 8) rfl))
theorem gB_X11_236 (T0 : Cond) : GoodIn (T0 :: BIG) (wsV RX11 236 RX4 yX4_mark wsX4_mark) := gBV (inB27 _ (List.mem_of_getElem? (i := 17) rfl)) (inB27 _ (List.mem_of_getElem? (i := 18) rfl)) (inB27 _ (List.mem_of_getElem? (i := 19) rfl)) (inB2 _ (List.mem_of_getElem? (i := 18) rfl)) (inB27 _ (List.mem_of_getElem? (i := 20) rfl))
theorem gB_X11_228 (T0 : Cond) : GoodIn (T0 :: BIG) (wsV RX11 228 RX11 yX11_act wsX11_act) := gBV (inB27 _ (List.mem_of_getElem? (i := 13) rfl)) (inB27 _ (List.mem_of_getElem? (i := 14) rfl)) (inB27 _ (List.mem_of_getElem? (i := 15) rfl)) (inB1 _ (List.mem_of_getElem? (i := 2) rfl)) (inB27 _ (List.mem_of_getElem? (i := 16) rfl))
theorem eB_X12_112 (T0 : Cond) : aF (T0 :: BIG) RX12 112 12 0 := ⟨RX12, TX12, 53, rfl, fun w h => List.mem_cons_of_mem _ (inBX12 w h), by decide, List.mem_cons_of_mem _ (inB9 _ (List.mem_of_getElem? (i := 12) rfl))⟩
theorem gB_X12_115 (T0 : Cond) : GoodIn (T0 :: BIG) (va_wsS RX12 115 yX12_common wsX12_common) := gBS (inB55 _ (List.mem_of_getElem? (i := 19) rfl)) (inB55 _ (List.mem_of_getElem? (i := 20) rfl)) (inB1 _ (List.mem_of_getElem? (i := 5) rfl)) (inB55 _ (List.mem_of_getElem? (i := 21) rfl))
theorem eB_X12_9 (T0 : Cond) : aF (T0 :: BIG) RX12 9 12 2 := ⟨RX12, TX12, 53, rfl, fun w h => List.mem_cons_of_mem _ (inBX12 w h), by decide, List.mem_cons_of_mem _ (inB7 _ (List.mem_of_getElem? (i := 12) rfl))⟩
theorem eB_X12_119 (T0 : Cond) : aF (T0 :: BIG) RX12 119 12 1 := ⟨RX12, TX12, 53, rfl, fun w h => List.mem_cons_of_mem _ (inBX12 w h), by decide, List.mem_cons_of_mem _ (inB36 _ (List.mem_of_getElem? (i := 6) rfl))⟩
theorem eB_X12_13 (T0 : Cond) : aF (T0 :: BIG) RX12 13 12 3 := ⟨RX12, TX12, 53, rfl, fun w h => List.mem_cons_of_mem _ (inBX12 w h), by decide, List.mem_cons_of_mem _ (inB7 _ (List.mem_of_getElem? (i := 13) rfl))⟩
theorem gB_X12_122 (T0 : Cond) : GoodIn (T0 :: BIG) (va_wsS RX12 122 yX12_in wsX12_in) := gBS (inB10 _ (List.mem_of_getElem? (i := 2) rfl)) (inB10 _ (List.mem_of_getElem? (i := 3) rfl)) (inB1 _ (List.mem_of_getElem? (i := 5) rfl)) (inB10 _ (List.mem_of_getElem? (i := 4) rfl))
theorem eB_X12_126 (T0 : Cond) : aF (T0 :: BIG) RX12 126 12 4 := ⟨RX12, TX12, 53, rfl, fun w h => List.mem_cons_of_mem _ (inBX12 w h), by decide, List.mem_cons_of_mem _ (inB11 _ (List.mem_of_getElem? (i := 21) rfl))⟩
theorem eB_X12_17 (T0 : Cond) : aF (T0 :: BIG) RX12 17 12 6 := ⟨RX12, TX12, 53, rfl, fun w h => List.mem_cons_of_mem _ (inBX12 w h), by decide, List.mem_cons_of_mem _ (inB7 _ (List.mem_of_getElem? (i := 14) rfl))⟩
theorem gB_X12_129 (T0 : Cond) : GoodIn (T0 :: BIG) (va_wsS RX12 129 yX12_atOf wsX12_atOf) := gBS (inB22 _ (List.mem_of_getElem? (i := 18) rfl)) (inB22 _ (List.mem_of_getElem? (i := 19) rfl)) (inB1 _ (List.mem_of_getElem? (i := 5) rfl)) (inB22 _ (List.mem_of_getElem? (i := 20) rfl))
theorem eB_X12_133 (T0 : Cond) : aF (T0 :: BIG) RX12 133 12 15 := ⟨RX12, TX12, 53, rfl, fun w h => List.mem_cons_of_mem _ (inBX12 w h), by decide, List.mem_cons_of_mem _ (inB9 _ (List.mem_of_getElem? (i := 13) rfl))⟩
theorem eB_X12_42 (T0 : Cond) : aF (T0 :: BIG) RX12 42 12 14 := ⟨RX12, TX12, 53, rfl, fun w h => List.mem_cons_of_mem _ (inBX12 w h), by decide, List.mem_cons_of_mem _ (inB7 _ (List.mem_of_getElem? (i := 22) rfl))⟩
theorem eB_X12_136 (T0 : Cond) : aF (T0 :: BIG) RX12 136 12 16 := ⟨RX12, TX12, 53, rfl, fun w h => List.mem_cons_of_mem _ (inBX12 w h), by decide, List.mem_cons_of_mem _ (inB11 _ (List.mem_of_getElem? (i := 19) rfl))⟩
theorem eB_X12_139 (T0 : Cond) : aF (T0 :: BIG) RX12 139 12 18 := ⟨RX12, TX12, 53, rfl, fun w h => List.mem_cons_of_mem _ (inBX12 w h), by decide, List.mem_cons_of_mem _ (inB12 _ (List.mem_of_getElem? (i := 5) rfl))⟩
theorem mB_X12_142 (T0 : Cond) : ∀ w ∈ ([.methodLink RX12 142 Lib.Math.min.name, .static Lib.Math.min.name, .initialized "java/lang/Math", .code Lib.Math.min.name Lib.Math.min.code 2 (some .int)] : List Cond), w ∈ T0 :: BIG := by
  intro w h
  simp only [List.mem_cons, List.not_mem_nil, or_false] at h
  rcases h with rfl | rfl | rfl | rfl
  · exact List.mem_cons_of_mem _ (inB12 _ (List.mem_of_getElem? (i := 6) rfl))
  · exact List.mem_cons_of_mem _ (inB12 _ (List.mem_of_getElem? (i := 7) rfl))
  · exact List.mem_cons_of_mem _ (inB12 _ (List.mem_of_getElem? (i := 8) rfl))
  · exact List.mem_cons_of_mem _ (inB12 _ (List.mem_of_getElem? (i := 9) rfl))
theorem eB_X12_148 (T0 : Cond) : aF (T0 :: BIG) RX12 148 12 17 := ⟨RX12, TX12, 53, rfl, fun w h => List.mem_cons_of_mem _ (inBX12 w h), by decide, List.mem_cons_of_mem _ (inB11 _ (List.mem_of_getElem? (i := 20) rfl))⟩
theorem gB_X12_151 (T0 : Cond) : GoodIn (T0 :: BIG) (va_wsS RX12 151 yX12_flag wsX12_flag) := gBS (inB12 _ (List.mem_of_getElem? (i := 14) rfl)) (inB12 _ (List.mem_of_getElem? (i := 15) rfl)) (inB1 _ (List.mem_of_getElem? (i := 5) rfl)) (inB12 _ (List.mem_of_getElem? (i := 16) rfl))
theorem kB_X12_155 (T0 : Cond) : Cond.constantLong RX12 155 (48 : Int64) ∈ T0 :: BIG := List.mem_cons_of_mem _ (inB13 _ (List.mem_of_getElem? (i := 1) rfl))
theorem kB_X12_157 (T0 : Cond) : Cond.constantLong RX12 157 (57 : Int64) ∈ T0 :: BIG := List.mem_cons_of_mem _ (inB13 _ (List.mem_of_getElem? (i := 2) rfl))
theorem gB_X12_159 (T0 : Cond) : GoodIn (T0 :: BIG) (wsV RX12 159 RJ0 yJ0_length_8abf5 wsJ0_length_8abf5) := gBV (inB18 _ (List.mem_of_getElem? (i := 6) rfl)) (inB18 _ (List.mem_of_getElem? (i := 7) rfl)) (inB18 _ (List.mem_of_getElem? (i := 8) rfl)) (inB18 _ (List.mem_of_getElem? (i := 9) rfl)) (inB18 _ (List.mem_of_getElem? (i := 10) rfl))
theorem gB_X12_165 (T0 : Cond) : GoodIn (T0 :: BIG) (wsV RX12 165 RJ0 yJ0_charAt_5068e wsJ0_charAt_5068e) := gBV (inB18 _ (List.mem_of_getElem? (i := 18) rfl)) (inB18 _ (List.mem_of_getElem? (i := 19) rfl)) (inB18 _ (List.mem_of_getElem? (i := 20) rfl)) (inB18 _ (List.mem_of_getElem? (i := 9) rfl)) (inB18 _ (List.mem_of_getElem? (i := 21) rfl))
theorem gB_X12_169 (T0 : Cond) : GoodIn (T0 :: BIG) (wsV RX12 169 RX12 yX12_among wsX12_among) := gBV (inB18 _ (List.mem_of_getElem? (i := 2) rfl)) (inB18 _ (List.mem_of_getElem? (i := 3) rfl)) (inB18 _ (List.mem_of_getElem? (i := 4) rfl)) (inB1 _ (List.mem_of_getElem? (i := 5) rfl)) (inB18 _ (List.mem_of_getElem? (i := 5) rfl))
theorem gB_X12_173 (T0 : Cond) : GoodIn (T0 :: BIG) (wsV RX12 173 RX12 yX12_isDigit wsX12_isDigit) := gBV (inB12 _ (List.mem_of_getElem? (i := 21) rfl)) (inB12 _ (List.mem_of_getElem? (i := 22) rfl)) (inB12 _ (List.mem_of_getElem? (i := 23) rfl)) (inB1 _ (List.mem_of_getElem? (i := 5) rfl)) (inB13 _ (List.mem_of_getElem? (i := 0) rfl))
theorem gB_X12_177 (T0 : Cond) : GoodIn (T0 :: BIG) (wsV RX12 177 RX12 yX12_number wsX12_number) := gBV (inB12 _ (List.mem_of_getElem? (i := 17) rfl)) (inB12 _ (List.mem_of_getElem? (i := 18) rfl)) (inB12 _ (List.mem_of_getElem? (i := 19) rfl)) (inB1 _ (List.mem_of_getElem? (i := 5) rfl)) (inB12 _ (List.mem_of_getElem? (i := 20) rfl))
theorem eB_X12_188 (T0 : Cond) : aF (T0 :: BIG) RX12 188 12 42 := ⟨RX12, TX12, 53, rfl, fun w h => List.mem_cons_of_mem _ (inBX12 w h), by decide, List.mem_cons_of_mem _ (inB11 _ (List.mem_of_getElem? (i := 22) rfl))⟩
theorem eB_X12_191 (T0 : Cond) : aF (T0 :: BIG) RX12 191 12 27 := ⟨RX12, TX12, 53, rfl, fun w h => List.mem_cons_of_mem _ (inBX12 w h), by decide, List.mem_cons_of_mem _ (inB11 _ (List.mem_of_getElem? (i := 23) rfl))⟩
theorem eB_X12_194 (T0 : Cond) : aF (T0 :: BIG) RX12 194 12 5 := ⟨RX12, TX12, 53, rfl, fun w h => List.mem_cons_of_mem _ (inBX12 w h), by decide, List.mem_cons_of_mem _ (inB12 _ (List.mem_of_getElem? (i := 0) rfl))⟩
theorem eB_X12_36 (T0 : Cond) : aF (T0 :: BIG) RX12 36 12 12 := ⟨RX12, TX12, 53, rfl, fun w h => List.mem_cons_of_mem _ (inBX12 w h), by decide, List.mem_cons_of_mem _ (inB7 _ (List.mem_of_getElem? (i := 20) rfl))⟩
theorem eB_X12_21 (T0 : Cond) : aF (T0 :: BIG) RX12 21 12 7 := ⟨RX12, TX12, 53, rfl, fun w h => List.mem_cons_of_mem _ (inBX12 w h), by decide, List.mem_cons_of_mem _ (inB7 _ (List.mem_of_getElem? (i := 15) rfl))⟩
theorem eB_X12_45 (T0 : Cond) : aF (T0 :: BIG) RX12 45 12 19 := ⟨RX12, TX12, 53, rfl, fun w h => List.mem_cons_of_mem _ (inBX12 w h), by decide, List.mem_cons_of_mem _ (inB7 _ (List.mem_of_getElem? (i := 23) rfl))⟩
theorem gB_X12_184 (T0 : Cond) : GoodIn (T0 :: BIG) (wsV RX12 184 RX12 yX12_takes wsX12_takes) := gBV (inB12 _ (List.mem_of_getElem? (i := 10) rfl)) (inB12 _ (List.mem_of_getElem? (i := 11) rfl)) (inB12 _ (List.mem_of_getElem? (i := 12) rfl)) (inB1 _ (List.mem_of_getElem? (i := 5) rfl)) (inB12 _ (List.mem_of_getElem? (i := 13) rfl))
theorem gB_X12_181 (T0 : Cond) : GoodIn (T0 :: BIG) (wsV RX12 181 RX12 yX12_begins wsX12_begins) := gBV (inB12 _ (List.mem_of_getElem? (i := 1) rfl)) (inB12 _ (List.mem_of_getElem? (i := 2) rfl)) (inB12 _ (List.mem_of_getElem? (i := 3) rfl)) (inB1 _ (List.mem_of_getElem? (i := 5) rfl)) (inB12 _ (List.mem_of_getElem? (i := 4) rfl))
theorem eB_X12_197 (T0 : Cond) : aF (T0 :: BIG) RX12 197 12 20 := ⟨RX12, TX12, 53, rfl, fun w h => List.mem_cons_of_mem _ (inBX12 w h), by decide, List.mem_cons_of_mem _ (inB14 _ (List.mem_of_getElem? (i := 13) rfl))⟩
theorem gB_X12_200 (T0 : Cond) : GoodIn (T0 :: BIG) (wsV RX12 200 RX12 yX12_numberIn wsX12_numberIn) := gBV (inB14 _ (List.mem_of_getElem? (i := 18) rfl)) (inB14 _ (List.mem_of_getElem? (i := 19) rfl)) (inB14 _ (List.mem_of_getElem? (i := 20) rfl)) (inB1 _ (List.mem_of_getElem? (i := 5) rfl)) (inB14 _ (List.mem_of_getElem? (i := 21) rfl))
theorem gB_X12_204 (T0 : Cond) : GoodIn (T0 :: BIG) (wsV RX12 204 RX12 yX12_signIn wsX12_signIn) := gBV (inB14 _ (List.mem_of_getElem? (i := 22) rfl)) (inB14 _ (List.mem_of_getElem? (i := 23) rfl)) (inB15 _ (List.mem_of_getElem? (i := 0) rfl)) (inB1 _ (List.mem_of_getElem? (i := 5) rfl)) (inB15 _ (List.mem_of_getElem? (i := 1) rfl))
theorem eB_X12_24 (T0 : Cond) : aF (T0 :: BIG) RX12 24 12 8 := ⟨RX12, TX12, 53, rfl, fun w h => List.mem_cons_of_mem _ (inBX12 w h), by decide, List.mem_cons_of_mem _ (inB7 _ (List.mem_of_getElem? (i := 16) rfl))⟩
theorem eB_X12_27 (T0 : Cond) : aF (T0 :: BIG) RX12 27 12 9 := ⟨RX12, TX12, 53, rfl, fun w h => List.mem_cons_of_mem _ (inBX12 w h), by decide, List.mem_cons_of_mem _ (inB7 _ (List.mem_of_getElem? (i := 17) rfl))⟩
theorem eB_X12_30 (T0 : Cond) : aF (T0 :: BIG) RX12 30 12 10 := ⟨RX12, TX12, 53, rfl, fun w h => List.mem_cons_of_mem _ (inBX12 w h), by decide, List.mem_cons_of_mem _ (inB7 _ (List.mem_of_getElem? (i := 18) rfl))⟩
theorem gB_X12_210 (T0 : Cond) : GoodIn (T0 :: BIG) (wsV RX12 210 RX12 yX12_faultOf wsX12_faultOf) := gBV (inB15 _ (List.mem_of_getElem? (i := 2) rfl)) (inB15 _ (List.mem_of_getElem? (i := 3) rfl)) (inB15 _ (List.mem_of_getElem? (i := 4) rfl)) (inB1 _ (List.mem_of_getElem? (i := 5) rfl)) (inB15 _ (List.mem_of_getElem? (i := 5) rfl))
theorem gB_X12_207 (T0 : Cond) : GoodIn (T0 :: BIG) (wsV RX12 207 RX12 yX12_readsChild wsX12_readsChild) := gBV (inB14 _ (List.mem_of_getElem? (i := 14) rfl)) (inB14 _ (List.mem_of_getElem? (i := 15) rfl)) (inB14 _ (List.mem_of_getElem? (i := 16) rfl)) (inB1 _ (List.mem_of_getElem? (i := 5) rfl)) (inB14 _ (List.mem_of_getElem? (i := 17) rfl))
theorem eB_X12_51 (T0 : Cond) : aF (T0 :: BIG) RX12 51 12 22 := ⟨RX12, TX12, 53, rfl, fun w h => List.mem_cons_of_mem _ (inBX12 w h), by decide, List.mem_cons_of_mem _ (inB8 _ (List.mem_of_getElem? (i := 1) rfl))⟩
theorem eB_X12_214 (T0 : Cond) : aF (T0 :: BIG) RX12 214 12 24 := ⟨RX12, TX12, 53, rfl, fun w h => List.mem_cons_of_mem _ (inBX12 w h), by decide, List.mem_cons_of_mem _ (inB17 _ (List.mem_of_getElem? (i := 10) rfl))⟩
theorem gB_X12_226 (T0 : Cond) : GoodIn (T0 :: BIG) (wsV RX12 226 RX12 yX12_takesOf wsX12_takesOf) := gBV (inB17 _ (List.mem_of_getElem? (i := 22) rfl)) (inB17 _ (List.mem_of_getElem? (i := 23) rfl)) (inB18 _ (List.mem_of_getElem? (i := 0) rfl)) (inB1 _ (List.mem_of_getElem? (i := 5) rfl)) (inB18 _ (List.mem_of_getElem? (i := 1) rfl))
theorem gB_X12_229 (T0 : Cond) : GoodIn (T0 :: BIG) (wsV RX12 229 RX12 yX12_readsRank wsX12_readsRank) := gBV (inB17 _ (List.mem_of_getElem? (i := 15) rfl)) (inB17 _ (List.mem_of_getElem? (i := 16) rfl)) (inB17 _ (List.mem_of_getElem? (i := 17) rfl)) (inB1 _ (List.mem_of_getElem? (i := 5) rfl)) (inB17 _ (List.mem_of_getElem? (i := 18) rfl))
theorem gB_X12_220 (T0 : Cond) : GoodIn (T0 :: BIG) (wsV RX12 220 RX12 yX12_codes wsX12_codes) := gBV (inB20 _ (List.mem_of_getElem? (i := 7) rfl)) (inB20 _ (List.mem_of_getElem? (i := 8) rfl)) (inB20 _ (List.mem_of_getElem? (i := 9) rfl)) (inB1 _ (List.mem_of_getElem? (i := 5) rfl)) (inB20 _ (List.mem_of_getElem? (i := 10) rfl))
theorem gB_X12_217 (T0 : Cond) : GoodIn (T0 :: BIG) (wsV RX12 217 RX12 yX12_readsThing wsX12_readsThing) := gBV (inB17 _ (List.mem_of_getElem? (i := 19) rfl)) (inB17 _ (List.mem_of_getElem? (i := 20) rfl)) (inB17 _ (List.mem_of_getElem? (i := 21) rfl)) (inB1 _ (List.mem_of_getElem? (i := 5) rfl)) (inB20 _ (List.mem_of_getElem? (i := 11) rfl))
theorem eB_X12_48 (T0 : Cond) : aF (T0 :: BIG) RX12 48 12 21 := ⟨RX12, TX12, 53, rfl, fun w h => List.mem_cons_of_mem _ (inBX12 w h), by decide, List.mem_cons_of_mem _ (inB8 _ (List.mem_of_getElem? (i := 0) rfl))⟩
theorem eB_X12_238 (T0 : Cond) : aF (T0 :: BIG) RX12 238 12 23 := ⟨RX12, TX12, 53, rfl, fun w h => List.mem_cons_of_mem _ (inBX12 w h), by decide, List.mem_cons_of_mem _ (inB20 _ (List.mem_of_getElem? (i := 16) rfl))⟩
theorem gB_X12_241 (T0 : Cond) : GoodIn (T0 :: BIG) (wsV RX12 241 RX12 yX12_readsRule wsX12_readsRule) := gBV (inB17 _ (List.mem_of_getElem? (i := 11) rfl)) (inB17 _ (List.mem_of_getElem? (i := 12) rfl)) (inB17 _ (List.mem_of_getElem? (i := 13) rfl)) (inB1 _ (List.mem_of_getElem? (i := 5) rfl)) (inB17 _ (List.mem_of_getElem? (i := 14) rfl))
theorem gB_X12_244 (T0 : Cond) : GoodIn (T0 :: BIG) (wsV RX12 244 RX12 yX12_laysCode wsX12_laysCode) := gBV (inB20 _ (List.mem_of_getElem? (i := 12) rfl)) (inB20 _ (List.mem_of_getElem? (i := 13) rfl)) (inB20 _ (List.mem_of_getElem? (i := 14) rfl)) (inB1 _ (List.mem_of_getElem? (i := 5) rfl)) (inB20 _ (List.mem_of_getElem? (i := 15) rfl))
theorem eB_X12_54 (T0 : Cond) : aF (T0 :: BIG) RX12 54 12 25 := ⟨RX12, TX12, 53, rfl, fun w h => List.mem_cons_of_mem _ (inBX12 w h), by decide, List.mem_cons_of_mem _ (inB8 _ (List.mem_of_getElem? (i := 2) rfl))⟩
theorem eB_X12_57 (T0 : Cond) : aF (T0 :: BIG) RX12 57 12 26 := ⟨RX12, TX12, 53, rfl, fun w h => List.mem_cons_of_mem _ (inBX12 w h), by decide, List.mem_cons_of_mem _ (inB8 _ (List.mem_of_getElem? (i := 3) rfl))⟩
theorem gB_X12_248 (T0 : Cond) : GoodIn (T0 :: BIG) (va_wsS RX12 248 yX12_worked wsX12_worked) := gBS (inB38 _ (List.mem_of_getElem? (i := 0) rfl)) (inB38 _ (List.mem_of_getElem? (i := 1) rfl)) (inB1 _ (List.mem_of_getElem? (i := 5) rfl)) (inB38 _ (List.mem_of_getElem? (i := 2) rfl))
theorem eB_X12_33 (T0 : Cond) : aF (T0 :: BIG) RX12 33 12 11 := ⟨RX12, TX12, 53, rfl, fun w h => List.mem_cons_of_mem _ (inBX12 w h), by decide, List.mem_cons_of_mem _ (inB7 _ (List.mem_of_getElem? (i := 19) rfl))⟩
theorem gB_X12_251 (T0 : Cond) : GoodIn (T0 :: BIG) (va_wsS RX12 251 yJ6_bitCount_0f7a4 wsJ6_bitCount_0f7a4) := gBS (inB26 _ (List.mem_of_getElem? (i := 11) rfl)) (inB25 _ (List.mem_of_getElem? (i := 23) rfl)) (inB26 _ (List.mem_of_getElem? (i := 0) rfl)) (inB26 _ (List.mem_of_getElem? (i := 1) rfl))
theorem gB_X12_256 (T0 : Cond) : GoodIn (T0 :: BIG) (wsV RX12 256 RX12 yX12_ruled wsX12_ruled) := gBV (inB37 _ (List.mem_of_getElem? (i := 20) rfl)) (inB37 _ (List.mem_of_getElem? (i := 21) rfl)) (inB37 _ (List.mem_of_getElem? (i := 22) rfl)) (inB1 _ (List.mem_of_getElem? (i := 5) rfl)) (inB37 _ (List.mem_of_getElem? (i := 23) rfl))
theorem mB_X12_259 (T0 : Cond) : ∀ w ∈ ([.methodLink RX12 259 Lib.Math.max.name, .static Lib.Math.max.name, .initialized "java/lang/Math", .code Lib.Math.max.name Lib.Math.max.code 2 (some .int)] : List Cond), w ∈ T0 :: BIG := by
  intro w h
  simp only [List.mem_cons, List.not_mem_nil, or_false] at h
  rcases h with rfl | rfl | rfl | rfl
  · exact List.mem_cons_of_mem _ (inB27 _ (List.mem_of_getElem? (i := 8) rfl))
  · exact List.mem_cons_of_mem _ (inB27 _ (List.mem_of_getElem? (i := 1) rfl))
  · exact List.mem_cons_of_mem _ (inB12 _ (List.mem_of_getElem? (i := 8) rfl))
  · exact List.mem_cons_of_mem _ (inB27 _ (List.mem_of_getElem? (i := 2) rfl))
theorem mB_X12_262 (T0 : Cond) : ∀ w ∈ ([.methodLink RX12 262 Lib.Math.abs.name, .static Lib.Math.abs.name, .initialized "java/lang/Math", .code Lib.Math.abs.name Lib.Math.abs.code 1 (some .int)] : List Cond), w ∈ T0 :: BIG := by
  intro w h
  simp only [List.mem_cons, List.not_mem_nil, or_false] at h
  rcases h with rfl | rfl | rfl | rfl
  · exact List.mem_cons_of_mem _ (inB25 _ (List.mem_of_getElem? (i := 15) rfl))
  · exact List.mem_cons_of_mem _ (inB24 _ (List.mem_of_getElem? (i := 11) rfl))
  · exact List.mem_cons_of_mem _ (inB12 _ (List.mem_of_getElem? (i := 8) rfl))
  · exact List.mem_cons_of_mem _ (inB24 _ (List.mem_of_getElem? (i := 12) rfl))
theorem gB_X12_265 (T0 : Cond) : GoodIn (T0 :: BIG) (wsV RX12 265 RX12 yX12_areNear wsX12_areNear) := gBV (inB25 _ (List.mem_of_getElem? (i := 11) rfl)) (inB25 _ (List.mem_of_getElem? (i := 12) rfl)) (inB25 _ (List.mem_of_getElem? (i := 13) rfl)) (inB1 _ (List.mem_of_getElem? (i := 5) rfl)) (inB25 _ (List.mem_of_getElem? (i := 14) rfl))
theorem gB_X12_269 (T0 : Cond) : GoodIn (T0 :: BIG) (va_wsS RX12 269 yX12_has wsX12_has) := gBS (inB22 _ (List.mem_of_getElem? (i := 11) rfl)) (inB22 _ (List.mem_of_getElem? (i := 12) rfl)) (inB1 _ (List.mem_of_getElem? (i := 5) rfl)) (inB22 _ (List.mem_of_getElem? (i := 13) rfl))
theorem gB_X12_273 (T0 : Cond) : GoodIn (T0 :: BIG) (wsV RX12 273 RX12 yX12_hasFriend wsX12_hasFriend) := gBV (inB25 _ (List.mem_of_getElem? (i := 7) rfl)) (inB25 _ (List.mem_of_getElem? (i := 8) rfl)) (inB25 _ (List.mem_of_getElem? (i := 9) rfl)) (inB1 _ (List.mem_of_getElem? (i := 5) rfl)) (inB25 _ (List.mem_of_getElem? (i := 10) rfl))
theorem gB_X12_277 (T0 : Cond) : GoodIn (T0 :: BIG) (va_wsS RX12 277 yX12_moodOf wsX12_moodOf) := gBS (inB25 _ (List.mem_of_getElem? (i := 0) rfl)) (inB25 _ (List.mem_of_getElem? (i := 1) rfl)) (inB1 _ (List.mem_of_getElem? (i := 5) rfl)) (inB25 _ (List.mem_of_getElem? (i := 2) rfl))
theorem gB_X12_285 (T0 : Cond) : GoodIn (T0 :: BIG) (wsV RX12 285 RX12 yX12_refuse wsX12_refuse) := gBV (inB22 _ (List.mem_of_getElem? (i := 7) rfl)) (inB22 _ (List.mem_of_getElem? (i := 8) rfl)) (inB22 _ (List.mem_of_getElem? (i := 9) rfl)) (inB1 _ (List.mem_of_getElem? (i := 5) rfl)) (inB22 _ (List.mem_of_getElem? (i := 10) rfl))
theorem gB_X12_280 (T0 : Cond) : GoodIn (T0 :: BIG) (wsV RX12 280 RX12 yX12_isCell wsX12_isCell) := gBV (inB22 _ (List.mem_of_getElem? (i := 3) rfl)) (inB22 _ (List.mem_of_getElem? (i := 4) rfl)) (inB22 _ (List.mem_of_getElem? (i := 5) rfl)) (inB1 _ (List.mem_of_getElem? (i := 5) rfl)) (inB22 _ (List.mem_of_getElem? (i := 6) rfl))
theorem kB_X12_283 (T0 : Cond) : Cond.constantLong RX12 283 (6 : Int64) ∈ T0 :: BIG := List.mem_cons_of_mem _ (inB22 _ (List.mem_of_getElem? (i := 2) rfl))
theorem gB_X12_288 (T0 : Cond) : GoodIn (T0 :: BIG) (wsV RX12 288 RX12 yX12_childrenAt wsX12_childrenAt) := gBV (inB22 _ (List.mem_of_getElem? (i := 14) rfl)) (inB22 _ (List.mem_of_getElem? (i := 15) rfl)) (inB22 _ (List.mem_of_getElem? (i := 16) rfl)) (inB1 _ (List.mem_of_getElem? (i := 5) rfl)) (inB22 _ (List.mem_of_getElem? (i := 17) rfl))
theorem gB_X12_291 (T0 : Cond) : GoodIn (T0 :: BIG) (wsV RX12 291 RX12 yX12_topOf wsX12_topOf) := gBV (inB22 _ (List.mem_of_getElem? (i := 21) rfl)) (inB22 _ (List.mem_of_getElem? (i := 22) rfl)) (inB22 _ (List.mem_of_getElem? (i := 23) rfl)) (inB1 _ (List.mem_of_getElem? (i := 5) rfl)) (inB23 _ (List.mem_of_getElem? (i := 0) rfl))
theorem gB_X12_294 (T0 : Cond) : GoodIn (T0 :: BIG) (wsV RX12 294 RX12 yX12_isChild wsX12_isChild) := gBV (inB24 _ (List.mem_of_getElem? (i := 20) rfl)) (inB24 _ (List.mem_of_getElem? (i := 21) rfl)) (inB24 _ (List.mem_of_getElem? (i := 22) rfl)) (inB1 _ (List.mem_of_getElem? (i := 5) rfl)) (inB24 _ (List.mem_of_getElem? (i := 23) rfl))
theorem gB_X12_297 (T0 : Cond) : GoodIn (T0 :: BIG) (wsV RX12 297 RX12 yX12_bucketsOf wsX12_bucketsOf) := gBV (inB25 _ (List.mem_of_getElem? (i := 3) rfl)) (inB25 _ (List.mem_of_getElem? (i := 4) rfl)) (inB25 _ (List.mem_of_getElem? (i := 5) rfl)) (inB1 _ (List.mem_of_getElem? (i := 5) rfl)) (inB25 _ (List.mem_of_getElem? (i := 6) rfl))
theorem kB_X12_302 (T0 : Cond) : Cond.constantLong RX12 302 (9 : Int64) ∈ T0 :: BIG := List.mem_cons_of_mem _ (inB26 _ (List.mem_of_getElem? (i := 10) rfl))
theorem kB_X12_300 (T0 : Cond) : Cond.constantLong RX12 300 (8 : Int64) ∈ T0 :: BIG := List.mem_cons_of_mem _ (inB26 _ (List.mem_of_getElem? (i := 9) rfl))
theorem kB_X12_304 (T0 : Cond) : Cond.constantLong RX12 304 (3 : Int64) ∈ T0 :: BIG := List.mem_cons_of_mem _ (inB27 _ (List.mem_of_getElem? (i := 7) rfl))
theorem eB_X12_60 (T0 : Cond) : aF (T0 :: BIG) RX12 60 12 28 := ⟨RX12, TX12, 53, rfl, fun w h => List.mem_cons_of_mem _ (inBX12 w h), by decide, List.mem_cons_of_mem _ (inB8 _ (List.mem_of_getElem? (i := 4) rfl))⟩
theorem gB_X12_306 (T0 : Cond) : GoodIn (T0 :: BIG) (wsV RX12 306 RX12 yX12_adds wsX12_adds) := gBV (inB33 _ (List.mem_of_getElem? (i := 16) rfl)) (inB33 _ (List.mem_of_getElem? (i := 17) rfl)) (inB33 _ (List.mem_of_getElem? (i := 18) rfl)) (inB1 _ (List.mem_of_getElem? (i := 5) rfl)) (inB33 _ (List.mem_of_getElem? (i := 19) rfl))
theorem eB_X12_309 (T0 : Cond) : aF (T0 :: BIG) RX12 309 12 29 := ⟨RX12, TX12, 53, rfl, fun w h => List.mem_cons_of_mem _ (inBX12 w h), by decide, List.mem_cons_of_mem _ (inB36 _ (List.mem_of_getElem? (i := 5) rfl))⟩
theorem eB_X12_63 (T0 : Cond) : aF (T0 :: BIG) RX12 63 12 30 := ⟨RX12, TX12, 53, rfl, fun w h => List.mem_cons_of_mem _ (inBX12 w h), by decide, List.mem_cons_of_mem _ (inB8 _ (List.mem_of_getElem? (i := 5) rfl))⟩
theorem gB_X12_312 (T0 : Cond) : GoodIn (T0 :: BIG) (wsV RX12 312 RX12 yX12_spellGoes wsX12_spellGoes) := gBV (inB36 _ (List.mem_of_getElem? (i := 15) rfl)) (inB36 _ (List.mem_of_getElem? (i := 16) rfl)) (inB36 _ (List.mem_of_getElem? (i := 17) rfl)) (inB1 _ (List.mem_of_getElem? (i := 5) rfl)) (inB36 _ (List.mem_of_getElem? (i := 18) rfl))
theorem gB_X12_325 (T0 : Cond) : GoodIn (T0 :: BIG) (wsV RX12 325 RX12 yX12_waterGoes wsX12_waterGoes) := gBV (inB38 _ (List.mem_of_getElem? (i := 7) rfl)) (inB38 _ (List.mem_of_getElem? (i := 8) rfl)) (inB38 _ (List.mem_of_getElem? (i := 9) rfl)) (inB1 _ (List.mem_of_getElem? (i := 5) rfl)) (inB38 _ (List.mem_of_getElem? (i := 10) rfl))
theorem eB_X12_319 (T0 : Cond) : aF (T0 :: BIG) RX12 319 12 31 := ⟨RX12, TX12, 53, rfl, fun w h => List.mem_cons_of_mem _ (inBX12 w h), by decide, List.mem_cons_of_mem _ (inB37 _ (List.mem_of_getElem? (i := 7) rfl))⟩
theorem gB_X12_316 (T0 : Cond) : GoodIn (T0 :: BIG) (wsV RX12 316 RX12 yX12_levelOf wsX12_levelOf) := gBV (inB37 _ (List.mem_of_getElem? (i := 16) rfl)) (inB37 _ (List.mem_of_getElem? (i := 17) rfl)) (inB37 _ (List.mem_of_getElem? (i := 18) rfl)) (inB1 _ (List.mem_of_getElem? (i := 5) rfl)) (inB37 _ (List.mem_of_getElem? (i := 19) rfl))
theorem gB_X12_322 (T0 : Cond) : GoodIn (T0 :: BIG) (wsV RX12 322 RX12 yX12_lowBy wsX12_lowBy) := gBV (inB38 _ (List.mem_of_getElem? (i := 3) rfl)) (inB38 _ (List.mem_of_getElem? (i := 4) rfl)) (inB38 _ (List.mem_of_getElem? (i := 5) rfl)) (inB1 _ (List.mem_of_getElem? (i := 5) rfl)) (inB38 _ (List.mem_of_getElem? (i := 6) rfl))
theorem gB_X12_328 (T0 : Cond) : GoodIn (T0 :: BIG) (wsV RX12 328 RX12 yX12_putsBy wsX12_putsBy) := gBV (inB33 _ (List.mem_of_getElem? (i := 4) rfl)) (inB33 _ (List.mem_of_getElem? (i := 5) rfl)) (inB33 _ (List.mem_of_getElem? (i := 6) rfl)) (inB1 _ (List.mem_of_getElem? (i := 5) rfl)) (inB33 _ (List.mem_of_getElem? (i := 7) rfl))
theorem gB_X12_331 (T0 : Cond) : GoodIn (T0 :: BIG) (wsV RX12 331 RX12 yX12_goes wsX12_goes) := gBV (inB33 _ (List.mem_of_getElem? (i := 8) rfl)) (inB33 _ (List.mem_of_getElem? (i := 9) rfl)) (inB33 _ (List.mem_of_getElem? (i := 10) rfl)) (inB1 _ (List.mem_of_getElem? (i := 5) rfl)) (inB33 _ (List.mem_of_getElem? (i := 11) rfl))
theorem gB_X12_335 (T0 : Cond) : GoodIn (T0 :: BIG) (wsV RX12 335 RX12 yX12_counts wsX12_counts) := gBV (inB33 _ (List.mem_of_getElem? (i := 12) rfl)) (inB33 _ (List.mem_of_getElem? (i := 13) rfl)) (inB33 _ (List.mem_of_getElem? (i := 14) rfl)) (inB1 _ (List.mem_of_getElem? (i := 5) rfl)) (inB33 _ (List.mem_of_getElem? (i := 15) rfl))
theorem gB_X12_338 (T0 : Cond) : GoodIn (T0 :: BIG) (wsV RX12 338 RX12 yX12_goesHome wsX12_goesHome) := gBV (inB34 _ (List.mem_of_getElem? (i := 4) rfl)) (inB34 _ (List.mem_of_getElem? (i := 5) rfl)) (inB34 _ (List.mem_of_getElem? (i := 6) rfl)) (inB1 _ (List.mem_of_getElem? (i := 5) rfl)) (inB34 _ (List.mem_of_getElem? (i := 7) rfl))
theorem gB_X12_341 (T0 : Cond) : GoodIn (T0 :: BIG) (wsV RX12 341 RX12 yX12_spadeFor wsX12_spadeFor) := gBV (inB34 _ (List.mem_of_getElem? (i := 16) rfl)) (inB34 _ (List.mem_of_getElem? (i := 17) rfl)) (inB34 _ (List.mem_of_getElem? (i := 18) rfl)) (inB1 _ (List.mem_of_getElem? (i := 5) rfl)) (inB34 _ (List.mem_of_getElem? (i := 19) rfl))
theorem gB_X12_344 (T0 : Cond) : GoodIn (T0 :: BIG) (wsV RX12 344 RX12 yX12_treatsOne wsX12_treatsOne) := gBV (inB35 _ (List.mem_of_getElem? (i := 4) rfl)) (inB35 _ (List.mem_of_getElem? (i := 5) rfl)) (inB35 _ (List.mem_of_getElem? (i := 6) rfl)) (inB1 _ (List.mem_of_getElem? (i := 5) rfl)) (inB35 _ (List.mem_of_getElem? (i := 7) rfl))
theorem gB_X12_347 (T0 : Cond) : GoodIn (T0 :: BIG) (wsV RX12 347 RX12 yX12_digs wsX12_digs) := gBV (inB35 _ (List.mem_of_getElem? (i := 16) rfl)) (inB35 _ (List.mem_of_getElem? (i := 17) rfl)) (inB35 _ (List.mem_of_getElem? (i := 18) rfl)) (inB1 _ (List.mem_of_getElem? (i := 5) rfl)) (inB35 _ (List.mem_of_getElem? (i := 19) rfl))
theorem kB_X12_350 (T0 : Cond) : Cond.constantLong RX12 350 (30 : Int64) ∈ T0 :: BIG := List.mem_cons_of_mem _ (inB36 _ (List.mem_of_getElem? (i := 4) rfl))
theorem gB_X12_352 (T0 : Cond) : GoodIn (T0 :: BIG) (wsV RX12 352 RX12 yX12_wallAll wsX12_wallAll) := gBV (inB36 _ (List.mem_of_getElem? (i := 7) rfl)) (inB36 _ (List.mem_of_getElem? (i := 8) rfl)) (inB36 _ (List.mem_of_getElem? (i := 9) rfl)) (inB1 _ (List.mem_of_getElem? (i := 5) rfl)) (inB36 _ (List.mem_of_getElem? (i := 10) rfl))
theorem gB_X12_356 (T0 : Cond) : GoodIn (T0 :: BIG) (wsV RX12 356 RX12 yX12_builds wsX12_builds) := gBV (inB36 _ (List.mem_of_getElem? (i := 11) rfl)) (inB36 _ (List.mem_of_getElem? (i := 12) rfl)) (inB36 _ (List.mem_of_getElem? (i := 13) rfl)) (inB1 _ (List.mem_of_getElem? (i := 5) rfl)) (inB36 _ (List.mem_of_getElem? (i := 14) rfl))
theorem gB_X12_359 (T0 : Cond) : GoodIn (T0 :: BIG) (wsV RX12 359 RX12 yX12_enters wsX12_enters) := gBV (inB36 _ (List.mem_of_getElem? (i := 19) rfl)) (inB36 _ (List.mem_of_getElem? (i := 20) rfl)) (inB36 _ (List.mem_of_getElem? (i := 21) rfl)) (inB1 _ (List.mem_of_getElem? (i := 5) rfl)) (inB36 _ (List.mem_of_getElem? (i := 22) rfl))
theorem gB_X12_363 (T0 : Cond) : GoodIn (T0 :: BIG) (wsV RX12 363 RX12 yX12_deepAll wsX12_deepAll) := gBV (inB37 _ (List.mem_of_getElem? (i := 8) rfl)) (inB37 _ (List.mem_of_getElem? (i := 9) rfl)) (inB37 _ (List.mem_of_getElem? (i := 10) rfl)) (inB1 _ (List.mem_of_getElem? (i := 5) rfl)) (inB37 _ (List.mem_of_getElem? (i := 11) rfl))
theorem gB_X12_366 (T0 : Cond) : GoodIn (T0 :: BIG) (wsV RX12 366 RX12 yX12_tideComes wsX12_tideComes) := gBV (inB37 _ (List.mem_of_getElem? (i := 12) rfl)) (inB37 _ (List.mem_of_getElem? (i := 13) rfl)) (inB37 _ (List.mem_of_getElem? (i := 14) rfl)) (inB1 _ (List.mem_of_getElem? (i := 5) rfl)) (inB37 _ (List.mem_of_getElem? (i := 15) rfl))
theorem gB_X12_371 (T0 : Cond) : GoodIn (T0 :: BIG) (wsV RX12 371 RX12 yX12_wet wsX12_wet) := gBV (inB38 _ (List.mem_of_getElem? (i := 20) rfl)) (inB38 _ (List.mem_of_getElem? (i := 21) rfl)) (inB38 _ (List.mem_of_getElem? (i := 22) rfl)) (inB1 _ (List.mem_of_getElem? (i := 5) rfl)) (inB38 _ (List.mem_of_getElem? (i := 23) rfl))
theorem kB_X12_369 (T0 : Cond) : Cond.constantLong RX12 369 (99 : Int64) ∈ T0 :: BIG := List.mem_cons_of_mem _ (inB38 _ (List.mem_of_getElem? (i := 19) rfl))
theorem eB_X12_66 (T0 : Cond) : aF (T0 :: BIG) RX12 66 12 32 := ⟨RX12, TX12, 53, rfl, fun w h => List.mem_cons_of_mem _ (inBX12 w h), by decide, List.mem_cons_of_mem _ (inB8 _ (List.mem_of_getElem? (i := 6) rfl))⟩
theorem eB_X12_69 (T0 : Cond) : aF (T0 :: BIG) RX12 69 12 33 := ⟨RX12, TX12, 53, rfl, fun w h => List.mem_cons_of_mem _ (inBX12 w h), by decide, List.mem_cons_of_mem _ (inB8 _ (List.mem_of_getElem? (i := 7) rfl))⟩
theorem eB_X12_72 (T0 : Cond) : aF (T0 :: BIG) RX12 72 12 34 := ⟨RX12, TX12, 53, rfl, fun w h => List.mem_cons_of_mem _ (inBX12 w h), by decide, List.mem_cons_of_mem _ (inB8 _ (List.mem_of_getElem? (i := 8) rfl))⟩
theorem eB_X12_374 (T0 : Cond) : aF (T0 :: BIG) RX12 374 12 35 := ⟨RX12, TX12, 53, rfl, fun w h => List.mem_cons_of_mem _ (inBX12 w h), by decide, List.mem_cons_of_mem _ (inB40 _ (List.mem_of_getElem? (i := 1) rfl))⟩
theorem gB_X12_386 (T0 : Cond) : GoodIn (T0 :: BIG) (wsV RX12 386 RX12 yX12_does wsX12_does) := gBV (inB40 _ (List.mem_of_getElem? (i := 6) rfl)) (inB40 _ (List.mem_of_getElem? (i := 7) rfl)) (inB40 _ (List.mem_of_getElem? (i := 8) rfl)) (inB1 _ (List.mem_of_getElem? (i := 5) rfl)) (inB40 _ (List.mem_of_getElem? (i := 9) rfl))
theorem gB_X12_383 (T0 : Cond) : GoodIn (T0 :: BIG) (wsV RX12 383 RX12 yX12_readsAct wsX12_readsAct) := gBV (inB40 _ (List.mem_of_getElem? (i := 2) rfl)) (inB40 _ (List.mem_of_getElem? (i := 3) rfl)) (inB40 _ (List.mem_of_getElem? (i := 4) rfl)) (inB1 _ (List.mem_of_getElem? (i := 5) rfl)) (inB40 _ (List.mem_of_getElem? (i := 5) rfl))
theorem eB_X12_39 (T0 : Cond) : aF (T0 :: BIG) RX12 39 12 13 := ⟨RX12, TX12, 53, rfl, fun w h => List.mem_cons_of_mem _ (inBX12 w h), by decide, List.mem_cons_of_mem _ (inB7 _ (List.mem_of_getElem? (i := 21) rfl))⟩
theorem eB_X12_389 (T0 : Cond) : aF (T0 :: BIG) RX12 389 12 36 := ⟨RX12, TX12, 53, rfl, fun w h => List.mem_cons_of_mem _ (inBX12 w h), by decide, List.mem_cons_of_mem _ (inB41 _ (List.mem_of_getElem? (i := 19) rfl))⟩
theorem gB_X12_392 (T0 : Cond) : GoodIn (T0 :: BIG) (wsV RX12 392 RX12 yX12_puts wsX12_puts) := gBV (inB41 _ (List.mem_of_getElem? (i := 20) rfl)) (inB41 _ (List.mem_of_getElem? (i := 21) rfl)) (inB41 _ (List.mem_of_getElem? (i := 22) rfl)) (inB1 _ (List.mem_of_getElem? (i := 5) rfl)) (inB41 _ (List.mem_of_getElem? (i := 23) rfl))
theorem gB_X12_395 (T0 : Cond) : GoodIn (T0 :: BIG) (wsV RX12 395 RX12 yX12_breaksIn wsX12_breaksIn) := gBV (inB42 _ (List.mem_of_getElem? (i := 0) rfl)) (inB42 _ (List.mem_of_getElem? (i := 1) rfl)) (inB42 _ (List.mem_of_getElem? (i := 2) rfl)) (inB1 _ (List.mem_of_getElem? (i := 5) rfl)) (inB42 _ (List.mem_of_getElem? (i := 3) rfl))
theorem kB_X12_398 (T0 : Cond) : Cond.constantLong RX12 398 (60 : Int64) ∈ T0 :: BIG := List.mem_cons_of_mem _ (inB42 _ (List.mem_of_getElem? (i := 16) rfl))
theorem gB_X12_400 (T0 : Cond) : GoodIn (T0 :: BIG) (wsV RX12 400 RX12 yX12_breakMany wsX12_breakMany) := gBV (inB42 _ (List.mem_of_getElem? (i := 17) rfl)) (inB42 _ (List.mem_of_getElem? (i := 18) rfl)) (inB42 _ (List.mem_of_getElem? (i := 19) rfl)) (inB1 _ (List.mem_of_getElem? (i := 5) rfl)) (inB42 _ (List.mem_of_getElem? (i := 20) rfl))
theorem gB_X12_403 (T0 : Cond) : GoodIn (T0 :: BIG) (wsV RX12 403 RX12 yX12_isHigh wsX12_isHigh) := gBV (inB43 _ (List.mem_of_getElem? (i := 6) rfl)) (inB43 _ (List.mem_of_getElem? (i := 7) rfl)) (inB43 _ (List.mem_of_getElem? (i := 8) rfl)) (inB1 _ (List.mem_of_getElem? (i := 5) rfl)) (inB43 _ (List.mem_of_getElem? (i := 9) rfl))
theorem kB_X12_407 (T0 : Cond) : Cond.constantLong RX12 407 (999 : Int64) ∈ T0 :: BIG := List.mem_cons_of_mem _ (inB43 _ (List.mem_of_getElem? (i := 23) rfl))
theorem gB_X12_409 (T0 : Cond) : GoodIn (T0 :: BIG) (wsV RX12 409 RX12 yX12_canFlood wsX12_canFlood) := gBV (inB43 _ (List.mem_of_getElem? (i := 19) rfl)) (inB43 _ (List.mem_of_getElem? (i := 20) rfl)) (inB43 _ (List.mem_of_getElem? (i := 21) rfl)) (inB1 _ (List.mem_of_getElem? (i := 5) rfl)) (inB43 _ (List.mem_of_getElem? (i := 22) rfl))
theorem gB_X12_412 (T0 : Cond) : GoodIn (T0 :: BIG) (wsV RX12 412 RX12 yX12_floodsFrom wsX12_floodsFrom) := gBV (inB44 _ (List.mem_of_getElem? (i := 0) rfl)) (inB44 _ (List.mem_of_getElem? (i := 1) rfl)) (inB44 _ (List.mem_of_getElem? (i := 2) rfl)) (inB1 _ (List.mem_of_getElem? (i := 5) rfl)) (inB44 _ (List.mem_of_getElem? (i := 3) rfl))
theorem eB_X12_75 (T0 : Cond) : aF (T0 :: BIG) RX12 75 12 37 := ⟨RX12, TX12, 53, rfl, fun w h => List.mem_cons_of_mem _ (inBX12 w h), by decide, List.mem_cons_of_mem _ (inB8 _ (List.mem_of_getElem? (i := 9) rfl))⟩
theorem eB_X12_78 (T0 : Cond) : aF (T0 :: BIG) RX12 78 12 38 := ⟨RX12, TX12, 53, rfl, fun w h => List.mem_cons_of_mem _ (inBX12 w h), by decide, List.mem_cons_of_mem _ (inB8 _ (List.mem_of_getElem? (i := 10) rfl))⟩
theorem gB_X12_422 (T0 : Cond) : GoodIn (T0 :: BIG) (wsV RX12 422 RX12 yX12_crewsFrom wsX12_crewsFrom) := gBV (inB46 _ (List.mem_of_getElem? (i := 19) rfl)) (inB46 _ (List.mem_of_getElem? (i := 20) rfl)) (inB46 _ (List.mem_of_getElem? (i := 21) rfl)) (inB1 _ (List.mem_of_getElem? (i := 5) rfl)) (inB46 _ (List.mem_of_getElem? (i := 22) rfl))
theorem eB_X12_81 (T0 : Cond) : aF (T0 :: BIG) RX12 81 12 39 := ⟨RX12, TX12, 53, rfl, fun w h => List.mem_cons_of_mem _ (inBX12 w h), by decide, List.mem_cons_of_mem _ (inB8 _ (List.mem_of_getElem? (i := 11) rfl))⟩
theorem eB_X12_416 (T0 : Cond) : aF (T0 :: BIG) RX12 416 12 40 := ⟨RX12, TX12, 53, rfl, fun w h => List.mem_cons_of_mem _ (inBX12 w h), by decide, List.mem_cons_of_mem _ (inB46 _ (List.mem_of_getElem? (i := 18) rfl))⟩
theorem gB_X12_419 (T0 : Cond) : GoodIn (T0 :: BIG) (wsV RX12 419 RX12 yX12_crewHolds wsX12_crewHolds) := gBV (inB46 _ (List.mem_of_getElem? (i := 23) rfl)) (inB47 _ (List.mem_of_getElem? (i := 0) rfl)) (inB47 _ (List.mem_of_getElem? (i := 1) rfl)) (inB1 _ (List.mem_of_getElem? (i := 5) rfl)) (inB47 _ (List.mem_of_getElem? (i := 2) rfl))
theorem kB_X12_426 (T0 : Cond) : Cond.constant RX12 426 (1000000 : Int32) ∈ T0 :: BIG := List.mem_cons_of_mem _ (inB46 _ (List.mem_of_getElem? (i := 17) rfl))
theorem kB_X12_427 (T0 : Cond) : Cond.constant RX12 427 (-1000000 : Int32) ∈ T0 :: BIG := List.mem_cons_of_mem _ (inB47 _ (List.mem_of_getElem? (i := 15) rfl))
theorem kB_X12_428 (T0 : Cond) : Cond.constantLong RX12 428 (4 : Int64) ∈ T0 :: BIG := List.mem_cons_of_mem _ (inB48 _ (List.mem_of_getElem? (i := 22) rfl))
theorem gB_X12_430 (T0 : Cond) : GoodIn (T0 :: BIG) (wsV RX12 430 RX12 yX12_bucketsAll wsX12_bucketsAll) := gBV (inB49 _ (List.mem_of_getElem? (i := 15) rfl)) (inB49 _ (List.mem_of_getElem? (i := 16) rfl)) (inB49 _ (List.mem_of_getElem? (i := 17) rfl)) (inB1 _ (List.mem_of_getElem? (i := 5) rfl)) (inB49 _ (List.mem_of_getElem? (i := 18) rfl))
theorem eB_X12_84 (T0 : Cond) : aF (T0 :: BIG) RX12 84 12 41 := ⟨RX12, TX12, 53, rfl, fun w h => List.mem_cons_of_mem _ (inBX12 w h), by decide, List.mem_cons_of_mem _ (inB8 _ (List.mem_of_getElem? (i := 12) rfl))⟩
theorem eB_X12_87 (T0 : Cond) : aF (T0 :: BIG) RX12 87 12 43 := ⟨RX12, TX12, 53, rfl, fun w h => List.mem_cons_of_mem _ (inBX12 w h), by decide, List.mem_cons_of_mem _ (inB8 _ (List.mem_of_getElem? (i := 13) rfl))⟩
theorem eB_X12_90 (T0 : Cond) : aF (T0 :: BIG) RX12 90 12 44 := ⟨RX12, TX12, 53, rfl, fun w h => List.mem_cons_of_mem _ (inBX12 w h), by decide, List.mem_cons_of_mem _ (inB8 _ (List.mem_of_getElem? (i := 14) rfl))⟩
theorem eB_X12_93 (T0 : Cond) : aF (T0 :: BIG) RX12 93 12 45 := ⟨RX12, TX12, 53, rfl, fun w h => List.mem_cons_of_mem _ (inBX12 w h), by decide, List.mem_cons_of_mem _ (inB8 _ (List.mem_of_getElem? (i := 15) rfl))⟩
theorem gB_X12_439 (T0 : Cond) : GoodIn (T0 :: BIG) (wsV RX12 439 RX12 yX12_placesFrom wsX12_placesFrom) := gBV (inB53 _ (List.mem_of_getElem? (i := 21) rfl)) (inB53 _ (List.mem_of_getElem? (i := 22) rfl)) (inB53 _ (List.mem_of_getElem? (i := 23) rfl)) (inB1 _ (List.mem_of_getElem? (i := 5) rfl)) (inB54 _ (List.mem_of_getElem? (i := 0) rfl))
theorem eB_X12_436 (T0 : Cond) : aF (T0 :: BIG) RX12 436 12 48 := ⟨RX12, TX12, 53, rfl, fun w h => List.mem_cons_of_mem _ (inBX12 w h), by decide, List.mem_cons_of_mem _ (inB53 _ (List.mem_of_getElem? (i := 16) rfl))⟩
theorem eB_X12_99 (T0 : Cond) : aF (T0 :: BIG) RX12 99 12 47 := ⟨RX12, TX12, 53, rfl, fun w h => List.mem_cons_of_mem _ (inBX12 w h), by decide, List.mem_cons_of_mem _ (inB8 _ (List.mem_of_getElem? (i := 17) rfl))⟩
theorem eB_X12_96 (T0 : Cond) : aF (T0 :: BIG) RX12 96 12 46 := ⟨RX12, TX12, 53, rfl, fun w h => List.mem_cons_of_mem _ (inBX12 w h), by decide, List.mem_cons_of_mem _ (inB8 _ (List.mem_of_getElem? (i := 16) rfl))⟩
theorem gB_X12_433 (T0 : Cond) : GoodIn (T0 :: BIG) (wsV RX12 433 RX12 yX12_isAsSeen wsX12_isAsSeen) := gBV (inB54 _ (List.mem_of_getElem? (i := 1) rfl)) (inB54 _ (List.mem_of_getElem? (i := 2) rfl)) (inB54 _ (List.mem_of_getElem? (i := 3) rfl)) (inB1 _ (List.mem_of_getElem? (i := 5) rfl)) (inB54 _ (List.mem_of_getElem? (i := 4) rfl))
theorem gB_X12_442 (T0 : Cond) : GoodIn (T0 :: BIG) (wsV RX12 442 RX12 yX12_laysPlaces wsX12_laysPlaces) := gBV (inB53 _ (List.mem_of_getElem? (i := 17) rfl)) (inB53 _ (List.mem_of_getElem? (i := 18) rfl)) (inB53 _ (List.mem_of_getElem? (i := 19) rfl)) (inB1 _ (List.mem_of_getElem? (i := 5) rfl)) (inB53 _ (List.mem_of_getElem? (i := 20) rfl))
theorem gB_X12_449 (T0 : Cond) : GoodIn (T0 :: BIG) (va_wsS RX12 449 yX12_hasRun wsX12_hasRun) := gBS (inB55 _ (List.mem_of_getElem? (i := 16) rfl)) (inB55 _ (List.mem_of_getElem? (i := 17) rfl)) (inB1 _ (List.mem_of_getElem? (i := 5) rfl)) (inB55 _ (List.mem_of_getElem? (i := 18) rfl))
theorem kB_X12_447 (T0 : Cond) : Cond.constantLong RX12 447 (10 : Int64) ∈ T0 :: BIG := List.mem_cons_of_mem _ (inB55 _ (List.mem_of_getElem? (i := 15) rfl))
theorem kB_X12_445 (T0 : Cond) : Cond.constantLong RX12 445 (12 : Int64) ∈ T0 :: BIG := List.mem_cons_of_mem _ (inB55 _ (List.mem_of_getElem? (i := 14) rfl))
theorem gB_X12_453 (T0 : Cond) : GoodIn (T0 :: BIG) (va_wsS RX12 453 yX12_earns wsX12_earns) := gBS (inB56 _ (List.mem_of_getElem? (i := 21) rfl)) (inB56 _ (List.mem_of_getElem? (i := 22) rfl)) (inB1 _ (List.mem_of_getElem? (i := 5) rfl)) (inB56 _ (List.mem_of_getElem? (i := 23) rfl))
theorem gB_X12_457 (T0 : Cond) : GoodIn (T0 :: BIG) (va_wsS RX12 457 yX12_isRest wsX12_isRest) := gBS (inB56 _ (List.mem_of_getElem? (i := 18) rfl)) (inB56 _ (List.mem_of_getElem? (i := 19) rfl)) (inB1 _ (List.mem_of_getElem? (i := 5) rfl)) (inB56 _ (List.mem_of_getElem? (i := 20) rfl))
theorem eB_X12_461 (T0 : Cond) : aF (T0 :: BIG) RX12 461 12 49 := ⟨RX12, TX12, 53, rfl, fun w h => List.mem_cons_of_mem _ (inBX12 w h), by decide, List.mem_cons_of_mem _ (inB57 _ (List.mem_of_getElem? (i := 19) rfl))⟩
theorem kB_X12_464 (T0 : Cond) : Cond.constant RX12 464 (1103515245 : Int32) ∈ T0 :: BIG := List.mem_cons_of_mem _ (inB58 _ (List.mem_of_getElem? (i := 0) rfl))
theorem gB_X12_465 (T0 : Cond) : GoodIn (T0 :: BIG) (wsV RX12 465 RX12 yX12_draws wsX12_draws) := gBV (inB57 _ (List.mem_of_getElem? (i := 20) rfl)) (inB57 _ (List.mem_of_getElem? (i := 21) rfl)) (inB57 _ (List.mem_of_getElem? (i := 22) rfl)) (inB1 _ (List.mem_of_getElem? (i := 5) rfl)) (inB57 _ (List.mem_of_getElem? (i := 23) rfl))
theorem eB_X12_109 (T0 : Cond) : aF (T0 :: BIG) RX12 109 12 52 := ⟨RX12, TX12, 53, rfl, fun w h => List.mem_cons_of_mem _ (inBX12 w h), by decide, List.mem_cons_of_mem _ (inB8 _ (List.mem_of_getElem? (i := 21) rfl))⟩
theorem kB_X12_468 (T0 : Cond) : Cond.constantLong RX12 468 (2 : Int64) ∈ T0 :: BIG := List.mem_cons_of_mem _ (inB58 _ (List.mem_of_getElem? (i := 9) rfl))
theorem eB_X12_102 (T0 : Cond) : aF (T0 :: BIG) RX12 102 12 50 := ⟨RX12, TX12, 53, rfl, fun w h => List.mem_cons_of_mem _ (inBX12 w h), by decide, List.mem_cons_of_mem _ (inB8 _ (List.mem_of_getElem? (i := 19) rfl))⟩
theorem eB_X12_106 (T0 : Cond) : aF (T0 :: BIG) RX12 106 12 51 := ⟨RX12, TX12, 53, rfl, fun w h => List.mem_cons_of_mem _ (inBX12 w h), by decide, List.mem_cons_of_mem _ (inB8 _ (List.mem_of_getElem? (i := 20) rfl))⟩
theorem oB_X10_3 (T0 : Cond) : ∀ w ∈ ([.methodLink RX10 3 objectInit, .instanceMethod objectInit, .code objectInit ⟨#[0xb1]⟩ 1 none] : List Cond), w ∈ T0 :: BIG := by
  intro w h
  simp only [List.mem_cons, List.not_mem_nil, or_false] at h
  rcases h with rfl | rfl | rfl
  · exact List.mem_cons_of_mem _ (inB3 _ (List.mem_of_getElem? (i := 17) rfl))
  · exact List.mem_cons_of_mem _ (inB1 _ (List.mem_of_getElem? (i := 11) rfl))
  · exact List.mem_cons_of_mem _ (inB1 _ (List.mem_of_getElem? (i := 12) rfl))
theorem oB_X8_3 (T0 : Cond) : ∀ w ∈ ([.methodLink RX8 3 objectInit, .instanceMethod objectInit, .code objectInit ⟨#[0xb1]⟩ 1 none] : List Cond), w ∈ T0 :: BIG := by
  intro w h
  simp only [List.mem_cons, List.not_mem_nil, or_false] at h
  rcases h with rfl | rfl | rfl
  · exact List.mem_cons_of_mem _ (inB3 _ (List.mem_of_getElem? (i := 22) rfl))
  · exact List.mem_cons_of_mem _ (inB1 _ (List.mem_of_getElem? (i := 11) rfl))
  · exact List.mem_cons_of_mem _ (inB1 _ (List.mem_of_getElem? (i := 12) rfl))
theorem oB_X5_3 (T0 : Cond) : ∀ w ∈ ([.methodLink RX5 3 objectInit, .instanceMethod objectInit, .code objectInit ⟨#[0xb1]⟩ 1 none] : List Cond), w ∈ T0 :: BIG := by
  intro w h
  simp only [List.mem_cons, List.not_mem_nil, or_false] at h
  rcases h with rfl | rfl | rfl
  · exact List.mem_cons_of_mem _ (inB4 _ (List.mem_of_getElem? (i := 2) rfl))
  · exact List.mem_cons_of_mem _ (inB1 _ (List.mem_of_getElem? (i := 11) rfl))
  · exact List.mem_cons_of_mem _ (inB1 _ (List.mem_of_getElem? (i := 12) rfl))
theorem oB_X2_3 (T0 : Cond) : ∀ w ∈ ([.methodLink RX2 3 objectInit, .instanceMethod objectInit, .code objectInit ⟨#[0xb1]⟩ 1 none] : List Cond), w ∈ T0 :: BIG := by
  intro w h
  simp only [List.mem_cons, List.not_mem_nil, or_false] at h
  rcases h with rfl | rfl | rfl
  · exact List.mem_cons_of_mem _ (inB4 _ (List.mem_of_getElem? (i := 10) rfl))
  · exact List.mem_cons_of_mem _ (inB1 _ (List.mem_of_getElem? (i := 11) rfl))
  · exact List.mem_cons_of_mem _ (inB1 _ (List.mem_of_getElem? (i := 12) rfl))
theorem oB_X6_3 (T0 : Cond) : ∀ w ∈ ([.methodLink RX6 3 objectInit, .instanceMethod objectInit, .code objectInit ⟨#[0xb1]⟩ 1 none] : List Cond), w ∈ T0 :: BIG := by
  intro w h
  simp only [List.mem_cons, List.not_mem_nil, or_false] at h
  rcases h with rfl | rfl | rfl
  · exact List.mem_cons_of_mem _ (inB4 _ (List.mem_of_getElem? (i := 18) rfl))
  · exact List.mem_cons_of_mem _ (inB1 _ (List.mem_of_getElem? (i := 11) rfl))
  · exact List.mem_cons_of_mem _ (inB1 _ (List.mem_of_getElem? (i := 12) rfl))
theorem oB_X9_3 (T0 : Cond) : ∀ w ∈ ([.methodLink RX9 3 objectInit, .instanceMethod objectInit, .code objectInit ⟨#[0xb1]⟩ 1 none] : List Cond), w ∈ T0 :: BIG := by
  intro w h
  simp only [List.mem_cons, List.not_mem_nil, or_false] at h
  rcases h with rfl | rfl | rfl
  · exact List.mem_cons_of_mem _ (inB5 _ (List.mem_of_getElem? (i := 10) rfl))
  · exact List.mem_cons_of_mem _ (inB1 _ (List.mem_of_getElem? (i := 11) rfl))
  · exact List.mem_cons_of_mem _ (inB1 _ (List.mem_of_getElem? (i := 12) rfl))
theorem oB_X3_3 (T0 : Cond) : ∀ w ∈ ([.methodLink RX3 3 objectInit, .instanceMethod objectInit, .code objectInit ⟨#[0xb1]⟩ 1 none] : List Cond), w ∈ T0 :: BIG := by
  intro w h
  simp only [List.mem_cons, List.not_mem_nil, or_false] at h
  rcases h with rfl | rfl | rfl
  · exact List.mem_cons_of_mem _ (inB6 _ (List.mem_of_getElem? (i := 3) rfl))
  · exact List.mem_cons_of_mem _ (inB1 _ (List.mem_of_getElem? (i := 11) rfl))
  · exact List.mem_cons_of_mem _ (inB1 _ (List.mem_of_getElem? (i := 12) rfl))
theorem oB_X1_3 (T0 : Cond) : ∀ w ∈ ([.methodLink RX1 3 objectInit, .instanceMethod objectInit, .code objectInit ⟨#[0xb1]⟩ 1 none] : List Cond), w ∈ T0 :: BIG := by
  intro w h
  simp only [List.mem_cons, List.not_mem_nil, or_false] at h
  rcases h with rfl | rfl | rfl
  · exact List.mem_cons_of_mem _ (inB6 _ (List.mem_of_getElem? (i := 13) rfl))
  · exact List.mem_cons_of_mem _ (inB1 _ (List.mem_of_getElem? (i := 11) rfl))
  · exact List.mem_cons_of_mem _ (inB1 _ (List.mem_of_getElem? (i := 12) rfl))
theorem oB_X7_3 (T0 : Cond) : ∀ w ∈ ([.methodLink RX7 3 objectInit, .instanceMethod objectInit, .code objectInit ⟨#[0xb1]⟩ 1 none] : List Cond), w ∈ T0 :: BIG := by
  intro w h
  simp only [List.mem_cons, List.not_mem_nil, or_false] at h
  rcases h with rfl | rfl | rfl
  · exact List.mem_cons_of_mem _ (inB6 _ (List.mem_of_getElem? (i := 22) rfl))
  · exact List.mem_cons_of_mem _ (inB1 _ (List.mem_of_getElem? (i := 11) rfl))
  · exact List.mem_cons_of_mem _ (inB1 _ (List.mem_of_getElem? (i := 12) rfl))
theorem oB_X0_3 (T0 : Cond) : ∀ w ∈ ([.methodLink RX0 3 objectInit, .instanceMethod objectInit, .code objectInit ⟨#[0xb1]⟩ 1 none] : List Cond), w ∈ T0 :: BIG := by
  intro w h
  simp only [List.mem_cons, List.not_mem_nil, or_false] at h
  rcases h with rfl | rfl | rfl
  · exact List.mem_cons_of_mem _ (inB7 _ (List.mem_of_getElem? (i := 5) rfl))
  · exact List.mem_cons_of_mem _ (inB1 _ (List.mem_of_getElem? (i := 11) rfl))
  · exact List.mem_cons_of_mem _ (inB1 _ (List.mem_of_getElem? (i := 12) rfl))
theorem oB_X12_3 (T0 : Cond) : ∀ w ∈ ([.methodLink RX12 3 objectInit, .instanceMethod objectInit, .code objectInit ⟨#[0xb1]⟩ 1 none] : List Cond), w ∈ T0 :: BIG := by
  intro w h
  simp only [List.mem_cons, List.not_mem_nil, or_false] at h
  rcases h with rfl | rfl | rfl
  · exact List.mem_cons_of_mem _ (inB7 _ (List.mem_of_getElem? (i := 11) rfl))
  · exact List.mem_cons_of_mem _ (inB1 _ (List.mem_of_getElem? (i := 11) rfl))
  · exact List.mem_cons_of_mem _ (inB1 _ (List.mem_of_getElem? (i := 12) rfl))
theorem oB_X4_3 (T0 : Cond) : ∀ w ∈ ([.methodLink RX4 3 objectInit, .instanceMethod objectInit, .code objectInit ⟨#[0xb1]⟩ 1 none] : List Cond), w ∈ T0 :: BIG := by
  intro w h
  simp only [List.mem_cons, List.not_mem_nil, or_false] at h
  rcases h with rfl | rfl | rfl
  · exact List.mem_cons_of_mem _ (inB5 _ (List.mem_of_getElem? (i := 20) rfl))
  · exact List.mem_cons_of_mem _ (inB1 _ (List.mem_of_getElem? (i := 11) rfl))
  · exact List.mem_cons_of_mem _ (inB1 _ (List.mem_of_getElem? (i := 12) rfl))
theorem nB_X4_11 (T0 : Cond) : ∀ w ∈ ([.classLink RX4 11 RX9, .instantiable RX9 9, .initialized RX9] : List Cond), w ∈ T0 :: BIG := by
  intro w h
  simp only [List.mem_cons, List.not_mem_nil, or_false] at h
  rcases h with rfl | rfl | rfl
  · exact List.mem_cons_of_mem _ (inB5 _ (List.mem_of_getElem? (i := 21) rfl))
  · exact List.mem_cons_of_mem _ (inB2 _ (List.mem_of_getElem? (i := 12) rfl))
  · exact List.mem_cons_of_mem _ (inB2 _ (List.mem_of_getElem? (i := 13) rfl))
theorem gB_X4_17 (T0 : Cond) : GoodIn (T0 :: BIG) wsX9_init := gBN (inB5 _ (List.mem_of_getElem? (i := 9) rfl))
theorem iB_X4_17 (T0 : Cond) : ∀ w ∈ ([.initialized RX9, .methodLink RX4 17 yX9_init, .instanceMethod yX9_init] : List Cond), w ∈ T0 :: BIG := by
  intro w h
  simp only [List.mem_cons, List.not_mem_nil, or_false] at h
  rcases h with rfl | rfl | rfl
  · exact List.mem_cons_of_mem _ (inB2 _ (List.mem_of_getElem? (i := 13) rfl))
  · exact List.mem_cons_of_mem _ (inB5 _ (List.mem_of_getElem? (i := 23) rfl))
  · exact List.mem_cons_of_mem _ (inB5 _ (List.mem_of_getElem? (i := 8) rfl))
theorem oB_X11_1 (T0 : Cond) : ∀ w ∈ ([.methodLink RX11 1 objectInit, .instanceMethod objectInit, .code objectInit ⟨#[0xb1]⟩ 1 none] : List Cond), w ∈ T0 :: BIG := by
  intro w h
  simp only [List.mem_cons, List.not_mem_nil, or_false] at h
  rcases h with rfl | rfl | rfl
  · exact List.mem_cons_of_mem _ (inB1 _ (List.mem_of_getElem? (i := 10) rfl))
  · exact List.mem_cons_of_mem _ (inB1 _ (List.mem_of_getElem? (i := 11) rfl))
  · exact List.mem_cons_of_mem _ (inB1 _ (List.mem_of_getElem? (i := 12) rfl))
theorem nB_X11_7 (T0 : Cond) : ∀ w ∈ ([.classLink RX11 7 RX10, .instantiable RX10 2, .initialized RX10] : List Cond), w ∈ T0 :: BIG := by
  intro w h
  simp only [List.mem_cons, List.not_mem_nil, or_false] at h
  rcases h with rfl | rfl | rfl
  · exact List.mem_cons_of_mem _ (inB1 _ (List.mem_of_getElem? (i := 13) rfl))
  · exact List.mem_cons_of_mem _ (inB1 _ (List.mem_of_getElem? (i := 14) rfl))
  · exact List.mem_cons_of_mem _ (inB1 _ (List.mem_of_getElem? (i := 15) rfl))
theorem gB_X11_9 (T0 : Cond) : GoodIn (T0 :: BIG) wsX10_init := gBN (inB3 _ (List.mem_of_getElem? (i := 16) rfl))
theorem iB_X10_n (T0 : Cond) : ∀ w ∈ ([.initialized RX10, .instanceMethod yX10_init] : List Cond), w ∈ T0 :: BIG := by
  intro w h
  simp only [List.mem_cons, List.not_mem_nil, or_false] at h
  rcases h with rfl | rfl
  · exact List.mem_cons_of_mem _ (inB1 _ (List.mem_of_getElem? (i := 15) rfl))
  · exact List.mem_cons_of_mem _ (inB3 _ (List.mem_of_getElem? (i := 15) rfl))
theorem nB_X11_16 (T0 : Cond) : ∀ w ∈ ([.classLink RX11 16 RX8, .instantiable RX8 2, .initialized RX8] : List Cond), w ∈ T0 :: BIG := by
  intro w h
  simp only [List.mem_cons, List.not_mem_nil, or_false] at h
  rcases h with rfl | rfl | rfl
  · exact List.mem_cons_of_mem _ (inB1 _ (List.mem_of_getElem? (i := 17) rfl))
  · exact List.mem_cons_of_mem _ (inB1 _ (List.mem_of_getElem? (i := 18) rfl))
  · exact List.mem_cons_of_mem _ (inB1 _ (List.mem_of_getElem? (i := 19) rfl))
theorem gB_X11_18 (T0 : Cond) : GoodIn (T0 :: BIG) wsX8_init := gBN (inB3 _ (List.mem_of_getElem? (i := 21) rfl))
theorem iB_X8_n (T0 : Cond) : ∀ w ∈ ([.initialized RX8, .instanceMethod yX8_init] : List Cond), w ∈ T0 :: BIG := by
  intro w h
  simp only [List.mem_cons, List.not_mem_nil, or_false] at h
  rcases h with rfl | rfl
  · exact List.mem_cons_of_mem _ (inB1 _ (List.mem_of_getElem? (i := 19) rfl))
  · exact List.mem_cons_of_mem _ (inB3 _ (List.mem_of_getElem? (i := 20) rfl))
theorem nB_X11_23 (T0 : Cond) : ∀ w ∈ ([.classLink RX11 23 RX5, .instantiable RX5 5, .initialized RX5] : List Cond), w ∈ T0 :: BIG := by
  intro w h
  simp only [List.mem_cons, List.not_mem_nil, or_false] at h
  rcases h with rfl | rfl | rfl
  · exact List.mem_cons_of_mem _ (inB1 _ (List.mem_of_getElem? (i := 21) rfl))
  · exact List.mem_cons_of_mem _ (inB1 _ (List.mem_of_getElem? (i := 22) rfl))
  · exact List.mem_cons_of_mem _ (inB1 _ (List.mem_of_getElem? (i := 23) rfl))
theorem gB_X11_25 (T0 : Cond) : GoodIn (T0 :: BIG) wsX5_init := gBN (inB4 _ (List.mem_of_getElem? (i := 1) rfl))
theorem iB_X5_n (T0 : Cond) : ∀ w ∈ ([.initialized RX5, .instanceMethod yX5_init] : List Cond), w ∈ T0 :: BIG := by
  intro w h
  simp only [List.mem_cons, List.not_mem_nil, or_false] at h
  rcases h with rfl | rfl
  · exact List.mem_cons_of_mem _ (inB1 _ (List.mem_of_getElem? (i := 23) rfl))
  · exact List.mem_cons_of_mem _ (inB4 _ (List.mem_of_getElem? (i := 0) rfl))
theorem nB_X11_30 (T0 : Cond) : ∀ w ∈ ([.classLink RX11 30 RX2, .instantiable RX2 5, .initialized RX2] : List Cond), w ∈ T0 :: BIG := by
  intro w h
  simp only [List.mem_cons, List.not_mem_nil, or_false] at h
  rcases h with rfl | rfl | rfl
  · exact List.mem_cons_of_mem _ (inB2 _ (List.mem_of_getElem? (i := 1) rfl))
  · exact List.mem_cons_of_mem _ (inB2 _ (List.mem_of_getElem? (i := 2) rfl))
  · exact List.mem_cons_of_mem _ (inB2 _ (List.mem_of_getElem? (i := 3) rfl))
theorem gB_X11_32 (T0 : Cond) : GoodIn (T0 :: BIG) wsX2_init := gBN (inB4 _ (List.mem_of_getElem? (i := 9) rfl))
theorem iB_X2_n (T0 : Cond) : ∀ w ∈ ([.initialized RX2, .instanceMethod yX2_init] : List Cond), w ∈ T0 :: BIG := by
  intro w h
  simp only [List.mem_cons, List.not_mem_nil, or_false] at h
  rcases h with rfl | rfl
  · exact List.mem_cons_of_mem _ (inB2 _ (List.mem_of_getElem? (i := 3) rfl))
  · exact List.mem_cons_of_mem _ (inB4 _ (List.mem_of_getElem? (i := 8) rfl))
theorem nB_X11_37 (T0 : Cond) : ∀ w ∈ ([.classLink RX11 37 RX6, .instantiable RX6 6, .initialized RX6] : List Cond), w ∈ T0 :: BIG := by
  intro w h
  simp only [List.mem_cons, List.not_mem_nil, or_false] at h
  rcases h with rfl | rfl | rfl
  · exact List.mem_cons_of_mem _ (inB2 _ (List.mem_of_getElem? (i := 5) rfl))
  · exact List.mem_cons_of_mem _ (inB2 _ (List.mem_of_getElem? (i := 6) rfl))
  · exact List.mem_cons_of_mem _ (inB2 _ (List.mem_of_getElem? (i := 7) rfl))
theorem gB_X11_39 (T0 : Cond) : GoodIn (T0 :: BIG) wsX6_init := gBN (inB4 _ (List.mem_of_getElem? (i := 17) rfl))
theorem iB_X11_39 (T0 : Cond) : ∀ w ∈ ([.initialized RX6, .methodLink RX11 39 yX6_init, .instanceMethod yX6_init] : List Cond), w ∈ T0 :: BIG := by
  intro w h
  simp only [List.mem_cons, List.not_mem_nil, or_false] at h
  rcases h with rfl | rfl | rfl
  · exact List.mem_cons_of_mem _ (inB2 _ (List.mem_of_getElem? (i := 7) rfl))
  · exact List.mem_cons_of_mem _ (inB4 _ (List.mem_of_getElem? (i := 15) rfl))
  · exact List.mem_cons_of_mem _ (inB4 _ (List.mem_of_getElem? (i := 16) rfl))
theorem nB_X11_51 (T0 : Cond) : ∀ w ∈ ([.classLink RX11 51 RX9, .instantiable RX9 9, .initialized RX9] : List Cond), w ∈ T0 :: BIG := by
  intro w h
  simp only [List.mem_cons, List.not_mem_nil, or_false] at h
  rcases h with rfl | rfl | rfl
  · exact List.mem_cons_of_mem _ (inB2 _ (List.mem_of_getElem? (i := 11) rfl))
  · exact List.mem_cons_of_mem _ (inB2 _ (List.mem_of_getElem? (i := 12) rfl))
  · exact List.mem_cons_of_mem _ (inB2 _ (List.mem_of_getElem? (i := 13) rfl))
theorem gB_X11_53 (T0 : Cond) : GoodIn (T0 :: BIG) wsX9_init := gBN (inB5 _ (List.mem_of_getElem? (i := 9) rfl))
theorem iB_X11_53 (T0 : Cond) : ∀ w ∈ ([.initialized RX9, .methodLink RX11 53 yX9_init, .instanceMethod yX9_init] : List Cond), w ∈ T0 :: BIG := by
  intro w h
  simp only [List.mem_cons, List.not_mem_nil, or_false] at h
  rcases h with rfl | rfl | rfl
  · exact List.mem_cons_of_mem _ (inB2 _ (List.mem_of_getElem? (i := 13) rfl))
  · exact List.mem_cons_of_mem _ (inB5 _ (List.mem_of_getElem? (i := 7) rfl))
  · exact List.mem_cons_of_mem _ (inB5 _ (List.mem_of_getElem? (i := 8) rfl))
theorem nB_X11_63 (T0 : Cond) : ∀ w ∈ ([.classLink RX11 63 RX4, .instantiable RX4 3, .initialized RX4] : List Cond), w ∈ T0 :: BIG := by
  intro w h
  simp only [List.mem_cons, List.not_mem_nil, or_false] at h
  rcases h with rfl | rfl | rfl
  · exact List.mem_cons_of_mem _ (inB2 _ (List.mem_of_getElem? (i := 16) rfl))
  · exact List.mem_cons_of_mem _ (inB2 _ (List.mem_of_getElem? (i := 17) rfl))
  · exact List.mem_cons_of_mem _ (inB2 _ (List.mem_of_getElem? (i := 18) rfl))
theorem gB_X11_65 (T0 : Cond) : GoodIn (T0 :: BIG) wsX4_init := gBN (inB5 _ (List.mem_of_getElem? (i := 19) rfl))
theorem iB_X11_65 (T0 : Cond) : ∀ w ∈ ([.initialized RX4, .methodLink RX11 65 yX4_init, .instanceMethod yX4_init] : List Cond), w ∈ T0 :: BIG := by
  intro w h
  simp only [List.mem_cons, List.not_mem_nil, or_false] at h
  rcases h with rfl | rfl | rfl
  · exact List.mem_cons_of_mem _ (inB2 _ (List.mem_of_getElem? (i := 18) rfl))
  · exact List.mem_cons_of_mem _ (inB5 _ (List.mem_of_getElem? (i := 17) rfl))
  · exact List.mem_cons_of_mem _ (inB5 _ (List.mem_of_getElem? (i := 18) rfl))
theorem nB_X11_78 (T0 : Cond) : ∀ w ∈ ([.classLink RX11 78 RX3, .instantiable RX3 7, .initialized RX3] : List Cond), w ∈ T0 :: BIG := by
  intro w h
  simp only [List.mem_cons, List.not_mem_nil, or_false] at h
  rcases h with rfl | rfl | rfl
  · exact List.mem_cons_of_mem _ (inB2 _ (List.mem_of_getElem? (i := 23) rfl))
  · exact List.mem_cons_of_mem _ (inB3 _ (List.mem_of_getElem? (i := 0) rfl))
  · exact List.mem_cons_of_mem _ (inB3 _ (List.mem_of_getElem? (i := 1) rfl))
theorem gB_X11_80 (T0 : Cond) : GoodIn (T0 :: BIG) wsX3_init := gBN (inB6 _ (List.mem_of_getElem? (i := 2) rfl))
theorem iB_X11_80 (T0 : Cond) : ∀ w ∈ ([.initialized RX3, .methodLink RX11 80 yX3_init, .instanceMethod yX3_init] : List Cond), w ∈ T0 :: BIG := by
  intro w h
  simp only [List.mem_cons, List.not_mem_nil, or_false] at h
  rcases h with rfl | rfl | rfl
  · exact List.mem_cons_of_mem _ (inB3 _ (List.mem_of_getElem? (i := 1) rfl))
  · exact List.mem_cons_of_mem _ (inB6 _ (List.mem_of_getElem? (i := 0) rfl))
  · exact List.mem_cons_of_mem _ (inB6 _ (List.mem_of_getElem? (i := 1) rfl))
theorem nB_X11_87 (T0 : Cond) : ∀ w ∈ ([.classLink RX11 87 RX1, .instantiable RX1 8, .initialized RX1] : List Cond), w ∈ T0 :: BIG := by
  intro w h
  simp only [List.mem_cons, List.not_mem_nil, or_false] at h
  rcases h with rfl | rfl | rfl
  · exact List.mem_cons_of_mem _ (inB3 _ (List.mem_of_getElem? (i := 3) rfl))
  · exact List.mem_cons_of_mem _ (inB3 _ (List.mem_of_getElem? (i := 4) rfl))
  · exact List.mem_cons_of_mem _ (inB3 _ (List.mem_of_getElem? (i := 5) rfl))
theorem gB_X11_89 (T0 : Cond) : GoodIn (T0 :: BIG) wsX1_init := gBN (inB6 _ (List.mem_of_getElem? (i := 12) rfl))
theorem iB_X11_89 (T0 : Cond) : ∀ w ∈ ([.initialized RX1, .methodLink RX11 89 yX1_init, .instanceMethod yX1_init] : List Cond), w ∈ T0 :: BIG := by
  intro w h
  simp only [List.mem_cons, List.not_mem_nil, or_false] at h
  rcases h with rfl | rfl | rfl
  · exact List.mem_cons_of_mem _ (inB3 _ (List.mem_of_getElem? (i := 5) rfl))
  · exact List.mem_cons_of_mem _ (inB6 _ (List.mem_of_getElem? (i := 10) rfl))
  · exact List.mem_cons_of_mem _ (inB6 _ (List.mem_of_getElem? (i := 11) rfl))
theorem nB_X11_94 (T0 : Cond) : ∀ w ∈ ([.classLink RX11 94 RX7, .instantiable RX7 5, .initialized RX7] : List Cond), w ∈ T0 :: BIG := by
  intro w h
  simp only [List.mem_cons, List.not_mem_nil, or_false] at h
  rcases h with rfl | rfl | rfl
  · exact List.mem_cons_of_mem _ (inB3 _ (List.mem_of_getElem? (i := 7) rfl))
  · exact List.mem_cons_of_mem _ (inB3 _ (List.mem_of_getElem? (i := 8) rfl))
  · exact List.mem_cons_of_mem _ (inB3 _ (List.mem_of_getElem? (i := 9) rfl))
theorem gB_X11_96 (T0 : Cond) : GoodIn (T0 :: BIG) wsX7_init := gBN (inB6 _ (List.mem_of_getElem? (i := 21) rfl))
theorem iB_X11_96 (T0 : Cond) : ∀ w ∈ ([.initialized RX7, .methodLink RX11 96 yX7_init, .instanceMethod yX7_init] : List Cond), w ∈ T0 :: BIG := by
  intro w h
  simp only [List.mem_cons, List.not_mem_nil, or_false] at h
  rcases h with rfl | rfl | rfl
  · exact List.mem_cons_of_mem _ (inB3 _ (List.mem_of_getElem? (i := 9) rfl))
  · exact List.mem_cons_of_mem _ (inB6 _ (List.mem_of_getElem? (i := 19) rfl))
  · exact List.mem_cons_of_mem _ (inB6 _ (List.mem_of_getElem? (i := 20) rfl))
theorem nB_X11_103 (T0 : Cond) : ∀ w ∈ ([.classLink RX11 103 RX0, .instantiable RX0 3, .initialized RX0] : List Cond), w ∈ T0 :: BIG := by
  intro w h
  simp only [List.mem_cons, List.not_mem_nil, or_false] at h
  rcases h with rfl | rfl | rfl
  · exact List.mem_cons_of_mem _ (inB3 _ (List.mem_of_getElem? (i := 11) rfl))
  · exact List.mem_cons_of_mem _ (inB3 _ (List.mem_of_getElem? (i := 12) rfl))
  · exact List.mem_cons_of_mem _ (inB3 _ (List.mem_of_getElem? (i := 13) rfl))
theorem gB_X11_105 (T0 : Cond) : GoodIn (T0 :: BIG) wsX0_init := gBN (inB7 _ (List.mem_of_getElem? (i := 4) rfl))
theorem iB_X0_n (T0 : Cond) : ∀ w ∈ ([.initialized RX0, .instanceMethod yX0_init] : List Cond), w ∈ T0 :: BIG := by
  intro w h
  simp only [List.mem_cons, List.not_mem_nil, or_false] at h
  rcases h with rfl | rfl
  · exact List.mem_cons_of_mem _ (inB3 _ (List.mem_of_getElem? (i := 13) rfl))
  · exact List.mem_cons_of_mem _ (inB7 _ (List.mem_of_getElem? (i := 3) rfl))
