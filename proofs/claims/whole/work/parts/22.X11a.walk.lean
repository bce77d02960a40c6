-- X11_sign
abbrev rmX11_sign : Room := { frames := 1, cells := 0, slots := 0, locals := 22 }
theorem dvX11_sign : yX11_sign.cls = RX11 ∧ yX11_sign.cls ≠ "java/lang/invoke/MethodHandle" ∧ yX11_sign.cls ≠ "java/lang/invoke/VarHandle" ∧ (parseMethodDescriptor yX11_sign.desc).map (fun d => d.parameters.length) = some 1 := by decide +kernel
theorem eX11_sign_inX11 : ∀ w ∈ wsX110, w ∈ wsX11_sign := by decide +kernel
theorem eX11_sign_10 : aF wsX11_sign RX11 10 11 0 := ⟨RX11, TX11, 17, rfl, eX11_sign_inX11, by decide, by decide +kernel⟩
theorem eX11_sign_inX10 : ∀ w ∈ wsX100, w ∈ wsX11_sign := by decide +kernel
theorem eX11_sign_114 : aF wsX11_sign RX11 114 10 1 := ⟨RX10, TX10, 2, rfl, eX11_sign_inX10, by decide, by decide +kernel⟩
def fX11_sign_b22 (itext_length : Int32) (ctext_signs : Nat → Int32) (s0 : Int32) : Option (Int32 × Int32 × (Nat → Int32)) :=
  some (s0, itext_length, ctext_signs)
set_option maxHeartbeats 4000000 in
set_option maxRecDepth 100000 in
theorem kX11_sign_b22 {X : cxT} {l : Launch} {D : va_G} {Y : Nat → ClassId} {ao atext atold aL aC alaw aotherLaw anow atrial ahistory aguess acrewPlan amoatPlan achance : Nat → Nat} {io_wind : Int32} {io_spadeLimit : Int32} {itext_length : Int32} {ctext_signs : Nat → Int32} {s0 : Int32} {res : Int32 × Int32 × (Nat → Int32)} (C : axC X l D Y cX11_sign 2 RX11 wsX11_sign rmX11_sign (some .int)) (hQ : axQ X 0 0 (fun r9 w9 => r9 = (some (.int res.1)) ∧ w9 = [oX11 ao atext atold aL aC alaw aotherLaw anow atrial ahistory aguess acrewPlan amoatPlan achance io_wind io_spadeLimit, oX10 atext res.2.1, rC Y (atext 1) 80 res.2.2])) (hf : fX11_sign_b22 itext_length ctext_signs s0 = some res) : ax X 0 0 22 [none, none] [oX11 ao atext atold aL aC alaw aotherLaw anow atrial ahistory aguess acrewPlan amoatPlan achance io_wind io_spadeLimit, oX10 atext itext_length, rC Y (atext 1) 80 ctext_signs] [.int s0] := by
  unfold fX11_sign_b22 at hf
  obtain rfl := fx_some hf
  exact a_iret C hQ dX11_sign_22 ⟨rfl, rfl⟩
def fX11_sign (itext_length : Int32) (ctext_signs : Nat → Int32) (x1 : Int32) : Option (Int32 × Int32 × (Nat → Int32)) :=
  (fX10_add itext_length ctext_signs x1).bind (fun r1 => if r1.1 = (0 : Int32) then (fX11_sign_b22 r1.2.1 r1.2.2 (-1 : Int32)) else (fX11_sign_b22 r1.2.1 r1.2.2 r1.2.1))
set_option maxHeartbeats 4000000 in
set_option maxRecDepth 100000 in
theorem kX11_sign (l : Launch) (D : va_G) (Y : Nat → ClassId) (ao atext atold aL aC alaw aotherLaw anow atrial ahistory aguess acrewPlan amoatPlan achance : Nat → Nat) (io_wind : Int32) (io_spadeLimit : Int32) (itext_length : Int32) (ctext_signs : Nat → Int32) (x1 : Int32) (res : Int32 × Int32 × (Nat → Int32)) (hf : fX11_sign itext_length ctext_signs x1 = some res) : amf l D Y yX11_sign wsX11_sign rmX11_sign [.ref (ao 0), .int x1] [oX11 ao atext atold aL aC alaw aotherLaw anow atrial ahistory aguess acrewPlan amoatPlan achance io_wind io_spadeLimit, oX10 atext itext_length, rC Y (atext 1) 80 ctext_signs] (some (.int res.1)) [oX11 ao atext atold aL aC alaw aotherLaw anow atrial ahistory aguess acrewPlan amoatPlan achance io_wind io_spadeLimit, oX10 atext res.2.1, rC Y (atext 1) 80 res.2.2] := by
  refine amf.of (cc := cX11_sign) (maxL := 2) (rt := (some .int)) (by decide) rfl RX11 rfl (Nat.le_of_ble_eq_true rfl) [some (.ref (ao 0)), some (.int x1)] rfl ?_
  intro X C hQ
  unfold fX11_sign at hf
  refine a_aload_n C dX11_sign_0 rfl ?_
  refine a_get C eX11_sign_10 dX11_sign_1 0 rfl rfl ?_
  refine a_iload_n C dX11_sign_4 rfl ?_
  obtain ⟨r1, h1, hf⟩ := fx_bind hf
  refine a_fV C (kX10_add l D Y atext itext_length ctext_signs x1 r1 h1) gX11_sign_X10_add rfl dvX10_add ⟨⟨rfl, rfl⟩, ⟨Nat.le_of_ble_eq_true rfl, Nat.le_of_ble_eq_true rfl⟩, ⟨Nat.le_of_ble_eq_true rfl, Nat.le_of_ble_eq_true rfl⟩⟩ rfl (Nat.le_of_ble_eq_true rfl) dX11_sign_5 rfl rfl [1, 2] rfl rfl rfl (wn := [oX11 ao atext atold aL aC alaw aotherLaw anow atrial ahistory aguess acrewPlan amoatPlan achance io_wind io_spadeLimit, oX10 atext r1.2.1, rC Y (atext 1) 80 r1.2.2]) rfl ?_
  refine a_if_eq C 21 dX11_sign_8 (by decide) (fun h2 => ?_) (fun h2 => ?_)
  · have hf := fx_t h2 hf
    refine a_iconst C (-1 : Int32) dX11_sign_21 (by decide) ?_
    refine a_kill [0, 1] ?_
    exact kX11_sign_b22 C hQ hf
  · have hf := fx_f h2 hf
    refine a_aload_n C dX11_sign_11 rfl ?_
    refine a_get C eX11_sign_10 dX11_sign_12 0 rfl rfl ?_
    refine a_get C eX11_sign_114 dX11_sign_15 1 rfl rfl ?_
    refine a_goto C 22 dX11_sign_18 (by decide) ?_
    refine a_kill [0, 1] ?_
    exact kX11_sign_b22 C hQ hf
-- X11_end
abbrev rmX11_end : Room := { frames := 1, cells := 0, slots := 0, locals := 21 }
theorem dvX11_end : yX11_end.cls = RX11 ∧ yX11_end.cls ≠ "java/lang/invoke/MethodHandle" ∧ yX11_end.cls ≠ "java/lang/invoke/VarHandle" ∧ (parseMethodDescriptor yX11_end.desc).map (fun d => d.parameters.length) = some 1 := by decide +kernel
theorem eX11_end_inX11 : ∀ w ∈ wsX110, w ∈ wsX11_end := by decide +kernel
theorem eX11_end_10 : aF wsX11_end RX11 10 11 0 := ⟨RX11, TX11, 17, rfl, eX11_end_inX11, by decide, by decide +kernel⟩
def fX11_end (itext_length : Int32) (x1 : Int32) : Option (Int32 × Int32) :=
  (fX10_cut itext_length x1).bind (fun r1 => if r1.1 = 0 ∨ r1.1 = 1 then some (r1.1, r1.2) else none)
set_option maxHeartbeats 4000000 in
set_option maxRecDepth 100000 in
theorem kX11_end (l : Launch) (D : va_G) (Y : Nat → ClassId) (ao atext atold aL aC alaw aotherLaw anow atrial ahistory aguess acrewPlan amoatPlan achance : Nat → Nat) (io_wind : Int32) (io_spadeLimit : Int32) (itext_length : Int32) (x1 : Int32) (res : Int32 × Int32) (hf : fX11_end itext_length x1 = some res) : amf l D Y yX11_end wsX11_end rmX11_end [.ref (ao 0), .int x1] [oX11 ao atext atold aL aC alaw aotherLaw anow atrial ahistory aguess acrewPlan amoatPlan achance io_wind io_spadeLimit, oX10 atext itext_length] (some (.int res.1)) [oX11 ao atext atold aL aC alaw aotherLaw anow atrial ahistory aguess acrewPlan amoatPlan achance io_wind io_spadeLimit, oX10 atext res.2] := by
  refine amf.of (cc := cX11_end) (maxL := 2) (rt := (some .boolean)) (by decide) rfl RX11 rfl (Nat.le_of_ble_eq_true rfl) [some (.ref (ao 0)), some (.int x1)] rfl ?_
  intro X C hQ
  unfold fX11_end at hf
  refine a_aload_n C dX11_end_0 rfl ?_
  refine a_get C eX11_end_10 dX11_end_1 0 rfl rfl ?_
  refine a_iload_n C dX11_end_4 rfl ?_
  obtain ⟨r1, h1, hf⟩ := fx_bind hf
  refine a_fV C (kX10_cut l D Y atext itext_length x1 r1 h1) gX11_end_X10_cut rfl dvX10_cut ⟨⟨rfl, rfl⟩, ⟨Nat.le_of_ble_eq_true rfl, Nat.le_of_ble_eq_true rfl⟩, ⟨Nat.le_of_ble_eq_true rfl, Nat.le_of_ble_eq_true rfl⟩⟩ rfl (Nat.le_of_ble_eq_true rfl) dX11_end_5 rfl rfl [1] rfl rfl rfl (wn := [oX11 ao atext atold aL aC alaw aotherLaw anow atrial ahistory aguess acrewPlan amoatPlan achance io_wind io_spadeLimit, oX10 atext r1.2]) rfl ?_
  obtain ⟨h2, hf⟩ := fx_ite hf
  obtain rfl := fx_some hf
  exact a_zret C hQ h2 dX11_end_8 ⟨rfl, rfl⟩
-- X11_shore
abbrev rmX11_shore : Room := { frames := 2, cells := 0, slots := 0, locals := 65 }
theorem dvX11_shore : yX11_shore.cls = RX11 ∧ yX11_shore.cls ≠ "java/lang/invoke/MethodHandle" ∧ yX11_shore.cls ≠ "java/lang/invoke/VarHandle" ∧ (parseMethodDescriptor yX11_shore.desc).map (fun d => d.parameters.length) = some 0 := by decide +kernel
theorem eX11_shore_inX11 : ∀ w ∈ wsX110, w ∈ wsX11_shore := by decide +kernel
theorem eX11_shore_26 : aF wsX11_shore RX11 26 11 2 := ⟨RX11, TX11, 17, rfl, eX11_shore_inX11, by decide, by decide +kernel⟩
theorem eX11_shore_inX5 : ∀ w ∈ wsX50, w ∈ wsX11_shore := by decide +kernel
theorem eX11_shore_131 : aF wsX11_shore RX11 131 5 0 := ⟨RX5, TX5, 5, rfl, eX11_shore_inX5, by decide, by decide +kernel⟩
theorem eX11_shore_74 : aF wsX11_shore RX11 74 11 12 := ⟨RX11, TX11, 17, rfl, eX11_shore_inX11, by decide, by decide +kernel⟩
theorem eX11_shore_10 : aF wsX11_shore RX11 10 11 0 := ⟨RX11, TX11, 17, rfl, eX11_shore_inX11, by decide, by decide +kernel⟩
theorem eX11_shore_inX10 : ∀ w ∈ wsX100, w ∈ wsX11_shore := by decide +kernel
theorem eX11_shore_114 : aF wsX11_shore RX11 114 10 1 := ⟨RX10, TX10, 2, rfl, eX11_shore_inX10, by decide, by decide +kernel⟩
theorem eX11_shore_56 : aF wsX11_shore RX11 56 11 8 := ⟨RX11, TX11, 17, rfl, eX11_shore_inX11, by decide, by decide +kernel⟩
theorem eX11_shore_83 : aF wsX11_shore RX11 83 11 13 := ⟨RX11, TX11, 17, rfl, eX11_shore_inX11, by decide, by decide +kernel⟩
theorem eX11_shore_66 : aF wsX11_shore RX11 66 11 10 := ⟨RX11, TX11, 17, rfl, eX11_shore_inX11, by decide, by decide +kernel⟩
def fX11_shore_b70 (co_keptChildren : Nat → Int32) (iL_cells : Int32) (cL_base : Nat → Int32) (cL_dyke : Nat → Int32) (cL_newBase : Nat → Int32) (cL_newDyke : Nat → Int32) (iguess_cells : Int32) (ihistory_size : Int32) (inow_moats : Int32) (inow_tides : Int32) (cnow_wall : Nat → Int32) (cnow_depth : Nat → Int32) (cnow_place : Nat → Int32) (itext_length : Int32) (ctext_signs : Nat → Int32) : Option (Int32 × (Nat → Int32) × Int32 × (Nat → Int32) × (Nat → Int32) × (Nat → Int32) × (Nat → Int32) × Int32 × Int32 × Int32 × Int32 × (Nat → Int32) × (Nat → Int32) × (Nat → Int32) × Int32) :=
  some (iL_cells, co_keptChildren, iL_cells, cL_base, cL_dyke, cL_newBase, cL_newDyke, iguess_cells, ihistory_size, inow_moats, inow_tides, cnow_wall, cnow_depth, cnow_place, itext_length)
set_option maxHeartbeats 4000000 in
set_option maxRecDepth 100000 in
theorem kX11_shore_b70 {X : cxT} {l : Launch} {D : va_G} {Y : Nat → ClassId} {ao atext atold aL aC alaw aotherLaw anow atrial ahistory aguess acrewPlan amoatPlan achance : Nat → Nat} {io_wind : Int32} {io_spadeLimit : Int32} {co_keptChildren : Nat → Int32} {iL_cells : Int32} {cL_base : Nat → Int32} {cL_dyke : Nat → Int32} {cL_newBase : Nat → Int32} {cL_newDyke : Nat → Int32} {iguess_cells : Int32} {ihistory_next : Int32} {ihistory_size : Int32} {inow_moats : Int32} {inow_spades : Int32} {inow_tides : Int32} {cnow_wall : Nat → Int32} {cnow_depth : Nat → Int32} {cnow_place : Nat → Int32} {itext_length : Int32} {ctext_signs : Nat → Int32} {res : Int32 × (Nat → Int32) × Int32 × (Nat → Int32) × (Nat → Int32) × (Nat → Int32) × (Nat → Int32) × Int32 × Int32 × Int32 × Int32 × (Nat → Int32) × (Nat → Int32) × (Nat → Int32) × Int32} (C : axC X l D Y cX11_shore 3 RX11 wsX11_shore rmX11_shore (some .int)) (hQ : axQ X 0 0 (fun r9 w9 => r9 = (some (.int res.1)) ∧ w9 = [oX11 ao atext atold aL aC alaw aotherLaw anow atrial ahistory aguess acrewPlan amoatPlan achance io_wind io_spadeLimit, rI Y (ao 2) 3 res.2.1, oX5 aL res.2.2.1, rI Y (aL 1) 12 res.2.2.2.1, rI Y (aL 2) 12 res.2.2.2.2.1, rI Y (aL 3) 12 res.2.2.2.2.2.1, rI Y (aL 4) 12 res.2.2.2.2.2.2.1, oX3 aguess aC res.2.2.2.2.2.2.2.1, oX4 ahistory ihistory_next res.2.2.2.2.2.2.2.2.1, oX9 anow aL aC res.2.2.2.2.2.2.2.2.2.1 inow_spades res.2.2.2.2.2.2.2.2.2.2.1, rI Y (anow 1) 12 res.2.2.2.2.2.2.2.2.2.2.2.1, rI Y (anow 2) 12 res.2.2.2.2.2.2.2.2.2.2.2.2.1, rI Y (anow 4) 8 res.2.2.2.2.2.2.2.2.2.2.2.2.2.1, oX10 atext res.2.2.2.2.2.2.2.2.2.2.2.2.2.2, rC Y (atext 1) 80 ctext_signs])) (hf : fX11_shore_b70 co_keptChildren iL_cells cL_base cL_dyke cL_newBase cL_newDyke iguess_cells ihistory_size inow_moats inow_tides cnow_wall cnow_depth cnow_place itext_length ctext_signs = some res) : ax X 0 0 70 [some (.ref (ao 0)), none, none] [oX11 ao atext atold aL aC alaw aotherLaw anow atrial ahistory aguess acrewPlan amoatPlan achance io_wind io_spadeLimit, rI Y (ao 2) 3 co_keptChildren, oX5 aL iL_cells, rI Y (aL 1) 12 cL_base, rI Y (aL 2) 12 cL_dyke, rI Y (aL 3) 12 cL_newBase, rI Y (aL 4) 12 cL_newDyke, oX3 aguess aC iguess_cells, oX4 ahistory ihistory_next ihistory_size, oX9 anow aL aC inow_moats inow_spades inow_tides, rI Y (anow 1) 12 cnow_wall, rI Y (anow 2) 12 cnow_depth, rI Y (anow 4) 8 cnow_place, oX10 atext itext_length, rC Y (atext 1) 80 ctext_signs] [] := by
  unfold fX11_shore_b70 at hf
  refine a_aload_n C dX11_shore_70 rfl ?_
  refine a_get C eX11_shore_26 dX11_shore_71 0 rfl rfl ?_
  refine a_get C eX11_shore_131 dX11_shore_74 2 rfl rfl ?_
  obtain rfl := fx_some hf
  exact a_iret C hQ dX11_shore_77 ⟨rfl, rfl⟩
def fX11_shore_l52 (iL_cells : Int32) (cL_base : Nat → Int32) (cL_dyke : Nat → Int32) (cL_newBase : Nat → Int32) (cL_newDyke : Nat → Int32) (iguess_cells : Int32) (ihistory_size : Int32) (inow_moats : Int32) (inow_tides : Int32) (cnow_wall : Nat → Int32) (cnow_depth : Nat → Int32) (cnow_place : Nat → Int32) (itext_length : Int32) (ctext_signs : Nat → Int32) (k52 : (Nat → Int32) × Int32 → Option (Int32 × (Nat → Int32) × Int32 × (Nat → Int32) × (Nat → Int32) × (Nat → Int32) × (Nat → Int32) × Int32 × Int32 × Int32 × Int32 × (Nat → Int32) × (Nat → Int32) × (Nat → Int32) × Int32)) (co_keptChildren : Nat → Int32) (x2 : Int32) : Option (Int32 × (Nat → Int32) × Int32 × (Nat → Int32) × (Nat → Int32) × (Nat → Int32) × (Nat → Int32) × Int32 × Int32 × Int32 × Int32 × (Nat → Int32) × (Nat → Int32) × (Nat → Int32) × Int32) :=
  if (3 : Int32) ≤ x2 then (fX11_shore_b70 co_keptChildren iL_cells cL_base cL_dyke cL_newBase cL_newDyke iguess_cells ihistory_size inow_moats inow_tides cnow_wall cnow_depth cnow_place itext_length ctext_signs) else (if inb x2 3 then k52 ((upd co_keptChildren (Int32.toNatClampNeg x2) (-1 : Int32)), (x2 + (1 : Int32))) else none)
def fX11_shore_b52 (co_keptChildren : Nat → Int32) (iL_cells : Int32) (cL_base : Nat → Int32) (cL_dyke : Nat → Int32) (cL_newBase : Nat → Int32) (cL_newDyke : Nat → Int32) (iguess_cells : Int32) (ihistory_size : Int32) (inow_moats : Int32) (inow_tides : Int32) (cnow_wall : Nat → Int32) (cnow_depth : Nat → Int32) (cnow_place : Nat → Int32) (itext_length : Int32) (ctext_signs : Nat → Int32) (x2 : Int32) : Option (Int32 × (Nat → Int32) × Int32 × (Nat → Int32) × (Nat → Int32) × (Nat → Int32) × (Nat → Int32) × Int32 × Int32 × Int32 × Int32 × (Nat → Int32) × (Nat → Int32) × (Nat → Int32) × Int32) :=
  loopN (fun (s : (Nat → Int32) × Int32) k52 => fX11_shore_l52 iL_cells cL_base cL_dyke cL_newBase cL_newDyke iguess_cells ihistory_size inow_moats inow_tides cnow_wall cnow_depth cnow_place itext_length ctext_signs k52 s.1 s.2) FUEL (co_keptChildren, x2)
set_option maxHeartbeats 4000000 in
set_option maxRecDepth 100000 in
theorem kX11_shore_l52 {X : cxT} {l : Launch} {D : va_G} {Y : Nat → ClassId} {ao atext atold aL aC alaw aotherLaw anow atrial ahistory aguess acrewPlan amoatPlan achance : Nat → Nat} {io_wind : Int32} {io_spadeLimit : Int32} {co_keptChildren : Nat → Int32} {iL_cells : Int32} {cL_base : Nat → Int32} {cL_dyke : Nat → Int32} {cL_newBase : Nat → Int32} {cL_newDyke : Nat → Int32} {iguess_cells : Int32} {ihistory_next : Int32} {ihistory_size : Int32} {inow_moats : Int32} {inow_spades : Int32} {inow_tides : Int32} {cnow_wall : Nat → Int32} {cnow_depth : Nat → Int32} {cnow_place : Nat → Int32} {itext_length : Int32} {ctext_signs : Nat → Int32} {x2 : Int32} {res : Int32 × (Nat → Int32) × Int32 × (Nat → Int32) × (Nat → Int32) × (Nat → Int32) × (Nat → Int32) × Int32 × Int32 × Int32 × Int32 × (Nat → Int32) × (Nat → Int32) × (Nat → Int32) × Int32} (C : axC X l D Y cX11_shore 3 RX11 wsX11_shore rmX11_shore (some .int)) (hQ : axQ X 0 0 (fun r9 w9 => r9 = (some (.int res.1)) ∧ w9 = [oX11 ao atext atold aL aC alaw aotherLaw anow atrial ahistory aguess acrewPlan amoatPlan achance io_wind io_spadeLimit, rI Y (ao 2) 3 res.2.1, oX5 aL res.2.2.1, rI Y (aL 1) 12 res.2.2.2.1, rI Y (aL 2) 12 res.2.2.2.2.1, rI Y (aL 3) 12 res.2.2.2.2.2.1, rI Y (aL 4) 12 res.2.2.2.2.2.2.1, oX3 aguess aC res.2.2.2.2.2.2.2.1, oX4 ahistory ihistory_next res.2.2.2.2.2.2.2.2.1, oX9 anow aL aC res.2.2.2.2.2.2.2.2.2.1 inow_spades res.2.2.2.2.2.2.2.2.2.2.1, rI Y (anow 1) 12 res.2.2.2.2.2.2.2.2.2.2.2.1, rI Y (anow 2) 12 res.2.2.2.2.2.2.2.2.2.2.2.2.1, rI Y (anow 4) 8 res.2.2.2.2.2.2.2.2.2.2.2.2.2.1, oX10 atext res.2.2.2.2.2.2.2.2.2.2.2.2.2.2, rC Y (atext 1) 80 ctext_signs])) {k52 : (Nat → Int32) × Int32 → Option (Int32 × (Nat → Int32) × Int32 × (Nat → Int32) × (Nat → Int32) × (Nat → Int32) × (Nat → Int32) × Int32 × Int32 × Int32 × Int32 × (Nat → Int32) × (Nat → Int32) × (Nat → Int32) × Int32)} (hk52 : ∀ s : (Nat → Int32) × Int32, k52 s = some res → ax X 0 0 52 [some (.ref (ao 0)), none, some (.int s.2)] [oX11 ao atext atold aL aC alaw aotherLaw anow atrial ahistory aguess acrewPlan amoatPlan achance io_wind io_spadeLimit, rI Y (ao 2) 3 s.1, oX5 aL iL_cells, rI Y (aL 1) 12 cL_base, rI Y (aL 2) 12 cL_dyke, rI Y (aL 3) 12 cL_newBase, rI Y (aL 4) 12 cL_newDyke, oX3 aguess aC iguess_cells, oX4 ahistory ihistory_next ihistory_size, oX9 anow aL aC inow_moats inow_spades inow_tides, rI Y (anow 1) 12 cnow_wall, rI Y (anow 2) 12 cnow_depth, rI Y (anow 4) 8 cnow_place, oX10 atext itext_length, rC Y (atext 1) 80 ctext_signs] []) (hf : fX11_shore_l52 iL_cells cL_base cL_dyke cL_newBase cL_newDyke iguess_cells ihistory_size inow_moats inow_tides cnow_wall cnow_depth cnow_place itext_length ctext_signs k52 co_keptChildren x2 = some res) : ax X 0 0 52 [some (.ref (ao 0)), none, some (.int x2)] [oX11 ao atext atold aL aC alaw aotherLaw anow atrial ahistory aguess acrewPlan amoatPlan achance io_wind io_spadeLimit, rI Y (ao 2) 3 co_keptChildren, oX5 aL iL_cells, rI Y (aL 1) 12 cL_base, rI Y (aL 2) 12 cL_dyke, rI Y (aL 3) 12 cL_newBase, rI Y (aL 4) 12 cL_newDyke, oX3 aguess aC iguess_cells, oX4 ahistory ihistory_next ihistory_size, oX9 anow aL aC inow_moats inow_spades inow_tides, rI Y (anow 1) 12 cnow_wall, rI Y (anow 2) 12 cnow_depth, rI Y (anow 4) 8 cnow_place, oX10 atext itext_length, rC Y (atext 1) 80 ctext_signs] [] := by
  unfold fX11_shore_l52 at hf
  refine a_iload_n C dX11_shore_52 rfl ?_
  refine a_iconst C (3 : Int32) dX11_shore_53 (by decide) ?_
  refine a_icmp_ge C 70 dX11_shore_54 (by decide) (fun h1 => ?_) (fun h1 => ?_)
  · have hf := fx_t h1 hf
    refine a_kill [2] ?_
    exact kX11_shore_b70 C hQ hf
  · have hf := fx_f h1 hf
    refine a_aload_n C dX11_shore_57 rfl ?_
    refine a_get C eX11_shore_74 dX11_shore_58 0 rfl rfl ?_
    refine a_iload_n C dX11_shore_61 rfl ?_
    refine a_iconst C (-1 : Int32) dX11_shore_62 (by decide) ?_
    obtain ⟨h2, hf⟩ := fx_ite hf
    refine a_iast C dX11_shore_63 1 rfl h2 ?_
    refine a_iinc C (1 : Int32) dX11_shore_64 (by decide) rfl (by decide) rfl ?_
    refine a_goto C 52 dX11_shore_67 (by decide) ?_
    exact hk52 ((upd co_keptChildren (Int32.toNatClampNeg x2) (-1 : Int32)), (x2 + (1 : Int32))) hf
set_option maxHeartbeats 4000000 in
set_option maxRecDepth 100000 in
theorem kX11_shore_b52 {X : cxT} {l : Launch} {D : va_G} {Y : Nat → ClassId} {ao atext atold aL aC alaw aotherLaw anow atrial ahistory aguess acrewPlan amoatPlan achance : Nat → Nat} {io_wind : Int32} {io_spadeLimit : Int32} {co_keptChildren : Nat → Int32} {iL_cells : Int32} {cL_base : Nat → Int32} {cL_dyke : Nat → Int32} {cL_newBase : Nat → Int32} {cL_newDyke : Nat → Int32} {iguess_cells : Int32} {ihistory_next : Int32} {ihistory_size : Int32} {inow_moats : Int32} {inow_spades : Int32} {inow_tides : Int32} {cnow_wall : Nat → Int32} {cnow_depth : Nat → Int32} {cnow_place : Nat → Int32} {itext_length : Int32} {ctext_signs : Nat → Int32} {x2 : Int32} {res : Int32 × (Nat → Int32) × Int32 × (Nat → Int32) × (Nat → Int32) × (Nat → Int32) × (Nat → Int32) × Int32 × Int32 × Int32 × Int32 × (Nat → Int32) × (Nat → Int32) × (Nat → Int32) × Int32} (C : axC X l D Y cX11_shore 3 RX11 wsX11_shore rmX11_shore (some .int)) (hQ : axQ X 0 0 (fun r9 w9 => r9 = (some (.int res.1)) ∧ w9 = [oX11 ao atext atold aL aC alaw aotherLaw anow atrial ahistory aguess acrewPlan amoatPlan achance io_wind io_spadeLimit, rI Y (ao 2) 3 res.2.1, oX5 aL res.2.2.1, rI Y (aL 1) 12 res.2.2.2.1, rI Y (aL 2) 12 res.2.2.2.2.1, rI Y (aL 3) 12 res.2.2.2.2.2.1, rI Y (aL 4) 12 res.2.2.2.2.2.2.1, oX3 aguess aC res.2.2.2.2.2.2.2.1, oX4 ahistory ihistory_next res.2.2.2.2.2.2.2.2.1, oX9 anow aL aC res.2.2.2.2.2.2.2.2.2.1 inow_spades res.2.2.2.2.2.2.2.2.2.2.1, rI Y (anow 1) 12 res.2.2.2.2.2.2.2.2.2.2.2.1, rI Y (anow 2) 12 res.2.2.2.2.2.2.2.2.2.2.2.2.1, rI Y (anow 4) 8 res.2.2.2.2.2.2.2.2.2.2.2.2.2.1, oX10 atext res.2.2.2.2.2.2.2.2.2.2.2.2.2.2, rC Y (atext 1) 80 ctext_signs])) (hf : fX11_shore_b52 co_keptChildren iL_cells cL_base cL_dyke cL_newBase cL_newDyke iguess_cells ihistory_size inow_moats inow_tides cnow_wall cnow_depth cnow_place itext_length ctext_signs x2 = some res) : ax X 0 0 52 [some (.ref (ao 0)), none, some (.int x2)] [oX11 ao atext atold aL aC alaw aotherLaw anow atrial ahistory aguess acrewPlan amoatPlan achance io_wind io_spadeLimit, rI Y (ao 2) 3 co_keptChildren, oX5 aL iL_cells, rI Y (aL 1) 12 cL_base, rI Y (aL 2) 12 cL_dyke, rI Y (aL 3) 12 cL_newBase, rI Y (aL 4) 12 cL_newDyke, oX3 aguess aC iguess_cells, oX4 ahistory ihistory_next ihistory_size, oX9 anow aL aC inow_moats inow_spades inow_tides, rI Y (anow 1) 12 cnow_wall, rI Y (anow 2) 12 cnow_depth, rI Y (anow 4) 8 cnow_place, oX10 atext itext_length, rC Y (atext 1) 80 ctext_signs] [] := by
  unfold fX11_shore_b52 at hf
  exact fx_loop (P := fun s : (Nat → Int32) × Int32 => ax X 0 0 52 [some (.ref (ao 0)), none, some (.int s.2)] [oX11 ao atext atold aL aC alaw aotherLaw anow atrial ahistory aguess acrewPlan amoatPlan achance io_wind io_spadeLimit, rI Y (ao 2) 3 s.1, oX5 aL iL_cells, rI Y (aL 1) 12 cL_base, rI Y (aL 2) 12 cL_dyke, rI Y (aL 3) 12 cL_newBase, rI Y (aL 4) 12 cL_newDyke, oX3 aguess aC iguess_cells, oX4 ahistory ihistory_next ihistory_size, oX9 anow aL aC inow_moats inow_spades inow_tides, rI Y (anow 1) 12 cnow_wall, rI Y (anow 2) 12 cnow_depth, rI Y (anow 4) 8 cnow_place, oX10 atext itext_length, rC Y (atext 1) 80 ctext_signs] []) (fun s k52 hk52 h => kX11_shore_l52 C hQ hk52 h) FUEL (co_keptChildren, x2) hf
def fX11_shore (co_keptChildren : Nat → Int32) (iL_cells : Int32) (cL_base : Nat → Int32) (cL_dyke : Nat → Int32) (cL_newBase : Nat → Int32) (cL_newDyke : Nat → Int32) (iguess_cells : Int32) (ihistory_size : Int32) (inow_moats : Int32) (inow_tides : Int32) (cnow_wall : Nat → Int32) (cnow_depth : Nat → Int32) (cnow_place : Nat → Int32) (itext_length : Int32) (ctext_signs : Nat → Int32) : Option (Int32 × (Nat → Int32) × Int32 × (Nat → Int32) × (Nat → Int32) × (Nat → Int32) × (Nat → Int32) × Int32 × Int32 × Int32 × Int32 × (Nat → Int32) × (Nat → Int32) × (Nat → Int32) × Int32) :=
  (fX5_read iL_cells cL_base cL_dyke cL_newBase cL_newDyke itext_length ctext_signs).bind (fun r3 => if r3.1 = (-1 : Int32) then ((fX9_startAnew inow_moats inow_tides cnow_wall cnow_depth cnow_place).bind (fun r5 => (fX3_clear iguess_cells).bind (fun r6 => (fX4_clear ihistory_size).bind (fun r7 => fX11_shore_b52 co_keptChildren r3.2.1 r3.2.2.1 r3.2.2.2.1 r3.2.2.2.2.1 r3.2.2.2.2.2 r6 r7 r5.1 r5.2.1 r5.2.2.1 r5.2.2.2.1 r5.2.2.2.2 (0 : Int32) ctext_signs (0 : Int32))))) else (some (((-1 : Int32) - r3.1), co_keptChildren, r3.2.1, r3.2.2.1, r3.2.2.2.1, r3.2.2.2.2.1, r3.2.2.2.2.2, iguess_cells, ihistory_size, inow_moats, inow_tides, cnow_wall, cnow_depth, cnow_place, (0 : Int32))))
set_option maxHeartbeats 4000000 in
set_option maxRecDepth 100000 in
theorem kX11_shore (l : Launch) (D : va_G) (Y : Nat → ClassId) (ao atext atold aL aC alaw aotherLaw anow atrial ahistory aguess acrewPlan amoatPlan achance : Nat → Nat) (io_wind : Int32) (io_spadeLimit : Int32) (co_keptChildren : Nat → Int32) (iL_cells : Int32) (cL_base : Nat → Int32) (cL_dyke : Nat → Int32) (cL_newBase : Nat → Int32) (cL_newDyke : Nat → Int32) (iguess_cells : Int32) (ihistory_next : Int32) (ihistory_size : Int32) (inow_moats : Int32) (inow_spades : Int32) (inow_tides : Int32) (cnow_wall : Nat → Int32) (cnow_depth : Nat → Int32) (cnow_place : Nat → Int32) (itext_length : Int32) (ctext_signs : Nat → Int32) (res : Int32 × (Nat → Int32) × Int32 × (Nat → Int32) × (Nat → Int32) × (Nat → Int32) × (Nat → Int32) × Int32 × Int32 × Int32 × Int32 × (Nat → Int32) × (Nat → Int32) × (Nat → Int32) × Int32) (hf : fX11_shore co_keptChildren iL_cells cL_base cL_dyke cL_newBase cL_newDyke iguess_cells ihistory_size inow_moats inow_tides cnow_wall cnow_depth cnow_place itext_length ctext_signs = some res) : amf l D Y yX11_shore wsX11_shore rmX11_shore [.ref (ao 0)] [oX11 ao atext atold aL aC alaw aotherLaw anow atrial ahistory aguess acrewPlan amoatPlan achance io_wind io_spadeLimit, rI Y (ao 2) 3 co_keptChildren, oX5 aL iL_cells, rI Y (aL 1) 12 cL_base, rI Y (aL 2) 12 cL_dyke, rI Y (aL 3) 12 cL_newBase, rI Y (aL 4) 12 cL_newDyke, oX3 aguess aC iguess_cells, oX4 ahistory ihistory_next ihistory_size, oX9 anow aL aC inow_moats inow_spades inow_tides, rI Y (anow 1) 12 cnow_wall, rI Y (anow 2) 12 cnow_depth, rI Y (anow 4) 8 cnow_place, oX10 atext itext_length, rC Y (atext 1) 80 ctext_signs] (some (.int res.1)) [oX11 ao atext atold aL aC alaw aotherLaw anow atrial ahistory aguess acrewPlan amoatPlan achance io_wind io_spadeLimit, rI Y (ao 2) 3 res.2.1, oX5 aL res.2.2.1, rI Y (aL 1) 12 res.2.2.2.1, rI Y (aL 2) 12 res.2.2.2.2.1, rI Y (aL 3) 12 res.2.2.2.2.2.1, rI Y (aL 4) 12 res.2.2.2.2.2.2.1, oX3 aguess aC res.2.2.2.2.2.2.2.1, oX4 ahistory ihistory_next res.2.2.2.2.2.2.2.2.1, oX9 anow aL aC res.2.2.2.2.2.2.2.2.2.1 inow_spades res.2.2.2.2.2.2.2.2.2.2.1, rI Y (anow 1) 12 res.2.2.2.2.2.2.2.2.2.2.2.1, rI Y (anow 2) 12 res.2.2.2.2.2.2.2.2.2.2.2.2.1, rI Y (anow 4) 8 res.2.2.2.2.2.2.2.2.2.2.2.2.2.1, oX10 atext res.2.2.2.2.2.2.2.2.2.2.2.2.2.2, rC Y (atext 1) 80 ctext_signs] := by
  refine amf.of (cc := cX11_shore) (maxL := 3) (rt := (some .int)) (by decide) rfl RX11 rfl (Nat.le_of_ble_eq_true rfl) [some (.ref (ao 0)), none, none] rfl ?_
  intro X C hQ
  unfold fX11_shore at hf
  refine a_aload_n C dX11_shore_0 rfl ?_
  refine a_get C eX11_shore_26 dX11_shore_1 0 rfl rfl ?_
  refine a_aload_n C dX11_shore_4 rfl ?_
  refine a_get C eX11_shore_10 dX11_shore_5 0 rfl rfl ?_
  obtain ⟨r3, h3, hf⟩ := fx_bind hf
  refine a_fV C (kX5_read l D Y aL atext iL_cells cL_base cL_dyke cL_newBase cL_newDyke itext_length ctext_signs r3 h3) gX11_shore_X5_read rfl dvX5_read ⟨⟨rfl, rfl⟩, ⟨Nat.le_of_ble_eq_true rfl, Nat.le_of_ble_eq_true rfl⟩, ⟨Nat.le_of_ble_eq_true rfl, Nat.le_of_ble_eq_true rfl⟩⟩ rfl (Nat.le_of_ble_eq_true rfl) dX11_shore_8 rfl rfl [2, 3, 4, 5, 6, 13, 14] rfl rfl rfl (wn := [oX11 ao atext atold aL aC alaw aotherLaw anow atrial ahistory aguess acrewPlan amoatPlan achance io_wind io_spadeLimit, rI Y (ao 2) 3 co_keptChildren, oX5 aL r3.2.1, rI Y (aL 1) 12 r3.2.2.1, rI Y (aL 2) 12 r3.2.2.2.1, rI Y (aL 3) 12 r3.2.2.2.2.1, rI Y (aL 4) 12 r3.2.2.2.2.2, oX3 aguess aC iguess_cells, oX4 ahistory ihistory_next ihistory_size, oX9 anow aL aC inow_moats inow_spades inow_tides, rI Y (anow 1) 12 cnow_wall, rI Y (anow 2) 12 cnow_depth, rI Y (anow 4) 8 cnow_place, oX10 atext itext_length, rC Y (atext 1) 80 ctext_signs]) rfl ?_
  refine a_istore_n C dX11_shore_11 (by decide) rfl ?_
  refine a_aload_n C dX11_shore_12 rfl ?_
  refine a_get C eX11_shore_10 dX11_shore_13 0 rfl rfl ?_
  refine a_iconst C (0 : Int32) dX11_shore_16 (by decide) ?_
  refine a_put C eX11_shore_114 tfX10_1 dX11_shore_17 13 rfl rfl rfl (Nat.le_of_ble_eq_true rfl) ?_
  refine a_iload_n C dX11_shore_20 rfl ?_
  refine a_iconst C (-1 : Int32) dX11_shore_21 (by decide) ?_
  refine a_icmp_eq C 29 dX11_shore_22 (by decide) (fun h4 => ?_) (fun h4 => ?_)
  · have hf := fx_t h4 hf
    refine a_aload_n C dX11_shore_29 rfl ?_
    refine a_get C eX11_shore_56 dX11_shore_30 0 rfl rfl ?_
    obtain ⟨r5, h5, hf⟩ := fx_bind hf
    refine a_fV C (kX9_startAnew l D Y anow aL aC inow_moats inow_spades inow_tides cnow_wall cnow_depth cnow_place r5 h5) gX11_shore_X9_startAnew rfl dvX9_startAnew ⟨⟨rfl, rfl⟩, ⟨Nat.le_of_ble_eq_true rfl, Nat.le_of_ble_eq_true rfl⟩, ⟨Nat.le_of_ble_eq_true rfl, Nat.le_of_ble_eq_true rfl⟩⟩ rfl (Nat.le_of_ble_eq_true rfl) dX11_shore_33 rfl rfl [9, 10, 11, 12] rfl rfl rfl (wn := [oX11 ao atext atold aL aC alaw aotherLaw anow atrial ahistory aguess acrewPlan amoatPlan achance io_wind io_spadeLimit, rI Y (ao 2) 3 co_keptChildren, oX5 aL r3.2.1, rI Y (aL 1) 12 r3.2.2.1, rI Y (aL 2) 12 r3.2.2.2.1, rI Y (aL 3) 12 r3.2.2.2.2.1, rI Y (aL 4) 12 r3.2.2.2.2.2, oX3 aguess aC iguess_cells, oX4 ahistory ihistory_next ihistory_size, oX9 anow aL aC r5.1 inow_spades r5.2.1, rI Y (anow 1) 12 r5.2.2.1, rI Y (anow 2) 12 r5.2.2.2.1, rI Y (anow 4) 8 r5.2.2.2.2, oX10 atext (0 : Int32), rC Y (atext 1) 80 ctext_signs]) rfl ?_
    refine a_aload_n C dX11_shore_36 rfl ?_
    refine a_get C eX11_shore_83 dX11_shore_37 0 rfl rfl ?_
    obtain ⟨r6, h6, hf⟩ := fx_bind hf
    refine a_fV C (kX3_clear l D Y aguess aC iguess_cells r6 h6) gX11_shore_X3_clear rfl dvX3_clear ⟨⟨rfl, rfl⟩, ⟨Nat.le_of_ble_eq_true rfl, Nat.le_of_ble_eq_true rfl⟩, ⟨Nat.le_of_ble_eq_true rfl, Nat.le_of_ble_eq_true rfl⟩⟩ rfl (Nat.le_of_ble_eq_true rfl) dX11_shore_40 rfl rfl [7] rfl rfl rfl (wn := [oX11 ao atext atold aL aC alaw aotherLaw anow atrial ahistory aguess acrewPlan amoatPlan achance io_wind io_spadeLimit, rI Y (ao 2) 3 co_keptChildren, oX5 aL r3.2.1, rI Y (aL 1) 12 r3.2.2.1, rI Y (aL 2) 12 r3.2.2.2.1, rI Y (aL 3) 12 r3.2.2.2.2.1, rI Y (aL 4) 12 r3.2.2.2.2.2, oX3 aguess aC r6, oX4 ahistory ihistory_next ihistory_size, oX9 anow aL aC r5.1 inow_spades r5.2.1, rI Y (anow 1) 12 r5.2.2.1, rI Y (anow 2) 12 r5.2.2.2.1, rI Y (anow 4) 8 r5.2.2.2.2, oX10 atext (0 : Int32), rC Y (atext 1) 80 ctext_signs]) rfl ?_
    refine a_aload_n C dX11_shore_43 rfl ?_
    refine a_get C eX11_shore_66 dX11_shore_44 0 rfl rfl ?_
    obtain ⟨r7, h7, hf⟩ := fx_bind hf
    refine a_fV C (kX4_clear l D Y ahistory ihistory_next ihistory_size r7 h7) gX11_shore_X4_clear rfl dvX4_clear ⟨⟨rfl, rfl⟩, ⟨Nat.le_of_ble_eq_true rfl, Nat.le_of_ble_eq_true rfl⟩, ⟨Nat.le_of_ble_eq_true rfl, Nat.le_of_ble_eq_true rfl⟩⟩ rfl (Nat.le_of_ble_eq_true rfl) dX11_shore_47 rfl rfl [8] rfl rfl rfl (wn := [oX11 ao atext atold aL aC alaw aotherLaw anow atrial ahistory aguess acrewPlan amoatPlan achance io_wind io_spadeLimit, rI Y (ao 2) 3 co_keptChildren, oX5 aL r3.2.1, rI Y (aL 1) 12 r3.2.2.1, rI Y (aL 2) 12 r3.2.2.2.1, rI Y (aL 3) 12 r3.2.2.2.2.1, rI Y (aL 4) 12 r3.2.2.2.2.2, oX3 aguess aC r6, oX4 ahistory ihistory_next r7, oX9 anow aL aC r5.1 inow_spades r5.2.1, rI Y (anow 1) 12 r5.2.2.1, rI Y (anow 2) 12 r5.2.2.2.1, rI Y (anow 4) 8 r5.2.2.2.2, oX10 atext (0 : Int32), rC Y (atext 1) 80 ctext_signs]) rfl ?_
    refine a_iconst C (0 : Int32) dX11_shore_50 (by decide) ?_
    refine a_istore_n C dX11_shore_51 (by decide) rfl ?_
    refine a_kill [1] ?_
    exact kX11_shore_b52 C hQ hf
  · have hf := fx_f h4 hf
    refine a_iconst C (-1 : Int32) dX11_shore_25 (by decide) ?_
    refine a_iload_n C dX11_shore_26 rfl ?_
    refine a_isub C dX11_shore_27 ?_
    obtain rfl := fx_some hf
    exact a_iret C hQ dX11_shore_28 ⟨rfl, rfl⟩
-- X11_children
abbrev rmX11_children : Room := { frames := 3, cells := 0, slots := 0, locals := 73 }
theorem dvX11_children : yX11_children.cls = RX11 ∧ yX11_children.cls ≠ "java/lang/invoke/MethodHandle" ∧ yX11_children.cls ≠ "java/lang/invoke/VarHandle" ∧ (parseMethodDescriptor yX11_children.desc).map (fun d => d.parameters.length) = some 0 := by decide +kernel
theorem eX11_children_inX11 : ∀ w ∈ wsX110, w ∈ wsX11_children := by decide +kernel
theorem eX11_children_33 : aF wsX11_children RX11 33 11 3 := ⟨RX11, TX11, 17, rfl, eX11_children_inX11, by decide, by decide +kernel⟩
theorem eX11_children_inX2 : ∀ w ∈ wsX20, w ∈ wsX11_children := by decide +kernel
theorem eX11_children_134 : aF wsX11_children RX11 134 2 0 := ⟨RX2, TX2, 5, rfl, eX11_children_inX2, by decide, by decide +kernel⟩
theorem eX11_children_10 : aF wsX11_children RX11 10 11 0 := ⟨RX11, TX11, 17, rfl, eX11_children_inX11, by decide, by decide +kernel⟩
theorem eX11_children_inX10 : ∀ w ∈ wsX100, w ∈ wsX11_children := by decide +kernel
theorem eX11_children_114 : aF wsX11_children RX11 114 10 1 := ⟨RX10, TX10, 2, rfl, eX11_children_inX10, by decide, by decide +kernel⟩
theorem eX11_children_56 : aF wsX11_children RX11 56 11 8 := ⟨RX11, TX11, 17, rfl, eX11_children_inX11, by decide, by decide +kernel⟩
theorem eX11_children_66 : aF wsX11_children RX11 66 11 10 := ⟨RX11, TX11, 17, rfl, eX11_children_inX11, by decide, by decide +kernel⟩
def fX11_children_b47 (iC_size : Int32) (cC_age : Nat → Int32) (cC_skill : Nat → Int32) (cC_friend : Nat → Int32) (cC_pals : Nat → Int32) (ihistory_size : Int32) (cnow_mood : Nat → Int32) (cnow_place : Nat → Int32) (itext_length : Int32) (ctext_signs : Nat → Int32) (x2 : Int32) : Option (Int32 × Int32 × (Nat → Int32) × (Nat → Int32) × (Nat → Int32) × (Nat → Int32) × Int32 × (Nat → Int32) × (Nat → Int32) × Int32) :=
  some (x2, iC_size, cC_age, cC_skill, cC_friend, cC_pals, ihistory_size, cnow_mood, cnow_place, itext_length)
set_option maxHeartbeats 4000000 in
set_option maxRecDepth 100000 in
theorem kX11_children_b47 {X : cxT} {l : Launch} {D : va_G} {Y : Nat → ClassId} {ao atext atold aL aC alaw aotherLaw anow atrial ahistory aguess acrewPlan amoatPlan achance : Nat → Nat} {io_wind : Int32} {io_spadeLimit : Int32} {iC_size : Int32} {cC_age : Nat → Int32} {cC_skill : Nat → Int32} {cC_friend : Nat → Int32} {cC_pals : Nat → Int32} {ihistory_next : Int32} {ihistory_size : Int32} {inow_moats : Int32} {inow_spades : Int32} {inow_tides : Int32} {cnow_mood : Nat → Int32} {cnow_place : Nat → Int32} {itext_length : Int32} {ctext_signs : Nat → Int32} {x2 : Int32} {res : Int32 × Int32 × (Nat → Int32) × (Nat → Int32) × (Nat → Int32) × (Nat → Int32) × Int32 × (Nat → Int32) × (Nat → Int32) × Int32} (C : axC X l D Y cX11_children 3 RX11 wsX11_children rmX11_children (some .int)) (hQ : axQ X 0 0 (fun r9 w9 => r9 = (some (.int res.1)) ∧ w9 = [oX11 ao atext atold aL aC alaw aotherLaw anow atrial ahistory aguess acrewPlan amoatPlan achance io_wind io_spadeLimit, oX2 aC res.2.1, rI Y (aC 1) 8 res.2.2.1, rI Y (aC 2) 8 res.2.2.2.1, rI Y (aC 3) 8 res.2.2.2.2.1, rI Y (aC 4) 8 res.2.2.2.2.2.1, oX4 ahistory ihistory_next res.2.2.2.2.2.2.1, oX9 anow aL aC inow_moats inow_spades inow_tides, rI Y (anow 3) 8 res.2.2.2.2.2.2.2.1, rI Y (anow 4) 8 res.2.2.2.2.2.2.2.2.1, oX10 atext res.2.2.2.2.2.2.2.2.2, rC Y (atext 1) 80 ctext_signs])) (hf : fX11_children_b47 iC_size cC_age cC_skill cC_friend cC_pals ihistory_size cnow_mood cnow_place itext_length ctext_signs x2 = some res) : ax X 0 0 47 [none, none, some (.int x2)] [oX11 ao atext atold aL aC alaw aotherLaw anow atrial ahistory aguess acrewPlan amoatPlan achance io_wind io_spadeLimit, oX2 aC iC_size, rI Y (aC 1) 8 cC_age, rI Y (aC 2) 8 cC_skill, rI Y (aC 3) 8 cC_friend, rI Y (aC 4) 8 cC_pals, oX4 ahistory ihistory_next ihistory_size, oX9 anow aL aC inow_moats inow_spades inow_tides, rI Y (anow 3) 8 cnow_mood, rI Y (anow 4) 8 cnow_place, oX10 atext itext_length, rC Y (atext 1) 80 ctext_signs] [] := by
  unfold fX11_children_b47 at hf
  refine a_iload_n C dX11_children_47 rfl ?_
  obtain rfl := fx_some hf
  exact a_iret C hQ dX11_children_48 ⟨rfl, rfl⟩
def fX11_children (iC_size : Int32) (cC_age : Nat → Int32) (cC_skill : Nat → Int32) (cC_friend : Nat → Int32) (cC_pals : Nat → Int32) (ihistory_size : Int32) (cnow_mood : Nat → Int32) (cnow_place : Nat → Int32) (itext_length : Int32) (ctext_signs : Nat → Int32) : Option (Int32 × Int32 × (Nat → Int32) × (Nat → Int32) × (Nat → Int32) × (Nat → Int32) × Int32 × (Nat → Int32) × (Nat → Int32) × Int32) :=
  (fX2_read iC_size cC_age cC_skill cC_friend cC_pals itext_length ctext_signs).bind (fun r1 => if r1.1 ≤ (0 : Int32) then (fX11_children_b47 r1.2.1 r1.2.2.1 r1.2.2.2.1 r1.2.2.2.2.1 r1.2.2.2.2.2 ihistory_size cnow_mood cnow_place (0 : Int32) ctext_signs r1.1) else ((fX9_welcome cnow_mood cnow_place r1.2.1 iC_size).bind (fun r3 => (fX4_clear ihistory_size).bind (fun r4 => fX11_children_b47 r1.2.1 r1.2.2.1 r1.2.2.2.1 r1.2.2.2.2.1 r1.2.2.2.2.2 r4 r3.1 r3.2 (0 : Int32) ctext_signs r1.1))))
set_option maxHeartbeats 4000000 in
set_option maxRecDepth 100000 in
theorem kX11_children (l : Launch) (D : va_G) (Y : Nat → ClassId) (ao atext atold aL aC alaw aotherLaw anow atrial ahistory aguess acrewPlan amoatPlan achance : Nat → Nat) (io_wind : Int32) (io_spadeLimit : Int32) (iC_size : Int32) (cC_age : Nat → Int32) (cC_skill : Nat → Int32) (cC_friend : Nat → Int32) (cC_pals : Nat → Int32) (ihistory_next : Int32) (ihistory_size : Int32) (inow_moats : Int32) (inow_spades : Int32) (inow_tides : Int32) (cnow_mood : Nat → Int32) (cnow_place : Nat → Int32) (itext_length : Int32) (ctext_signs : Nat → Int32) (res : Int32 × Int32 × (Nat → Int32) × (Nat → Int32) × (Nat → Int32) × (Nat → Int32) × Int32 × (Nat → Int32) × (Nat → Int32) × Int32) (hf : fX11_children iC_size cC_age cC_skill cC_friend cC_pals ihistory_size cnow_mood cnow_place itext_length ctext_signs = some res) : amf l D Y yX11_children wsX11_children rmX11_children [.ref (ao 0)] [oX11 ao atext atold aL aC alaw aotherLaw anow atrial ahistory aguess acrewPlan amoatPlan achance io_wind io_spadeLimit, oX2 aC iC_size, rI Y (aC 1) 8 cC_age, rI Y (aC 2) 8 cC_skill, rI Y (aC 3) 8 cC_friend, rI Y (aC 4) 8 cC_pals, oX4 ahistory ihistory_next ihistory_size, oX9 anow aL aC inow_moats inow_spades inow_tides, rI Y (anow 3) 8 cnow_mood, rI Y (anow 4) 8 cnow_place, oX10 atext itext_length, rC Y (atext 1) 80 ctext_signs] (some (.int res.1)) [oX11 ao atext atold aL aC alaw aotherLaw anow atrial ahistory aguess acrewPlan amoatPlan achance io_wind io_spadeLimit, oX2 aC res.2.1, rI Y (aC 1) 8 res.2.2.1, rI Y (aC 2) 8 res.2.2.2.1, rI Y (aC 3) 8 res.2.2.2.2.1, rI Y (aC 4) 8 res.2.2.2.2.2.1, oX4 ahistory ihistory_next res.2.2.2.2.2.2.1, oX9 anow aL aC inow_moats inow_spades inow_tides, rI Y (anow 3) 8 res.2.2.2.2.2.2.2.1, rI Y (anow 4) 8 res.2.2.2.2.2.2.2.2.1, oX10 atext res.2.2.2.2.2.2.2.2.2, rC Y (atext 1) 80 ctext_signs] := by
  refine amf.of (cc := cX11_children) (maxL := 3) (rt := (some .int)) (by decide) rfl RX11 rfl (Nat.le_of_ble_eq_true rfl) [some (.ref (ao 0)), none, none] rfl ?_
  intro X C hQ
  unfold fX11_children at hf
  refine a_aload_n C dX11_children_0 rfl ?_
  refine a_get C eX11_children_33 dX11_children_1 0 rfl rfl ?_
  refine a_get C eX11_children_134 dX11_children_4 1 rfl rfl ?_
  refine a_istore_n C dX11_children_7 (by decide) rfl ?_
  refine a_aload_n C dX11_children_8 rfl ?_
  refine a_get C eX11_children_33 dX11_children_9 0 rfl rfl ?_
  refine a_aload_n C dX11_children_12 rfl ?_
  refine a_get C eX11_children_10 dX11_children_13 0 rfl rfl ?_
  obtain ⟨r1, h1, hf⟩ := fx_bind hf
  refine a_fV C (kX2_read l D Y aC atext iC_size cC_age cC_skill cC_friend cC_pals itext_length ctext_signs r1 h1) gX11_children_X2_read rfl dvX2_read ⟨⟨rfl, rfl⟩, ⟨Nat.le_of_ble_eq_true rfl, Nat.le_of_ble_eq_true rfl⟩, ⟨Nat.le_of_ble_eq_true rfl, Nat.le_of_ble_eq_true rfl⟩⟩ rfl (Nat.le_of_ble_eq_true rfl) dX11_children_16 rfl rfl [1, 2, 3, 4, 5, 10, 11] rfl rfl rfl (wn := [oX11 ao atext atold aL aC alaw aotherLaw anow atrial ahistory aguess acrewPlan amoatPlan achance io_wind io_spadeLimit, oX2 aC r1.2.1, rI Y (aC 1) 8 r1.2.2.1, rI Y (aC 2) 8 r1.2.2.2.1, rI Y (aC 3) 8 r1.2.2.2.2.1, rI Y (aC 4) 8 r1.2.2.2.2.2, oX4 ahistory ihistory_next ihistory_size, oX9 anow aL aC inow_moats inow_spades inow_tides, rI Y (anow 3) 8 cnow_mood, rI Y (anow 4) 8 cnow_place, oX10 atext itext_length, rC Y (atext 1) 80 ctext_signs]) rfl ?_
  refine a_istore_n C dX11_children_19 (by decide) rfl ?_
  refine a_aload_n C dX11_children_20 rfl ?_
  refine a_get C eX11_children_10 dX11_children_21 0 rfl rfl ?_
  refine a_iconst C (0 : Int32) dX11_children_24 (by decide) ?_
  refine a_put C eX11_children_114 tfX10_1 dX11_children_25 10 rfl rfl rfl (Nat.le_of_ble_eq_true rfl) ?_
  refine a_iload_n C dX11_children_28 rfl ?_
  refine a_if_le C 47 dX11_children_29 (by decide) (fun h2 => ?_) (fun h2 => ?_)
  · have hf := fx_t h2 hf
    refine a_kill [0, 1] ?_
    exact kX11_children_b47 C hQ hf
  · have hf := fx_f h2 hf
    refine a_aload_n C dX11_children_32 rfl ?_
    refine a_get C eX11_children_56 dX11_children_33 0 rfl rfl ?_
    refine a_iload_n C dX11_children_36 rfl ?_
    obtain ⟨r3, h3, hf⟩ := fx_bind hf
    refine a_fV C (kX9_welcome l D Y anow aL aC inow_moats inow_spades inow_tides cnow_mood cnow_place r1.2.1 iC_size r3 h3) gX11_children_X9_welcome rfl dvX9_welcome ⟨⟨rfl, rfl⟩, ⟨Nat.le_of_ble_eq_true rfl, Nat.le_of_ble_eq_true rfl⟩, ⟨Nat.le_of_ble_eq_true rfl, Nat.le_of_ble_eq_true rfl⟩⟩ rfl (Nat.le_of_ble_eq_true rfl) dX11_children_37 rfl rfl [7, 8, 9, 1] rfl rfl rfl (wn := [oX11 ao atext atold aL aC alaw aotherLaw anow atrial ahistory aguess acrewPlan amoatPlan achance io_wind io_spadeLimit, oX2 aC r1.2.1, rI Y (aC 1) 8 r1.2.2.1, rI Y (aC 2) 8 r1.2.2.2.1, rI Y (aC 3) 8 r1.2.2.2.2.1, rI Y (aC 4) 8 r1.2.2.2.2.2, oX4 ahistory ihistory_next ihistory_size, oX9 anow aL aC inow_moats inow_spades inow_tides, rI Y (anow 3) 8 r3.1, rI Y (anow 4) 8 r3.2, oX10 atext (0 : Int32), rC Y (atext 1) 80 ctext_signs]) rfl ?_
    refine a_aload_n C dX11_children_40 rfl ?_
    refine a_get C eX11_children_66 dX11_children_41 0 rfl rfl ?_
    obtain ⟨r4, h4, hf⟩ := fx_bind hf
    refine a_fV C (kX4_clear l D Y ahistory ihistory_next ihistory_size r4 h4) gX11_children_X4_clear rfl dvX4_clear ⟨⟨rfl, rfl⟩, ⟨Nat.le_of_ble_eq_true rfl, Nat.le_of_ble_eq_true rfl⟩, ⟨Nat.le_of_ble_eq_true rfl, Nat.le_of_ble_eq_true rfl⟩⟩ rfl (Nat.le_of_ble_eq_true rfl) dX11_children_44 rfl rfl [6] rfl rfl rfl (wn := [oX11 ao atext atold aL aC alaw aotherLaw anow atrial ahistory aguess acrewPlan amoatPlan achance io_wind io_spadeLimit, oX2 aC r1.2.1, rI Y (aC 1) 8 r1.2.2.1, rI Y (aC 2) 8 r1.2.2.2.1, rI Y (aC 3) 8 r1.2.2.2.2.1, rI Y (aC 4) 8 r1.2.2.2.2.2, oX4 ahistory ihistory_next r4, oX9 anow aL aC inow_moats inow_spades inow_tides, rI Y (anow 3) 8 r3.1, rI Y (anow 4) 8 r3.2, oX10 atext (0 : Int32), rC Y (atext 1) 80 ctext_signs]) rfl ?_
    refine a_kill [0, 1] ?_
    exact kX11_children_b47 C hQ hf
-- X11_set
abbrev rmX11_set : Room := { frames := 1, cells := 0, slots := 0, locals := 22 }
theorem dvX11_set : yX11_set.cls = RX11 ∧ yX11_set.cls ≠ "java/lang/invoke/MethodHandle" ∧ yX11_set.cls ≠ "java/lang/invoke/VarHandle" ∧ (parseMethodDescriptor yX11_set.desc).map (fun d => d.parameters.length) = some 2 := by decide +kernel
theorem eX11_set_inX11 : ∀ w ∈ wsX110, w ∈ wsX11_set := by decide +kernel
theorem eX11_set_56 : aF wsX11_set RX11 56 11 8 := ⟨RX11, TX11, 17, rfl, eX11_set_inX11, by decide, by decide +kernel⟩
theorem eX11_set_inX9 : ∀ w ∈ wsX90, w ∈ wsX11_set := by decide +kernel
theorem eX11_set_192 : aF wsX11_set RX11 192 9 7 := ⟨RX9, TX9, 9, rfl, eX11_set_inX9, by decide, by decide +kernel⟩
theorem eX11_set_47 : aF wsX11_set RX11 47 11 7 := ⟨RX11, TX11, 17, rfl, eX11_set_inX11, by decide, by decide +kernel⟩
theorem eX11_set_207 : aF wsX11_set RX11 207 11 6 := ⟨RX11, TX11, 17, rfl, eX11_set_inX11, by decide, by decide +kernel⟩
def fX11_set_b62 (io_wind : Int32) (io_spadeLimit : Int32) (inow_spades : Int32) : Option (Int32 × Int32 × Int32) :=
  some ((-1 : Int32), io_wind, io_spadeLimit)
set_option maxHeartbeats 4000000 in
set_option maxRecDepth 100000 in
theorem kX11_set_b62 {X : cxT} {l : Launch} {D : va_G} {Y : Nat → ClassId} {ao atext atold aL aC alaw aotherLaw anow atrial ahistory aguess acrewPlan amoatPlan achance : Nat → Nat} {io_wind : Int32} {io_spadeLimit : Int32} {inow_moats : Int32} {inow_spades : Int32} {inow_tides : Int32} {res : Int32 × Int32 × Int32} (C : axC X l D Y cX11_set 4 RX11 wsX11_set rmX11_set (some .int)) (hQ : axQ X 0 0 (fun r9 w9 => r9 = (some (.int res.1)) ∧ w9 = [oX11 ao atext atold aL aC alaw aotherLaw anow atrial ahistory aguess acrewPlan amoatPlan achance res.2.1 res.2.2, oX9 anow aL aC inow_moats inow_spades inow_tides])) (hf : fX11_set_b62 io_wind io_spadeLimit inow_spades = some res) : ax X 0 0 62 [none, none, none, none] [oX11 ao atext atold aL aC alaw aotherLaw anow atrial ahistory aguess acrewPlan amoatPlan achance io_wind io_spadeLimit, oX9 anow aL aC inow_moats inow_spades inow_tides] [] := by
  unfold fX11_set_b62 at hf
  refine a_iconst C (-1 : Int32) dX11_set_62 (by decide) ?_
  obtain rfl := fx_some hf
  exact a_iret C hQ dX11_set_63 ⟨rfl, rfl⟩
def fX11_set_b26 (io_wind : Int32) (io_spadeLimit : Int32) (inow_spades : Int32) (x1 : Int32) (x2 : Int32) : Option (Int32 × Int32 × Int32) :=
  if x1 = (1 : Int32) then ((fJ6_bitCount_0f7a4 inow_spades).bind (fun r2 => (fX11_within x2 r2 (8 : Int32)).bind (fun r3 => if r3 = (0 : Int32) then (fX11_set_b62 io_wind io_spadeLimit inow_spades) else (some (io_spadeLimit, io_wind, x2))))) else (fX11_set_b62 io_wind io_spadeLimit inow_spades)
set_option maxHeartbeats 4000000 in
set_option maxRecDepth 100000 in
theorem kX11_set_b26 {X : cxT} {l : Launch} {D : va_G} {Y : Nat → ClassId} {ao atext atold aL aC alaw aotherLaw anow atrial ahistory aguess acrewPlan amoatPlan achance : Nat → Nat} {io_wind : Int32} {io_spadeLimit : Int32} {inow_moats : Int32} {inow_spades : Int32} {inow_tides : Int32} {x1 : Int32} {x2 : Int32} {res : Int32 × Int32 × Int32} (C : axC X l D Y cX11_set 4 RX11 wsX11_set rmX11_set (some .int)) (hQ : axQ X 0 0 (fun r9 w9 => r9 = (some (.int res.1)) ∧ w9 = [oX11 ao atext atold aL aC alaw aotherLaw anow atrial ahistory aguess acrewPlan amoatPlan achance res.2.1 res.2.2, oX9 anow aL aC inow_moats inow_spades inow_tides])) (hf : fX11_set_b26 io_wind io_spadeLimit inow_spades x1 x2 = some res) : ax X 0 0 26 [some (.ref (ao 0)), some (.int x1), some (.int x2), none] [oX11 ao atext atold aL aC alaw aotherLaw anow atrial ahistory aguess acrewPlan amoatPlan achance io_wind io_spadeLimit, oX9 anow aL aC inow_moats inow_spades inow_tides] [] := by
  unfold fX11_set_b26 at hf
  refine a_iload_n C dX11_set_26 rfl ?_
  refine a_iconst C (1 : Int32) dX11_set_27 (by decide) ?_
  refine a_icmp_ne C 62 dX11_set_28 (by decide) (fun h1 => ?_) (fun h1 => ?_)
  · have hf := fx_f h1 hf
    refine a_kill [0, 1, 2] ?_
    exact kX11_set_b62 C hQ hf
  · have hf := fx_t h1 hf
    refine a_iload_n C dX11_set_31 rfl ?_
    refine a_aload_n C dX11_set_32 rfl ?_
    refine a_get C eX11_set_56 dX11_set_33 0 rfl rfl ?_
    refine a_get C eX11_set_192 dX11_set_36 1 rfl rfl ?_
    obtain ⟨r2, h2, hf⟩ := fx_bind hf
    refine a_fS C (kJ6_bitCount_0f7a4 l D Y inow_spades r2 h2) gX11_set_J6_bitCount_0f7a4 rfl dvJ6_bitCount_0f7a4 ⟨⟨rfl, rfl⟩, ⟨Nat.le_of_ble_eq_true rfl, Nat.le_of_ble_eq_true rfl⟩, ⟨Nat.le_of_ble_eq_true rfl, Nat.le_of_ble_eq_true rfl⟩⟩ rfl (Nat.le_of_ble_eq_true rfl) dX11_set_39 [] rfl rfl rfl (wn := [oX11 ao atext atold aL aC alaw aotherLaw anow atrial ahistory aguess acrewPlan amoatPlan achance io_wind io_spadeLimit, oX9 anow aL aC inow_moats inow_spades inow_tides]) rfl ?_
    refine a_bipush C (8 : Int32) dX11_set_42 (by decide) ?_
    obtain ⟨r3, h3, hf⟩ := fx_bind hf
    refine a_fS C (kX11_within l D Y x2 r2 (8 : Int32) r3 h3) gX11_set_X11_within rfl dvX11_within ⟨⟨rfl, rfl⟩, ⟨Nat.le_of_ble_eq_true rfl, Nat.le_of_ble_eq_true rfl⟩, ⟨Nat.le_of_ble_eq_true rfl, Nat.le_of_ble_eq_true rfl⟩⟩ rfl (Nat.le_of_ble_eq_true rfl) dX11_set_44 [] rfl rfl rfl (wn := [oX11 ao atext atold aL aC alaw aotherLaw anow atrial ahistory aguess acrewPlan amoatPlan achance io_wind io_spadeLimit, oX9 anow aL aC inow_moats inow_spades inow_tides]) rfl ?_
    refine a_if_eq C 62 dX11_set_47 (by decide) (fun h4 => ?_) (fun h4 => ?_)
    · have hf := fx_t h4 hf
      refine a_kill [0, 1, 2] ?_
      exact kX11_set_b62 C hQ hf
    · have hf := fx_f h4 hf
      refine a_aload_n C dX11_set_50 rfl ?_
      refine a_get C eX11_set_47 dX11_set_51 0 rfl rfl ?_
      refine a_istore_n C dX11_set_54 (by decide) rfl ?_
      refine a_aload_n C dX11_set_55 rfl ?_
      refine a_iload_n C dX11_set_56 rfl ?_
      refine a_put C eX11_set_47 tfX11_7 dX11_set_57 0 rfl rfl rfl (Nat.le_of_ble_eq_true rfl) ?_
      refine a_iload_n C dX11_set_60 rfl ?_
      obtain rfl := fx_some hf
      exact a_iret C hQ dX11_set_61 ⟨rfl, rfl⟩
def fX11_set (io_wind : Int32) (io_spadeLimit : Int32) (inow_spades : Int32) (x1 : Int32) (x2 : Int32) : Option (Int32 × Int32 × Int32) :=
  if x1 = (0 : Int32) then ((fX11_within x2 (0 : Int32) (9 : Int32)).bind (fun r6 => if r6 = (0 : Int32) then (fX11_set_b26 io_wind io_spadeLimit inow_spades x1 x2) else (some (io_wind, x2, io_spadeLimit)))) else (fX11_set_b26 io_wind io_spadeLimit inow_spades x1 x2)
set_option maxHeartbeats 4000000 in
set_option maxRecDepth 100000 in
theorem kX11_set (l : Launch) (D : va_G) (Y : Nat → ClassId) (ao atext atold aL aC alaw aotherLaw anow atrial ahistory aguess acrewPlan amoatPlan achance : Nat → Nat) (io_wind : Int32) (io_spadeLimit : Int32) (inow_moats : Int32) (inow_spades : Int32) (inow_tides : Int32) (x1 : Int32) (x2 : Int32) (res : Int32 × Int32 × Int32) (hf : fX11_set io_wind io_spadeLimit inow_spades x1 x2 = some res) : amf l D Y yX11_set wsX11_set rmX11_set [.ref (ao 0), .int x1, .int x2] [oX11 ao atext atold aL aC alaw aotherLaw anow atrial ahistory aguess acrewPlan amoatPlan achance io_wind io_spadeLimit, oX9 anow aL aC inow_moats inow_spades inow_tides] (some (.int res.1)) [oX11 ao atext atold aL aC alaw aotherLaw anow atrial ahistory aguess acrewPlan amoatPlan achance res.2.1 res.2.2, oX9 anow aL aC inow_moats inow_spades inow_tides] := by
  refine amf.of (cc := cX11_set) (maxL := 4) (rt := (some .int)) (by decide) rfl RX11 rfl (Nat.le_of_ble_eq_true rfl) [some (.ref (ao 0)), some (.int x1), some (.int x2), none] rfl ?_
  intro X C hQ
  unfold fX11_set at hf
  refine a_iload_n C dX11_set_0 rfl ?_
  refine a_if_ne C 26 dX11_set_1 (by decide) (fun h5 => ?_) (fun h5 => ?_)
  · have hf := fx_f h5 hf
    exact kX11_set_b26 C hQ hf
  · have hf := fx_t h5 hf
    refine a_iload_n C dX11_set_4 rfl ?_
    refine a_iconst C (0 : Int32) dX11_set_5 (by decide) ?_
    refine a_bipush C (9 : Int32) dX11_set_6 (by decide) ?_
    obtain ⟨r6, h6, hf⟩ := fx_bind hf
    refine a_fS C (kX11_within l D Y x2 (0 : Int32) (9 : Int32) r6 h6) gX11_set_X11_within rfl dvX11_within ⟨⟨rfl, rfl⟩, ⟨Nat.le_of_ble_eq_true rfl, Nat.le_of_ble_eq_true rfl⟩, ⟨Nat.le_of_ble_eq_true rfl, Nat.le_of_ble_eq_true rfl⟩⟩ rfl (Nat.le_of_ble_eq_true rfl) dX11_set_8 [] rfl rfl rfl (wn := [oX11 ao atext atold aL aC alaw aotherLaw anow atrial ahistory aguess acrewPlan amoatPlan achance io_wind io_spadeLimit, oX9 anow aL aC inow_moats inow_spades inow_tides]) rfl ?_
    refine a_if_eq C 26 dX11_set_11 (by decide) (fun h7 => ?_) (fun h7 => ?_)
    · have hf := fx_t h7 hf
      exact kX11_set_b26 C hQ hf
    · have hf := fx_f h7 hf
      refine a_aload_n C dX11_set_14 rfl ?_
      refine a_get C eX11_set_207 dX11_set_15 0 rfl rfl ?_
      refine a_istore_n C dX11_set_18 (by decide) rfl ?_
      refine a_aload_n C dX11_set_19 rfl ?_
      refine a_iload_n C dX11_set_20 rfl ?_
      refine a_put C eX11_set_207 tfX11_6 dX11_set_21 0 rfl rfl rfl (Nat.le_of_ble_eq_true rfl) ?_
      refine a_iload_n C dX11_set_24 rfl ?_
      obtain rfl := fx_some hf
      exact a_iret C hQ dX11_set_25 ⟨rfl, rfl⟩
-- X11_floods
abbrev rmX11_floods : Room := { frames := 2, cells := 0, slots := 0, locals := 46 }
theorem dvX11_floods : yX11_floods.cls = RX11 ∧ yX11_floods.cls ≠ "java/lang/invoke/MethodHandle" ∧ yX11_floods.cls ≠ "java/lang/invoke/VarHandle" ∧ (parseMethodDescriptor yX11_floods.desc).map (fun d => d.parameters.length) = some 2 := by decide +kernel
theorem eX11_floods_inX11 : ∀ w ∈ wsX110, w ∈ wsX11_floods := by decide +kernel
theorem eX11_floods_26 : aF wsX11_floods RX11 26 11 2 := ⟨RX11, TX11, 17, rfl, eX11_floods_inX11, by decide, by decide +kernel⟩
theorem eX11_floods_60 : aF wsX11_floods RX11 60 11 9 := ⟨RX11, TX11, 17, rfl, eX11_floods_inX11, by decide, by decide +kernel⟩
theorem eX11_floods_inX9 : ∀ w ∈ wsX90, w ∈ wsX11_floods := by decide +kernel
theorem eX11_floods_162 : aF wsX11_floods RX11 162 9 3 := ⟨RX9, TX9, 9, rfl, eX11_floods_inX9, by decide, by decide +kernel⟩
theorem eX11_floods_19 : aF wsX11_floods RX11 19 11 1 := ⟨RX11, TX11, 17, rfl, eX11_floods_inX11, by decide, by decide +kernel⟩
def fX11_floods_b22 (iL_cells : Int32) (cL_dyke : Nat → Int32) (itold_size : Int32) (ctold_numbers : Nat → Int64) (ctrial_depth : Nat → Int32) : Option (Int32 × Int32 × (Nat → Int64) × (Nat → Int32)) :=
  some ((-1 : Int32), itold_size, ctold_numbers, ctrial_depth)
set_option maxHeartbeats 4000000 in
set_option maxRecDepth 100000 in
theorem kX11_floods_b22 {X : cxT} {l : Launch} {D : va_G} {Y : Nat → ClassId} {ao atext atold aL aC alaw aotherLaw anow atrial ahistory aguess acrewPlan amoatPlan achance : Nat → Nat} {io_wind : Int32} {io_spadeLimit : Int32} {iL_cells : Int32} {cL_dyke : Nat → Int32} {itold_size : Int32} {ctold_numbers : Nat → Int64} {itrial_moats : Int32} {itrial_spades : Int32} {itrial_tides : Int32} {ctrial_depth : Nat → Int32} {res : Int32 × Int32 × (Nat → Int64) × (Nat → Int32)} (C : axC X l D Y cX11_floods 3 RX11 wsX11_floods rmX11_floods (some .int)) (hQ : axQ X 0 0 (fun r9 w9 => r9 = (some (.int res.1)) ∧ w9 = [oX11 ao atext atold aL aC alaw aotherLaw anow atrial ahistory aguess acrewPlan amoatPlan achance io_wind io_spadeLimit, oX5 aL iL_cells, rI Y (aL 2) 12 cL_dyke, oX8 atold res.2.1, rJ Y (atold 1) 12 res.2.2.1, oX9 atrial aL aC itrial_moats itrial_spades itrial_tides, rI Y (atrial 2) 12 res.2.2.2])) (hf : fX11_floods_b22 iL_cells cL_dyke itold_size ctold_numbers ctrial_depth = some res) : ax X 0 0 22 [none, none, none] [oX11 ao atext atold aL aC alaw aotherLaw anow atrial ahistory aguess acrewPlan amoatPlan achance io_wind io_spadeLimit, oX5 aL iL_cells, rI Y (aL 2) 12 cL_dyke, oX8 atold itold_size, rJ Y (atold 1) 12 ctold_numbers, oX9 atrial aL aC itrial_moats itrial_spades itrial_tides, rI Y (atrial 2) 12 ctrial_depth] [] := by
  unfold fX11_floods_b22 at hf
  refine a_iconst C (-1 : Int32) dX11_floods_22 (by decide) ?_
  obtain rfl := fx_some hf
  exact a_iret C hQ dX11_floods_23 ⟨rfl, rfl⟩
def fX11_floods (iL_cells : Int32) (cL_dyke : Nat → Int32) (itold_size : Int32) (ctold_numbers : Nat → Int64) (ctrial_depth : Nat → Int32) (x1 : Int32) (x2 : Int32) : Option (Int32 × Int32 × (Nat → Int64) × (Nat → Int32)) :=
  (fX5_has iL_cells x1).bind (fun r1 => if r1 = (0 : Int32) then (fX11_floods_b22 iL_cells cL_dyke itold_size ctold_numbers ctrial_depth) else ((fX11_within x2 (1 : Int32) (999 : Int32)).bind (fun r3 => if r3 = (0 : Int32) then (fX11_floods_b22 iL_cells cL_dyke itold_size ctold_numbers ctrial_depth) else ((fJ7_fill_53178 ctrial_depth 12 (0 : Int32)).bind (fun r5 => if inb x1 12 then (fX9_spread (upd r5 (Int32.toNatClampNeg x1) x2) iL_cells cL_dyke).bind (fun r7 => (fX9_wet r7 iL_cells).bind (fun r8 => (fJ6_bitCount_0f7a4 r8).bind (fun r9 => (fX9_water r7 iL_cells).bind (fun r10 => (fX8_tell_ itold_size ctold_numbers (r9.toInt64) (r10.toInt64)).bind (fun r11 => (fX9_wet r7 iL_cells).bind (fun r12 => some (r12, r11.1, r11.2, r7))))))) else none)))))
set_option maxHeartbeats 4000000 in
set_option maxRecDepth 100000 in
theorem kX11_floods (l : Launch) (D : va_G) (Y : Nat → ClassId) (ao atext atold aL aC alaw aotherLaw anow atrial ahistory aguess acrewPlan amoatPlan achance : Nat → Nat) (io_wind : Int32) (io_spadeLimit : Int32) (iL_cells : Int32) (cL_dyke : Nat → Int32) (itold_size : Int32) (ctold_numbers : Nat → Int64) (itrial_moats : Int32) (itrial_spades : Int32) (itrial_tides : Int32) (ctrial_depth : Nat → Int32) (x1 : Int32) (x2 : Int32) (res : Int32 × Int32 × (Nat → Int64) × (Nat → Int32)) (hf : fX11_floods iL_cells cL_dyke itold_size ctold_numbers ctrial_depth x1 x2 = some res) : amf l D Y yX11_floods wsX11_floods rmX11_floods [.ref (ao 0), .int x1, .int x2] [oX11 ao atext atold aL aC alaw aotherLaw anow atrial ahistory aguess acrewPlan amoatPlan achance io_wind io_spadeLimit, oX5 aL iL_cells, rI Y (aL 2) 12 cL_dyke, oX8 atold itold_size, rJ Y (atold 1) 12 ctold_numbers, oX9 atrial aL aC itrial_moats itrial_spades itrial_tides, rI Y (atrial 2) 12 ctrial_depth] (some (.int res.1)) [oX11 ao atext atold aL aC alaw aotherLaw anow atrial ahistory aguess acrewPlan amoatPlan achance io_wind io_spadeLimit, oX5 aL iL_cells, rI Y (aL 2) 12 cL_dyke, oX8 atold res.2.1, rJ Y (atold 1) 12 res.2.2.1, oX9 atrial aL aC itrial_moats itrial_spades itrial_tides, rI Y (atrial 2) 12 res.2.2.2] := by
  refine amf.of (cc := cX11_floods) (maxL := 3) (rt := (some .int)) (by decide) rfl RX11 rfl (Nat.le_of_ble_eq_true rfl) [some (.ref (ao 0)), some (.int x1), some (.int x2)] rfl ?_
  intro X C hQ
  unfold fX11_floods at hf
  refine a_aload_n C dX11_floods_0 rfl ?_
  refine a_get C eX11_floods_26 dX11_floods_1 0 rfl rfl ?_
  refine a_iload_n C dX11_floods_4 rfl ?_
  obtain ⟨r1, h1, hf⟩ := fx_bind hf
  refine a_fV C (kX5_has l D Y aL iL_cells x1 r1 h1) gX11_floods_X5_has rfl dvX5_has ⟨⟨rfl, rfl⟩, ⟨Nat.le_of_ble_eq_true rfl, Nat.le_of_ble_eq_true rfl⟩, ⟨Nat.le_of_ble_eq_true rfl, Nat.le_of_ble_eq_true rfl⟩⟩ rfl (Nat.le_of_ble_eq_true rfl) dX11_floods_5 rfl rfl [1] rfl rfl rfl (wn := [oX11 ao atext atold aL aC alaw aotherLaw anow atrial ahistory aguess acrewPlan amoatPlan achance io_wind io_spadeLimit, oX5 aL iL_cells, rI Y (aL 2) 12 cL_dyke, oX8 atold itold_size, rJ Y (atold 1) 12 ctold_numbers, oX9 atrial aL aC itrial_moats itrial_spades itrial_tides, rI Y (atrial 2) 12 ctrial_depth]) rfl ?_
  refine a_if_eq C 22 dX11_floods_8 (by decide) (fun h2 => ?_) (fun h2 => ?_)
  · have hf := fx_t h2 hf
    refine a_kill [0, 1, 2] ?_
    exact kX11_floods_b22 C hQ hf
  · have hf := fx_f h2 hf
    refine a_iload_n C dX11_floods_11 rfl ?_
    refine a_iconst C (1 : Int32) dX11_floods_12 (by decide) ?_
    refine a_sipush C (999 : Int32) dX11_floods_13 (by decide) ?_
    obtain ⟨r3, h3, hf⟩ := fx_bind hf
    refine a_fS C (kX11_within l D Y x2 (1 : Int32) (999 : Int32) r3 h3) gX11_floods_X11_within rfl dvX11_within ⟨⟨rfl, rfl⟩, ⟨Nat.le_of_ble_eq_true rfl, Nat.le_of_ble_eq_true rfl⟩, ⟨Nat.le_of_ble_eq_true rfl, Nat.le_of_ble_eq_true rfl⟩⟩ rfl (Nat.le_of_ble_eq_true rfl) dX11_floods_16 [] rfl rfl rfl (wn := [oX11 ao atext atold aL aC alaw aotherLaw anow atrial ahistory aguess acrewPlan amoatPlan achance io_wind io_spadeLimit, oX5 aL iL_cells, rI Y (aL 2) 12 cL_dyke, oX8 atold itold_size, rJ Y (atold 1) 12 ctold_numbers, oX9 atrial aL aC itrial_moats itrial_spades itrial_tides, rI Y (atrial 2) 12 ctrial_depth]) rfl ?_
    refine a_if_ne C 24 dX11_floods_19 (by decide) (fun h4 => ?_) (fun h4 => ?_)
    · have hf := fx_f h4 hf
      refine a_aload_n C dX11_floods_24 rfl ?_
      refine a_get C eX11_floods_60 dX11_floods_25 0 rfl rfl ?_
      refine a_get C eX11_floods_162 dX11_floods_28 5 rfl rfl ?_
      refine a_iconst C (0 : Int32) dX11_floods_31 (by decide) ?_
      obtain ⟨r5, h5, hf⟩ := fx_bind hf
      refine a_fS C (kJ7_fill_53178 l D Y (atrial 2) ctrial_depth 12 (0 : Int32) r5 h5) gX11_floods_J7_fill_53178 rfl dvJ7_fill_53178 ⟨⟨rfl, rfl⟩, ⟨Nat.le_of_ble_eq_true rfl, Nat.le_of_ble_eq_true rfl⟩, ⟨Nat.le_of_ble_eq_true rfl, Nat.le_of_ble_eq_true rfl⟩⟩ rfl (Nat.le_of_ble_eq_true rfl) dX11_floods_32 [6] rfl rfl rfl (wn := [oX11 ao atext atold aL aC alaw aotherLaw anow atrial ahistory aguess acrewPlan amoatPlan achance io_wind io_spadeLimit, oX5 aL iL_cells, rI Y (aL 2) 12 cL_dyke, oX8 atold itold_size, rJ Y (atold 1) 12 ctold_numbers, oX9 atrial aL aC itrial_moats itrial_spades itrial_tides, rI Y (atrial 2) 12 r5]) rfl ?_
      refine a_aload_n C dX11_floods_35 rfl ?_
      refine a_get C eX11_floods_60 dX11_floods_36 0 rfl rfl ?_
      refine a_get C eX11_floods_162 dX11_floods_39 5 rfl rfl ?_
      refine a_iload_n C dX11_floods_42 rfl ?_
      refine a_iload_n C dX11_floods_43 rfl ?_
      obtain ⟨h6, hf⟩ := fx_ite hf
      refine a_iast C dX11_floods_44 6 rfl h6 ?_
      refine a_aload_n C dX11_floods_45 rfl ?_
      refine a_get C eX11_floods_60 dX11_floods_46 0 rfl rfl ?_
      obtain ⟨r7, h7, hf⟩ := fx_bind hf
      refine a_fV C (kX9_spread l D Y atrial aL aC itrial_moats itrial_spades itrial_tides (upd r5 (Int32.toNatClampNeg x1) x2) iL_cells cL_dyke r7 h7) gX11_floods_X9_spread rfl dvX9_spread ⟨⟨rfl, rfl⟩, ⟨Nat.le_of_ble_eq_true rfl, Nat.le_of_ble_eq_true rfl⟩, ⟨Nat.le_of_ble_eq_true rfl, Nat.le_of_ble_eq_true rfl⟩⟩ rfl (Nat.le_of_ble_eq_true rfl) dX11_floods_49 rfl rfl [5, 6, 1, 2] rfl rfl rfl (wn := [oX11 ao atext atold aL aC alaw aotherLaw anow atrial ahistory aguess acrewPlan amoatPlan achance io_wind io_spadeLimit, oX5 aL iL_cells, rI Y (aL 2) 12 cL_dyke, oX8 atold itold_size, rJ Y (atold 1) 12 ctold_numbers, oX9 atrial aL aC itrial_moats itrial_spades itrial_tides, rI Y (atrial 2) 12 r7]) rfl ?_
      refine a_aload_n C dX11_floods_52 rfl ?_
      refine a_get C eX11_floods_19 dX11_floods_53 0 rfl rfl ?_
      refine a_aload_n C dX11_floods_56 rfl ?_
      refine a_get C eX11_floods_60 dX11_floods_57 0 rfl rfl ?_
      obtain ⟨r8, h8, hf⟩ := fx_bind hf
      refine a_fV C (kX9_wet l D Y atrial aL aC itrial_moats itrial_spades itrial_tides r7 iL_cells r8 h8) gX11_floods_X9_wet rfl dvX9_wet ⟨⟨rfl, rfl⟩, ⟨Nat.le_of_ble_eq_true rfl, Nat.le_of_ble_eq_true rfl⟩, ⟨Nat.le_of_ble_eq_true rfl, Nat.le_of_ble_eq_true rfl⟩⟩ rfl (Nat.le_of_ble_eq_true rfl) dX11_floods_60 rfl rfl [5, 6, 1] rfl rfl rfl (wn := [oX11 ao atext atold aL aC alaw aotherLaw anow atrial ahistory aguess acrewPlan amoatPlan achance io_wind io_spadeLimit, oX5 aL iL_cells, rI Y (aL 2) 12 cL_dyke, oX8 atold itold_size, rJ Y (atold 1) 12 ctold_numbers, oX9 atrial aL aC itrial_moats itrial_spades itrial_tides, rI Y (atrial 2) 12 r7]) rfl ?_
      obtain ⟨r9, h9, hf⟩ := fx_bind hf
      refine a_fS C (kJ6_bitCount_0f7a4 l D Y r8 r9 h9) gX11_floods_J6_bitCount_0f7a4 rfl dvJ6_bitCount_0f7a4 ⟨⟨rfl, rfl⟩, ⟨Nat.le_of_ble_eq_true rfl, Nat.le_of_ble_eq_true rfl⟩, ⟨Nat.le_of_ble_eq_true rfl, Nat.le_of_ble_eq_true rfl⟩⟩ rfl (Nat.le_of_ble_eq_true rfl) dX11_floods_63 [] rfl rfl rfl (wn := [oX11 ao atext atold aL aC alaw aotherLaw anow atrial ahistory aguess acrewPlan amoatPlan achance io_wind io_spadeLimit, oX5 aL iL_cells, rI Y (aL 2) 12 cL_dyke, oX8 atold itold_size, rJ Y (atold 1) 12 ctold_numbers, oX9 atrial aL aC itrial_moats itrial_spades itrial_tides, rI Y (atrial 2) 12 r7]) rfl ?_
      refine a_i2l C dX11_floods_66 ?_
      refine a_aload_n C dX11_floods_67 rfl ?_
      refine a_get C eX11_floods_60 dX11_floods_68 0 rfl rfl ?_
      obtain ⟨r10, h10, hf⟩ := fx_bind hf
      refine a_fV C (kX9_water l D Y atrial aL aC itrial_moats itrial_spades itrial_tides r7 iL_cells r10 h10) gX11_floods_X9_water rfl dvX9_water ⟨⟨rfl, rfl⟩, ⟨Nat.le_of_ble_eq_true rfl, Nat.le_of_ble_eq_true rfl⟩, ⟨Nat.le_of_ble_eq_true rfl, Nat.le_of_ble_eq_true rfl⟩⟩ rfl (Nat.le_of_ble_eq_true rfl) dX11_floods_71 rfl rfl [5, 6, 1] rfl rfl rfl (wn := [oX11 ao atext atold aL aC alaw aotherLaw anow atrial ahistory aguess acrewPlan amoatPlan achance io_wind io_spadeLimit, oX5 aL iL_cells, rI Y (aL 2) 12 cL_dyke, oX8 atold itold_size, rJ Y (atold 1) 12 ctold_numbers, oX9 atrial aL aC itrial_moats itrial_spades itrial_tides, rI Y (atrial 2) 12 r7]) rfl ?_
      refine a_i2l C dX11_floods_74 ?_
      obtain ⟨r11, h11, hf⟩ := fx_bind hf
      refine a_fV C (kX8_tell_ l D Y atold itold_size ctold_numbers (r9.toInt64) (r10.toInt64) r11 h11) gX11_floods_X8_tell_ rfl dvX8_tell_ ⟨⟨rfl, rfl⟩, ⟨Nat.le_of_ble_eq_true rfl, Nat.le_of_ble_eq_true rfl⟩, ⟨Nat.le_of_ble_eq_true rfl, Nat.le_of_ble_eq_true rfl⟩⟩ rfl (Nat.le_of_ble_eq_true rfl) dX11_floods_75 rfl rfl [3, 4] rfl rfl rfl (wn := [oX11 ao atext atold aL aC alaw aotherLaw anow atrial ahistory aguess acrewPlan amoatPlan achance io_wind io_spadeLimit, oX5 aL iL_cells, rI Y (aL 2) 12 cL_dyke, oX8 atold r11.1, rJ Y (atold 1) 12 r11.2, oX9 atrial aL aC itrial_moats itrial_spades itrial_tides, rI Y (atrial 2) 12 r7]) rfl ?_
      refine a_aload_n C dX11_floods_78 rfl ?_
      refine a_get C eX11_floods_60 dX11_floods_79 0 rfl rfl ?_
      obtain ⟨r12, h12, hf⟩ := fx_bind hf
      refine a_fV C (kX9_wet l D Y atrial aL aC itrial_moats itrial_spades itrial_tides r7 iL_cells r12 h12) gX11_floods_X9_wet rfl dvX9_wet ⟨⟨rfl, rfl⟩, ⟨Nat.le_of_ble_eq_true rfl, Nat.le_of_ble_eq_true rfl⟩, ⟨Nat.le_of_ble_eq_true rfl, Nat.le_of_ble_eq_true rfl⟩⟩ rfl (Nat.le_of_ble_eq_true rfl) dX11_floods_82 rfl rfl [5, 6, 1] rfl rfl rfl (wn := [oX11 ao atext atold aL aC alaw aotherLaw anow atrial ahistory aguess acrewPlan amoatPlan achance io_wind io_spadeLimit, oX5 aL iL_cells, rI Y (aL 2) 12 cL_dyke, oX8 atold r11.1, rJ Y (atold 1) 12 r11.2, oX9 atrial aL aC itrial_moats itrial_spades itrial_tides, rI Y (atrial 2) 12 r7]) rfl ?_
      obtain rfl := fx_some hf
      exact a_iret C hQ dX11_floods_85 ⟨rfl, rfl⟩
    · have hf := fx_t h4 hf
      refine a_kill [0, 1, 2] ?_
      exact kX11_floods_b22 C hQ hf
-- X11_raise
abbrev rmX11_raise : Room := { frames := 2, cells := 0, slots := 0, locals := 44 }
theorem dvX11_raise : yX11_raise.cls = RX11 ∧ yX11_raise.cls ≠ "java/lang/invoke/MethodHandle" ∧ yX11_raise.cls ≠ "java/lang/invoke/VarHandle" ∧ (parseMethodDescriptor yX11_raise.desc).map (fun d => d.parameters.length) = some 2 := by decide +kernel
theorem eX11_raise_inX11 : ∀ w ∈ wsX110, w ∈ wsX11_raise := by decide +kernel
theorem eX11_raise_19 : aF wsX11_raise RX11 19 11 1 := ⟨RX11, TX11, 17, rfl, eX11_raise_inX11, by decide, by decide +kernel⟩
theorem eX11_raise_26 : aF wsX11_raise RX11 26 11 2 := ⟨RX11, TX11, 17, rfl, eX11_raise_inX11, by decide, by decide +kernel⟩
theorem eX11_raise_inX5 : ∀ w ∈ wsX50, w ∈ wsX11_raise := by decide +kernel
theorem eX11_raise_131 : aF wsX11_raise RX11 131 5 0 := ⟨RX5, TX5, 5, rfl, eX11_raise_inX5, by decide, by decide +kernel⟩
theorem eX11_raise_165 : aF wsX11_raise RX11 165 5 2 := ⟨RX5, TX5, 5, rfl, eX11_raise_inX5, by decide, by decide +kernel⟩
def fX11_raise_b22 (iL_cells : Int32) (cL_dyke : Nat → Int32) (itold_size : Int32) (ctold_numbers : Nat → Int64) : Option (Int32 × Int32 × (Nat → Int64)) :=
  some ((-1 : Int32), itold_size, ctold_numbers)
set_option maxHeartbeats 4000000 in
set_option maxRecDepth 100000 in
theorem kX11_raise_b22 {X : cxT} {l : Launch} {D : va_G} {Y : Nat → ClassId} {ao atext atold aL aC alaw aotherLaw anow atrial ahistory aguess acrewPlan amoatPlan achance : Nat → Nat} {io_wind : Int32} {io_spadeLimit : Int32} {iL_cells : Int32} {cL_dyke : Nat → Int32} {itold_size : Int32} {ctold_numbers : Nat → Int64} {res : Int32 × Int32 × (Nat → Int64)} (C : axC X l D Y cX11_raise 4 RX11 wsX11_raise rmX11_raise (some .int)) (hQ : axQ X 0 0 (fun r9 w9 => r9 = (some (.int res.1)) ∧ w9 = [oX11 ao atext atold aL aC alaw aotherLaw anow atrial ahistory aguess acrewPlan amoatPlan achance io_wind io_spadeLimit, oX5 aL iL_cells, rI Y (aL 2) 12 cL_dyke, oX8 atold res.2.1, rJ Y (atold 1) 12 res.2.2])) (hf : fX11_raise_b22 iL_cells cL_dyke itold_size ctold_numbers = some res) : ax X 0 0 22 [none, none, none, none] [oX11 ao atext atold aL aC alaw aotherLaw anow atrial ahistory aguess acrewPlan amoatPlan achance io_wind io_spadeLimit, oX5 aL iL_cells, rI Y (aL 2) 12 cL_dyke, oX8 atold itold_size, rJ Y (atold 1) 12 ctold_numbers] [] := by
  unfold fX11_raise_b22 at hf
  refine a_iconst C (-1 : Int32) dX11_raise_22 (by decide) ?_
  obtain rfl := fx_some hf
  exact a_iret C hQ dX11_raise_23 ⟨rfl, rfl⟩
def fX11_raise_b102 (iL_cells : Int32) (cL_dyke : Nat → Int32) (itold_size : Int32) (ctold_numbers : Nat → Int64) (x3 : Int32) : Option (Int32 × Int32 × (Nat → Int64)) :=
  (fX8_tell itold_size ctold_numbers (x3.toInt64)).bind (fun r1 => (fJ6_bitCount_0f7a4 x3).bind (fun r2 => some (r2, r1.1, r1.2)))
set_option maxHeartbeats 4000000 in
set_option maxRecDepth 100000 in
theorem kX11_raise_b102 {X : cxT} {l : Launch} {D : va_G} {Y : Nat → ClassId} {ao atext atold aL aC alaw aotherLaw anow atrial ahistory aguess acrewPlan amoatPlan achance : Nat → Nat} {io_wind : Int32} {io_spadeLimit : Int32} {iL_cells : Int32} {cL_dyke : Nat → Int32} {itold_size : Int32} {ctold_numbers : Nat → Int64} {x3 : Int32} {res : Int32 × Int32 × (Nat → Int64)} (C : axC X l D Y cX11_raise 4 RX11 wsX11_raise rmX11_raise (some .int)) (hQ : axQ X 0 0 (fun r9 w9 => r9 = (some (.int res.1)) ∧ w9 = [oX11 ao atext atold aL aC alaw aotherLaw anow atrial ahistory aguess acrewPlan amoatPlan achance io_wind io_spadeLimit, oX5 aL iL_cells, rI Y (aL 2) 12 cL_dyke, oX8 atold res.2.1, rJ Y (atold 1) 12 res.2.2])) (hf : fX11_raise_b102 iL_cells cL_dyke itold_size ctold_numbers x3 = some res) : ax X 0 0 102 [some (.ref (ao 0)), none, none, some (.int x3)] [oX11 ao atext atold aL aC alaw aotherLaw anow atrial ahistory aguess acrewPlan amoatPlan achance io_wind io_spadeLimit, oX5 aL iL_cells, rI Y (aL 2) 12 cL_dyke, oX8 atold itold_size, rJ Y (atold 1) 12 ctold_numbers] [] := by
  unfold fX11_raise_b102 at hf
  refine a_aload_n C dX11_raise_102 rfl ?_
  refine a_get C eX11_raise_19 dX11_raise_103 0 rfl rfl ?_
  refine a_iload_n C dX11_raise_106 rfl ?_
  refine a_i2l C dX11_raise_107 ?_
  obtain ⟨r1, h1, hf⟩ := fx_bind hf
  refine a_fV C (kX8_tell l D Y atold itold_size ctold_numbers (x3.toInt64) r1 h1) gX11_raise_X8_tell rfl dvX8_tell ⟨⟨rfl, rfl⟩, ⟨Nat.le_of_ble_eq_true rfl, Nat.le_of_ble_eq_true rfl⟩, ⟨Nat.le_of_ble_eq_true rfl, Nat.le_of_ble_eq_true rfl⟩⟩ rfl (Nat.le_of_ble_eq_true rfl) dX11_raise_108 rfl rfl [3, 4] rfl rfl rfl (wn := [oX11 ao atext atold aL aC alaw aotherLaw anow atrial ahistory aguess acrewPlan amoatPlan achance io_wind io_spadeLimit, oX5 aL iL_cells, rI Y (aL 2) 12 cL_dyke, oX8 atold r1.1, rJ Y (atold 1) 12 r1.2]) rfl ?_
  refine a_iload_n C dX11_raise_111 rfl ?_
  obtain ⟨r2, h2, hf⟩ := fx_bind hf
  refine a_fS C (kJ6_bitCount_0f7a4 l D Y x3 r2 h2) gX11_raise_J6_bitCount_0f7a4 rfl dvJ6_bitCount_0f7a4 ⟨⟨rfl, rfl⟩, ⟨Nat.le_of_ble_eq_true rfl, Nat.le_of_ble_eq_true rfl⟩, ⟨Nat.le_of_ble_eq_true rfl, Nat.le_of_ble_eq_true rfl⟩⟩ rfl (Nat.le_of_ble_eq_true rfl) dX11_raise_112 [] rfl rfl rfl (wn := [oX11 ao atext atold aL aC alaw aotherLaw anow atrial ahistory aguess acrewPlan amoatPlan achance io_wind io_spadeLimit, oX5 aL iL_cells, rI Y (aL 2) 12 cL_dyke, oX8 atold r1.1, rJ Y (atold 1) 12 r1.2]) rfl ?_
  obtain rfl := fx_some hf
  exact a_iret C hQ dX11_raise_115 ⟨rfl, rfl⟩
def fX11_raise_b89 (iL_cells : Int32) (cL_dyke : Nat → Int32) (itold_size : Int32) (ctold_numbers : Nat → Int64) (x2 : Int32) (x3 : Int32) : Option (Int32 × Int32 × (Nat → Int64)) :=
  if x3 = (0 : Int32) then (fX11_raise_b102 iL_cells cL_dyke itold_size ctold_numbers x3) else (if x2 ≤ (10 : Int32) then (fX11_raise_b102 iL_cells cL_dyke itold_size ctold_numbers x3) else (some ((-2 : Int32), itold_size, ctold_numbers)))
set_option maxHeartbeats 4000000 in
set_option maxRecDepth 100000 in
theorem kX11_raise_b89 {X : cxT} {l : Launch} {D : va_G} {Y : Nat → ClassId} {ao atext atold aL aC alaw aotherLaw anow atrial ahistory aguess acrewPlan amoatPlan achance : Nat → Nat} {io_wind : Int32} {io_spadeLimit : Int32} {iL_cells : Int32} {cL_dyke : Nat → Int32} {itold_size : Int32} {ctold_numbers : Nat → Int64} {x2 : Int32} {x3 : Int32} {res : Int32 × Int32 × (Nat → Int64)} (C : axC X l D Y cX11_raise 4 RX11 wsX11_raise rmX11_raise (some .int)) (hQ : axQ X 0 0 (fun r9 w9 => r9 = (some (.int res.1)) ∧ w9 = [oX11 ao atext atold aL aC alaw aotherLaw anow atrial ahistory aguess acrewPlan amoatPlan achance io_wind io_spadeLimit, oX5 aL iL_cells, rI Y (aL 2) 12 cL_dyke, oX8 atold res.2.1, rJ Y (atold 1) 12 res.2.2])) (hf : fX11_raise_b89 iL_cells cL_dyke itold_size ctold_numbers x2 x3 = some res) : ax X 0 0 89 [some (.ref (ao 0)), none, some (.int x2), some (.int x3)] [oX11 ao atext atold aL aC alaw aotherLaw anow atrial ahistory aguess acrewPlan amoatPlan achance io_wind io_spadeLimit, oX5 aL iL_cells, rI Y (aL 2) 12 cL_dyke, oX8 atold itold_size, rJ Y (atold 1) 12 ctold_numbers] [] := by
  unfold fX11_raise_b89 at hf
  refine a_iload_n C dX11_raise_89 rfl ?_
  refine a_if_eq C 102 dX11_raise_90 (by decide) (fun h3 => ?_) (fun h3 => ?_)
  · have hf := fx_t h3 hf
    refine a_kill [2] ?_
    exact kX11_raise_b102 C hQ hf
  · have hf := fx_f h3 hf
    refine a_iload_n C dX11_raise_93 rfl ?_
    refine a_bipush C (10 : Int32) dX11_raise_94 (by decide) ?_
    refine a_icmp_le C 102 dX11_raise_96 (by decide) (fun h4 => ?_) (fun h4 => ?_)
    · have hf := fx_t h4 hf
      refine a_kill [2] ?_
      exact kX11_raise_b102 C hQ hf
    · have hf := fx_f h4 hf
      refine a_bipush C (-2 : Int32) dX11_raise_99 (by decide) ?_
      obtain rfl := fx_some hf
      exact a_iret C hQ dX11_raise_101 ⟨rfl, rfl⟩
def fX11_raise_b55 (iL_cells : Int32) (cL_dyke : Nat → Int32) (itold_size : Int32) (ctold_numbers : Nat → Int64) (x1 : Int32) (x2 : Int32) (x3 : Int32) : Option (Int32 × Int32 × (Nat → Int64)) :=
  if iL_cells ≤ (x1 + (1 : Int32)) then (fX11_raise_b89 iL_cells cL_dyke itold_size ctold_numbers x2 x3) else (if inb x1 12 then if x2 ≤ ((cL_dyke (Int32.toNatClampNeg x1)) + (1 : Int32)) then (fX11_raise_b89 iL_cells cL_dyke itold_size ctold_numbers x2 x3) else (fX11_raise_b89 iL_cells cL_dyke itold_size ctold_numbers x2 (x3 ||| (jshl (1 : Int32) x1))) else none)
set_option maxHeartbeats 4000000 in
set_option maxRecDepth 100000 in
theorem kX11_raise_b55 {X : cxT} {l : Launch} {D : va_G} {Y : Nat → ClassId} {ao atext atold aL aC alaw aotherLaw anow atrial ahistory aguess acrewPlan amoatPlan achance : Nat → Nat} {io_wind : Int32} {io_spadeLimit : Int32} {iL_cells : Int32} {cL_dyke : Nat → Int32} {itold_size : Int32} {ctold_numbers : Nat → Int64} {x1 : Int32} {x2 : Int32} {x3 : Int32} {res : Int32 × Int32 × (Nat → Int64)} (C : axC X l D Y cX11_raise 4 RX11 wsX11_raise rmX11_raise (some .int)) (hQ : axQ X 0 0 (fun r9 w9 => r9 = (some (.int res.1)) ∧ w9 = [oX11 ao atext atold aL aC alaw aotherLaw anow atrial ahistory aguess acrewPlan amoatPlan achance io_wind io_spadeLimit, oX5 aL iL_cells, rI Y (aL 2) 12 cL_dyke, oX8 atold res.2.1, rJ Y (atold 1) 12 res.2.2])) (hf : fX11_raise_b55 iL_cells cL_dyke itold_size ctold_numbers x1 x2 x3 = some res) : ax X 0 0 55 [some (.ref (ao 0)), some (.int x1), some (.int x2), some (.int x3)] [oX11 ao atext atold aL aC alaw aotherLaw anow atrial ahistory aguess acrewPlan amoatPlan achance io_wind io_spadeLimit, oX5 aL iL_cells, rI Y (aL 2) 12 cL_dyke, oX8 atold itold_size, rJ Y (atold 1) 12 ctold_numbers] [] := by
  unfold fX11_raise_b55 at hf
  refine a_iload_n C dX11_raise_55 rfl ?_
  refine a_iconst C (1 : Int32) dX11_raise_56 (by decide) ?_
  refine a_iadd C dX11_raise_57 ?_
  refine a_aload_n C dX11_raise_58 rfl ?_
  refine a_get C eX11_raise_26 dX11_raise_59 0 rfl rfl ?_
  refine a_get C eX11_raise_131 dX11_raise_62 1 rfl rfl ?_
  refine a_icmp_ge C 89 dX11_raise_65 (by decide) (fun h5 => ?_) (fun h5 => ?_)
  · have hf := fx_t h5 hf
    refine a_kill [1] ?_
    exact kX11_raise_b89 C hQ hf
  · have hf := fx_f h5 hf
    refine a_iload_n C dX11_raise_68 rfl ?_
    refine a_aload_n C dX11_raise_69 rfl ?_
    refine a_get C eX11_raise_26 dX11_raise_70 0 rfl rfl ?_
    refine a_get C eX11_raise_165 dX11_raise_73 1 rfl rfl ?_
    refine a_iload_n C dX11_raise_76 rfl ?_
    obtain ⟨h6, hf⟩ := fx_ite hf
    refine a_iald C dX11_raise_77 2 rfl h6 ?_
    refine a_iconst C (1 : Int32) dX11_raise_78 (by decide) ?_
    refine a_iadd C dX11_raise_79 ?_
    refine a_icmp_le C 89 dX11_raise_80 (by decide) (fun h7 => ?_) (fun h7 => ?_)
    · have hf := fx_t h7 hf
      refine a_kill [1] ?_
      exact kX11_raise_b89 C hQ hf
    · have hf := fx_f h7 hf
      refine a_iload_n C dX11_raise_83 rfl ?_
      refine a_iconst C (1 : Int32) dX11_raise_84 (by decide) ?_
      refine a_iload_n C dX11_raise_85 rfl ?_
      refine a_ishl C dX11_raise_86 ?_
      refine a_ior C dX11_raise_87 ?_
      refine a_istore_n C dX11_raise_88 (by decide) rfl ?_
      refine a_kill [1] ?_
      exact kX11_raise_b89 C hQ hf
def fX11_raise (iL_cells : Int32) (cL_dyke : Nat → Int32) (itold_size : Int32) (ctold_numbers : Nat → Int64) (x1 : Int32) (x2 : Int32) : Option (Int32 × Int32 × (Nat → Int64)) :=
  (fX5_has iL_cells x1).bind (fun r8 => if r8 = (0 : Int32) then (fX11_raise_b22 iL_cells cL_dyke itold_size ctold_numbers) else ((fX11_within x2 (1 : Int32) (999 : Int32)).bind (fun r10 => if r10 = (0 : Int32) then (fX11_raise_b22 iL_cells cL_dyke itold_size ctold_numbers) else (if x1 ≤ (0 : Int32) then (fX11_raise_b55 iL_cells cL_dyke itold_size ctold_numbers x1 x2 (0 : Int32)) else (if inb (x1 - (1 : Int32)) 12 then if x2 ≤ ((cL_dyke (Int32.toNatClampNeg (x1 - (1 : Int32)))) + (1 : Int32)) then (fX11_raise_b55 iL_cells cL_dyke itold_size ctold_numbers x1 x2 (0 : Int32)) else (fX11_raise_b55 iL_cells cL_dyke itold_size ctold_numbers x1 x2 ((0 : Int32) ||| (jshl (1 : Int32) (x1 - (1 : Int32))))) else none)))))
set_option maxHeartbeats 4000000 in
set_option maxRecDepth 100000 in
theorem kX11_raise (l : Launch) (D : va_G) (Y : Nat → ClassId) (ao atext atold aL aC alaw aotherLaw anow atrial ahistory aguess acrewPlan amoatPlan achance : Nat → Nat) (io_wind : Int32) (io_spadeLimit : Int32) (iL_cells : Int32) (cL_dyke : Nat → Int32) (itold_size : Int32) (ctold_numbers : Nat → Int64) (x1 : Int32) (x2 : Int32) (res : Int32 × Int32 × (Nat → Int64)) (hf : fX11_raise iL_cells cL_dyke itold_size ctold_numbers x1 x2 = some res) : amf l D Y yX11_raise wsX11_raise rmX11_raise [.ref (ao 0), .int x1, .int x2] [oX11 ao atext atold aL aC alaw aotherLaw anow atrial ahistory aguess acrewPlan amoatPlan achance io_wind io_spadeLimit, oX5 aL iL_cells, rI Y (aL 2) 12 cL_dyke, oX8 atold itold_size, rJ Y (atold 1) 12 ctold_numbers] (some (.int res.1)) [oX11 ao atext atold aL aC alaw aotherLaw anow atrial ahistory aguess acrewPlan amoatPlan achance io_wind io_spadeLimit, oX5 aL iL_cells, rI Y (aL 2) 12 cL_dyke, oX8 atold res.2.1, rJ Y (atold 1) 12 res.2.2] := by
  refine amf.of (cc := cX11_raise) (maxL := 4) (rt := (some .int)) (by decide) rfl RX11 rfl (Nat.le_of_ble_eq_true rfl) [some (.ref (ao 0)), some (.int x1), some (.int x2), none] rfl ?_
  intro X C hQ
  unfold fX11_raise at hf
  refine a_aload_n C dX11_raise_0 rfl ?_
  refine a_get C eX11_raise_26 dX11_raise_1 0 rfl rfl ?_
  refine a_iload_n C dX11_raise_4 rfl ?_
  obtain ⟨r8, h8, hf⟩ := fx_bind hf
  refine a_fV C (kX5_has l D Y aL iL_cells x1 r8 h8) gX11_raise_X5_has rfl dvX5_has ⟨⟨rfl, rfl⟩, ⟨Nat.le_of_ble_eq_true rfl, Nat.le_of_ble_eq_true rfl⟩, ⟨Nat.le_of_ble_eq_true rfl, Nat.le_of_ble_eq_true rfl⟩⟩ rfl (Nat.le_of_ble_eq_true rfl) dX11_raise_5 rfl rfl [1] rfl rfl rfl (wn := [oX11 ao atext atold aL aC alaw aotherLaw anow atrial ahistory aguess acrewPlan amoatPlan achance io_wind io_spadeLimit, oX5 aL iL_cells, rI Y (aL 2) 12 cL_dyke, oX8 atold itold_size, rJ Y (atold 1) 12 ctold_numbers]) rfl ?_
  refine a_if_eq C 22 dX11_raise_8 (by decide) (fun h9 => ?_) (fun h9 => ?_)
  · have hf := fx_t h9 hf
    refine a_kill [0, 1, 2] ?_
    exact kX11_raise_b22 C hQ hf
  · have hf := fx_f h9 hf
    refine a_iload_n C dX11_raise_11 rfl ?_
    refine a_iconst C (1 : Int32) dX11_raise_12 (by decide) ?_
    refine a_sipush C (999 : Int32) dX11_raise_13 (by decide) ?_
    obtain ⟨r10, h10, hf⟩ := fx_bind hf
    refine a_fS C (kX11_within l D Y x2 (1 : Int32) (999 : Int32) r10 h10) gX11_raise_X11_within rfl dvX11_within ⟨⟨rfl, rfl⟩, ⟨Nat.le_of_ble_eq_true rfl, Nat.le_of_ble_eq_true rfl⟩, ⟨Nat.le_of_ble_eq_true rfl, Nat.le_of_ble_eq_true rfl⟩⟩ rfl (Nat.le_of_ble_eq_true rfl) dX11_raise_16 [] rfl rfl rfl (wn := [oX11 ao atext atold aL aC alaw aotherLaw anow atrial ahistory aguess acrewPlan amoatPlan achance io_wind io_spadeLimit, oX5 aL iL_cells, rI Y (aL 2) 12 cL_dyke, oX8 atold itold_size, rJ Y (atold 1) 12 ctold_numbers]) rfl ?_
    refine a_if_ne C 24 dX11_raise_19 (by decide) (fun h11 => ?_) (fun h11 => ?_)
    · have hf := fx_f h11 hf
      refine a_iconst C (0 : Int32) dX11_raise_24 (by decide) ?_
      refine a_istore_n C dX11_raise_25 (by decide) rfl ?_
      refine a_iload_n C dX11_raise_26 rfl ?_
      refine a_if_le C 55 dX11_raise_27 (by decide) (fun h12 => ?_) (fun h12 => ?_)
      · have hf := fx_t h12 hf
        exact kX11_raise_b55 C hQ hf
      · have hf := fx_f h12 hf
        refine a_iload_n C dX11_raise_30 rfl ?_
        refine a_aload_n C dX11_raise_31 rfl ?_
        refine a_get C eX11_raise_26 dX11_raise_32 0 rfl rfl ?_
        refine a_get C eX11_raise_165 dX11_raise_35 1 rfl rfl ?_
        refine a_iload_n C dX11_raise_38 rfl ?_
        refine a_iconst C (1 : Int32) dX11_raise_39 (by decide) ?_
        refine a_isub C dX11_raise_40 ?_
        obtain ⟨h13, hf⟩ := fx_ite hf
        refine a_iald C dX11_raise_41 2 rfl h13 ?_
        refine a_iconst C (1 : Int32) dX11_raise_42 (by decide) ?_
        refine a_iadd C dX11_raise_43 ?_
        refine a_icmp_le C 55 dX11_raise_44 (by decide) (fun h14 => ?_) (fun h14 => ?_)
        · have hf := fx_t h14 hf
          exact kX11_raise_b55 C hQ hf
        · have hf := fx_f h14 hf
          refine a_iload_n C dX11_raise_47 rfl ?_
          refine a_iconst C (1 : Int32) dX11_raise_48 (by decide) ?_
          refine a_iload_n C dX11_raise_49 rfl ?_
          refine a_iconst C (1 : Int32) dX11_raise_50 (by decide) ?_
          refine a_isub C dX11_raise_51 ?_
          refine a_ishl C dX11_raise_52 ?_
          refine a_ior C dX11_raise_53 ?_
          refine a_istore_n C dX11_raise_54 (by decide) rfl ?_
          exact kX11_raise_b55 C hQ hf
    · have hf := fx_t h11 hf
      refine a_kill [0, 1, 2] ?_
      exact kX11_raise_b22 C hQ hf
-- X11_moats
abbrev rmX11_moats : Room := { frames := 4, cells := 0, slots := 0, locals := 96 }
theorem dvX11_moats : yX11_moats.cls = RX11 ∧ yX11_moats.cls ≠ "java/lang/invoke/MethodHandle" ∧ yX11_moats.cls ≠ "java/lang/invoke/VarHandle" ∧ (parseMethodDescriptor yX11_moats.desc).map (fun d => d.parameters.length) = some 1 := by decide +kernel
theorem eX11_moats_inX11 : ∀ w ∈ wsX110, w ∈ wsX11_moats := by decide +kernel
theorem eX11_moats_26 : aF wsX11_moats RX11 26 11 2 := ⟨RX11, TX11, 17, rfl, eX11_moats_inX11, by decide, by decide +kernel⟩
theorem eX11_moats_inX5 : ∀ w ∈ wsX50, w ∈ wsX11_moats := by decide +kernel
theorem eX11_moats_131 : aF wsX11_moats RX11 131 5 0 := ⟨RX5, TX5, 5, rfl, eX11_moats_inX5, by decide, by decide +kernel⟩
theorem eX11_moats_99 : aF wsX11_moats RX11 99 11 15 := ⟨RX11, TX11, 17, rfl, eX11_moats_inX11, by decide, by decide +kernel⟩
theorem eX11_moats_56 : aF wsX11_moats RX11 56 11 8 := ⟨RX11, TX11, 17, rfl, eX11_moats_inX11, by decide, by decide +kernel⟩
theorem eX11_moats_40 : aF wsX11_moats RX11 40 11 4 := ⟨RX11, TX11, 17, rfl, eX11_moats_inX11, by decide, by decide +kernel⟩
theorem eX11_moats_207 : aF wsX11_moats RX11 207 11 6 := ⟨RX11, TX11, 17, rfl, eX11_moats_inX11, by decide, by decide +kernel⟩
theorem eX11_moats_19 : aF wsX11_moats RX11 19 11 1 := ⟨RX11, TX11, 17, rfl, eX11_moats_inX11, by decide, by decide +kernel⟩
theorem eX11_moats_inX7 : ∀ w ∈ wsX70, w ∈ wsX11_moats := by decide +kernel
theorem eX11_moats_318 : aF wsX11_moats RX11 318 7 4 := ⟨RX7, TX7, 5, rfl, eX11_moats_inX7, by decide, by decide +kernel⟩
def fX11_moats (io_wind : Int32) (iL_cells : Int32) (cL_base : Nat → Int32) (ilaw_length : Int32) (claw_codes : Nat → Int32) (claw_stack : Nat → Int32) (imoatPlan_chosen : Int32) (cmoatPlan_heights : Nat → Int32) (cmoatPlan_bare : Nat → Int32) (cmoatPlan_moated : Nat → Int32) (inow_tides : Int32) (cnow_wall : Nat → Int32) (itold_size : Int32) (ctold_numbers : Nat → Int64) (x1 : Int32) : Option (Int32 × (Nat → Int32) × Int32 × (Nat → Int32) × (Nat → Int32) × (Nat → Int32) × Int32 × (Nat → Int64)) :=
  (fX11_within x1 (0 : Int32) (4 : Int32)).bind (fun r1 => if r1 = (0 : Int32) then (some ((-1 : Int32), claw_stack, imoatPlan_chosen, cmoatPlan_heights, cmoatPlan_bare, cmoatPlan_moated, itold_size, ctold_numbers)) else (if x1 ≤ iL_cells then ((fX7_find imoatPlan_chosen cmoatPlan_heights cmoatPlan_bare cmoatPlan_moated inow_tides cnow_wall ilaw_length claw_codes claw_stack iL_cells cL_base io_wind x1).bind (fun r4 => (fX8_tell itold_size ctold_numbers (r4.2.1.toInt64)).bind (fun r5 => some (r4.1, r4.2.2.2.2.2, r4.2.1, r4.2.2.1, r4.2.2.2.1, r4.2.2.2.2.1, r5.1, r5.2)))) else (some ((-2 : Int32), claw_stack, imoatPlan_chosen, cmoatPlan_heights, cmoatPlan_bare, cmoatPlan_moated, itold_size, ctold_numbers))))
set_option maxHeartbeats 4000000 in
set_option maxRecDepth 100000 in
theorem kX11_moats (l : Launch) (D : va_G) (Y : Nat → ClassId) (ao atext atold aL aC alaw aotherLaw anow atrial ahistory aguess acrewPlan amoatPlan achance : Nat → Nat) (io_wind : Int32) (io_spadeLimit : Int32) (iL_cells : Int32) (cL_base : Nat → Int32) (ilaw_length : Int32) (ilaw_at : Int32) (ilaw_sign : Int32) (ilaw_bad : Int32) (claw_codes : Nat → Int32) (claw_stack : Nat → Int32) (imoatPlan_chosen : Int32) (cmoatPlan_heights : Nat → Int32) (cmoatPlan_bare : Nat → Int32) (cmoatPlan_moated : Nat → Int32) (inow_moats : Int32) (inow_spades : Int32) (inow_tides : Int32) (cnow_wall : Nat → Int32) (itold_size : Int32) (ctold_numbers : Nat → Int64) (x1 : Int32) (res : Int32 × (Nat → Int32) × Int32 × (Nat → Int32) × (Nat → Int32) × (Nat → Int32) × Int32 × (Nat → Int64)) (hf : fX11_moats io_wind iL_cells cL_base ilaw_length claw_codes claw_stack imoatPlan_chosen cmoatPlan_heights cmoatPlan_bare cmoatPlan_moated inow_tides cnow_wall itold_size ctold_numbers x1 = some res) : amf l D Y yX11_moats wsX11_moats rmX11_moats [.ref (ao 0), .int x1] [oX11 ao atext atold aL aC alaw aotherLaw anow atrial ahistory aguess acrewPlan amoatPlan achance io_wind io_spadeLimit, oX5 aL iL_cells, rI Y (aL 1) 12 cL_base, oX6 alaw ilaw_length ilaw_at ilaw_sign ilaw_bad, rI Y (alaw 1) 40 claw_codes, rI Y (alaw 2) 40 claw_stack, oX7 amoatPlan aL imoatPlan_chosen, rI Y (amoatPlan 1) 8 cmoatPlan_heights, rI Y (amoatPlan 2) 12 cmoatPlan_bare, rI Y (amoatPlan 3) 12 cmoatPlan_moated, oX9 anow aL aC inow_moats inow_spades inow_tides, rI Y (anow 1) 12 cnow_wall, oX8 atold itold_size, rJ Y (atold 1) 12 ctold_numbers] (some (.int res.1)) [oX11 ao atext atold aL aC alaw aotherLaw anow atrial ahistory aguess acrewPlan amoatPlan achance io_wind io_spadeLimit, oX5 aL iL_cells, rI Y (aL 1) 12 cL_base, oX6 alaw ilaw_length ilaw_at ilaw_sign ilaw_bad, rI Y (alaw 1) 40 claw_codes, rI Y (alaw 2) 40 res.2.1, oX7 amoatPlan aL res.2.2.1, rI Y (amoatPlan 1) 8 res.2.2.2.1, rI Y (amoatPlan 2) 12 res.2.2.2.2.1, rI Y (amoatPlan 3) 12 res.2.2.2.2.2.1, oX9 anow aL aC inow_moats inow_spades inow_tides, rI Y (anow 1) 12 cnow_wall, oX8 atold res.2.2.2.2.2.2.1, rJ Y (atold 1) 12 res.2.2.2.2.2.2.2] := by
  refine amf.of (cc := cX11_moats) (maxL := 3) (rt := (some .int)) (by decide) rfl RX11 rfl (Nat.le_of_ble_eq_true rfl) [some (.ref (ao 0)), some (.int x1), none] rfl ?_
  intro X C hQ
  unfold fX11_moats at hf
  refine a_iload_n C dX11_moats_0 rfl ?_
  refine a_iconst C (0 : Int32) dX11_moats_1 (by decide) ?_
  refine a_iconst C (4 : Int32) dX11_moats_2 (by decide) ?_
  obtain ⟨r1, h1, hf⟩ := fx_bind hf
  refine a_fS C (kX11_within l D Y x1 (0 : Int32) (4 : Int32) r1 h1) gX11_moats_X11_within rfl dvX11_within ⟨⟨rfl, rfl⟩, ⟨Nat.le_of_ble_eq_true rfl, Nat.le_of_ble_eq_true rfl⟩, ⟨Nat.le_of_ble_eq_true rfl, Nat.le_of_ble_eq_true rfl⟩⟩ rfl (Nat.le_of_ble_eq_true rfl) dX11_moats_3 [] rfl rfl rfl (wn := [oX11 ao atext atold aL aC alaw aotherLaw anow atrial ahistory aguess acrewPlan amoatPlan achance io_wind io_spadeLimit, oX5 aL iL_cells, rI Y (aL 1) 12 cL_base, oX6 alaw ilaw_length ilaw_at ilaw_sign ilaw_bad, rI Y (alaw 1) 40 claw_codes, rI Y (alaw 2) 40 claw_stack, oX7 amoatPlan aL imoatPlan_chosen, rI Y (amoatPlan 1) 8 cmoatPlan_heights, rI Y (amoatPlan 2) 12 cmoatPlan_bare, rI Y (amoatPlan 3) 12 cmoatPlan_moated, oX9 anow aL aC inow_moats inow_spades inow_tides, rI Y (anow 1) 12 cnow_wall, oX8 atold itold_size, rJ Y (atold 1) 12 ctold_numbers]) rfl ?_
  refine a_if_ne C 11 dX11_moats_6 (by decide) (fun h2 => ?_) (fun h2 => ?_)
  · have hf := fx_f h2 hf
    refine a_iload_n C dX11_moats_11 rfl ?_
    refine a_aload_n C dX11_moats_12 rfl ?_
    refine a_get C eX11_moats_26 dX11_moats_13 0 rfl rfl ?_
    refine a_get C eX11_moats_131 dX11_moats_16 1 rfl rfl ?_
    refine a_icmp_le C 25 dX11_moats_19 (by decide) (fun h3 => ?_) (fun h3 => ?_)
    · have hf := fx_t h3 hf
      refine a_aload_n C dX11_moats_25 rfl ?_
      refine a_get C eX11_moats_99 dX11_moats_26 0 rfl rfl ?_
      refine a_aload_n C dX11_moats_29 rfl ?_
      refine a_get C eX11_moats_56 dX11_moats_30 0 rfl rfl ?_
      refine a_aload_n C dX11_moats_33 rfl ?_
      refine a_get C eX11_moats_40 dX11_moats_34 0 rfl rfl ?_
      refine a_aload_n C dX11_moats_37 rfl ?_
      refine a_get C eX11_moats_207 dX11_moats_38 0 rfl rfl ?_
      refine a_iload_n C dX11_moats_41 rfl ?_
      obtain ⟨r4, h4, hf⟩ := fx_bind hf
      refine a_fV C (kX7_find l D Y amoatPlan aL anow aC alaw imoatPlan_chosen cmoatPlan_heights cmoatPlan_bare cmoatPlan_moated inow_moats inow_spades inow_tides cnow_wall ilaw_length ilaw_at ilaw_sign ilaw_bad claw_codes claw_stack iL_cells cL_base io_wind x1 r4 h4) gX11_moats_X7_find rfl dvX7_find ⟨⟨rfl, rfl⟩, ⟨Nat.le_of_ble_eq_true rfl, Nat.le_of_ble_eq_true rfl⟩, ⟨Nat.le_of_ble_eq_true rfl, Nat.le_of_ble_eq_true rfl⟩⟩ rfl (Nat.le_of_ble_eq_true rfl) dX11_moats_42 rfl rfl [6, 7, 8, 9, 10, 11, 3, 4, 5, 1, 2] rfl rfl rfl (wn := [oX11 ao atext atold aL aC alaw aotherLaw anow atrial ahistory aguess acrewPlan amoatPlan achance io_wind io_spadeLimit, oX5 aL iL_cells, rI Y (aL 1) 12 cL_base, oX6 alaw ilaw_length ilaw_at ilaw_sign ilaw_bad, rI Y (alaw 1) 40 claw_codes, rI Y (alaw 2) 40 r4.2.2.2.2.2, oX7 amoatPlan aL r4.2.1, rI Y (amoatPlan 1) 8 r4.2.2.1, rI Y (amoatPlan 2) 12 r4.2.2.2.1, rI Y (amoatPlan 3) 12 r4.2.2.2.2.1, oX9 anow aL aC inow_moats inow_spades inow_tides, rI Y (anow 1) 12 cnow_wall, oX8 atold itold_size, rJ Y (atold 1) 12 ctold_numbers]) rfl ?_
      refine a_istore_n C dX11_moats_45 (by decide) rfl ?_
      refine a_aload_n C dX11_moats_46 rfl ?_
      refine a_get C eX11_moats_19 dX11_moats_47 0 rfl rfl ?_
      refine a_aload_n C dX11_moats_50 rfl ?_
      refine a_get C eX11_moats_99 dX11_moats_51 0 rfl rfl ?_
      refine a_get C eX11_moats_318 dX11_moats_54 6 rfl rfl ?_
      refine a_i2l C dX11_moats_57 ?_
      obtain ⟨r5, h5, hf⟩ := fx_bind hf
      refine a_fV C (kX8_tell l D Y atold itold_size ctold_numbers (r4.2.1.toInt64) r5 h5) gX11_moats_X8_tell rfl dvX8_tell ⟨⟨rfl, rfl⟩, ⟨Nat.le_of_ble_eq_true rfl, Nat.le_of_ble_eq_true rfl⟩, ⟨Nat.le_of_ble_eq_true rfl, Nat.le_of_ble_eq_true rfl⟩⟩ rfl (Nat.le_of_ble_eq_true rfl) dX11_moats_58 rfl rfl [12, 13] rfl rfl rfl (wn := [oX11 ao atext atold aL aC alaw aotherLaw anow atrial ahistory aguess acrewPlan amoatPlan achance io_wind io_spadeLimit, oX5 aL iL_cells, rI Y (aL 1) 12 cL_base, oX6 alaw ilaw_length ilaw_at ilaw_sign ilaw_bad, rI Y (alaw 1) 40 claw_codes, rI Y (alaw 2) 40 r4.2.2.2.2.2, oX7 amoatPlan aL r4.2.1, rI Y (amoatPlan 1) 8 r4.2.2.1, rI Y (amoatPlan 2) 12 r4.2.2.2.1, rI Y (amoatPlan 3) 12 r4.2.2.2.2.1, oX9 anow aL aC inow_moats inow_spades inow_tides, rI Y (anow 1) 12 cnow_wall, oX8 atold r5.1, rJ Y (atold 1) 12 r5.2]) rfl ?_
      refine a_iload_n C dX11_moats_61 rfl ?_
      obtain rfl := fx_some hf
      exact a_iret C hQ dX11_moats_62 ⟨rfl, rfl⟩
    · have hf := fx_f h3 hf
      refine a_bipush C (-2 : Int32) dX11_moats_22 (by decide) ?_
      obtain rfl := fx_some hf
      exact a_iret C hQ dX11_moats_24 ⟨rfl, rfl⟩
  · have hf := fx_t h2 hf
    refine a_iconst C (-1 : Int32) dX11_moats_9 (by decide) ?_
    obtain rfl := fx_some hf
    exact a_iret C hQ dX11_moats_10 ⟨rfl, rfl⟩
-- X11_treats
abbrev rmX11_treats : Room := { frames := 2, cells := 0, slots := 0, locals := 43 }
theorem dvX11_treats : yX11_treats.cls = RX11 ∧ yX11_treats.cls ≠ "java/lang/invoke/MethodHandle" ∧ yX11_treats.cls ≠ "java/lang/invoke/VarHandle" ∧ (parseMethodDescriptor yX11_treats.desc).map (fun d => d.parameters.length) = some 1 := by decide +kernel
theorem eX11_treats_inX11 : ∀ w ∈ wsX110, w ∈ wsX11_treats := by decide +kernel
theorem eX11_treats_19 : aF wsX11_treats RX11 19 11 1 := ⟨RX11, TX11, 17, rfl, eX11_treats_inX11, by decide, by decide +kernel⟩
theorem eX11_treats_33 : aF wsX11_treats RX11 33 11 3 := ⟨RX11, TX11, 17, rfl, eX11_treats_inX11, by decide, by decide +kernel⟩
theorem eX11_treats_inX2 : ∀ w ∈ wsX20, w ∈ wsX11_treats := by decide +kernel
theorem eX11_treats_134 : aF wsX11_treats RX11 134 2 0 := ⟨RX2, TX2, 5, rfl, eX11_treats_inX2, by decide, by decide +kernel⟩
theorem eX11_treats_56 : aF wsX11_treats RX11 56 11 8 := ⟨RX11, TX11, 17, rfl, eX11_treats_inX11, by decide, by decide +kernel⟩
theorem eX11_treats_inX9 : ∀ w ∈ wsX90, w ∈ wsX11_treats := by decide +kernel
theorem eX11_treats_189 : aF wsX11_treats RX11 189 9 4 := ⟨RX9, TX9, 9, rfl, eX11_treats_inX9, by decide, by decide +kernel⟩
theorem eX11_treats_m253 : ∀ w ∈ ([.methodLink RX11 253 Lib.Math.max.name, .static Lib.Math.max.name, .initialized "java/lang/Math", .code Lib.Math.max.name Lib.Math.max.code 2 (some .int)] : List Cond), w ∈ wsX11_treats := by decide +kernel
def fX11_treats_b133 (iC_size : Int32) (cnow_mood : Nat → Int32) (cnow_place : Nat → Int32) (itold_size : Int32) (ctold_numbers : Nat → Int64) (x3 : Int32) : Option (Int32 × Int32 × (Nat → Int64)) :=
  some (x3, itold_size, ctold_numbers)
set_option maxHeartbeats 4000000 in
set_option maxRecDepth 100000 in
theorem kX11_treats_b133 {X : cxT} {l : Launch} {D : va_G} {Y : Nat → ClassId} {ao atext atold aL aC alaw aotherLaw anow atrial ahistory aguess acrewPlan amoatPlan achance : Nat → Nat} {io_wind : Int32} {io_spadeLimit : Int32} {iC_size : Int32} {inow_moats : Int32} {inow_spades : Int32} {inow_tides : Int32} {cnow_mood : Nat → Int32} {cnow_place : Nat → Int32} {itold_size : Int32} {ctold_numbers : Nat → Int64} {x3 : Int32} {res : Int32 × Int32 × (Nat → Int64)} (C : axC X l D Y cX11_treats 7 RX11 wsX11_treats rmX11_treats (some .int)) (hQ : axQ X 0 0 (fun r9 w9 => r9 = (some (.int res.1)) ∧ w9 = [oX11 ao atext atold aL aC alaw aotherLaw anow atrial ahistory aguess acrewPlan amoatPlan achance io_wind io_spadeLimit, oX2 aC iC_size, oX9 anow aL aC inow_moats inow_spades inow_tides, rI Y (anow 3) 8 cnow_mood, rI Y (anow 4) 8 cnow_place, oX8 atold res.2.1, rJ Y (atold 1) 12 res.2.2])) (hf : fX11_treats_b133 iC_size cnow_mood cnow_place itold_size ctold_numbers x3 = some res) : ax X 0 0 133 [none, none, none, some (.int x3), none, none, none] [oX11 ao atext atold aL aC alaw aotherLaw anow atrial ahistory aguess acrewPlan amoatPlan achance io_wind io_spadeLimit, oX2 aC iC_size, oX9 anow aL aC inow_moats inow_spades inow_tides, rI Y (anow 3) 8 cnow_mood, rI Y (anow 4) 8 cnow_place, oX8 atold itold_size, rJ Y (atold 1) 12 ctold_numbers] [] := by
  unfold fX11_treats_b133 at hf
  refine a_iload_n C dX11_treats_133 rfl ?_
  obtain rfl := fx_some hf
  exact a_iret C hQ dX11_treats_134 ⟨rfl, rfl⟩
def fX11_treats_b100 (iC_size : Int32) (cnow_mood : Nat → Int32) (cnow_place : Nat → Int32) (itold_size : Int32) (ctold_numbers : Nat → Int64) (x1 : Int32) (x2 : Int32) (x3 : Int32) (x4 : Int32) (s0 : Int32) (k57 : Int32 × (Nat → Int64) × Int32 × Int32 → Option (Int32 × Int32 × (Nat → Int64))) : Option (Int32 × Int32 × (Nat → Int64)) :=
  (fX8_add itold_size ctold_numbers ((((s0 + (3 : Int32)) - (1 : Int32)) / (3 : Int32)).toInt64)).bind (fun r1 => k57 (r1.1, r1.2, (x3 + (((s0 + (3 : Int32)) - (1 : Int32)) / (3 : Int32))), (x4 + (1 : Int32))))
set_option maxHeartbeats 4000000 in
set_option maxRecDepth 100000 in
theorem kX11_treats_b100 {X : cxT} {l : Launch} {D : va_G} {Y : Nat → ClassId} {ao atext atold aL aC alaw aotherLaw anow atrial ahistory aguess acrewPlan amoatPlan achance : Nat → Nat} {io_wind : Int32} {io_spadeLimit : Int32} {iC_size : Int32} {inow_moats : Int32} {inow_spades : Int32} {inow_tides : Int32} {cnow_mood : Nat → Int32} {cnow_place : Nat → Int32} {itold_size : Int32} {ctold_numbers : Nat → Int64} {x1 : Int32} {x2 : Int32} {x3 : Int32} {x4 : Int32} {s0 : Int32} {res : Int32 × Int32 × (Nat → Int64)} (C : axC X l D Y cX11_treats 7 RX11 wsX11_treats rmX11_treats (some .int)) (hQ : axQ X 0 0 (fun r9 w9 => r9 = (some (.int res.1)) ∧ w9 = [oX11 ao atext atold aL aC alaw aotherLaw anow atrial ahistory aguess acrewPlan amoatPlan achance io_wind io_spadeLimit, oX2 aC iC_size, oX9 anow aL aC inow_moats inow_spades inow_tides, rI Y (anow 3) 8 cnow_mood, rI Y (anow 4) 8 cnow_place, oX8 atold res.2.1, rJ Y (atold 1) 12 res.2.2])) {k57 : Int32 × (Nat → Int64) × Int32 × Int32 → Option (Int32 × Int32 × (Nat → Int64))} (hk57 : ∀ s : Int32 × (Nat → Int64) × Int32 × Int32, k57 s = some res → ax X 0 0 57 [some (.ref (ao 0)), some (.int x1), some (.int x2), some (.int s.2.2.1), some (.int s.2.2.2), none, none] [oX11 ao atext atold aL aC alaw aotherLaw anow atrial ahistory aguess acrewPlan amoatPlan achance io_wind io_spadeLimit, oX2 aC iC_size, oX9 anow aL aC inow_moats inow_spades inow_tides, rI Y (anow 3) 8 cnow_mood, rI Y (anow 4) 8 cnow_place, oX8 atold s.1, rJ Y (atold 1) 12 s.2.1] []) (hf : fX11_treats_b100 iC_size cnow_mood cnow_place itold_size ctold_numbers x1 x2 x3 x4 s0 k57 = some res) : ax X 0 0 100 [some (.ref (ao 0)), some (.int x1), some (.int x2), some (.int x3), some (.int x4), none, none] [oX11 ao atext atold aL aC alaw aotherLaw anow atrial ahistory aguess acrewPlan amoatPlan achance io_wind io_spadeLimit, oX2 aC iC_size, oX9 anow aL aC inow_moats inow_spades inow_tides, rI Y (anow 3) 8 cnow_mood, rI Y (anow 4) 8 cnow_place, oX8 atold itold_size, rJ Y (atold 1) 12 ctold_numbers] [.int s0] := by
  unfold fX11_treats_b100 at hf
  refine a_istore C dX11_treats_100 (by decide) rfl ?_
  refine a_iload C dX11_treats_102 rfl ?_
  refine a_iconst C (3 : Int32) dX11_treats_104 (by decide) ?_
  refine a_iadd C dX11_treats_105 ?_
  refine a_iconst C (1 : Int32) dX11_treats_106 (by decide) ?_
  refine a_isub C dX11_treats_107 ?_
  refine a_iconst C (3 : Int32) dX11_treats_108 (by decide) ?_
  refine a_idiv C dX11_treats_109 (by decide) ?_
  refine a_istore C dX11_treats_110 (by decide) rfl ?_
  refine a_aload_n C dX11_treats_112 rfl ?_
  refine a_get C eX11_treats_19 dX11_treats_113 0 rfl rfl ?_
  refine a_iload C dX11_treats_116 rfl ?_
  refine a_i2l C dX11_treats_118 ?_
  obtain ⟨r1, h1, hf⟩ := fx_bind hf
  refine a_fV C (kX8_add l D Y atold itold_size ctold_numbers ((((s0 + (3 : Int32)) - (1 : Int32)) / (3 : Int32)).toInt64) r1 h1) gX11_treats_X8_add rfl dvX8_add ⟨⟨rfl, rfl⟩, ⟨Nat.le_of_ble_eq_true rfl, Nat.le_of_ble_eq_true rfl⟩, ⟨Nat.le_of_ble_eq_true rfl, Nat.le_of_ble_eq_true rfl⟩⟩ rfl (Nat.le_of_ble_eq_true rfl) dX11_treats_119 rfl rfl [5, 6] rfl rfl rfl (wn := [oX11 ao atext atold aL aC alaw aotherLaw anow atrial ahistory aguess acrewPlan amoatPlan achance io_wind io_spadeLimit, oX2 aC iC_size, oX9 anow aL aC inow_moats inow_spades inow_tides, rI Y (anow 3) 8 cnow_mood, rI Y (anow 4) 8 cnow_place, oX8 atold r1.1, rJ Y (atold 1) 12 r1.2]) rfl ?_
  refine a_iload_n C dX11_treats_122 rfl ?_
  refine a_iload C dX11_treats_123 rfl ?_
  refine a_iadd C dX11_treats_125 ?_
  refine a_istore_n C dX11_treats_126 (by decide) rfl ?_
  refine a_iinc C (1 : Int32) dX11_treats_127 (by decide) rfl (by decide) rfl ?_
  refine a_goto C 57 dX11_treats_130 (by decide) ?_
  refine a_kill [5, 6] ?_
  exact hk57 (r1.1, r1.2, (x3 + (((s0 + (3 : Int32)) - (1 : Int32)) / (3 : Int32))), (x4 + (1 : Int32))) hf
def fX11_treats_l57 (iC_size : Int32) (cnow_mood : Nat → Int32) (cnow_place : Nat → Int32) (x1 : Int32) (x2 : Int32) (k57 : Int32 × (Nat → Int64) × Int32 × Int32 → Option (Int32 × Int32 × (Nat → Int64))) (itold_size : Int32) (ctold_numbers : Nat → Int64) (x3 : Int32) (x4 : Int32) : Option (Int32 × Int32 × (Nat → Int64)) :=
  if iC_size ≤ x4 then (fX11_treats_b133 iC_size cnow_mood cnow_place itold_size ctold_numbers x3) else (if ((jshr x2 x4) &&& (1 : Int32)) = (0 : Int32) then (fX11_treats_b100 iC_size cnow_mood cnow_place itold_size ctold_numbers x1 x2 x3 x4 (0 : Int32) k57) else (if inb x4 8 then fX11_treats_b100 iC_size cnow_mood cnow_place itold_size ctold_numbers x1 x2 x3 x4 (jmax (0 : Int32) ((x1 + (1 : Int32)) - (cnow_mood (Int32.toNatClampNeg x4)))) k57 else none))
def fX11_treats_b57 (iC_size : Int32) (cnow_mood : Nat → Int32) (cnow_place : Nat → Int32) (itold_size : Int32) (ctold_numbers : Nat → Int64) (x1 : Int32) (x2 : Int32) (x3 : Int32) (x4 : Int32) : Option (Int32 × Int32 × (Nat → Int64)) :=
  loopN (fun (s : Int32 × (Nat → Int64) × Int32 × Int32) k57 => fX11_treats_l57 iC_size cnow_mood cnow_place x1 x2 k57 s.1 s.2.1 s.2.2.1 s.2.2.2) FUEL (itold_size, ctold_numbers, x3, x4)
set_option maxHeartbeats 4000000 in
set_option maxRecDepth 100000 in
theorem kX11_treats_l57 {X : cxT} {l : Launch} {D : va_G} {Y : Nat → ClassId} {ao atext atold aL aC alaw aotherLaw anow atrial ahistory aguess acrewPlan amoatPlan achance : Nat → Nat} {io_wind : Int32} {io_spadeLimit : Int32} {iC_size : Int32} {inow_moats : Int32} {inow_spades : Int32} {inow_tides : Int32} {cnow_mood : Nat → Int32} {cnow_place : Nat → Int32} {itold_size : Int32} {ctold_numbers : Nat → Int64} {x1 : Int32} {x2 : Int32} {x3 : Int32} {x4 : Int32} {res : Int32 × Int32 × (Nat → Int64)} (C : axC X l D Y cX11_treats 7 RX11 wsX11_treats rmX11_treats (some .int)) (hQ : axQ X 0 0 (fun r9 w9 => r9 = (some (.int res.1)) ∧ w9 = [oX11 ao atext atold aL aC alaw aotherLaw anow atrial ahistory aguess acrewPlan amoatPlan achance io_wind io_spadeLimit, oX2 aC iC_size, oX9 anow aL aC inow_moats inow_spades inow_tides, rI Y (anow 3) 8 cnow_mood, rI Y (anow 4) 8 cnow_place, oX8 atold res.2.1, rJ Y (atold 1) 12 res.2.2])) {k57 : Int32 × (Nat → Int64) × Int32 × Int32 → Option (Int32 × Int32 × (Nat → Int64))} (hk57 : ∀ s : Int32 × (Nat → Int64) × Int32 × Int32, k57 s = some res → ax X 0 0 57 [some (.ref (ao 0)), some (.int x1), some (.int x2), some (.int s.2.2.1), some (.int s.2.2.2), none, none] [oX11 ao atext atold aL aC alaw aotherLaw anow atrial ahistory aguess acrewPlan amoatPlan achance io_wind io_spadeLimit, oX2 aC iC_size, oX9 anow aL aC inow_moats inow_spades inow_tides, rI Y (anow 3) 8 cnow_mood, rI Y (anow 4) 8 cnow_place, oX8 atold s.1, rJ Y (atold 1) 12 s.2.1] []) (hf : fX11_treats_l57 iC_size cnow_mood cnow_place x1 x2 k57 itold_size ctold_numbers x3 x4 = some res) : ax X 0 0 57 [some (.ref (ao 0)), some (.int x1), some (.int x2), some (.int x3), some (.int x4), none, none] [oX11 ao atext atold aL aC alaw aotherLaw anow atrial ahistory aguess acrewPlan amoatPlan achance io_wind io_spadeLimit, oX2 aC iC_size, oX9 anow aL aC inow_moats inow_spades inow_tides, rI Y (anow 3) 8 cnow_mood, rI Y (anow 4) 8 cnow_place, oX8 atold itold_size, rJ Y (atold 1) 12 ctold_numbers] [] := by
  unfold fX11_treats_l57 at hf
  refine a_iload C dX11_treats_57 rfl ?_
  refine a_aload_n C dX11_treats_59 rfl ?_
  refine a_get C eX11_treats_33 dX11_treats_60 0 rfl rfl ?_
  refine a_get C eX11_treats_134 dX11_treats_63 1 rfl rfl ?_
  refine a_icmp_ge C 133 dX11_treats_66 (by decide) (fun h2 => ?_) (fun h2 => ?_)
  · have hf := fx_t h2 hf
    refine a_kill [0, 1, 2, 4] ?_
    exact kX11_treats_b133 C hQ hf
  · have hf := fx_f h2 hf
    refine a_iload_n C dX11_treats_69 rfl ?_
    refine a_iload C dX11_treats_70 rfl ?_
    refine a_ishr C dX11_treats_72 ?_
    refine a_iconst C (1 : Int32) dX11_treats_73 (by decide) ?_
    refine a_iand C dX11_treats_74 ?_
    refine a_if_ne C 82 dX11_treats_75 (by decide) (fun h3 => ?_) (fun h3 => ?_)
    · have hf := fx_f h3 hf
      refine a_iconst C (0 : Int32) dX11_treats_82 (by decide) ?_
      refine a_iload_n C dX11_treats_83 rfl ?_
      refine a_iconst C (1 : Int32) dX11_treats_84 (by decide) ?_
      refine a_iadd C dX11_treats_85 ?_
      refine a_aload_n C dX11_treats_86 rfl ?_
      refine a_get C eX11_treats_56 dX11_treats_87 0 rfl rfl ?_
      refine a_get C eX11_treats_189 dX11_treats_90 2 rfl rfl ?_
      refine a_iload C dX11_treats_93 rfl ?_
      obtain ⟨h4, hf⟩ := fx_ite hf
      refine a_iald C dX11_treats_95 3 rfl h4 ?_
      refine a_isub C dX11_treats_96 ?_
      refine a_mmax C dX11_treats_97 eX11_treats_m253 ⟨⟨Nat.le_of_ble_eq_true rfl, Nat.le_of_ble_eq_true rfl⟩, ⟨Nat.le_of_ble_eq_true rfl, Nat.le_of_ble_eq_true rfl⟩⟩ (Nat.le_of_ble_eq_true rfl) ?_
      exact kX11_treats_b100 C hQ hk57 hf
    · have hf := fx_t h3 hf
      refine a_iconst C (0 : Int32) dX11_treats_78 (by decide) ?_
      refine a_goto C 100 dX11_treats_79 (by decide) ?_
      exact kX11_treats_b100 C hQ hk57 hf
set_option maxHeartbeats 4000000 in
set_option maxRecDepth 100000 in
theorem kX11_treats_b57 {X : cxT} {l : Launch} {D : va_G} {Y : Nat → ClassId} {ao atext atold aL aC alaw aotherLaw anow atrial ahistory aguess acrewPlan amoatPlan achance : Nat → Nat} {io_wind : Int32} {io_spadeLimit : Int32} {iC_size : Int32} {inow_moats : Int32} {inow_spades : Int32} {inow_tides : Int32} {cnow_mood : Nat → Int32} {cnow_place : Nat → Int32} {itold_size : Int32} {ctold_numbers : Nat → Int64} {x1 : Int32} {x2 : Int32} {x3 : Int32} {x4 : Int32} {res : Int32 × Int32 × (Nat → Int64)} (C : axC X l D Y cX11_treats 7 RX11 wsX11_treats rmX11_treats (some .int)) (hQ : axQ X 0 0 (fun r9 w9 => r9 = (some (.int res.1)) ∧ w9 = [oX11 ao atext atold aL aC alaw aotherLaw anow atrial ahistory aguess acrewPlan amoatPlan achance io_wind io_spadeLimit, oX2 aC iC_size, oX9 anow aL aC inow_moats inow_spades inow_tides, rI Y (anow 3) 8 cnow_mood, rI Y (anow 4) 8 cnow_place, oX8 atold res.2.1, rJ Y (atold 1) 12 res.2.2])) (hf : fX11_treats_b57 iC_size cnow_mood cnow_place itold_size ctold_numbers x1 x2 x3 x4 = some res) : ax X 0 0 57 [some (.ref (ao 0)), some (.int x1), some (.int x2), some (.int x3), some (.int x4), none, none] [oX11 ao atext atold aL aC alaw aotherLaw anow atrial ahistory aguess acrewPlan amoatPlan achance io_wind io_spadeLimit, oX2 aC iC_size, oX9 anow aL aC inow_moats inow_spades inow_tides, rI Y (anow 3) 8 cnow_mood, rI Y (anow 4) 8 cnow_place, oX8 atold itold_size, rJ Y (atold 1) 12 ctold_numbers] [] := by
  unfold fX11_treats_b57 at hf
  exact fx_loop (P := fun s : Int32 × (Nat → Int64) × Int32 × Int32 => ax X 0 0 57 [some (.ref (ao 0)), some (.int x1), some (.int x2), some (.int s.2.2.1), some (.int s.2.2.2), none, none] [oX11 ao atext atold aL aC alaw aotherLaw anow atrial ahistory aguess acrewPlan amoatPlan achance io_wind io_spadeLimit, oX2 aC iC_size, oX9 anow aL aC inow_moats inow_spades inow_tides, rI Y (anow 3) 8 cnow_mood, rI Y (anow 4) 8 cnow_place, oX8 atold s.1, rJ Y (atold 1) 12 s.2.1] []) (fun s k57 hk57 h => kX11_treats_l57 C hQ hk57 h) FUEL (itold_size, ctold_numbers, x3, x4) hf
def fX11_treats_b45 (iC_size : Int32) (cnow_mood : Nat → Int32) (cnow_place : Nat → Int32) (itold_size : Int32) (ctold_numbers : Nat → Int64) (x1 : Int32) (x2 : Int32) : Option (Int32 × Int32 × (Nat → Int64)) :=
  (fX8_clear itold_size).bind (fun r5 => fX11_treats_b57 iC_size cnow_mood cnow_place r5 ctold_numbers x1 x2 (0 : Int32) (0 : Int32))
set_option maxHeartbeats 4000000 in
set_option maxRecDepth 100000 in
theorem kX11_treats_b45 {X : cxT} {l : Launch} {D : va_G} {Y : Nat → ClassId} {ao atext atold aL aC alaw aotherLaw anow atrial ahistory aguess acrewPlan amoatPlan achance : Nat → Nat} {io_wind : Int32} {io_spadeLimit : Int32} {iC_size : Int32} {inow_moats : Int32} {inow_spades : Int32} {inow_tides : Int32} {cnow_mood : Nat → Int32} {cnow_place : Nat → Int32} {itold_size : Int32} {ctold_numbers : Nat → Int64} {x1 : Int32} {x2 : Int32} {res : Int32 × Int32 × (Nat → Int64)} (C : axC X l D Y cX11_treats 7 RX11 wsX11_treats rmX11_treats (some .int)) (hQ : axQ X 0 0 (fun r9 w9 => r9 = (some (.int res.1)) ∧ w9 = [oX11 ao atext atold aL aC alaw aotherLaw anow atrial ahistory aguess acrewPlan amoatPlan achance io_wind io_spadeLimit, oX2 aC iC_size, oX9 anow aL aC inow_moats inow_spades inow_tides, rI Y (anow 3) 8 cnow_mood, rI Y (anow 4) 8 cnow_place, oX8 atold res.2.1, rJ Y (atold 1) 12 res.2.2])) (hf : fX11_treats_b45 iC_size cnow_mood cnow_place itold_size ctold_numbers x1 x2 = some res) : ax X 0 0 45 [some (.ref (ao 0)), some (.int x1), some (.int x2), none, none, none, none] [oX11 ao atext atold aL aC alaw aotherLaw anow atrial ahistory aguess acrewPlan amoatPlan achance io_wind io_spadeLimit, oX2 aC iC_size, oX9 anow aL aC inow_moats inow_spades inow_tides, rI Y (anow 3) 8 cnow_mood, rI Y (anow 4) 8 cnow_place, oX8 atold itold_size, rJ Y (atold 1) 12 ctold_numbers] [] := by
  unfold fX11_treats_b45 at hf
  refine a_aload_n C dX11_treats_45 rfl ?_
  refine a_get C eX11_treats_19 dX11_treats_46 0 rfl rfl ?_
  obtain ⟨r5, h5, hf⟩ := fx_bind hf
  refine a_fV C (kX8_clear l D Y atold itold_size r5 h5) gX11_treats_X8_clear rfl dvX8_clear ⟨⟨rfl, rfl⟩, ⟨Nat.le_of_ble_eq_true rfl, Nat.le_of_ble_eq_true rfl⟩, ⟨Nat.le_of_ble_eq_true rfl, Nat.le_of_ble_eq_true rfl⟩⟩ rfl (Nat.le_of_ble_eq_true rfl) dX11_treats_49 rfl rfl [5] rfl rfl rfl (wn := [oX11 ao atext atold aL aC alaw aotherLaw anow atrial ahistory aguess acrewPlan amoatPlan achance io_wind io_spadeLimit, oX2 aC iC_size, oX9 anow aL aC inow_moats inow_spades inow_tides, rI Y (anow 3) 8 cnow_mood, rI Y (anow 4) 8 cnow_place, oX8 atold r5, rJ Y (atold 1) 12 ctold_numbers]) rfl ?_
  refine a_iconst C (0 : Int32) dX11_treats_52 (by decide) ?_
  refine a_istore_n C dX11_treats_53 (by decide) rfl ?_
  refine a_iconst C (0 : Int32) dX11_treats_54 (by decide) ?_
  refine a_istore C dX11_treats_55 (by decide) rfl ?_
  exact kX11_treats_b57 C hQ hf
def fX11_treats (iC_size : Int32) (cnow_mood : Nat → Int32) (cnow_place : Nat → Int32) (itold_size : Int32) (ctold_numbers : Nat → Int64) (x1 : Int32) : Option (Int32 × Int32 × (Nat → Int64)) :=
  (fX11_within x1 (1 : Int32) (9 : Int32)).bind (fun r6 => if r6 = (0 : Int32) then (some ((-1 : Int32), itold_size, ctold_numbers)) else ((fX2_all iC_size).bind (fun r8 => (fX9_atHome cnow_place iC_size).bind (fun r9 => if (x1 + (1 : Int32)) ≤ (9 : Int32) then (fX11_treats_b45 iC_size cnow_mood cnow_place itold_size ctold_numbers x1 (r8 &&& (r9 ^^^ (-1 : Int32)))) else (if (r8 &&& (r9 ^^^ (-1 : Int32))) = (0 : Int32) then (fX11_treats_b45 iC_size cnow_mood cnow_place itold_size ctold_numbers x1 (r8 &&& (r9 ^^^ (-1 : Int32)))) else (some ((-2 : Int32), itold_size, ctold_numbers)))))))
set_option maxHeartbeats 4000000 in
set_option maxRecDepth 100000 in
theorem kX11_treats (l : Launch) (D : va_G) (Y : Nat → ClassId) (ao atext atold aL aC alaw aotherLaw anow atrial ahistory aguess acrewPlan amoatPlan achance : Nat → Nat) (io_wind : Int32) (io_spadeLimit : Int32) (iC_size : Int32) (inow_moats : Int32) (inow_spades : Int32) (inow_tides : Int32) (cnow_mood : Nat → Int32) (cnow_place : Nat → Int32) (itold_size : Int32) (ctold_numbers : Nat → Int64) (x1 : Int32) (res : Int32 × Int32 × (Nat → Int64)) (hf : fX11_treats iC_size cnow_mood cnow_place itold_size ctold_numbers x1 = some res) : amf l D Y yX11_treats wsX11_treats rmX11_treats [.ref (ao 0), .int x1] [oX11 ao atext atold aL aC alaw aotherLaw anow atrial ahistory aguess acrewPlan amoatPlan achance io_wind io_spadeLimit, oX2 aC iC_size, oX9 anow aL aC inow_moats inow_spades inow_tides, rI Y (anow 3) 8 cnow_mood, rI Y (anow 4) 8 cnow_place, oX8 atold itold_size, rJ Y (atold 1) 12 ctold_numbers] (some (.int res.1)) [oX11 ao atext atold aL aC alaw aotherLaw anow atrial ahistory aguess acrewPlan amoatPlan achance io_wind io_spadeLimit, oX2 aC iC_size, oX9 anow aL aC inow_moats inow_spades inow_tides, rI Y (anow 3) 8 cnow_mood, rI Y (anow 4) 8 cnow_place, oX8 atold res.2.1, rJ Y (atold 1) 12 res.2.2] := by
  refine amf.of (cc := cX11_treats) (maxL := 7) (rt := (some .int)) (by decide) rfl RX11 rfl (Nat.le_of_ble_eq_true rfl) [some (.ref (ao 0)), some (.int x1), none, none, none, none, none] rfl ?_
  intro X C hQ
  unfold fX11_treats at hf
  refine a_iload_n C dX11_treats_0 rfl ?_
  refine a_iconst C (1 : Int32) dX11_treats_1 (by decide) ?_
  refine a_bipush C (9 : Int32) dX11_treats_2 (by decide) ?_
  obtain ⟨r6, h6, hf⟩ := fx_bind hf
  refine a_fS C (kX11_within l D Y x1 (1 : Int32) (9 : Int32) r6 h6) gX11_treats_X11_within rfl dvX11_within ⟨⟨rfl, rfl⟩, ⟨Nat.le_of_ble_eq_true rfl, Nat.le_of_ble_eq_true rfl⟩, ⟨Nat.le_of_ble_eq_true rfl, Nat.le_of_ble_eq_true rfl⟩⟩ rfl (Nat.le_of_ble_eq_true rfl) dX11_treats_4 [] rfl rfl rfl (wn := [oX11 ao atext atold aL aC alaw aotherLaw anow atrial ahistory aguess acrewPlan amoatPlan achance io_wind io_spadeLimit, oX2 aC iC_size, oX9 anow aL aC inow_moats inow_spades inow_tides, rI Y (anow 3) 8 cnow_mood, rI Y (anow 4) 8 cnow_place, oX8 atold itold_size, rJ Y (atold 1) 12 ctold_numbers]) rfl ?_
  refine a_if_ne C 12 dX11_treats_7 (by decide) (fun h7 => ?_) (fun h7 => ?_)
  · have hf := fx_f h7 hf
    refine a_aload_n C dX11_treats_12 rfl ?_
    refine a_get C eX11_treats_33 dX11_treats_13 0 rfl rfl ?_
    obtain ⟨r8, h8, hf⟩ := fx_bind hf
    refine a_fV C (kX2_all l D Y aC iC_size r8 h8) gX11_treats_X2_all rfl dvX2_all ⟨⟨rfl, rfl⟩, ⟨Nat.le_of_ble_eq_true rfl, Nat.le_of_ble_eq_true rfl⟩, ⟨Nat.le_of_ble_eq_true rfl, Nat.le_of_ble_eq_true rfl⟩⟩ rfl (Nat.le_of_ble_eq_true rfl) dX11_treats_16 rfl rfl [1] rfl rfl rfl (wn := [oX11 ao atext atold aL aC alaw aotherLaw anow atrial ahistory aguess acrewPlan amoatPlan achance io_wind io_spadeLimit, oX2 aC iC_size, oX9 anow aL aC inow_moats inow_spades inow_tides, rI Y (anow 3) 8 cnow_mood, rI Y (anow 4) 8 cnow_place, oX8 atold itold_size, rJ Y (atold 1) 12 ctold_numbers]) rfl ?_
    refine a_aload_n C dX11_treats_19 rfl ?_
    refine a_get C eX11_treats_56 dX11_treats_20 0 rfl rfl ?_
    obtain ⟨r9, h9, hf⟩ := fx_bind hf
    refine a_fV C (kX9_atHome l D Y anow aL aC inow_moats inow_spades inow_tides cnow_place iC_size r9 h9) gX11_treats_X9_atHome rfl dvX9_atHome ⟨⟨rfl, rfl⟩, ⟨Nat.le_of_ble_eq_true rfl, Nat.le_of_ble_eq_true rfl⟩, ⟨Nat.le_of_ble_eq_true rfl, Nat.le_of_ble_eq_true rfl⟩⟩ rfl (Nat.le_of_ble_eq_true rfl) dX11_treats_23 rfl rfl [2, 4, 1] rfl rfl rfl (wn := [oX11 ao atext atold aL aC alaw aotherLaw anow atrial ahistory aguess acrewPlan amoatPlan achance io_wind io_spadeLimit, oX2 aC iC_size, oX9 anow aL aC inow_moats inow_spades inow_tides, rI Y (anow 3) 8 cnow_mood, rI Y (anow 4) 8 cnow_place, oX8 atold itold_size, rJ Y (atold 1) 12 ctold_numbers]) rfl ?_
    refine a_iconst C (-1 : Int32) dX11_treats_26 (by decide) ?_
    refine a_ixor C dX11_treats_27 ?_
    refine a_iand C dX11_treats_28 ?_
    refine a_istore_n C dX11_treats_29 (by decide) rfl ?_
    refine a_iload_n C dX11_treats_30 rfl ?_
    refine a_iconst C (1 : Int32) dX11_treats_31 (by decide) ?_
    refine a_iadd C dX11_treats_32 ?_
    refine a_bipush C (9 : Int32) dX11_treats_33 (by decide) ?_
    refine a_icmp_le C 45 dX11_treats_35 (by decide) (fun h10 => ?_) (fun h10 => ?_)
    · have hf := fx_t h10 hf
      exact kX11_treats_b45 C hQ hf
    · have hf := fx_f h10 hf
      refine a_iload_n C dX11_treats_38 rfl ?_
      refine a_if_eq C 45 dX11_treats_39 (by decide) (fun h11 => ?_) (fun h11 => ?_)
      · have hf := fx_t h11 hf
        exact kX11_treats_b45 C hQ hf
      · have hf := fx_f h11 hf
        refine a_bipush C (-2 : Int32) dX11_treats_42 (by decide) ?_
        obtain rfl := fx_some hf
        exact a_iret C hQ dX11_treats_44 ⟨rfl, rfl⟩
  · have hf := fx_t h7 hf
    refine a_iconst C (-1 : Int32) dX11_treats_10 (by decide) ?_
    obtain rfl := fx_some hf
    exact a_iret C hQ dX11_treats_11 ⟨rfl, rfl⟩
-- X11_work
abbrev rmX11_work : Room := { frames := 5, cells := 0, slots := 0, locals := 110 }
theorem dvX11_work : yX11_work.cls = RX11 ∧ yX11_work.cls ≠ "java/lang/invoke/MethodHandle" ∧ yX11_work.cls ≠ "java/lang/invoke/VarHandle" ∧ (parseMethodDescriptor yX11_work.desc).map (fun d => d.parameters.length) = some 1 := by decide +kernel
theorem eX11_work_inX11 : ∀ w ∈ wsX110, w ∈ wsX11_work := by decide +kernel
theorem eX11_work_60 : aF wsX11_work RX11 60 11 9 := ⟨RX11, TX11, 17, rfl, eX11_work_inX11, by decide, by decide +kernel⟩
theorem eX11_work_56 : aF wsX11_work RX11 56 11 8 := ⟨RX11, TX11, 17, rfl, eX11_work_inX11, by decide, by decide +kernel⟩
theorem eX11_work_26 : aF wsX11_work RX11 26 11 2 := ⟨RX11, TX11, 17, rfl, eX11_work_inX11, by decide, by decide +kernel⟩
theorem eX11_work_inX5 : ∀ w ∈ wsX50, w ∈ wsX11_work := by decide +kernel
theorem eX11_work_131 : aF wsX11_work RX11 131 5 0 := ⟨RX5, TX5, 5, rfl, eX11_work_inX5, by decide, by decide +kernel⟩
theorem eX11_work_19 : aF wsX11_work RX11 19 11 1 := ⟨RX11, TX11, 17, rfl, eX11_work_inX11, by decide, by decide +kernel⟩
theorem eX11_work_inX9 : ∀ w ∈ wsX90, w ∈ wsX11_work := by decide +kernel
theorem eX11_work_156 : aF wsX11_work RX11 156 9 2 := ⟨RX9, TX9, 9, rfl, eX11_work_inX9, by decide, by decide +kernel⟩
def fX11_work_b84 (iC_size : Int32) (cC_age : Nat → Int32) (cC_skill : Nat → Int32) (cC_pals : Nat → Int32) (iL_cells : Int32) (inow_moats : Int32) (inow_spades : Int32) (inow_tides : Int32) (cnow_wall : Nat → Int32) (cnow_depth : Nat → Int32) (cnow_mood : Nat → Int32) (cnow_place : Nat → Int32) (itold_size : Int32) (ctold_numbers : Nat → Int64) (itrial_moats : Int32) (itrial_spades : Int32) (itrial_tides : Int32) (ctrial_wall : Nat → Int32) (ctrial_depth : Nat → Int32) (ctrial_mood : Nat → Int32) (ctrial_place : Nat → Int32) : Option (Int32 × Int32 × (Nat → Int64) × Int32 × Int32 × Int32 × (Nat → Int32) × (Nat → Int32) × (Nat → Int32) × (Nat → Int32)) :=
  (fX9_sand ctrial_wall iL_cells).bind (fun r1 => (fX9_sand cnow_wall iL_cells).bind (fun r2 => some ((r1 - r2), itold_size, ctold_numbers, itrial_moats, itrial_spades, itrial_tides, ctrial_wall, ctrial_depth, ctrial_mood, ctrial_place)))
set_option maxHeartbeats 4000000 in
set_option maxRecDepth 100000 in
theorem kX11_work_b84 {X : cxT} {l : Launch} {D : va_G} {Y : Nat → ClassId} {ao atext atold aL aC alaw aotherLaw anow atrial ahistory aguess acrewPlan amoatPlan achance : Nat → Nat} {io_wind : Int32} {io_spadeLimit : Int32} {iC_size : Int32} {cC_age : Nat → Int32} {cC_skill : Nat → Int32} {cC_pals : Nat → Int32} {iL_cells : Int32} {inow_moats : Int32} {inow_spades : Int32} {inow_tides : Int32} {cnow_wall : Nat → Int32} {cnow_depth : Nat → Int32} {cnow_mood : Nat → Int32} {cnow_place : Nat → Int32} {itold_size : Int32} {ctold_numbers : Nat → Int64} {itrial_moats : Int32} {itrial_spades : Int32} {itrial_tides : Int32} {ctrial_wall : Nat → Int32} {ctrial_depth : Nat → Int32} {ctrial_mood : Nat → Int32} {ctrial_place : Nat → Int32} {res : Int32 × Int32 × (Nat → Int64) × Int32 × Int32 × Int32 × (Nat → Int32) × (Nat → Int32) × (Nat → Int32) × (Nat → Int32)} (C : axC X l D Y cX11_work 3 RX11 wsX11_work rmX11_work (some .int)) (hQ : axQ X 0 0 (fun r9 w9 => r9 = (some (.int res.1)) ∧ w9 = [oX11 ao atext atold aL aC alaw aotherLaw anow atrial ahistory aguess acrewPlan amoatPlan achance io_wind io_spadeLimit, oX2 aC iC_size, rI Y (aC 1) 8 cC_age, rI Y (aC 2) 8 cC_skill, rI Y (aC 4) 8 cC_pals, oX5 aL iL_cells, oX9 anow aL aC inow_moats inow_spades inow_tides, rI Y (anow 1) 12 cnow_wall, rI Y (anow 2) 12 cnow_depth, rI Y (anow 3) 8 cnow_mood, rI Y (anow 4) 8 cnow_place, oX8 atold res.2.1, rJ Y (atold 1) 12 res.2.2.1, oX9 atrial aL aC res.2.2.2.1 res.2.2.2.2.1 res.2.2.2.2.2.1, rI Y (atrial 1) 12 res.2.2.2.2.2.2.1, rI Y (atrial 2) 12 res.2.2.2.2.2.2.2.1, rI Y (atrial 3) 8 res.2.2.2.2.2.2.2.2.1, rI Y (atrial 4) 8 res.2.2.2.2.2.2.2.2.2])) (hf : fX11_work_b84 iC_size cC_age cC_skill cC_pals iL_cells inow_moats inow_spades inow_tides cnow_wall cnow_depth cnow_mood cnow_place itold_size ctold_numbers itrial_moats itrial_spades itrial_tides ctrial_wall ctrial_depth ctrial_mood ctrial_place = some res) : ax X 0 0 84 [some (.ref (ao 0)), none, none] [oX11 ao atext atold aL aC alaw aotherLaw anow atrial ahistory aguess acrewPlan amoatPlan achance io_wind io_spadeLimit, oX2 aC iC_size, rI Y (aC 1) 8 cC_age, rI Y (aC 2) 8 cC_skill, rI Y (aC 4) 8 cC_pals, oX5 aL iL_cells, oX9 anow aL aC inow_moats inow_spades inow_tides, rI Y (anow 1) 12 cnow_wall, rI Y (anow 2) 12 cnow_depth, rI Y (anow 3) 8 cnow_mood, rI Y (anow 4) 8 cnow_place, oX8 atold itold_size, rJ Y (atold 1) 12 ctold_numbers, oX9 atrial aL aC itrial_moats itrial_spades itrial_tides, rI Y (atrial 1) 12 ctrial_wall, rI Y (atrial 2) 12 ctrial_depth, rI Y (atrial 3) 8 ctrial_mood, rI Y (atrial 4) 8 ctrial_place] [] := by
  unfold fX11_work_b84 at hf
  refine a_aload_n C dX11_work_84 rfl ?_
  refine a_get C eX11_work_60 dX11_work_85 0 rfl rfl ?_
  obtain ⟨r1, h1, hf⟩ := fx_bind hf
  refine a_fV C (kX9_sand l D Y atrial aL aC itrial_moats itrial_spades itrial_tides ctrial_wall iL_cells r1 h1) gX11_work_X9_sand rfl dvX9_sand ⟨⟨rfl, rfl⟩, ⟨Nat.le_of_ble_eq_true rfl, Nat.le_of_ble_eq_true rfl⟩, ⟨Nat.le_of_ble_eq_true rfl, Nat.le_of_ble_eq_true rfl⟩⟩ rfl (Nat.le_of_ble_eq_true rfl) dX11_work_88 rfl rfl [13, 14, 5] rfl rfl rfl (wn := [oX11 ao atext atold aL aC alaw aotherLaw anow atrial ahistory aguess acrewPlan amoatPlan achance io_wind io_spadeLimit, oX2 aC iC_size, rI Y (aC 1) 8 cC_age, rI Y (aC 2) 8 cC_skill, rI Y (aC 4) 8 cC_pals, oX5 aL iL_cells, oX9 anow aL aC inow_moats inow_spades inow_tides, rI Y (anow 1) 12 cnow_wall, rI Y (anow 2) 12 cnow_depth, rI Y (anow 3) 8 cnow_mood, rI Y (anow 4) 8 cnow_place, oX8 atold itold_size, rJ Y (atold 1) 12 ctold_numbers, oX9 atrial aL aC itrial_moats itrial_spades itrial_tides, rI Y (atrial 1) 12 ctrial_wall, rI Y (atrial 2) 12 ctrial_depth, rI Y (atrial 3) 8 ctrial_mood, rI Y (atrial 4) 8 ctrial_place]) rfl ?_
  refine a_aload_n C dX11_work_91 rfl ?_
  refine a_get C eX11_work_56 dX11_work_92 0 rfl rfl ?_
  obtain ⟨r2, h2, hf⟩ := fx_bind hf
  refine a_fV C (kX9_sand l D Y anow aL aC inow_moats inow_spades inow_tides cnow_wall iL_cells r2 h2) gX11_work_X9_sand rfl dvX9_sand ⟨⟨rfl, rfl⟩, ⟨Nat.le_of_ble_eq_true rfl, Nat.le_of_ble_eq_true rfl⟩, ⟨Nat.le_of_ble_eq_true rfl, Nat.le_of_ble_eq_true rfl⟩⟩ rfl (Nat.le_of_ble_eq_true rfl) dX11_work_95 rfl rfl [6, 7, 5] rfl rfl rfl (wn := [oX11 ao atext atold aL aC alaw aotherLaw anow atrial ahistory aguess acrewPlan amoatPlan achance io_wind io_spadeLimit, oX2 aC iC_size, rI Y (aC 1) 8 cC_age, rI Y (aC 2) 8 cC_skill, rI Y (aC 4) 8 cC_pals, oX5 aL iL_cells, oX9 anow aL aC inow_moats inow_spades inow_tides, rI Y (anow 1) 12 cnow_wall, rI Y (anow 2) 12 cnow_depth, rI Y (anow 3) 8 cnow_mood, rI Y (anow 4) 8 cnow_place, oX8 atold itold_size, rJ Y (atold 1) 12 ctold_numbers, oX9 atrial aL aC itrial_moats itrial_spades itrial_tides, rI Y (atrial 1) 12 ctrial_wall, rI Y (atrial 2) 12 ctrial_depth, rI Y (atrial 3) 8 ctrial_mood, rI Y (atrial 4) 8 ctrial_place]) rfl ?_
  refine a_isub C dX11_work_98 ?_
  obtain rfl := fx_some hf
  exact a_iret C hQ dX11_work_99 ⟨rfl, rfl⟩
def fX11_work_l40 (iC_size : Int32) (cC_age : Nat → Int32) (cC_skill : Nat → Int32) (cC_pals : Nat → Int32) (iL_cells : Int32) (inow_moats : Int32) (inow_spades : Int32) (inow_tides : Int32) (cnow_wall : Nat → Int32) (cnow_depth : Nat → Int32) (cnow_mood : Nat → Int32) (cnow_place : Nat → Int32) (itrial_moats : Int32) (itrial_spades : Int32) (itrial_tides : Int32) (ctrial_wall : Nat → Int32) (ctrial_depth : Nat → Int32) (ctrial_mood : Nat → Int32) (ctrial_place : Nat → Int32) (k40 : Int32 × (Nat → Int64) × Int32 → Option (Int32 × Int32 × (Nat → Int64) × Int32 × Int32 × Int32 × (Nat → Int32) × (Nat → Int32) × (Nat → Int32) × (Nat → Int32))) (itold_size : Int32) (ctold_numbers : Nat → Int64) (x2 : Int32) : Option (Int32 × Int32 × (Nat → Int64) × Int32 × Int32 × Int32 × (Nat → Int32) × (Nat → Int32) × (Nat → Int32) × (Nat → Int32)) :=
  if iL_cells ≤ x2 then (fX11_work_b84 iC_size cC_age cC_skill cC_pals iL_cells inow_moats inow_spades inow_tides cnow_wall cnow_depth cnow_mood cnow_place itold_size ctold_numbers itrial_moats itrial_spades itrial_tides ctrial_wall ctrial_depth ctrial_mood ctrial_place) else (if inb x2 12 then (fX8_add itold_size ctold_numbers (((ctrial_wall (Int32.toNatClampNeg x2)) - (cnow_wall (Int32.toNatClampNeg x2))).toInt64)).bind (fun r5 => k40 (r5.1, r5.2, (x2 + (1 : Int32)))) else none)
def fX11_work_b40 (iC_size : Int32) (cC_age : Nat → Int32) (cC_skill : Nat → Int32) (cC_pals : Nat → Int32) (iL_cells : Int32) (inow_moats : Int32) (inow_spades : Int32) (inow_tides : Int32) (cnow_wall : Nat → Int32) (cnow_depth : Nat → Int32) (cnow_mood : Nat → Int32) (cnow_place : Nat → Int32) (itold_size : Int32) (ctold_numbers : Nat → Int64) (itrial_moats : Int32) (itrial_spades : Int32) (itrial_tides : Int32) (ctrial_wall : Nat → Int32) (ctrial_depth : Nat → Int32) (ctrial_mood : Nat → Int32) (ctrial_place : Nat → Int32) (x2 : Int32) : Option (Int32 × Int32 × (Nat → Int64) × Int32 × Int32 × Int32 × (Nat → Int32) × (Nat → Int32) × (Nat → Int32) × (Nat → Int32)) :=
  loopN (fun (s : Int32 × (Nat → Int64) × Int32) k40 => fX11_work_l40 iC_size cC_age cC_skill cC_pals iL_cells inow_moats inow_spades inow_tides cnow_wall cnow_depth cnow_mood cnow_place itrial_moats itrial_spades itrial_tides ctrial_wall ctrial_depth ctrial_mood ctrial_place k40 s.1 s.2.1 s.2.2) FUEL (itold_size, ctold_numbers, x2)
set_option maxHeartbeats 4000000 in
set_option maxRecDepth 100000 in
theorem kX11_work_l40 {X : cxT} {l : Launch} {D : va_G} {Y : Nat → ClassId} {ao atext atold aL aC alaw aotherLaw anow atrial ahistory aguess acrewPlan amoatPlan achance : Nat → Nat} {io_wind : Int32} {io_spadeLimit : Int32} {iC_size : Int32} {cC_age : Nat → Int32} {cC_skill : Nat → Int32} {cC_pals : Nat → Int32} {iL_cells : Int32} {inow_moats : Int32} {inow_spades : Int32} {inow_tides : Int32} {cnow_wall : Nat → Int32} {cnow_depth : Nat → Int32} {cnow_mood : Nat → Int32} {cnow_place : Nat → Int32} {itold_size : Int32} {ctold_numbers : Nat → Int64} {itrial_moats : Int32} {itrial_spades : Int32} {itrial_tides : Int32} {ctrial_wall : Nat → Int32} {ctrial_depth : Nat → Int32} {ctrial_mood : Nat → Int32} {ctrial_place : Nat → Int32} {x2 : Int32} {res : Int32 × Int32 × (Nat → Int64) × Int32 × Int32 × Int32 × (Nat → Int32) × (Nat → Int32) × (Nat → Int32) × (Nat → Int32)} (C : axC X l D Y cX11_work 3 RX11 wsX11_work rmX11_work (some .int)) (hQ : axQ X 0 0 (fun r9 w9 => r9 = (some (.int res.1)) ∧ w9 = [oX11 ao atext atold aL aC alaw aotherLaw anow atrial ahistory aguess acrewPlan amoatPlan achance io_wind io_spadeLimit, oX2 aC iC_size, rI Y (aC 1) 8 cC_age, rI Y (aC 2) 8 cC_skill, rI Y (aC 4) 8 cC_pals, oX5 aL iL_cells, oX9 anow aL aC inow_moats inow_spades inow_tides, rI Y (anow 1) 12 cnow_wall, rI Y (anow 2) 12 cnow_depth, rI Y (anow 3) 8 cnow_mood, rI Y (anow 4) 8 cnow_place, oX8 atold res.2.1, rJ Y (atold 1) 12 res.2.2.1, oX9 atrial aL aC res.2.2.2.1 res.2.2.2.2.1 res.2.2.2.2.2.1, rI Y (atrial 1) 12 res.2.2.2.2.2.2.1, rI Y (atrial 2) 12 res.2.2.2.2.2.2.2.1, rI Y (atrial 3) 8 res.2.2.2.2.2.2.2.2.1, rI Y (atrial 4) 8 res.2.2.2.2.2.2.2.2.2])) {k40 : Int32 × (Nat → Int64) × Int32 → Option (Int32 × Int32 × (Nat → Int64) × Int32 × Int32 × Int32 × (Nat → Int32) × (Nat → Int32) × (Nat → Int32) × (Nat → Int32))} (hk40 : ∀ s : Int32 × (Nat → Int64) × Int32, k40 s = some res → ax X 0 0 40 [some (.ref (ao 0)), none, some (.int s.2.2)] [oX11 ao atext atold aL aC alaw aotherLaw anow atrial ahistory aguess acrewPlan amoatPlan achance io_wind io_spadeLimit, oX2 aC iC_size, rI Y (aC 1) 8 cC_age, rI Y (aC 2) 8 cC_skill, rI Y (aC 4) 8 cC_pals, oX5 aL iL_cells, oX9 anow aL aC inow_moats inow_spades inow_tides, rI Y (anow 1) 12 cnow_wall, rI Y (anow 2) 12 cnow_depth, rI Y (anow 3) 8 cnow_mood, rI Y (anow 4) 8 cnow_place, oX8 atold s.1, rJ Y (atold 1) 12 s.2.1, oX9 atrial aL aC itrial_moats itrial_spades itrial_tides, rI Y (atrial 1) 12 ctrial_wall, rI Y (atrial 2) 12 ctrial_depth, rI Y (atrial 3) 8 ctrial_mood, rI Y (atrial 4) 8 ctrial_place] []) (hf : fX11_work_l40 iC_size cC_age cC_skill cC_pals iL_cells inow_moats inow_spades inow_tides cnow_wall cnow_depth cnow_mood cnow_place itrial_moats itrial_spades itrial_tides ctrial_wall ctrial_depth ctrial_mood ctrial_place k40 itold_size ctold_numbers x2 = some res) : ax X 0 0 40 [some (.ref (ao 0)), none, some (.int x2)] [oX11 ao atext atold aL aC alaw aotherLaw anow atrial ahistory aguess acrewPlan amoatPlan achance io_wind io_spadeLimit, oX2 aC iC_size, rI Y (aC 1) 8 cC_age, rI Y (aC 2) 8 cC_skill, rI Y (aC 4) 8 cC_pals, oX5 aL iL_cells, oX9 anow aL aC inow_moats inow_spades inow_tides, rI Y (anow 1) 12 cnow_wall, rI Y (anow 2) 12 cnow_depth, rI Y (anow 3) 8 cnow_mood, rI Y (anow 4) 8 cnow_place, oX8 atold itold_size, rJ Y (atold 1) 12 ctold_numbers, oX9 atrial aL aC itrial_moats itrial_spades itrial_tides, rI Y (atrial 1) 12 ctrial_wall, rI Y (atrial 2) 12 ctrial_depth, rI Y (atrial 3) 8 ctrial_mood, rI Y (atrial 4) 8 ctrial_place] [] := by
  unfold fX11_work_l40 at hf
  refine a_iload_n C dX11_work_40 rfl ?_
  refine a_aload_n C dX11_work_41 rfl ?_
  refine a_get C eX11_work_26 dX11_work_42 0 rfl rfl ?_
  refine a_get C eX11_work_131 dX11_work_45 5 rfl rfl ?_
  refine a_icmp_ge C 84 dX11_work_48 (by decide) (fun h3 => ?_) (fun h3 => ?_)
  · have hf := fx_t h3 hf
    refine a_kill [2] ?_
    exact kX11_work_b84 C hQ hf
  · have hf := fx_f h3 hf
    refine a_aload_n C dX11_work_51 rfl ?_
    refine a_get C eX11_work_19 dX11_work_52 0 rfl rfl ?_
    refine a_aload_n C dX11_work_55 rfl ?_
    refine a_get C eX11_work_60 dX11_work_56 0 rfl rfl ?_
    refine a_get C eX11_work_156 dX11_work_59 13 rfl rfl ?_
    refine a_iload_n C dX11_work_62 rfl ?_
    obtain ⟨h4, hf⟩ := fx_ite hf
    refine a_iald C dX11_work_63 14 rfl h4 ?_
    refine a_aload_n C dX11_work_64 rfl ?_
    refine a_get C eX11_work_56 dX11_work_65 0 rfl rfl ?_
    refine a_get C eX11_work_156 dX11_work_68 6 rfl rfl ?_
    refine a_iload_n C dX11_work_71 rfl ?_
    refine a_iald C dX11_work_72 7 rfl h4 ?_
    refine a_isub C dX11_work_73 ?_
    refine a_i2l C dX11_work_74 ?_
    obtain ⟨r5, h5, hf⟩ := fx_bind hf
    refine a_fV C (kX8_add l D Y atold itold_size ctold_numbers (((ctrial_wall (Int32.toNatClampNeg x2)) - (cnow_wall (Int32.toNatClampNeg x2))).toInt64) r5 h5) gX11_work_X8_add rfl dvX8_add ⟨⟨rfl, rfl⟩, ⟨Nat.le_of_ble_eq_true rfl, Nat.le_of_ble_eq_true rfl⟩, ⟨Nat.le_of_ble_eq_true rfl, Nat.le_of_ble_eq_true rfl⟩⟩ rfl (Nat.le_of_ble_eq_true rfl) dX11_work_75 rfl rfl [11, 12] rfl rfl rfl (wn := [oX11 ao atext atold aL aC alaw aotherLaw anow atrial ahistory aguess acrewPlan amoatPlan achance io_wind io_spadeLimit, oX2 aC iC_size, rI Y (aC 1) 8 cC_age, rI Y (aC 2) 8 cC_skill, rI Y (aC 4) 8 cC_pals, oX5 aL iL_cells, oX9 anow aL aC inow_moats inow_spades inow_tides, rI Y (anow 1) 12 cnow_wall, rI Y (anow 2) 12 cnow_depth, rI Y (anow 3) 8 cnow_mood, rI Y (anow 4) 8 cnow_place, oX8 atold r5.1, rJ Y (atold 1) 12 r5.2, oX9 atrial aL aC itrial_moats itrial_spades itrial_tides, rI Y (atrial 1) 12 ctrial_wall, rI Y (atrial 2) 12 ctrial_depth, rI Y (atrial 3) 8 ctrial_mood, rI Y (atrial 4) 8 ctrial_place]) rfl ?_
    refine a_iinc C (1 : Int32) dX11_work_78 (by decide) rfl (by decide) rfl ?_
    refine a_goto C 40 dX11_work_81 (by decide) ?_
    exact hk40 (r5.1, r5.2, (x2 + (1 : Int32))) hf
set_option maxHeartbeats 4000000 in
set_option maxRecDepth 100000 in
theorem kX11_work_b40 {X : cxT} {l : Launch} {D : va_G} {Y : Nat → ClassId} {ao atext atold aL aC alaw aotherLaw anow atrial ahistory aguess acrewPlan amoatPlan achance : Nat → Nat} {io_wind : Int32} {io_spadeLimit : Int32} {iC_size : Int32} {cC_age : Nat → Int32} {cC_skill : Nat → Int32} {cC_pals : Nat → Int32} {iL_cells : Int32} {inow_moats : Int32} {inow_spades : Int32} {inow_tides : Int32} {cnow_wall : Nat → Int32} {cnow_depth : Nat → Int32} {cnow_mood : Nat → Int32} {cnow_place : Nat → Int32} {itold_size : Int32} {ctold_numbers : Nat → Int64} {itrial_moats : Int32} {itrial_spades : Int32} {itrial_tides : Int32} {ctrial_wall : Nat → Int32} {ctrial_depth : Nat → Int32} {ctrial_mood : Nat → Int32} {ctrial_place : Nat → Int32} {x2 : Int32} {res : Int32 × Int32 × (Nat → Int64) × Int32 × Int32 × Int32 × (Nat → Int32) × (Nat → Int32) × (Nat → Int32) × (Nat → Int32)} (C : axC X l D Y cX11_work 3 RX11 wsX11_work rmX11_work (some .int)) (hQ : axQ X 0 0 (fun r9 w9 => r9 = (some (.int res.1)) ∧ w9 = [oX11 ao atext atold aL aC alaw aotherLaw anow atrial ahistory aguess acrewPlan amoatPlan achance io_wind io_spadeLimit, oX2 aC iC_size, rI Y (aC 1) 8 cC_age, rI Y (aC 2) 8 cC_skill, rI Y (aC 4) 8 cC_pals, oX5 aL iL_cells, oX9 anow aL aC inow_moats inow_spades inow_tides, rI Y (anow 1) 12 cnow_wall, rI Y (anow 2) 12 cnow_depth, rI Y (anow 3) 8 cnow_mood, rI Y (anow 4) 8 cnow_place, oX8 atold res.2.1, rJ Y (atold 1) 12 res.2.2.1, oX9 atrial aL aC res.2.2.2.1 res.2.2.2.2.1 res.2.2.2.2.2.1, rI Y (atrial 1) 12 res.2.2.2.2.2.2.1, rI Y (atrial 2) 12 res.2.2.2.2.2.2.2.1, rI Y (atrial 3) 8 res.2.2.2.2.2.2.2.2.1, rI Y (atrial 4) 8 res.2.2.2.2.2.2.2.2.2])) (hf : fX11_work_b40 iC_size cC_age cC_skill cC_pals iL_cells inow_moats inow_spades inow_tides cnow_wall cnow_depth cnow_mood cnow_place itold_size ctold_numbers itrial_moats itrial_spades itrial_tides ctrial_wall ctrial_depth ctrial_mood ctrial_place x2 = some res) : ax X 0 0 40 [some (.ref (ao 0)), none, some (.int x2)] [oX11 ao atext atold aL aC alaw aotherLaw anow atrial ahistory aguess acrewPlan amoatPlan achance io_wind io_spadeLimit, oX2 aC iC_size, rI Y (aC 1) 8 cC_age, rI Y (aC 2) 8 cC_skill, rI Y (aC 4) 8 cC_pals, oX5 aL iL_cells, oX9 anow aL aC inow_moats inow_spades inow_tides, rI Y (anow 1) 12 cnow_wall, rI Y (anow 2) 12 cnow_depth, rI Y (anow 3) 8 cnow_mood, rI Y (anow 4) 8 cnow_place, oX8 atold itold_size, rJ Y (atold 1) 12 ctold_numbers, oX9 atrial aL aC itrial_moats itrial_spades itrial_tides, rI Y (atrial 1) 12 ctrial_wall, rI Y (atrial 2) 12 ctrial_depth, rI Y (atrial 3) 8 ctrial_mood, rI Y (atrial 4) 8 ctrial_place] [] := by
  unfold fX11_work_b40 at hf
  exact fx_loop (P := fun s : Int32 × (Nat → Int64) × Int32 => ax X 0 0 40 [some (.ref (ao 0)), none, some (.int s.2.2)] [oX11 ao atext atold aL aC alaw aotherLaw anow atrial ahistory aguess acrewPlan amoatPlan achance io_wind io_spadeLimit, oX2 aC iC_size, rI Y (aC 1) 8 cC_age, rI Y (aC 2) 8 cC_skill, rI Y (aC 4) 8 cC_pals, oX5 aL iL_cells, oX9 anow aL aC inow_moats inow_spades inow_tides, rI Y (anow 1) 12 cnow_wall, rI Y (anow 2) 12 cnow_depth, rI Y (anow 3) 8 cnow_mood, rI Y (anow 4) 8 cnow_place, oX8 atold s.1, rJ Y (atold 1) 12 s.2.1, oX9 atrial aL aC itrial_moats itrial_spades itrial_tides, rI Y (atrial 1) 12 ctrial_wall, rI Y (atrial 2) 12 ctrial_depth, rI Y (atrial 3) 8 ctrial_mood, rI Y (atrial 4) 8 ctrial_place] []) (fun s k40 hk40 h => kX11_work_l40 C hQ hk40 h) FUEL (itold_size, ctold_numbers, x2) hf
def fX11_work (iC_size : Int32) (cC_age : Nat → Int32) (cC_skill : Nat → Int32) (cC_pals : Nat → Int32) (iL_cells : Int32) (inow_moats : Int32) (inow_spades : Int32) (inow_tides : Int32) (cnow_wall : Nat → Int32) (cnow_depth : Nat → Int32) (cnow_mood : Nat → Int32) (cnow_place : Nat → Int32) (itold_size : Int32) (ctold_numbers : Nat → Int64) (itrial_moats : Int32) (itrial_spades : Int32) (itrial_tides : Int32) (ctrial_wall : Nat → Int32) (ctrial_depth : Nat → Int32) (ctrial_mood : Nat → Int32) (ctrial_place : Nat → Int32) (x1 : Int32) : Option (Int32 × Int32 × (Nat → Int64) × Int32 × Int32 × Int32 × (Nat → Int32) × (Nat → Int32) × (Nat → Int32) × (Nat → Int32)) :=
  (fX11_within x1 (0 : Int32) (30 : Int32)).bind (fun r6 => if r6 = (0 : Int32) then (some ((-1 : Int32), itold_size, ctold_numbers, itrial_moats, itrial_spades, itrial_tides, ctrial_wall, ctrial_depth, ctrial_mood, ctrial_place)) else ((fX9_copy itrial_moats itrial_spades itrial_tides ctrial_wall ctrial_depth ctrial_mood ctrial_place inow_moats inow_spades inow_tides cnow_wall cnow_depth cnow_mood cnow_place).bind (fun r8 => (fX9_buildOn r8.2.1 r8.2.2.2.1 r8.2.2.2.2.2.1 r8.2.2.2.2.2.2 iC_size cC_age cC_skill cC_pals iL_cells x1).bind (fun r9 => (fX8_clear itold_size).bind (fun r10 => fX11_work_b40 iC_size cC_age cC_skill cC_pals iL_cells inow_moats inow_spades inow_tides cnow_wall cnow_depth cnow_mood cnow_place r10 ctold_numbers r8.1 r8.2.1 r8.2.2.1 r9.1 r8.2.2.2.2.1 r9.2.1 r9.2.2 (0 : Int32))))))
set_option maxHeartbeats 4000000 in
set_option maxRecDepth 100000 in
theorem kX11_work (l : Launch) (D : va_G) (Y : Nat → ClassId) (ao atext atold aL aC alaw aotherLaw anow atrial ahistory aguess acrewPlan amoatPlan achance : Nat → Nat) (io_wind : Int32) (io_spadeLimit : Int32) (iC_size : Int32) (cC_age : Nat → Int32) (cC_skill : Nat → Int32) (cC_pals : Nat → Int32) (iL_cells : Int32) (inow_moats : Int32) (inow_spades : Int32) (inow_tides : Int32) (cnow_wall : Nat → Int32) (cnow_depth : Nat → Int32) (cnow_mood : Nat → Int32) (cnow_place : Nat → Int32) (itold_size : Int32) (ctold_numbers : Nat → Int64) (itrial_moats : Int32) (itrial_spades : Int32) (itrial_tides : Int32) (ctrial_wall : Nat → Int32) (ctrial_depth : Nat → Int32) (ctrial_mood : Nat → Int32) (ctrial_place : Nat → Int32) (x1 : Int32) (res : Int32 × Int32 × (Nat → Int64) × Int32 × Int32 × Int32 × (Nat → Int32) × (Nat → Int32) × (Nat → Int32) × (Nat → Int32)) (hf : fX11_work iC_size cC_age cC_skill cC_pals iL_cells inow_moats inow_spades inow_tides cnow_wall cnow_depth cnow_mood cnow_place itold_size ctold_numbers itrial_moats itrial_spades itrial_tides ctrial_wall ctrial_depth ctrial_mood ctrial_place x1 = some res) : amf l D Y yX11_work wsX11_work rmX11_work [.ref (ao 0), .int x1] [oX11 ao atext atold aL aC alaw aotherLaw anow atrial ahistory aguess acrewPlan amoatPlan achance io_wind io_spadeLimit, oX2 aC iC_size, rI Y (aC 1) 8 cC_age, rI Y (aC 2) 8 cC_skill, rI Y (aC 4) 8 cC_pals, oX5 aL iL_cells, oX9 anow aL aC inow_moats inow_spades inow_tides, rI Y (anow 1) 12 cnow_wall, rI Y (anow 2) 12 cnow_depth, rI Y (anow 3) 8 cnow_mood, rI Y (anow 4) 8 cnow_place, oX8 atold itold_size, rJ Y (atold 1) 12 ctold_numbers, oX9 atrial aL aC itrial_moats itrial_spades itrial_tides, rI Y (atrial 1) 12 ctrial_wall, rI Y (atrial 2) 12 ctrial_depth, rI Y (atrial 3) 8 ctrial_mood, rI Y (atrial 4) 8 ctrial_place] (some (.int res.1)) [oX11 ao atext atold aL aC alaw aotherLaw anow atrial ahistory aguess acrewPlan amoatPlan achance io_wind io_spadeLimit, oX2 aC iC_size, rI Y (aC 1) 8 cC_age, rI Y (aC 2) 8 cC_skill, rI Y (aC 4) 8 cC_pals, oX5 aL iL_cells, oX9 anow aL aC inow_moats inow_spades inow_tides, rI Y (anow 1) 12 cnow_wall, rI Y (anow 2) 12 cnow_depth, rI Y (anow 3) 8 cnow_mood, rI Y (anow 4) 8 cnow_place, oX8 atold res.2.1, rJ Y (atold 1) 12 res.2.2.1, oX9 atrial aL aC res.2.2.2.1 res.2.2.2.2.1 res.2.2.2.2.2.1, rI Y (atrial 1) 12 res.2.2.2.2.2.2.1, rI Y (atrial 2) 12 res.2.2.2.2.2.2.2.1, rI Y (atrial 3) 8 res.2.2.2.2.2.2.2.2.1, rI Y (atrial 4) 8 res.2.2.2.2.2.2.2.2.2] := by
  refine amf.of (cc := cX11_work) (maxL := 3) (rt := (some .int)) (by decide) rfl RX11 rfl (Nat.le_of_ble_eq_true rfl) [some (.ref (ao 0)), some (.int x1), none] rfl ?_
  intro X C hQ
  unfold fX11_work at hf
  refine a_iload_n C dX11_work_0 rfl ?_
  refine a_iconst C (0 : Int32) dX11_work_1 (by decide) ?_
  refine a_bipush C (30 : Int32) dX11_work_2 (by decide) ?_
  obtain ⟨r6, h6, hf⟩ := fx_bind hf
  refine a_fS C (kX11_within l D Y x1 (0 : Int32) (30 : Int32) r6 h6) gX11_work_X11_within rfl dvX11_within ⟨⟨rfl, rfl⟩, ⟨Nat.le_of_ble_eq_true rfl, Nat.le_of_ble_eq_true rfl⟩, ⟨Nat.le_of_ble_eq_true rfl, Nat.le_of_ble_eq_true rfl⟩⟩ rfl (Nat.le_of_ble_eq_true rfl) dX11_work_4 [] rfl rfl rfl (wn := [oX11 ao atext atold aL aC alaw aotherLaw anow atrial ahistory aguess acrewPlan amoatPlan achance io_wind io_spadeLimit, oX2 aC iC_size, rI Y (aC 1) 8 cC_age, rI Y (aC 2) 8 cC_skill, rI Y (aC 4) 8 cC_pals, oX5 aL iL_cells, oX9 anow aL aC inow_moats inow_spades inow_tides, rI Y (anow 1) 12 cnow_wall, rI Y (anow 2) 12 cnow_depth, rI Y (anow 3) 8 cnow_mood, rI Y (anow 4) 8 cnow_place, oX8 atold itold_size, rJ Y (atold 1) 12 ctold_numbers, oX9 atrial aL aC itrial_moats itrial_spades itrial_tides, rI Y (atrial 1) 12 ctrial_wall, rI Y (atrial 2) 12 ctrial_depth, rI Y (atrial 3) 8 ctrial_mood, rI Y (atrial 4) 8 ctrial_place]) rfl ?_
  refine a_if_ne C 12 dX11_work_7 (by decide) (fun h7 => ?_) (fun h7 => ?_)
  · have hf := fx_f h7 hf
    refine a_aload_n C dX11_work_12 rfl ?_
    refine a_get C eX11_work_60 dX11_work_13 0 rfl rfl ?_
    refine a_aload_n C dX11_work_16 rfl ?_
    refine a_get C eX11_work_56 dX11_work_17 0 rfl rfl ?_
    obtain ⟨r8, h8, hf⟩ := fx_bind hf
    refine a_fV C (kX9_copy l D Y atrial aL aC anow itrial_moats itrial_spades itrial_tides ctrial_wall ctrial_depth ctrial_mood ctrial_place inow_moats inow_spades inow_tides cnow_wall cnow_depth cnow_mood cnow_place r8 h8) gX11_work_X9_copy rfl dvX9_copy ⟨⟨rfl, rfl⟩, ⟨Nat.le_of_ble_eq_true rfl, Nat.le_of_ble_eq_true rfl⟩, ⟨Nat.le_of_ble_eq_true rfl, Nat.le_of_ble_eq_true rfl⟩⟩ rfl (Nat.le_of_ble_eq_true rfl) dX11_work_20 rfl rfl [13, 14, 15, 16, 17, 6, 7, 8, 9, 10] rfl rfl rfl (wn := [oX11 ao atext atold aL aC alaw aotherLaw anow atrial ahistory aguess acrewPlan amoatPlan achance io_wind io_spadeLimit, oX2 aC iC_size, rI Y (aC 1) 8 cC_age, rI Y (aC 2) 8 cC_skill, rI Y (aC 4) 8 cC_pals, oX5 aL iL_cells, oX9 anow aL aC inow_moats inow_spades inow_tides, rI Y (anow 1) 12 cnow_wall, rI Y (anow 2) 12 cnow_depth, rI Y (anow 3) 8 cnow_mood, rI Y (anow 4) 8 cnow_place, oX8 atold itold_size, rJ Y (atold 1) 12 ctold_numbers, oX9 atrial aL aC r8.1 r8.2.1 r8.2.2.1, rI Y (atrial 1) 12 r8.2.2.2.1, rI Y (atrial 2) 12 r8.2.2.2.2.1, rI Y (atrial 3) 8 r8.2.2.2.2.2.1, rI Y (atrial 4) 8 r8.2.2.2.2.2.2]) rfl ?_
    refine a_aload_n C dX11_work_23 rfl ?_
    refine a_get C eX11_work_60 dX11_work_24 0 rfl rfl ?_
    refine a_iload_n C dX11_work_27 rfl ?_
    obtain ⟨r9, h9, hf⟩ := fx_bind hf
    refine a_fV C (kX9_buildOn l D Y atrial aL aC r8.1 r8.2.1 r8.2.2.1 r8.2.2.2.1 r8.2.2.2.2.2.1 r8.2.2.2.2.2.2 iC_size cC_age cC_skill cC_pals iL_cells x1 r9 h9) gX11_work_X9_buildOn rfl dvX9_buildOn ⟨⟨rfl, rfl⟩, ⟨Nat.le_of_ble_eq_true rfl, Nat.le_of_ble_eq_true rfl⟩, ⟨Nat.le_of_ble_eq_true rfl, Nat.le_of_ble_eq_true rfl⟩⟩ rfl (Nat.le_of_ble_eq_true rfl) dX11_work_28 rfl rfl [13, 14, 16, 17, 1, 2, 3, 4, 5] rfl rfl rfl (wn := [oX11 ao atext atold aL aC alaw aotherLaw anow atrial ahistory aguess acrewPlan amoatPlan achance io_wind io_spadeLimit, oX2 aC iC_size, rI Y (aC 1) 8 cC_age, rI Y (aC 2) 8 cC_skill, rI Y (aC 4) 8 cC_pals, oX5 aL iL_cells, oX9 anow aL aC inow_moats inow_spades inow_tides, rI Y (anow 1) 12 cnow_wall, rI Y (anow 2) 12 cnow_depth, rI Y (anow 3) 8 cnow_mood, rI Y (anow 4) 8 cnow_place, oX8 atold itold_size, rJ Y (atold 1) 12 ctold_numbers, oX9 atrial aL aC r8.1 r8.2.1 r8.2.2.1, rI Y (atrial 1) 12 r9.1, rI Y (atrial 2) 12 r8.2.2.2.2.1, rI Y (atrial 3) 8 r9.2.1, rI Y (atrial 4) 8 r9.2.2]) rfl ?_
    refine a_aload_n C dX11_work_31 rfl ?_
    refine a_get C eX11_work_19 dX11_work_32 0 rfl rfl ?_
    obtain ⟨r10, h10, hf⟩ := fx_bind hf
    refine a_fV C (kX8_clear l D Y atold itold_size r10 h10) gX11_work_X8_clear rfl dvX8_clear ⟨⟨rfl, rfl⟩, ⟨Nat.le_of_ble_eq_true rfl, Nat.le_of_ble_eq_true rfl⟩, ⟨Nat.le_of_ble_eq_true rfl, Nat.le_of_ble_eq_true rfl⟩⟩ rfl (Nat.le_of_ble_eq_true rfl) dX11_work_35 rfl rfl [11] rfl rfl rfl (wn := [oX11 ao atext atold aL aC alaw aotherLaw anow atrial ahistory aguess acrewPlan amoatPlan achance io_wind io_spadeLimit, oX2 aC iC_size, rI Y (aC 1) 8 cC_age, rI Y (aC 2) 8 cC_skill, rI Y (aC 4) 8 cC_pals, oX5 aL iL_cells, oX9 anow aL aC inow_moats inow_spades inow_tides, rI Y (anow 1) 12 cnow_wall, rI Y (anow 2) 12 cnow_depth, rI Y (anow 3) 8 cnow_mood, rI Y (anow 4) 8 cnow_place, oX8 atold r10, rJ Y (atold 1) 12 ctold_numbers, oX9 atrial aL aC r8.1 r8.2.1 r8.2.2.1, rI Y (atrial 1) 12 r9.1, rI Y (atrial 2) 12 r8.2.2.2.2.1, rI Y (atrial 3) 8 r9.2.1, rI Y (atrial 4) 8 r9.2.2]) rfl ?_
    refine a_iconst C (0 : Int32) dX11_work_38 (by decide) ?_
    refine a_istore_n C dX11_work_39 (by decide) rfl ?_
    refine a_kill [1] ?_
    exact kX11_work_b40 C hQ hf
  · have hf := fx_t h7 hf
    refine a_iconst C (-1 : Int32) dX11_work_10 (by decide) ?_
    obtain rfl := fx_some hf
    exact a_iret C hQ dX11_work_11 ⟨rfl, rfl⟩
-- X11_seen
abbrev rmX11_seen : Room := { frames := 2, cells := 0, slots := 0, locals := 43 }
theorem dvX11_seen : yX11_seen.cls = RX11 ∧ yX11_seen.cls ≠ "java/lang/invoke/MethodHandle" ∧ yX11_seen.cls ≠ "java/lang/invoke/VarHandle" ∧ (parseMethodDescriptor yX11_seen.desc).map (fun d => d.parameters.length) = some 2 := by decide +kernel
theorem eX11_seen_inX11 : ∀ w ∈ wsX110, w ∈ wsX11_seen := by decide +kernel
theorem eX11_seen_26 : aF wsX11_seen RX11 26 11 2 := ⟨RX11, TX11, 17, rfl, eX11_seen_inX11, by decide, by decide +kernel⟩
theorem eX11_seen_83 : aF wsX11_seen RX11 83 11 13 := ⟨RX11, TX11, 17, rfl, eX11_seen_inX11, by decide, by decide +kernel⟩
def fX11_seen_b21 (iL_cells : Int32) (iguess_cells : Int32) (cguess_amount : Nat → Int32) : Option (Int32 × Int32 × (Nat → Int32)) :=
  some ((-1 : Int32), iguess_cells, cguess_amount)
set_option maxHeartbeats 4000000 in
set_option maxRecDepth 100000 in
theorem kX11_seen_b21 {X : cxT} {l : Launch} {D : va_G} {Y : Nat → ClassId} {ao atext atold aL aC alaw aotherLaw anow atrial ahistory aguess acrewPlan amoatPlan achance : Nat → Nat} {io_wind : Int32} {io_spadeLimit : Int32} {iL_cells : Int32} {iguess_cells : Int32} {cguess_amount : Nat → Int32} {res : Int32 × Int32 × (Nat → Int32)} (C : axC X l D Y cX11_seen 3 RX11 wsX11_seen rmX11_seen (some .int)) (hQ : axQ X 0 0 (fun r9 w9 => r9 = (some (.int res.1)) ∧ w9 = [oX11 ao atext atold aL aC alaw aotherLaw anow atrial ahistory aguess acrewPlan amoatPlan achance io_wind io_spadeLimit, oX5 aL iL_cells, oX3 aguess aC res.2.1, rI Y (aguess 1) 12 res.2.2])) (hf : fX11_seen_b21 iL_cells iguess_cells cguess_amount = some res) : ax X 0 0 21 [none, none, none] [oX11 ao atext atold aL aC alaw aotherLaw anow atrial ahistory aguess acrewPlan amoatPlan achance io_wind io_spadeLimit, oX5 aL iL_cells, oX3 aguess aC iguess_cells, rI Y (aguess 1) 12 cguess_amount] [] := by
  unfold fX11_seen_b21 at hf
  refine a_iconst C (-1 : Int32) dX11_seen_21 (by decide) ?_
  obtain rfl := fx_some hf
  exact a_iret C hQ dX11_seen_22 ⟨rfl, rfl⟩
def fX11_seen (iL_cells : Int32) (iguess_cells : Int32) (cguess_amount : Nat → Int32) (x1 : Int32) (x2 : Int32) : Option (Int32 × Int32 × (Nat → Int32)) :=
  (fX5_has iL_cells x1).bind (fun r1 => if r1 = (0 : Int32) then (fX11_seen_b21 iL_cells iguess_cells cguess_amount) else ((fX11_within x2 (0 : Int32) (99 : Int32)).bind (fun r3 => if r3 = (0 : Int32) then (fX11_seen_b21 iL_cells iguess_cells cguess_amount) else ((fX3_note iguess_cells cguess_amount x1 x2).bind (fun r5 => some (r5.1, r5.2.1, r5.2.2))))))
set_option maxHeartbeats 4000000 in
set_option maxRecDepth 100000 in
theorem kX11_seen (l : Launch) (D : va_G) (Y : Nat → ClassId) (ao atext atold aL aC alaw aotherLaw anow atrial ahistory aguess acrewPlan amoatPlan achance : Nat → Nat) (io_wind : Int32) (io_spadeLimit : Int32) (iL_cells : Int32) (iguess_cells : Int32) (cguess_amount : Nat → Int32) (x1 : Int32) (x2 : Int32) (res : Int32 × Int32 × (Nat → Int32)) (hf : fX11_seen iL_cells iguess_cells cguess_amount x1 x2 = some res) : amf l D Y yX11_seen wsX11_seen rmX11_seen [.ref (ao 0), .int x1, .int x2] [oX11 ao atext atold aL aC alaw aotherLaw anow atrial ahistory aguess acrewPlan amoatPlan achance io_wind io_spadeLimit, oX5 aL iL_cells, oX3 aguess aC iguess_cells, rI Y (aguess 1) 12 cguess_amount] (some (.int res.1)) [oX11 ao atext atold aL aC alaw aotherLaw anow atrial ahistory aguess acrewPlan amoatPlan achance io_wind io_spadeLimit, oX5 aL iL_cells, oX3 aguess aC res.2.1, rI Y (aguess 1) 12 res.2.2] := by
  refine amf.of (cc := cX11_seen) (maxL := 3) (rt := (some .int)) (by decide) rfl RX11 rfl (Nat.le_of_ble_eq_true rfl) [some (.ref (ao 0)), some (.int x1), some (.int x2)] rfl ?_
  intro X C hQ
  unfold fX11_seen at hf
  refine a_aload_n C dX11_seen_0 rfl ?_
  refine a_get C eX11_seen_26 dX11_seen_1 0 rfl rfl ?_
  refine a_iload_n C dX11_seen_4 rfl ?_
  obtain ⟨r1, h1, hf⟩ := fx_bind hf
  refine a_fV C (kX5_has l D Y aL iL_cells x1 r1 h1) gX11_seen_X5_has rfl dvX5_has ⟨⟨rfl, rfl⟩, ⟨Nat.le_of_ble_eq_true rfl, Nat.le_of_ble_eq_true rfl⟩, ⟨Nat.le_of_ble_eq_true rfl, Nat.le_of_ble_eq_true rfl⟩⟩ rfl (Nat.le_of_ble_eq_true rfl) dX11_seen_5 rfl rfl [1] rfl rfl rfl (wn := [oX11 ao atext atold aL aC alaw aotherLaw anow atrial ahistory aguess acrewPlan amoatPlan achance io_wind io_spadeLimit, oX5 aL iL_cells, oX3 aguess aC iguess_cells, rI Y (aguess 1) 12 cguess_amount]) rfl ?_
  refine a_if_eq C 21 dX11_seen_8 (by decide) (fun h2 => ?_) (fun h2 => ?_)
  · have hf := fx_t h2 hf
    refine a_kill [0, 1, 2] ?_
    exact kX11_seen_b21 C hQ hf
  · have hf := fx_f h2 hf
    refine a_iload_n C dX11_seen_11 rfl ?_
    refine a_iconst C (0 : Int32) dX11_seen_12 (by decide) ?_
    refine a_bipush C (99 : Int32) dX11_seen_13 (by decide) ?_
    obtain ⟨r3, h3, hf⟩ := fx_bind hf
    refine a_fS C (kX11_within l D Y x2 (0 : Int32) (99 : Int32) r3 h3) gX11_seen_X11_within rfl dvX11_within ⟨⟨rfl, rfl⟩, ⟨Nat.le_of_ble_eq_true rfl, Nat.le_of_ble_eq_true rfl⟩, ⟨Nat.le_of_ble_eq_true rfl, Nat.le_of_ble_eq_true rfl⟩⟩ rfl (Nat.le_of_ble_eq_true rfl) dX11_seen_15 [] rfl rfl rfl (wn := [oX11 ao atext atold aL aC alaw aotherLaw anow atrial ahistory aguess acrewPlan amoatPlan achance io_wind io_spadeLimit, oX5 aL iL_cells, oX3 aguess aC iguess_cells, rI Y (aguess 1) 12 cguess_amount]) rfl ?_
    refine a_if_ne C 23 dX11_seen_18 (by decide) (fun h4 => ?_) (fun h4 => ?_)
    · have hf := fx_f h4 hf
      refine a_aload_n C dX11_seen_23 rfl ?_
      refine a_get C eX11_seen_83 dX11_seen_24 0 rfl rfl ?_
      refine a_iload_n C dX11_seen_27 rfl ?_
      refine a_iload_n C dX11_seen_28 rfl ?_
      obtain ⟨r5, h5, hf⟩ := fx_bind hf
      refine a_fV C (kX3_note l D Y aguess aC iguess_cells cguess_amount x1 x2 r5 h5) gX11_seen_X3_note rfl dvX3_note ⟨⟨rfl, rfl⟩, ⟨Nat.le_of_ble_eq_true rfl, Nat.le_of_ble_eq_true rfl⟩, ⟨Nat.le_of_ble_eq_true rfl, Nat.le_of_ble_eq_true rfl⟩⟩ rfl (Nat.le_of_ble_eq_true rfl) dX11_seen_29 rfl rfl [2, 3] rfl rfl rfl (wn := [oX11 ao atext atold aL aC alaw aotherLaw anow atrial ahistory aguess acrewPlan amoatPlan achance io_wind io_spadeLimit, oX5 aL iL_cells, oX3 aguess aC r5.2.1, rI Y (aguess 1) 12 r5.2.2]) rfl ?_
      obtain rfl := fx_some hf
      exact a_iret C hQ dX11_seen_32 ⟨rfl, rfl⟩
    · have hf := fx_t h4 hf
      refine a_kill [0, 1, 2] ?_
      exact kX11_seen_b21 C hQ hf
-- X11_forget
abbrev rmX11_forget : Room := { frames := 1, cells := 0, slots := 0, locals := 20 }
theorem dvX11_forget : yX11_forget.cls = RX11 ∧ yX11_forget.cls ≠ "java/lang/invoke/MethodHandle" ∧ yX11_forget.cls ≠ "java/lang/invoke/VarHandle" ∧ (parseMethodDescriptor yX11_forget.desc).map (fun d => d.parameters.length) = some 0 := by decide +kernel
theorem eX11_forget_inX11 : ∀ w ∈ wsX110, w ∈ wsX11_forget := by decide +kernel
theorem eX11_forget_83 : aF wsX11_forget RX11 83 11 13 := ⟨RX11, TX11, 17, rfl, eX11_forget_inX11, by decide, by decide +kernel⟩
theorem eX11_forget_inX3 : ∀ w ∈ wsX30, w ∈ wsX11_forget := by decide +kernel
theorem eX11_forget_339 : aF wsX11_forget RX11 339 3 1 := ⟨RX3, TX3, 7, rfl, eX11_forget_inX3, by decide, by decide +kernel⟩
def fX11_forget (iguess_cells : Int32) : Option (Int32 × Int32) :=
  (fJ6_bitCount_0f7a4 iguess_cells).bind (fun r1 => (fX3_clear iguess_cells).bind (fun r2 => some (r1, r2)))
set_option maxHeartbeats 4000000 in
set_option maxRecDepth 100000 in
theorem kX11_forget (l : Launch) (D : va_G) (Y : Nat → ClassId) (ao atext atold aL aC alaw aotherLaw anow atrial ahistory aguess acrewPlan amoatPlan achance : Nat → Nat) (io_wind : Int32) (io_spadeLimit : Int32) (iguess_cells : Int32) (res : Int32 × Int32) (hf : fX11_forget iguess_cells = some res) : amf l D Y yX11_forget wsX11_forget rmX11_forget [.ref (ao 0)] [oX11 ao atext atold aL aC alaw aotherLaw anow atrial ahistory aguess acrewPlan amoatPlan achance io_wind io_spadeLimit, oX3 aguess aC iguess_cells] (some (.int res.1)) [oX11 ao atext atold aL aC alaw aotherLaw anow atrial ahistory aguess acrewPlan amoatPlan achance io_wind io_spadeLimit, oX3 aguess aC res.2] := by
  refine amf.of (cc := cX11_forget) (maxL := 2) (rt := (some .int)) (by decide) rfl RX11 rfl (Nat.le_of_ble_eq_true rfl) [some (.ref (ao 0)), none] rfl ?_
  intro X C hQ
  unfold fX11_forget at hf
  refine a_aload_n C dX11_forget_0 rfl ?_
  refine a_get C eX11_forget_83 dX11_forget_1 0 rfl rfl ?_
  refine a_get C eX11_forget_339 dX11_forget_4 1 rfl rfl ?_
  obtain ⟨r1, h1, hf⟩ := fx_bind hf
  refine a_fS C (kJ6_bitCount_0f7a4 l D Y iguess_cells r1 h1) gX11_forget_J6_bitCount_0f7a4 rfl dvJ6_bitCount_0f7a4 ⟨⟨rfl, rfl⟩, ⟨Nat.le_of_ble_eq_true rfl, Nat.le_of_ble_eq_true rfl⟩, ⟨Nat.le_of_ble_eq_true rfl, Nat.le_of_ble_eq_true rfl⟩⟩ rfl (Nat.le_of_ble_eq_true rfl) dX11_forget_7 [] rfl rfl rfl (wn := [oX11 ao atext atold aL aC alaw aotherLaw anow atrial ahistory aguess acrewPlan amoatPlan achance io_wind io_spadeLimit, oX3 aguess aC iguess_cells]) rfl ?_
  refine a_istore_n C dX11_forget_10 (by decide) rfl ?_
  refine a_aload_n C dX11_forget_11 rfl ?_
  refine a_get C eX11_forget_83 dX11_forget_12 0 rfl rfl ?_
  obtain ⟨r2, h2, hf⟩ := fx_bind hf
  refine a_fV C (kX3_clear l D Y aguess aC iguess_cells r2 h2) gX11_forget_X3_clear rfl dvX3_clear ⟨⟨rfl, rfl⟩, ⟨Nat.le_of_ble_eq_true rfl, Nat.le_of_ble_eq_true rfl⟩, ⟨Nat.le_of_ble_eq_true rfl, Nat.le_of_ble_eq_true rfl⟩⟩ rfl (Nat.le_of_ble_eq_true rfl) dX11_forget_15 rfl rfl [1] rfl rfl rfl (wn := [oX11 ao atext atold aL aC alaw aotherLaw anow atrial ahistory aguess acrewPlan amoatPlan achance io_wind io_spadeLimit, oX3 aguess aC r2]) rfl ?_
  refine a_iload_n C dX11_forget_18 rfl ?_
  obtain rfl := fx_some hf
  exact a_iret C hQ dX11_forget_19 ⟨rfl, rfl⟩
-- X11_rests
abbrev rmX11_rests : Room := { frames := 2, cells := 0, slots := 0, locals := 48 }
theorem dvX11_rests : yX11_rests.cls = RX11 ∧ yX11_rests.cls ≠ "java/lang/invoke/MethodHandle" ∧ yX11_rests.cls ≠ "java/lang/invoke/VarHandle" ∧ (parseMethodDescriptor yX11_rests.desc).map (fun d => d.parameters.length) = some 2 := by decide +kernel
theorem eX11_rests_inX11 : ∀ w ∈ wsX110, w ∈ wsX11_rests := by decide +kernel
theorem eX11_rests_106 : aF wsX11_rests RX11 106 11 16 := ⟨RX11, TX11, 17, rfl, eX11_rests_inX11, by decide, by decide +kernel⟩
theorem eX11_rests_19 : aF wsX11_rests RX11 19 11 1 := ⟨RX11, TX11, 17, rfl, eX11_rests_inX11, by decide, by decide +kernel⟩
def fX11_rests_b20 (cchance_best : Nat → Int32) (itold_size : Int32) (ctold_numbers : Nat → Int64) : Option (Int32 × (Nat → Int32) × Int32 × (Nat → Int64)) :=
  some ((-1 : Int32), cchance_best, itold_size, ctold_numbers)
set_option maxHeartbeats 4000000 in
set_option maxRecDepth 100000 in
theorem kX11_rests_b20 {X : cxT} {l : Launch} {D : va_G} {Y : Nat → ClassId} {ao atext atold aL aC alaw aotherLaw anow atrial ahistory aguess acrewPlan amoatPlan achance : Nat → Nat} {io_wind : Int32} {io_spadeLimit : Int32} {ichance_seed : Int32} {cchance_best : Nat → Int32} {itold_size : Int32} {ctold_numbers : Nat → Int64} {res : Int32 × (Nat → Int32) × Int32 × (Nat → Int64)} (C : axC X l D Y cX11_rests 6 RX11 wsX11_rests rmX11_rests (some .int)) (hQ : axQ X 0 0 (fun r9 w9 => r9 = (some (.int res.1)) ∧ w9 = [oX11 ao atext atold aL aC alaw aotherLaw anow atrial ahistory aguess acrewPlan amoatPlan achance io_wind io_spadeLimit, oX0 achance ichance_seed, rI Y (achance 2) 10 res.2.1, oX8 atold res.2.2.1, rJ Y (atold 1) 12 res.2.2.2])) (hf : fX11_rests_b20 cchance_best itold_size ctold_numbers = some res) : ax X 0 0 20 [none, none, none, none, none, none] [oX11 ao atext atold aL aC alaw aotherLaw anow atrial ahistory aguess acrewPlan amoatPlan achance io_wind io_spadeLimit, oX0 achance ichance_seed, rI Y (achance 2) 10 cchance_best, oX8 atold itold_size, rJ Y (atold 1) 12 ctold_numbers] [] := by
  unfold fX11_rests_b20 at hf
  refine a_iconst C (-1 : Int32) dX11_rests_20 (by decide) ?_
  obtain rfl := fx_some hf
  exact a_iret C hQ dX11_rests_21 ⟨rfl, rfl⟩
def fX11_rests_b108 (cchance_best : Nat → Int32) (itold_size : Int32) (ctold_numbers : Nat → Int64) (x3 : Int32) : Option (Int32 × (Nat → Int32) × Int32 × (Nat → Int64)) :=
  some (x3, cchance_best, itold_size, ctold_numbers)
set_option maxHeartbeats 4000000 in
set_option maxRecDepth 100000 in
theorem kX11_rests_b108 {X : cxT} {l : Launch} {D : va_G} {Y : Nat → ClassId} {ao atext atold aL aC alaw aotherLaw anow atrial ahistory aguess acrewPlan amoatPlan achance : Nat → Nat} {io_wind : Int32} {io_spadeLimit : Int32} {ichance_seed : Int32} {cchance_best : Nat → Int32} {itold_size : Int32} {ctold_numbers : Nat → Int64} {x3 : Int32} {res : Int32 × (Nat → Int32) × Int32 × (Nat → Int64)} (C : axC X l D Y cX11_rests 6 RX11 wsX11_rests rmX11_rests (some .int)) (hQ : axQ X 0 0 (fun r9 w9 => r9 = (some (.int res.1)) ∧ w9 = [oX11 ao atext atold aL aC alaw aotherLaw anow atrial ahistory aguess acrewPlan amoatPlan achance io_wind io_spadeLimit, oX0 achance ichance_seed, rI Y (achance 2) 10 res.2.1, oX8 atold res.2.2.1, rJ Y (atold 1) 12 res.2.2.2])) (hf : fX11_rests_b108 cchance_best itold_size ctold_numbers x3 = some res) : ax X 0 0 108 [none, none, none, some (.int x3), none, none] [oX11 ao atext atold aL aC alaw aotherLaw anow atrial ahistory aguess acrewPlan amoatPlan achance io_wind io_spadeLimit, oX0 achance ichance_seed, rI Y (achance 2) 10 cchance_best, oX8 atold itold_size, rJ Y (atold 1) 12 ctold_numbers] [] := by
  unfold fX11_rests_b108 at hf
  refine a_iload_n C dX11_rests_108 rfl ?_
  obtain rfl := fx_some hf
  exact a_iret C hQ dX11_rests_109 ⟨rfl, rfl⟩
def fX11_rests_b102 (cchance_best : Nat → Int32) (itold_size : Int32) (ctold_numbers : Nat → Int64) (x1 : Int32) (x2 : Int32) (x3 : Int32) (x4 : Int32) (k43 : Int32 × (Nat → Int64) × Int32 × Int32 → Option (Int32 × (Nat → Int32) × Int32 × (Nat → Int64))) : Option (Int32 × (Nat → Int32) × Int32 × (Nat → Int64)) :=
  k43 (itold_size, ctold_numbers, x3, (x4 + (1 : Int32)))
set_option maxHeartbeats 4000000 in
set_option maxRecDepth 100000 in
theorem kX11_rests_b102 {X : cxT} {l : Launch} {D : va_G} {Y : Nat → ClassId} {ao atext atold aL aC alaw aotherLaw anow atrial ahistory aguess acrewPlan amoatPlan achance : Nat → Nat} {io_wind : Int32} {io_spadeLimit : Int32} {ichance_seed : Int32} {cchance_best : Nat → Int32} {itold_size : Int32} {ctold_numbers : Nat → Int64} {x1 : Int32} {x2 : Int32} {x3 : Int32} {x4 : Int32} {res : Int32 × (Nat → Int32) × Int32 × (Nat → Int64)} (C : axC X l D Y cX11_rests 6 RX11 wsX11_rests rmX11_rests (some .int)) (hQ : axQ X 0 0 (fun r9 w9 => r9 = (some (.int res.1)) ∧ w9 = [oX11 ao atext atold aL aC alaw aotherLaw anow atrial ahistory aguess acrewPlan amoatPlan achance io_wind io_spadeLimit, oX0 achance ichance_seed, rI Y (achance 2) 10 res.2.1, oX8 atold res.2.2.1, rJ Y (atold 1) 12 res.2.2.2])) {k43 : Int32 × (Nat → Int64) × Int32 × Int32 → Option (Int32 × (Nat → Int32) × Int32 × (Nat → Int64))} (hk43 : ∀ s : Int32 × (Nat → Int64) × Int32 × Int32, k43 s = some res → ax X 0 0 43 [some (.ref (ao 0)), some (.int x1), some (.int x2), some (.int s.2.2.1), some (.int s.2.2.2), none] [oX11 ao atext atold aL aC alaw aotherLaw anow atrial ahistory aguess acrewPlan amoatPlan achance io_wind io_spadeLimit, oX0 achance ichance_seed, rI Y (achance 2) 10 cchance_best, oX8 atold s.1, rJ Y (atold 1) 12 s.2.1] []) (hf : fX11_rests_b102 cchance_best itold_size ctold_numbers x1 x2 x3 x4 k43 = some res) : ax X 0 0 102 [some (.ref (ao 0)), some (.int x1), some (.int x2), some (.int x3), some (.int x4), none] [oX11 ao atext atold aL aC alaw aotherLaw anow atrial ahistory aguess acrewPlan amoatPlan achance io_wind io_spadeLimit, oX0 achance ichance_seed, rI Y (achance 2) 10 cchance_best, oX8 atold itold_size, rJ Y (atold 1) 12 ctold_numbers] [] := by
  unfold fX11_rests_b102 at hf
  refine a_iinc C (1 : Int32) dX11_rests_102 (by decide) rfl (by decide) rfl ?_
  refine a_goto C 43 dX11_rests_105 (by decide) ?_
  exact hk43 (itold_size, ctold_numbers, x3, (x4 + (1 : Int32))) hf
def fX11_rests_b96 (cchance_best : Nat → Int32) (itold_size : Int32) (ctold_numbers : Nat → Int64) (x1 : Int32) (x2 : Int32) (x3 : Int32) (x4 : Int32) (x5 : Int32) (k43 : Int32 × (Nat → Int64) × Int32 × Int32 → Option (Int32 × (Nat → Int32) × Int32 × (Nat → Int64))) (k53 : Int32 × (Nat → Int64) × Int32 × Int32 → Option (Int32 × (Nat → Int32) × Int32 × (Nat → Int64))) : Option (Int32 × (Nat → Int32) × Int32 × (Nat → Int64)) :=
  k53 (itold_size, ctold_numbers, x3, (x5 + (1 : Int32)))
set_option maxHeartbeats 4000000 in
set_option maxRecDepth 100000 in
theorem kX11_rests_b96 {X : cxT} {l : Launch} {D : va_G} {Y : Nat → ClassId} {ao atext atold aL aC alaw aotherLaw anow atrial ahistory aguess acrewPlan amoatPlan achance : Nat → Nat} {io_wind : Int32} {io_spadeLimit : Int32} {ichance_seed : Int32} {cchance_best : Nat → Int32} {itold_size : Int32} {ctold_numbers : Nat → Int64} {x1 : Int32} {x2 : Int32} {x3 : Int32} {x4 : Int32} {x5 : Int32} {res : Int32 × (Nat → Int32) × Int32 × (Nat → Int64)} (C : axC X l D Y cX11_rests 6 RX11 wsX11_rests rmX11_rests (some .int)) (hQ : axQ X 0 0 (fun r9 w9 => r9 = (some (.int res.1)) ∧ w9 = [oX11 ao atext atold aL aC alaw aotherLaw anow atrial ahistory aguess acrewPlan amoatPlan achance io_wind io_spadeLimit, oX0 achance ichance_seed, rI Y (achance 2) 10 res.2.1, oX8 atold res.2.2.1, rJ Y (atold 1) 12 res.2.2.2])) {k43 : Int32 × (Nat → Int64) × Int32 × Int32 → Option (Int32 × (Nat → Int32) × Int32 × (Nat → Int64))} (hk43 : ∀ s : Int32 × (Nat → Int64) × Int32 × Int32, k43 s = some res → ax X 0 0 43 [some (.ref (ao 0)), some (.int x1), some (.int x2), some (.int s.2.2.1), some (.int s.2.2.2), none] [oX11 ao atext atold aL aC alaw aotherLaw anow atrial ahistory aguess acrewPlan amoatPlan achance io_wind io_spadeLimit, oX0 achance ichance_seed, rI Y (achance 2) 10 cchance_best, oX8 atold s.1, rJ Y (atold 1) 12 s.2.1] []) {k53 : Int32 × (Nat → Int64) × Int32 × Int32 → Option (Int32 × (Nat → Int32) × Int32 × (Nat → Int64))} (hk53 : ∀ s : Int32 × (Nat → Int64) × Int32 × Int32, k53 s = some res → ax X 0 0 53 [some (.ref (ao 0)), some (.int x1), some (.int x2), some (.int s.2.2.1), some (.int x4), some (.int s.2.2.2)] [oX11 ao atext atold aL aC alaw aotherLaw anow atrial ahistory aguess acrewPlan amoatPlan achance io_wind io_spadeLimit, oX0 achance ichance_seed, rI Y (achance 2) 10 cchance_best, oX8 atold s.1, rJ Y (atold 1) 12 s.2.1] []) (hf : fX11_rests_b96 cchance_best itold_size ctold_numbers x1 x2 x3 x4 x5 k43 k53 = some res) : ax X 0 0 96 [some (.ref (ao 0)), some (.int x1), some (.int x2), some (.int x3), some (.int x4), some (.int x5)] [oX11 ao atext atold aL aC alaw aotherLaw anow atrial ahistory aguess acrewPlan amoatPlan achance io_wind io_spadeLimit, oX0 achance ichance_seed, rI Y (achance 2) 10 cchance_best, oX8 atold itold_size, rJ Y (atold 1) 12 ctold_numbers] [] := by
  unfold fX11_rests_b96 at hf
  refine a_iinc C (1 : Int32) dX11_rests_96 (by decide) rfl (by decide) rfl ?_
  refine a_goto C 53 dX11_rests_99 (by decide) ?_
  exact hk53 (itold_size, ctold_numbers, x3, (x5 + (1 : Int32))) hf
def fX11_rests_b93 (cchance_best : Nat → Int32) (itold_size : Int32) (ctold_numbers : Nat → Int64) (x1 : Int32) (x2 : Int32) (x3 : Int32) (x4 : Int32) (x5 : Int32) (k43 : Int32 × (Nat → Int64) × Int32 × Int32 → Option (Int32 × (Nat → Int32) × Int32 × (Nat → Int64))) (k53 : Int32 × (Nat → Int64) × Int32 × Int32 → Option (Int32 × (Nat → Int32) × Int32 × (Nat → Int64))) : Option (Int32 × (Nat → Int32) × Int32 × (Nat → Int64)) :=
  fX11_rests_b96 cchance_best itold_size ctold_numbers x1 x2 (x3 + (1 : Int32)) x4 x5 k43 k53
set_option maxHeartbeats 4000000 in
set_option maxRecDepth 100000 in
theorem kX11_rests_b93 {X : cxT} {l : Launch} {D : va_G} {Y : Nat → ClassId} {ao atext atold aL aC alaw aotherLaw anow atrial ahistory aguess acrewPlan amoatPlan achance : Nat → Nat} {io_wind : Int32} {io_spadeLimit : Int32} {ichance_seed : Int32} {cchance_best : Nat → Int32} {itold_size : Int32} {ctold_numbers : Nat → Int64} {x1 : Int32} {x2 : Int32} {x3 : Int32} {x4 : Int32} {x5 : Int32} {res : Int32 × (Nat → Int32) × Int32 × (Nat → Int64)} (C : axC X l D Y cX11_rests 6 RX11 wsX11_rests rmX11_rests (some .int)) (hQ : axQ X 0 0 (fun r9 w9 => r9 = (some (.int res.1)) ∧ w9 = [oX11 ao atext atold aL aC alaw aotherLaw anow atrial ahistory aguess acrewPlan amoatPlan achance io_wind io_spadeLimit, oX0 achance ichance_seed, rI Y (achance 2) 10 res.2.1, oX8 atold res.2.2.1, rJ Y (atold 1) 12 res.2.2.2])) {k43 : Int32 × (Nat → Int64) × Int32 × Int32 → Option (Int32 × (Nat → Int32) × Int32 × (Nat → Int64))} (hk43 : ∀ s : Int32 × (Nat → Int64) × Int32 × Int32, k43 s = some res → ax X 0 0 43 [some (.ref (ao 0)), some (.int x1), some (.int x2), some (.int s.2.2.1), some (.int s.2.2.2), none] [oX11 ao atext atold aL aC alaw aotherLaw anow atrial ahistory aguess acrewPlan amoatPlan achance io_wind io_spadeLimit, oX0 achance ichance_seed, rI Y (achance 2) 10 cchance_best, oX8 atold s.1, rJ Y (atold 1) 12 s.2.1] []) {k53 : Int32 × (Nat → Int64) × Int32 × Int32 → Option (Int32 × (Nat → Int32) × Int32 × (Nat → Int64))} (hk53 : ∀ s : Int32 × (Nat → Int64) × Int32 × Int32, k53 s = some res → ax X 0 0 53 [some (.ref (ao 0)), some (.int x1), some (.int x2), some (.int s.2.2.1), some (.int x4), some (.int s.2.2.2)] [oX11 ao atext atold aL aC alaw aotherLaw anow atrial ahistory aguess acrewPlan amoatPlan achance io_wind io_spadeLimit, oX0 achance ichance_seed, rI Y (achance 2) 10 cchance_best, oX8 atold s.1, rJ Y (atold 1) 12 s.2.1] []) (hf : fX11_rests_b93 cchance_best itold_size ctold_numbers x1 x2 x3 x4 x5 k43 k53 = some res) : ax X 0 0 93 [some (.ref (ao 0)), some (.int x1), some (.int x2), some (.int x3), some (.int x4), some (.int x5)] [oX11 ao atext atold aL aC alaw aotherLaw anow atrial ahistory aguess acrewPlan amoatPlan achance io_wind io_spadeLimit, oX0 achance ichance_seed, rI Y (achance 2) 10 cchance_best, oX8 atold itold_size, rJ Y (atold 1) 12 ctold_numbers] [] := by
  unfold fX11_rests_b93 at hf
  refine a_iinc C (1 : Int32) dX11_rests_93 (by decide) rfl (by decide) rfl ?_
  exact kX11_rests_b96 C hQ hk43 hk53 hf
def fX11_rests_l53 (cchance_best : Nat → Int32) (x1 : Int32) (x2 : Int32) (x4 : Int32) (k43 : Int32 × (Nat → Int64) × Int32 × Int32 → Option (Int32 × (Nat → Int32) × Int32 × (Nat → Int64))) (k53 : Int32 × (Nat → Int64) × Int32 × Int32 → Option (Int32 × (Nat → Int32) × Int32 × (Nat → Int64))) (itold_size : Int32) (ctold_numbers : Nat → Int64) (x3 : Int32) (x5 : Int32) : Option (Int32 × (Nat → Int32) × Int32 × (Nat → Int64)) :=
  if (9 : Int32) < x5 then (fX11_rests_b102 cchance_best itold_size ctold_numbers x1 x2 x3 x4 k43) else ((fX0_atRest cchance_best x4 x5 x1 x2).bind (fun r2 => if r2 = (0 : Int32) then (fX11_rests_b96 cchance_best itold_size ctold_numbers x1 x2 x3 x4 x5 k43 k53) else (if x3 = (0 : Int32) then ((fX8_tell_ itold_size ctold_numbers (x4.toInt64) (x5.toInt64)).bind (fun r5 => fX11_rests_b93 cchance_best r5.1 r5.2 x1 x2 x3 x4 x5 k43 k53)) else (fX11_rests_b93 cchance_best itold_size ctold_numbers x1 x2 x3 x4 x5 k43 k53))))
def fX11_rests_b53 (cchance_best : Nat → Int32) (itold_size : Int32) (ctold_numbers : Nat → Int64) (x1 : Int32) (x2 : Int32) (x3 : Int32) (x4 : Int32) (x5 : Int32) (k43 : Int32 × (Nat → Int64) × Int32 × Int32 → Option (Int32 × (Nat → Int32) × Int32 × (Nat → Int64))) : Option (Int32 × (Nat → Int32) × Int32 × (Nat → Int64)) :=
  loopN (fun (s : Int32 × (Nat → Int64) × Int32 × Int32) k53 => fX11_rests_l53 cchance_best x1 x2 x4 k43 k53 s.1 s.2.1 s.2.2.1 s.2.2.2) FUEL (itold_size, ctold_numbers, x3, x5)
set_option maxHeartbeats 4000000 in
set_option maxRecDepth 100000 in
theorem kX11_rests_l53 {X : cxT} {l : Launch} {D : va_G} {Y : Nat → ClassId} {ao atext atold aL aC alaw aotherLaw anow atrial ahistory aguess acrewPlan amoatPlan achance : Nat → Nat} {io_wind : Int32} {io_spadeLimit : Int32} {ichance_seed : Int32} {cchance_best : Nat → Int32} {itold_size : Int32} {ctold_numbers : Nat → Int64} {x1 : Int32} {x2 : Int32} {x3 : Int32} {x4 : Int32} {x5 : Int32} {res : Int32 × (Nat → Int32) × Int32 × (Nat → Int64)} (C : axC X l D Y cX11_rests 6 RX11 wsX11_rests rmX11_rests (some .int)) (hQ : axQ X 0 0 (fun r9 w9 => r9 = (some (.int res.1)) ∧ w9 = [oX11 ao atext atold aL aC alaw aotherLaw anow atrial ahistory aguess acrewPlan amoatPlan achance io_wind io_spadeLimit, oX0 achance ichance_seed, rI Y (achance 2) 10 res.2.1, oX8 atold res.2.2.1, rJ Y (atold 1) 12 res.2.2.2])) {k43 : Int32 × (Nat → Int64) × Int32 × Int32 → Option (Int32 × (Nat → Int32) × Int32 × (Nat → Int64))} (hk43 : ∀ s : Int32 × (Nat → Int64) × Int32 × Int32, k43 s = some res → ax X 0 0 43 [some (.ref (ao 0)), some (.int x1), some (.int x2), some (.int s.2.2.1), some (.int s.2.2.2), none] [oX11 ao atext atold aL aC alaw aotherLaw anow atrial ahistory aguess acrewPlan amoatPlan achance io_wind io_spadeLimit, oX0 achance ichance_seed, rI Y (achance 2) 10 cchance_best, oX8 atold s.1, rJ Y (atold 1) 12 s.2.1] []) {k53 : Int32 × (Nat → Int64) × Int32 × Int32 → Option (Int32 × (Nat → Int32) × Int32 × (Nat → Int64))} (hk53 : ∀ s : Int32 × (Nat → Int64) × Int32 × Int32, k53 s = some res → ax X 0 0 53 [some (.ref (ao 0)), some (.int x1), some (.int x2), some (.int s.2.2.1), some (.int x4), some (.int s.2.2.2)] [oX11 ao atext atold aL aC alaw aotherLaw anow atrial ahistory aguess acrewPlan amoatPlan achance io_wind io_spadeLimit, oX0 achance ichance_seed, rI Y (achance 2) 10 cchance_best, oX8 atold s.1, rJ Y (atold 1) 12 s.2.1] []) (hf : fX11_rests_l53 cchance_best x1 x2 x4 k43 k53 itold_size ctold_numbers x3 x5 = some res) : ax X 0 0 53 [some (.ref (ao 0)), some (.int x1), some (.int x2), some (.int x3), some (.int x4), some (.int x5)] [oX11 ao atext atold aL aC alaw aotherLaw anow atrial ahistory aguess acrewPlan amoatPlan achance io_wind io_spadeLimit, oX0 achance ichance_seed, rI Y (achance 2) 10 cchance_best, oX8 atold itold_size, rJ Y (atold 1) 12 ctold_numbers] [] := by
  unfold fX11_rests_l53 at hf
  refine a_iload C dX11_rests_53 rfl ?_
  refine a_bipush C (9 : Int32) dX11_rests_55 (by decide) ?_
  refine a_icmp_gt C 102 dX11_rests_57 (by decide) (fun h1 => ?_) (fun h1 => ?_)
  · have hf := fx_t h1 hf
    refine a_kill [5] ?_
    exact kX11_rests_b102 C hQ hk43 hf
  · have hf := fx_f h1 hf
    refine a_aload_n C dX11_rests_60 rfl ?_
    refine a_get C eX11_rests_106 dX11_rests_61 0 rfl rfl ?_
    refine a_iload C dX11_rests_64 rfl ?_
    refine a_iload C dX11_rests_66 rfl ?_
    refine a_iload_n C dX11_rests_68 rfl ?_
    refine a_iload_n C dX11_rests_69 rfl ?_
    obtain ⟨r2, h2, hf⟩ := fx_bind hf
    refine a_fV C (kX0_atRest l D Y achance ichance_seed cchance_best x4 x5 x1 x2 r2 h2) gX11_rests_X0_atRest rfl dvX0_atRest ⟨⟨rfl, rfl⟩, ⟨Nat.le_of_ble_eq_true rfl, Nat.le_of_ble_eq_true rfl⟩, ⟨Nat.le_of_ble_eq_true rfl, Nat.le_of_ble_eq_true rfl⟩⟩ rfl (Nat.le_of_ble_eq_true rfl) dX11_rests_70 rfl rfl [1, 2] rfl rfl rfl (wn := [oX11 ao atext atold aL aC alaw aotherLaw anow atrial ahistory aguess acrewPlan amoatPlan achance io_wind io_spadeLimit, oX0 achance ichance_seed, rI Y (achance 2) 10 cchance_best, oX8 atold itold_size, rJ Y (atold 1) 12 ctold_numbers]) rfl ?_
    refine a_if_eq C 96 dX11_rests_73 (by decide) (fun h3 => ?_) (fun h3 => ?_)
    · have hf := fx_t h3 hf
      exact kX11_rests_b96 C hQ hk43 hk53 hf
    · have hf := fx_f h3 hf
      refine a_iload_n C dX11_rests_76 rfl ?_
      refine a_if_ne C 93 dX11_rests_77 (by decide) (fun h4 => ?_) (fun h4 => ?_)
      · have hf := fx_f h4 hf
        exact kX11_rests_b93 C hQ hk43 hk53 hf
      · have hf := fx_t h4 hf
        refine a_aload_n C dX11_rests_80 rfl ?_
        refine a_get C eX11_rests_19 dX11_rests_81 0 rfl rfl ?_
        refine a_iload C dX11_rests_84 rfl ?_
        refine a_i2l C dX11_rests_86 ?_
        refine a_iload C dX11_rests_87 rfl ?_
        refine a_i2l C dX11_rests_89 ?_
        obtain ⟨r5, h5, hf⟩ := fx_bind hf
        refine a_fV C (kX8_tell_ l D Y atold itold_size ctold_numbers (x4.toInt64) (x5.toInt64) r5 h5) gX11_rests_X8_tell_ rfl dvX8_tell_ ⟨⟨rfl, rfl⟩, ⟨Nat.le_of_ble_eq_true rfl, Nat.le_of_ble_eq_true rfl⟩, ⟨Nat.le_of_ble_eq_true rfl, Nat.le_of_ble_eq_true rfl⟩⟩ rfl (Nat.le_of_ble_eq_true rfl) dX11_rests_90 rfl rfl [3, 4] rfl rfl rfl (wn := [oX11 ao atext atold aL aC alaw aotherLaw anow atrial ahistory aguess acrewPlan amoatPlan achance io_wind io_spadeLimit, oX0 achance ichance_seed, rI Y (achance 2) 10 cchance_best, oX8 atold r5.1, rJ Y (atold 1) 12 r5.2]) rfl ?_
        exact kX11_rests_b93 C hQ hk43 hk53 hf
set_option maxHeartbeats 4000000 in
set_option maxRecDepth 100000 in
theorem kX11_rests_b53 {X : cxT} {l : Launch} {D : va_G} {Y : Nat → ClassId} {ao atext atold aL aC alaw aotherLaw anow atrial ahistory aguess acrewPlan amoatPlan achance : Nat → Nat} {io_wind : Int32} {io_spadeLimit : Int32} {ichance_seed : Int32} {cchance_best : Nat → Int32} {itold_size : Int32} {ctold_numbers : Nat → Int64} {x1 : Int32} {x2 : Int32} {x3 : Int32} {x4 : Int32} {x5 : Int32} {res : Int32 × (Nat → Int32) × Int32 × (Nat → Int64)} (C : axC X l D Y cX11_rests 6 RX11 wsX11_rests rmX11_rests (some .int)) (hQ : axQ X 0 0 (fun r9 w9 => r9 = (some (.int res.1)) ∧ w9 = [oX11 ao atext atold aL aC alaw aotherLaw anow atrial ahistory aguess acrewPlan amoatPlan achance io_wind io_spadeLimit, oX0 achance ichance_seed, rI Y (achance 2) 10 res.2.1, oX8 atold res.2.2.1, rJ Y (atold 1) 12 res.2.2.2])) {k43 : Int32 × (Nat → Int64) × Int32 × Int32 → Option (Int32 × (Nat → Int32) × Int32 × (Nat → Int64))} (hk43 : ∀ s : Int32 × (Nat → Int64) × Int32 × Int32, k43 s = some res → ax X 0 0 43 [some (.ref (ao 0)), some (.int x1), some (.int x2), some (.int s.2.2.1), some (.int s.2.2.2), none] [oX11 ao atext atold aL aC alaw aotherLaw anow atrial ahistory aguess acrewPlan amoatPlan achance io_wind io_spadeLimit, oX0 achance ichance_seed, rI Y (achance 2) 10 cchance_best, oX8 atold s.1, rJ Y (atold 1) 12 s.2.1] []) (hf : fX11_rests_b53 cchance_best itold_size ctold_numbers x1 x2 x3 x4 x5 k43 = some res) : ax X 0 0 53 [some (.ref (ao 0)), some (.int x1), some (.int x2), some (.int x3), some (.int x4), some (.int x5)] [oX11 ao atext atold aL aC alaw aotherLaw anow atrial ahistory aguess acrewPlan amoatPlan achance io_wind io_spadeLimit, oX0 achance ichance_seed, rI Y (achance 2) 10 cchance_best, oX8 atold itold_size, rJ Y (atold 1) 12 ctold_numbers] [] := by
  unfold fX11_rests_b53 at hf
  exact fx_loop (P := fun s : Int32 × (Nat → Int64) × Int32 × Int32 => ax X 0 0 53 [some (.ref (ao 0)), some (.int x1), some (.int x2), some (.int s.2.2.1), some (.int x4), some (.int s.2.2.2)] [oX11 ao atext atold aL aC alaw aotherLaw anow atrial ahistory aguess acrewPlan amoatPlan achance io_wind io_spadeLimit, oX0 achance ichance_seed, rI Y (achance 2) 10 cchance_best, oX8 atold s.1, rJ Y (atold 1) 12 s.2.1] []) (fun s k53 hk53 h => kX11_rests_l53 C hQ hk43 hk53 h) FUEL (itold_size, ctold_numbers, x3, x5) hf
def fX11_rests_l43 (cchance_best : Nat → Int32) (x1 : Int32) (x2 : Int32) (k43 : Int32 × (Nat → Int64) × Int32 × Int32 → Option (Int32 × (Nat → Int32) × Int32 × (Nat → Int64))) (itold_size : Int32) (ctold_numbers : Nat → Int64) (x3 : Int32) (x4 : Int32) : Option (Int32 × (Nat → Int32) × Int32 × (Nat → Int64)) :=
  if (9 : Int32) < x4 then (fX11_rests_b108 cchance_best itold_size ctold_numbers x3) else (fX11_rests_b53 cchance_best itold_size ctold_numbers x1 x2 x3 x4 (0 : Int32) k43)
def fX11_rests_b43 (cchance_best : Nat → Int32) (itold_size : Int32) (ctold_numbers : Nat → Int64) (x1 : Int32) (x2 : Int32) (x3 : Int32) (x4 : Int32) : Option (Int32 × (Nat → Int32) × Int32 × (Nat → Int64)) :=
  loopN (fun (s : Int32 × (Nat → Int64) × Int32 × Int32) k43 => fX11_rests_l43 cchance_best x1 x2 k43 s.1 s.2.1 s.2.2.1 s.2.2.2) FUEL (itold_size, ctold_numbers, x3, x4)
set_option maxHeartbeats 4000000 in
set_option maxRecDepth 100000 in
theorem kX11_rests_l43 {X : cxT} {l : Launch} {D : va_G} {Y : Nat → ClassId} {ao atext atold aL aC alaw aotherLaw anow atrial ahistory aguess acrewPlan amoatPlan achance : Nat → Nat} {io_wind : Int32} {io_spadeLimit : Int32} {ichance_seed : Int32} {cchance_best : Nat → Int32} {itold_size : Int32} {ctold_numbers : Nat → Int64} {x1 : Int32} {x2 : Int32} {x3 : Int32} {x4 : Int32} {res : Int32 × (Nat → Int32) × Int32 × (Nat → Int64)} (C : axC X l D Y cX11_rests 6 RX11 wsX11_rests rmX11_rests (some .int)) (hQ : axQ X 0 0 (fun r9 w9 => r9 = (some (.int res.1)) ∧ w9 = [oX11 ao atext atold aL aC alaw aotherLaw anow atrial ahistory aguess acrewPlan amoatPlan achance io_wind io_spadeLimit, oX0 achance ichance_seed, rI Y (achance 2) 10 res.2.1, oX8 atold res.2.2.1, rJ Y (atold 1) 12 res.2.2.2])) {k43 : Int32 × (Nat → Int64) × Int32 × Int32 → Option (Int32 × (Nat → Int32) × Int32 × (Nat → Int64))} (hk43 : ∀ s : Int32 × (Nat → Int64) × Int32 × Int32, k43 s = some res → ax X 0 0 43 [some (.ref (ao 0)), some (.int x1), some (.int x2), some (.int s.2.2.1), some (.int s.2.2.2), none] [oX11 ao atext atold aL aC alaw aotherLaw anow atrial ahistory aguess acrewPlan amoatPlan achance io_wind io_spadeLimit, oX0 achance ichance_seed, rI Y (achance 2) 10 cchance_best, oX8 atold s.1, rJ Y (atold 1) 12 s.2.1] []) (hf : fX11_rests_l43 cchance_best x1 x2 k43 itold_size ctold_numbers x3 x4 = some res) : ax X 0 0 43 [some (.ref (ao 0)), some (.int x1), some (.int x2), some (.int x3), some (.int x4), none] [oX11 ao atext atold aL aC alaw aotherLaw anow atrial ahistory aguess acrewPlan amoatPlan achance io_wind io_spadeLimit, oX0 achance ichance_seed, rI Y (achance 2) 10 cchance_best, oX8 atold itold_size, rJ Y (atold 1) 12 ctold_numbers] [] := by
  unfold fX11_rests_l43 at hf
  refine a_iload C dX11_rests_43 rfl ?_
  refine a_bipush C (9 : Int32) dX11_rests_45 (by decide) ?_
  refine a_icmp_gt C 108 dX11_rests_47 (by decide) (fun h6 => ?_) (fun h6 => ?_)
  · have hf := fx_t h6 hf
    refine a_kill [0, 1, 2, 4] ?_
    exact kX11_rests_b108 C hQ hf
  · have hf := fx_f h6 hf
    refine a_iconst C (0 : Int32) dX11_rests_50 (by decide) ?_
    refine a_istore C dX11_rests_51 (by decide) rfl ?_
    exact kX11_rests_b53 C hQ hk43 hf
set_option maxHeartbeats 4000000 in
set_option maxRecDepth 100000 in
theorem kX11_rests_b43 {X : cxT} {l : Launch} {D : va_G} {Y : Nat → ClassId} {ao atext atold aL aC alaw aotherLaw anow atrial ahistory aguess acrewPlan amoatPlan achance : Nat → Nat} {io_wind : Int32} {io_spadeLimit : Int32} {ichance_seed : Int32} {cchance_best : Nat → Int32} {itold_size : Int32} {ctold_numbers : Nat → Int64} {x1 : Int32} {x2 : Int32} {x3 : Int32} {x4 : Int32} {res : Int32 × (Nat → Int32) × Int32 × (Nat → Int64)} (C : axC X l D Y cX11_rests 6 RX11 wsX11_rests rmX11_rests (some .int)) (hQ : axQ X 0 0 (fun r9 w9 => r9 = (some (.int res.1)) ∧ w9 = [oX11 ao atext atold aL aC alaw aotherLaw anow atrial ahistory aguess acrewPlan amoatPlan achance io_wind io_spadeLimit, oX0 achance ichance_seed, rI Y (achance 2) 10 res.2.1, oX8 atold res.2.2.1, rJ Y (atold 1) 12 res.2.2.2])) (hf : fX11_rests_b43 cchance_best itold_size ctold_numbers x1 x2 x3 x4 = some res) : ax X 0 0 43 [some (.ref (ao 0)), some (.int x1), some (.int x2), some (.int x3), some (.int x4), none] [oX11 ao atext atold aL aC alaw aotherLaw anow atrial ahistory aguess acrewPlan amoatPlan achance io_wind io_spadeLimit, oX0 achance ichance_seed, rI Y (achance 2) 10 cchance_best, oX8 atold itold_size, rJ Y (atold 1) 12 ctold_numbers] [] := by
  unfold fX11_rests_b43 at hf
  exact fx_loop (P := fun s : Int32 × (Nat → Int64) × Int32 × Int32 => ax X 0 0 43 [some (.ref (ao 0)), some (.int x1), some (.int x2), some (.int s.2.2.1), some (.int s.2.2.2), none] [oX11 ao atext atold aL aC alaw aotherLaw anow atrial ahistory aguess acrewPlan amoatPlan achance io_wind io_spadeLimit, oX0 achance ichance_seed, rI Y (achance 2) 10 cchance_best, oX8 atold s.1, rJ Y (atold 1) 12 s.2.1] []) (fun s k43 hk43 h => kX11_rests_l43 C hQ hk43 h) FUEL (itold_size, ctold_numbers, x3, x4) hf
def fX11_rests (cchance_best : Nat → Int32) (itold_size : Int32) (ctold_numbers : Nat → Int64) (x1 : Int32) (x2 : Int32) : Option (Int32 × (Nat → Int32) × Int32 × (Nat → Int64)) :=
  (fX11_within x1 (1 : Int32) (99 : Int32)).bind (fun r7 => if r7 = (0 : Int32) then (fX11_rests_b20 cchance_best itold_size ctold_numbers) else ((fX11_within x2 (0 : Int32) (9 : Int32)).bind (fun r9 => if r9 = (0 : Int32) then (fX11_rests_b20 cchance_best itold_size ctold_numbers) else ((fX0_weigh cchance_best x1 x2).bind (fun r11 => (fX8_clear itold_size).bind (fun r12 => fX11_rests_b43 r11 r12 ctold_numbers x1 x2 (0 : Int32) (0 : Int32)))))))
set_option maxHeartbeats 4000000 in
set_option maxRecDepth 100000 in
theorem kX11_rests (l : Launch) (D : va_G) (Y : Nat → ClassId) (ao atext atold aL aC alaw aotherLaw anow atrial ahistory aguess acrewPlan amoatPlan achance : Nat → Nat) (io_wind : Int32) (io_spadeLimit : Int32) (ichance_seed : Int32) (cchance_best : Nat → Int32) (itold_size : Int32) (ctold_numbers : Nat → Int64) (x1 : Int32) (x2 : Int32) (res : Int32 × (Nat → Int32) × Int32 × (Nat → Int64)) (hf : fX11_rests cchance_best itold_size ctold_numbers x1 x2 = some res) : amf l D Y yX11_rests wsX11_rests rmX11_rests [.ref (ao 0), .int x1, .int x2] [oX11 ao atext atold aL aC alaw aotherLaw anow atrial ahistory aguess acrewPlan amoatPlan achance io_wind io_spadeLimit, oX0 achance ichance_seed, rI Y (achance 2) 10 cchance_best, oX8 atold itold_size, rJ Y (atold 1) 12 ctold_numbers] (some (.int res.1)) [oX11 ao atext atold aL aC alaw aotherLaw anow atrial ahistory aguess acrewPlan amoatPlan achance io_wind io_spadeLimit, oX0 achance ichance_seed, rI Y (achance 2) 10 res.2.1, oX8 atold res.2.2.1, rJ Y (atold 1) 12 res.2.2.2] := by
  refine amf.of (cc := cX11_rests) (maxL := 6) (rt := (some .int)) (by decide) rfl RX11 rfl (Nat.le_of_ble_eq_true rfl) [some (.ref (ao 0)), some (.int x1), some (.int x2), none, none, none] rfl ?_
  intro X C hQ
  unfold fX11_rests at hf
  refine a_iload_n C dX11_rests_0 rfl ?_
  refine a_iconst C (1 : Int32) dX11_rests_1 (by decide) ?_
  refine a_bipush C (99 : Int32) dX11_rests_2 (by decide) ?_
  obtain ⟨r7, h7, hf⟩ := fx_bind hf
  refine a_fS C (kX11_within l D Y x1 (1 : Int32) (99 : Int32) r7 h7) gX11_rests_X11_within rfl dvX11_within ⟨⟨rfl, rfl⟩, ⟨Nat.le_of_ble_eq_true rfl, Nat.le_of_ble_eq_true rfl⟩, ⟨Nat.le_of_ble_eq_true rfl, Nat.le_of_ble_eq_true rfl⟩⟩ rfl (Nat.le_of_ble_eq_true rfl) dX11_rests_4 [] rfl rfl rfl (wn := [oX11 ao atext atold aL aC alaw aotherLaw anow atrial ahistory aguess acrewPlan amoatPlan achance io_wind io_spadeLimit, oX0 achance ichance_seed, rI Y (achance 2) 10 cchance_best, oX8 atold itold_size, rJ Y (atold 1) 12 ctold_numbers]) rfl ?_
  refine a_if_eq C 20 dX11_rests_7 (by decide) (fun h8 => ?_) (fun h8 => ?_)
  · have hf := fx_t h8 hf
    refine a_kill [0, 1, 2] ?_
    exact kX11_rests_b20 C hQ hf
  · have hf := fx_f h8 hf
    refine a_iload_n C dX11_rests_10 rfl ?_
    refine a_iconst C (0 : Int32) dX11_rests_11 (by decide) ?_
    refine a_bipush C (9 : Int32) dX11_rests_12 (by decide) ?_
    obtain ⟨r9, h9, hf⟩ := fx_bind hf
    refine a_fS C (kX11_within l D Y x2 (0 : Int32) (9 : Int32) r9 h9) gX11_rests_X11_within rfl dvX11_within ⟨⟨rfl, rfl⟩, ⟨Nat.le_of_ble_eq_true rfl, Nat.le_of_ble_eq_true rfl⟩, ⟨Nat.le_of_ble_eq_true rfl, Nat.le_of_ble_eq_true rfl⟩⟩ rfl (Nat.le_of_ble_eq_true rfl) dX11_rests_14 [] rfl rfl rfl (wn := [oX11 ao atext atold aL aC alaw aotherLaw anow atrial ahistory aguess acrewPlan amoatPlan achance io_wind io_spadeLimit, oX0 achance ichance_seed, rI Y (achance 2) 10 cchance_best, oX8 atold itold_size, rJ Y (atold 1) 12 ctold_numbers]) rfl ?_
    refine a_if_ne C 22 dX11_rests_17 (by decide) (fun h10 => ?_) (fun h10 => ?_)
    · have hf := fx_f h10 hf
      refine a_aload_n C dX11_rests_22 rfl ?_
      refine a_get C eX11_rests_106 dX11_rests_23 0 rfl rfl ?_
      refine a_iload_n C dX11_rests_26 rfl ?_
      refine a_iload_n C dX11_rests_27 rfl ?_
      obtain ⟨r11, h11, hf⟩ := fx_bind hf
      refine a_fV C (kX0_weigh l D Y achance ichance_seed cchance_best x1 x2 r11 h11) gX11_rests_X0_weigh rfl dvX0_weigh ⟨⟨rfl, rfl⟩, ⟨Nat.le_of_ble_eq_true rfl, Nat.le_of_ble_eq_true rfl⟩, ⟨Nat.le_of_ble_eq_true rfl, Nat.le_of_ble_eq_true rfl⟩⟩ rfl (Nat.le_of_ble_eq_true rfl) dX11_rests_28 rfl rfl [1, 2] rfl rfl rfl (wn := [oX11 ao atext atold aL aC alaw aotherLaw anow atrial ahistory aguess acrewPlan amoatPlan achance io_wind io_spadeLimit, oX0 achance ichance_seed, rI Y (achance 2) 10 r11, oX8 atold itold_size, rJ Y (atold 1) 12 ctold_numbers]) rfl ?_
      refine a_aload_n C dX11_rests_31 rfl ?_
      refine a_get C eX11_rests_19 dX11_rests_32 0 rfl rfl ?_
      obtain ⟨r12, h12, hf⟩ := fx_bind hf
      refine a_fV C (kX8_clear l D Y atold itold_size r12 h12) gX11_rests_X8_clear rfl dvX8_clear ⟨⟨rfl, rfl⟩, ⟨Nat.le_of_ble_eq_true rfl, Nat.le_of_ble_eq_true rfl⟩, ⟨Nat.le_of_ble_eq_true rfl, Nat.le_of_ble_eq_true rfl⟩⟩ rfl (Nat.le_of_ble_eq_true rfl) dX11_rests_35 rfl rfl [3] rfl rfl rfl (wn := [oX11 ao atext atold aL aC alaw aotherLaw anow atrial ahistory aguess acrewPlan amoatPlan achance io_wind io_spadeLimit, oX0 achance ichance_seed, rI Y (achance 2) 10 r11, oX8 atold r12, rJ Y (atold 1) 12 ctold_numbers]) rfl ?_
      refine a_iconst C (0 : Int32) dX11_rests_38 (by decide) ?_
      refine a_istore_n C dX11_rests_39 (by decide) rfl ?_
      refine a_iconst C (0 : Int32) dX11_rests_40 (by decide) ?_
      refine a_istore C dX11_rests_41 (by decide) rfl ?_
      exact kX11_rests_b43 C hQ hf
    · have hf := fx_t h10 hf
      refine a_kill [0, 1, 2] ?_
      exact kX11_rests_b20 C hQ hf
-- X11_count
abbrev rmX11_count : Room := { frames := 2, cells := 0, slots := 0, locals := 43 }
theorem dvX11_count : yX11_count.cls = RX11 ∧ yX11_count.cls ≠ "java/lang/invoke/MethodHandle" ∧ yX11_count.cls ≠ "java/lang/invoke/VarHandle" ∧ (parseMethodDescriptor yX11_count.desc).map (fun d => d.parameters.length) = some 1 := by decide +kernel
theorem eX11_count_inX11 : ∀ w ∈ wsX110, w ∈ wsX11_count := by decide +kernel
theorem eX11_count_26 : aF wsX11_count RX11 26 11 2 := ⟨RX11, TX11, 17, rfl, eX11_count_inX11, by decide, by decide +kernel⟩
theorem eX11_count_inX5 : ∀ w ∈ wsX50, w ∈ wsX11_count := by decide +kernel
theorem eX11_count_131 : aF wsX11_count RX11 131 5 0 := ⟨RX5, TX5, 5, rfl, eX11_count_inX5, by decide, by decide +kernel⟩
theorem eX11_count_33 : aF wsX11_count RX11 33 11 3 := ⟨RX11, TX11, 17, rfl, eX11_count_inX11, by decide, by decide +kernel⟩
theorem eX11_count_inX2 : ∀ w ∈ wsX20, w ∈ wsX11_count := by decide +kernel
theorem eX11_count_134 : aF wsX11_count RX11 134 2 0 := ⟨RX2, TX2, 5, rfl, eX11_count_inX2, by decide, by decide +kernel⟩
theorem eX11_count_56 : aF wsX11_count RX11 56 11 8 := ⟨RX11, TX11, 17, rfl, eX11_count_inX11, by decide, by decide +kernel⟩
theorem eX11_count_inX9 : ∀ w ∈ wsX90, w ∈ wsX11_count := by decide +kernel
theorem eX11_count_380 : aF wsX11_count RX11 380 9 8 := ⟨RX9, TX9, 9, rfl, eX11_count_inX9, by decide, by decide +kernel⟩
theorem eX11_count_207 : aF wsX11_count RX11 207 11 6 := ⟨RX11, TX11, 17, rfl, eX11_count_inX11, by decide, by decide +kernel⟩
theorem eX11_count_47 : aF wsX11_count RX11 47 11 7 := ⟨RX11, TX11, 17, rfl, eX11_count_inX11, by decide, by decide +kernel⟩
theorem eX11_count_192 : aF wsX11_count RX11 192 9 7 := ⟨RX9, TX9, 9, rfl, eX11_count_inX9, by decide, by decide +kernel⟩
theorem eX11_count_159 : aF wsX11_count RX11 159 9 6 := ⟨RX9, TX9, 9, rfl, eX11_count_inX9, by decide, by decide +kernel⟩
theorem eX11_count_83 : aF wsX11_count RX11 83 11 13 := ⟨RX11, TX11, 17, rfl, eX11_count_inX11, by decide, by decide +kernel⟩
theorem eX11_count_inX3 : ∀ w ∈ wsX30, w ∈ wsX11_count := by decide +kernel
theorem eX11_count_339 : aF wsX11_count RX11 339 3 1 := ⟨RX3, TX3, 7, rfl, eX11_count_inX3, by decide, by decide +kernel⟩
theorem eX11_count_66 : aF wsX11_count RX11 66 11 10 := ⟨RX11, TX11, 17, rfl, eX11_count_inX11, by decide, by decide +kernel⟩
theorem eX11_count_inX4 : ∀ w ∈ wsX40, w ∈ wsX11_count := by decide +kernel
theorem eX11_count_383 : aF wsX11_count RX11 383 4 2 := ⟨RX4, TX4, 3, rfl, eX11_count_inX4, by decide, by decide +kernel⟩
theorem eX11_count_19 : aF wsX11_count RX11 19 11 1 := ⟨RX11, TX11, 17, rfl, eX11_count_inX11, by decide, by decide +kernel⟩
theorem eX11_count_inX8 : ∀ w ∈ wsX80, w ∈ wsX11_count := by decide +kernel
theorem eX11_count_384 : aF wsX11_count RX11 384 8 1 := ⟨RX8, TX8, 2, rfl, eX11_count_inX8, by decide, by decide +kernel⟩
theorem eX11_count_10 : aF wsX11_count RX11 10 11 0 := ⟨RX11, TX11, 17, rfl, eX11_count_inX11, by decide, by decide +kernel⟩
theorem eX11_count_inX10 : ∀ w ∈ wsX100, w ∈ wsX11_count := by decide +kernel
theorem eX11_count_114 : aF wsX11_count RX11 114 10 1 := ⟨RX10, TX10, 2, rfl, eX11_count_inX10, by decide, by decide +kernel⟩
def fX11_count (io_wind : Int32) (io_spadeLimit : Int32) (iC_size : Int32) (iL_cells : Int32) (iguess_cells : Int32) (ihistory_size : Int32) (inow_moats : Int32) (inow_spades : Int32) (inow_tides : Int32) (cnow_wall : Nat → Int32) (cnow_depth : Nat → Int32) (cnow_place : Nat → Int32) (itext_length : Int32) (itold_size : Int32) (x1 : Int32) : Option (Int32) :=
  if x1 = (0 : Int32) then (some iL_cells) else if x1 = (1 : Int32) then (some iC_size) else if x1 = (2 : Int32) then (some inow_tides) else if x1 = (3 : Int32) then (some io_wind) else if x1 = (4 : Int32) then (some io_spadeLimit) else if x1 = (5 : Int32) then (some inow_spades) else if x1 = (6 : Int32) then (some inow_moats) else if x1 = (7 : Int32) then ((fX9_wet cnow_depth iL_cells).bind (fun r9 => some r9)) else if x1 = (8 : Int32) then ((fX9_atHome cnow_place iC_size).bind (fun r11 => some r11)) else if x1 = (9 : Int32) then ((fX9_sand cnow_wall iL_cells).bind (fun r13 => some r13)) else if x1 = (10 : Int32) then (some iguess_cells) else if x1 = (11 : Int32) then (some ihistory_size) else if x1 = (12 : Int32) then (some itold_size) else if x1 = (13 : Int32) then (some itext_length) else (some (-100 : Int32))
set_option maxHeartbeats 4000000 in
set_option maxRecDepth 100000 in
theorem kX11_count (l : Launch) (D : va_G) (Y : Nat → ClassId) (ao atext atold aL aC alaw aotherLaw anow atrial ahistory aguess acrewPlan amoatPlan achance : Nat → Nat) (io_wind : Int32) (io_spadeLimit : Int32) (iC_size : Int32) (iL_cells : Int32) (iguess_cells : Int32) (ihistory_next : Int32) (ihistory_size : Int32) (inow_moats : Int32) (inow_spades : Int32) (inow_tides : Int32) (cnow_wall : Nat → Int32) (cnow_depth : Nat → Int32) (cnow_place : Nat → Int32) (itext_length : Int32) (itold_size : Int32) (x1 : Int32) (res : Int32) (hf : fX11_count io_wind io_spadeLimit iC_size iL_cells iguess_cells ihistory_size inow_moats inow_spades inow_tides cnow_wall cnow_depth cnow_place itext_length itold_size x1 = some res) : amf l D Y yX11_count wsX11_count rmX11_count [.ref (ao 0), .int x1] [oX11 ao atext atold aL aC alaw aotherLaw anow atrial ahistory aguess acrewPlan amoatPlan achance io_wind io_spadeLimit, oX2 aC iC_size, oX5 aL iL_cells, oX3 aguess aC iguess_cells, oX4 ahistory ihistory_next ihistory_size, oX9 anow aL aC inow_moats inow_spades inow_tides, rI Y (anow 1) 12 cnow_wall, rI Y (anow 2) 12 cnow_depth, rI Y (anow 4) 8 cnow_place, oX10 atext itext_length, oX8 atold itold_size] (some (.int res)) [oX11 ao atext atold aL aC alaw aotherLaw anow atrial ahistory aguess acrewPlan amoatPlan achance io_wind io_spadeLimit, oX2 aC iC_size, oX5 aL iL_cells, oX3 aguess aC iguess_cells, oX4 ahistory ihistory_next ihistory_size, oX9 anow aL aC inow_moats inow_spades inow_tides, rI Y (anow 1) 12 cnow_wall, rI Y (anow 2) 12 cnow_depth, rI Y (anow 4) 8 cnow_place, oX10 atext itext_length, oX8 atold itold_size] := by
  refine amf.of (cc := cX11_count) (maxL := 2) (rt := (some .int)) (by decide) rfl RX11 rfl (Nat.le_of_ble_eq_true rfl) [some (.ref (ao 0)), some (.int x1)] rfl ?_
  intro X C hQ
  unfold fX11_count at hf
  refine a_iload_n C dX11_count_0 rfl ?_
  by_cases h1 : x1 = (0 : Int32)
  · have hf := fx_t h1 hf
    refine a_tableIn C 72 dX11_count_1 (by rw [h1]; decide) (by rw [h1]; decide) (by rw [h1]; rfl) (by decide) ?_
    refine a_aload_n C dX11_count_72 rfl ?_
    refine a_get C eX11_count_26 dX11_count_73 0 rfl rfl ?_
    refine a_get C eX11_count_131 dX11_count_76 2 rfl rfl ?_
    obtain rfl := fx_some hf
    exact a_iret C hQ dX11_count_79 ⟨rfl, rfl⟩
  have hf := fx_f h1 hf
  by_cases h2 : x1 = (1 : Int32)
  · have hf := fx_t h2 hf
    refine a_tableIn C 80 dX11_count_1 (by rw [h2]; decide) (by rw [h2]; decide) (by rw [h2]; rfl) (by decide) ?_
    refine a_aload_n C dX11_count_80 rfl ?_
    refine a_get C eX11_count_33 dX11_count_81 0 rfl rfl ?_
    refine a_get C eX11_count_134 dX11_count_84 1 rfl rfl ?_
    obtain rfl := fx_some hf
    exact a_iret C hQ dX11_count_87 ⟨rfl, rfl⟩
  have hf := fx_f h2 hf
  by_cases h3 : x1 = (2 : Int32)
  · have hf := fx_t h3 hf
    refine a_tableIn C 88 dX11_count_1 (by rw [h3]; decide) (by rw [h3]; decide) (by rw [h3]; rfl) (by decide) ?_
    refine a_aload_n C dX11_count_88 rfl ?_
    refine a_get C eX11_count_56 dX11_count_89 0 rfl rfl ?_
    refine a_get C eX11_count_380 dX11_count_92 5 rfl rfl ?_
    obtain rfl := fx_some hf
    exact a_iret C hQ dX11_count_95 ⟨rfl, rfl⟩
  have hf := fx_f h3 hf
  by_cases h4 : x1 = (3 : Int32)
  · have hf := fx_t h4 hf
    refine a_tableIn C 96 dX11_count_1 (by rw [h4]; decide) (by rw [h4]; decide) (by rw [h4]; rfl) (by decide) ?_
    refine a_aload_n C dX11_count_96 rfl ?_
    refine a_get C eX11_count_207 dX11_count_97 0 rfl rfl ?_
    obtain rfl := fx_some hf
    exact a_iret C hQ dX11_count_100 ⟨rfl, rfl⟩
  have hf := fx_f h4 hf
  by_cases h5 : x1 = (4 : Int32)
  · have hf := fx_t h5 hf
    refine a_tableIn C 101 dX11_count_1 (by rw [h5]; decide) (by rw [h5]; decide) (by rw [h5]; rfl) (by decide) ?_
    refine a_aload_n C dX11_count_101 rfl ?_
    refine a_get C eX11_count_47 dX11_count_102 0 rfl rfl ?_
    obtain rfl := fx_some hf
    exact a_iret C hQ dX11_count_105 ⟨rfl, rfl⟩
  have hf := fx_f h5 hf
  by_cases h6 : x1 = (5 : Int32)
  · have hf := fx_t h6 hf
    refine a_tableIn C 106 dX11_count_1 (by rw [h6]; decide) (by rw [h6]; decide) (by rw [h6]; rfl) (by decide) ?_
    refine a_aload_n C dX11_count_106 rfl ?_
    refine a_get C eX11_count_56 dX11_count_107 0 rfl rfl ?_
    refine a_get C eX11_count_192 dX11_count_110 5 rfl rfl ?_
    obtain rfl := fx_some hf
    exact a_iret C hQ dX11_count_113 ⟨rfl, rfl⟩
  have hf := fx_f h6 hf
  by_cases h7 : x1 = (6 : Int32)
  · have hf := fx_t h7 hf
    refine a_tableIn C 114 dX11_count_1 (by rw [h7]; decide) (by rw [h7]; decide) (by rw [h7]; rfl) (by decide) ?_
    refine a_aload_n C dX11_count_114 rfl ?_
    refine a_get C eX11_count_56 dX11_count_115 0 rfl rfl ?_
    refine a_get C eX11_count_159 dX11_count_118 5 rfl rfl ?_
    obtain rfl := fx_some hf
    exact a_iret C hQ dX11_count_121 ⟨rfl, rfl⟩
  have hf := fx_f h7 hf
  by_cases h8 : x1 = (7 : Int32)
  · have hf := fx_t h8 hf
    refine a_tableIn C 122 dX11_count_1 (by rw [h8]; decide) (by rw [h8]; decide) (by rw [h8]; rfl) (by decide) ?_
    refine a_aload_n C dX11_count_122 rfl ?_
    refine a_get C eX11_count_56 dX11_count_123 0 rfl rfl ?_
    obtain ⟨r9, h9, hf⟩ := fx_bind hf
    refine a_fV C (kX9_wet l D Y anow aL aC inow_moats inow_spades inow_tides cnow_depth iL_cells r9 h9) gX11_count_X9_wet rfl dvX9_wet ⟨⟨rfl, rfl⟩, ⟨Nat.le_of_ble_eq_true rfl, Nat.le_of_ble_eq_true rfl⟩, ⟨Nat.le_of_ble_eq_true rfl, Nat.le_of_ble_eq_true rfl⟩⟩ rfl (Nat.le_of_ble_eq_true rfl) dX11_count_126 rfl rfl [5, 7, 2] rfl rfl rfl (wn := [oX11 ao atext atold aL aC alaw aotherLaw anow atrial ahistory aguess acrewPlan amoatPlan achance io_wind io_spadeLimit, oX2 aC iC_size, oX5 aL iL_cells, oX3 aguess aC iguess_cells, oX4 ahistory ihistory_next ihistory_size, oX9 anow aL aC inow_moats inow_spades inow_tides, rI Y (anow 1) 12 cnow_wall, rI Y (anow 2) 12 cnow_depth, rI Y (anow 4) 8 cnow_place, oX10 atext itext_length, oX8 atold itold_size]) rfl ?_
    obtain rfl := fx_some hf
    exact a_iret C hQ dX11_count_129 ⟨rfl, rfl⟩
  have hf := fx_f h8 hf
  by_cases h10 : x1 = (8 : Int32)
  · have hf := fx_t h10 hf
    refine a_tableIn C 130 dX11_count_1 (by rw [h10]; decide) (by rw [h10]; decide) (by rw [h10]; rfl) (by decide) ?_
    refine a_aload_n C dX11_count_130 rfl ?_
    refine a_get C eX11_count_56 dX11_count_131 0 rfl rfl ?_
    obtain ⟨r11, h11, hf⟩ := fx_bind hf
    refine a_fV C (kX9_atHome l D Y anow aL aC inow_moats inow_spades inow_tides cnow_place iC_size r11 h11) gX11_count_X9_atHome rfl dvX9_atHome ⟨⟨rfl, rfl⟩, ⟨Nat.le_of_ble_eq_true rfl, Nat.le_of_ble_eq_true rfl⟩, ⟨Nat.le_of_ble_eq_true rfl, Nat.le_of_ble_eq_true rfl⟩⟩ rfl (Nat.le_of_ble_eq_true rfl) dX11_count_134 rfl rfl [5, 8, 1] rfl rfl rfl (wn := [oX11 ao atext atold aL aC alaw aotherLaw anow atrial ahistory aguess acrewPlan amoatPlan achance io_wind io_spadeLimit, oX2 aC iC_size, oX5 aL iL_cells, oX3 aguess aC iguess_cells, oX4 ahistory ihistory_next ihistory_size, oX9 anow aL aC inow_moats inow_spades inow_tides, rI Y (anow 1) 12 cnow_wall, rI Y (anow 2) 12 cnow_depth, rI Y (anow 4) 8 cnow_place, oX10 atext itext_length, oX8 atold itold_size]) rfl ?_
    obtain rfl := fx_some hf
    exact a_iret C hQ dX11_count_137 ⟨rfl, rfl⟩
  have hf := fx_f h10 hf
  by_cases h12 : x1 = (9 : Int32)
  · have hf := fx_t h12 hf
    refine a_tableIn C 138 dX11_count_1 (by rw [h12]; decide) (by rw [h12]; decide) (by rw [h12]; rfl) (by decide) ?_
    refine a_aload_n C dX11_count_138 rfl ?_
    refine a_get C eX11_count_56 dX11_count_139 0 rfl rfl ?_
    obtain ⟨r13, h13, hf⟩ := fx_bind hf
    refine a_fV C (kX9_sand l D Y anow aL aC inow_moats inow_spades inow_tides cnow_wall iL_cells r13 h13) gX11_count_X9_sand rfl dvX9_sand ⟨⟨rfl, rfl⟩, ⟨Nat.le_of_ble_eq_true rfl, Nat.le_of_ble_eq_true rfl⟩, ⟨Nat.le_of_ble_eq_true rfl, Nat.le_of_ble_eq_true rfl⟩⟩ rfl (Nat.le_of_ble_eq_true rfl) dX11_count_142 rfl rfl [5, 6, 2] rfl rfl rfl (wn := [oX11 ao atext atold aL aC alaw aotherLaw anow atrial ahistory aguess acrewPlan amoatPlan achance io_wind io_spadeLimit, oX2 aC iC_size, oX5 aL iL_cells, oX3 aguess aC iguess_cells, oX4 ahistory ihistory_next ihistory_size, oX9 anow aL aC inow_moats inow_spades inow_tides, rI Y (anow 1) 12 cnow_wall, rI Y (anow 2) 12 cnow_depth, rI Y (anow 4) 8 cnow_place, oX10 atext itext_length, oX8 atold itold_size]) rfl ?_
    obtain rfl := fx_some hf
    exact a_iret C hQ dX11_count_145 ⟨rfl, rfl⟩
  have hf := fx_f h12 hf
  by_cases h14 : x1 = (10 : Int32)
  · have hf := fx_t h14 hf
    refine a_tableIn C 146 dX11_count_1 (by rw [h14]; decide) (by rw [h14]; decide) (by rw [h14]; rfl) (by decide) ?_
    refine a_aload_n C dX11_count_146 rfl ?_
    refine a_get C eX11_count_83 dX11_count_147 0 rfl rfl ?_
    refine a_get C eX11_count_339 dX11_count_150 3 rfl rfl ?_
    obtain rfl := fx_some hf
    exact a_iret C hQ dX11_count_153 ⟨rfl, rfl⟩
  have hf := fx_f h14 hf
  by_cases h15 : x1 = (11 : Int32)
  · have hf := fx_t h15 hf
    refine a_tableIn C 154 dX11_count_1 (by rw [h15]; decide) (by rw [h15]; decide) (by rw [h15]; rfl) (by decide) ?_
    refine a_aload_n C dX11_count_154 rfl ?_
    refine a_get C eX11_count_66 dX11_count_155 0 rfl rfl ?_
    refine a_get C eX11_count_383 dX11_count_158 4 rfl rfl ?_
    obtain rfl := fx_some hf
    exact a_iret C hQ dX11_count_161 ⟨rfl, rfl⟩
  have hf := fx_f h15 hf
  by_cases h16 : x1 = (12 : Int32)
  · have hf := fx_t h16 hf
    refine a_tableIn C 162 dX11_count_1 (by rw [h16]; decide) (by rw [h16]; decide) (by rw [h16]; rfl) (by decide) ?_
    refine a_aload_n C dX11_count_162 rfl ?_
    refine a_get C eX11_count_19 dX11_count_163 0 rfl rfl ?_
    refine a_get C eX11_count_384 dX11_count_166 10 rfl rfl ?_
    obtain rfl := fx_some hf
    exact a_iret C hQ dX11_count_169 ⟨rfl, rfl⟩
  have hf := fx_f h16 hf
  by_cases h17 : x1 = (13 : Int32)
  · have hf := fx_t h17 hf
    refine a_tableIn C 170 dX11_count_1 (by rw [h17]; decide) (by rw [h17]; decide) (by rw [h17]; rfl) (by decide) ?_
    refine a_aload_n C dX11_count_170 rfl ?_
    refine a_get C eX11_count_10 dX11_count_171 0 rfl rfl ?_
    refine a_get C eX11_count_114 dX11_count_174 9 rfl rfl ?_
    obtain rfl := fx_some hf
    exact a_iret C hQ dX11_count_177 ⟨rfl, rfl⟩
  have hf := fx_f h17 hf
  refine a_tableOut C 178 dX11_count_1 (by have z0 := lv_neT (a := 0) h1 (by decide); have z1 := lv_neT (a := 1) h2 (by decide); have z2 := lv_neT (a := 2) h3 (by decide); have z3 := lv_neT (a := 3) h4 (by decide); have z4 := lv_neT (a := 4) h5 (by decide); have z5 := lv_neT (a := 5) h6 (by decide); have z6 := lv_neT (a := 6) h7 (by decide); have z7 := lv_neT (a := 7) h8 (by decide); have z8 := lv_neT (a := 8) h10 (by decide); have z9 := lv_neT (a := 9) h12 (by decide); have z10 := lv_neT (a := 10) h14 (by decide); have z11 := lv_neT (a := 11) h15 (by decide); have z12 := lv_neT (a := 12) h16 (by decide); have z13 := lv_neT (a := 13) h17 (by decide); omega) (by decide) ?_
  refine a_bipush C (-100 : Int32) dX11_count_178 (by decide) ?_
  obtain rfl := fx_some hf
  exact a_iret C hQ dX11_count_180 ⟨rfl, rfl⟩
-- X11_buildAndTell
abbrev rmX11_buildAndTell : Room := { frames := 5, cells := 0, slots := 0, locals := 110 }
theorem dvX11_buildAndTell : yX11_buildAndTell.cls = RX11 ∧ yX11_buildAndTell.cls ≠ "java/lang/invoke/MethodHandle" ∧ yX11_buildAndTell.cls ≠ "java/lang/invoke/VarHandle" ∧ (parseMethodDescriptor yX11_buildAndTell.desc).map (fun d => d.parameters.length) = some 1 := by decide +kernel
theorem eX11_buildAndTell_inX11 : ∀ w ∈ wsX110, w ∈ wsX11_buildAndTell := by decide +kernel
theorem eX11_buildAndTell_56 : aF wsX11_buildAndTell RX11 56 11 8 := ⟨RX11, TX11, 17, rfl, eX11_buildAndTell_inX11, by decide, by decide +kernel⟩
theorem eX11_buildAndTell_19 : aF wsX11_buildAndTell RX11 19 11 1 := ⟨RX11, TX11, 17, rfl, eX11_buildAndTell_inX11, by decide, by decide +kernel⟩
def fX11_buildAndTell (iC_size : Int32) (cC_age : Nat → Int32) (cC_skill : Nat → Int32) (cC_pals : Nat → Int32) (iL_cells : Int32) (inow_spades : Int32) (cnow_wall : Nat → Int32) (cnow_mood : Nat → Int32) (cnow_place : Nat → Int32) (itold_size : Int32) (ctold_numbers : Nat → Int64) (x1 : Int32) : Option (Int32 × (Nat → Int32) × (Nat → Int32) × (Nat → Int32) × Int32 × (Nat → Int64)) :=
  (fX11_within x1 (0 : Int32) (30 : Int32)).bind (fun r1 => if r1 = (0 : Int32) then (some ((-1 : Int32), cnow_wall, cnow_mood, cnow_place, itold_size, ctold_numbers)) else ((fX9_sand cnow_wall iL_cells).bind (fun r3 => (fX9_atHome cnow_place iC_size).bind (fun r4 => (fX9_buildOn inow_spades cnow_wall cnow_mood cnow_place iC_size cC_age cC_skill cC_pals iL_cells x1).bind (fun r5 => (fX9_atHome r5.2.2 iC_size).bind (fun r6 => (fX8_tell itold_size ctold_numbers ((r6 &&& (r4 ^^^ (-1 : Int32))).toInt64)).bind (fun r7 => (fX9_sand r5.1 iL_cells).bind (fun r8 => some ((r8 - r3), r5.1, r5.2.1, r5.2.2, r7.1, r7.2)))))))))
set_option maxHeartbeats 4000000 in
set_option maxRecDepth 100000 in
theorem kX11_buildAndTell (l : Launch) (D : va_G) (Y : Nat → ClassId) (ao atext atold aL aC alaw aotherLaw anow atrial ahistory aguess acrewPlan amoatPlan achance : Nat → Nat) (io_wind : Int32) (io_spadeLimit : Int32) (iC_size : Int32) (cC_age : Nat → Int32) (cC_skill : Nat → Int32) (cC_pals : Nat → Int32) (iL_cells : Int32) (inow_moats : Int32) (inow_spades : Int32) (inow_tides : Int32) (cnow_wall : Nat → Int32) (cnow_mood : Nat → Int32) (cnow_place : Nat → Int32) (itold_size : Int32) (ctold_numbers : Nat → Int64) (x1 : Int32) (res : Int32 × (Nat → Int32) × (Nat → Int32) × (Nat → Int32) × Int32 × (Nat → Int64)) (hf : fX11_buildAndTell iC_size cC_age cC_skill cC_pals iL_cells inow_spades cnow_wall cnow_mood cnow_place itold_size ctold_numbers x1 = some res) : amf l D Y yX11_buildAndTell wsX11_buildAndTell rmX11_buildAndTell [.ref (ao 0), .int x1] [oX11 ao atext atold aL aC alaw aotherLaw anow atrial ahistory aguess acrewPlan amoatPlan achance io_wind io_spadeLimit, oX2 aC iC_size, rI Y (aC 1) 8 cC_age, rI Y (aC 2) 8 cC_skill, rI Y (aC 4) 8 cC_pals, oX5 aL iL_cells, oX9 anow aL aC inow_moats inow_spades inow_tides, rI Y (anow 1) 12 cnow_wall, rI Y (anow 3) 8 cnow_mood, rI Y (anow 4) 8 cnow_place, oX8 atold itold_size, rJ Y (atold 1) 12 ctold_numbers] (some (.int res.1)) [oX11 ao atext atold aL aC alaw aotherLaw anow atrial ahistory aguess acrewPlan amoatPlan achance io_wind io_spadeLimit, oX2 aC iC_size, rI Y (aC 1) 8 cC_age, rI Y (aC 2) 8 cC_skill, rI Y (aC 4) 8 cC_pals, oX5 aL iL_cells, oX9 anow aL aC inow_moats inow_spades inow_tides, rI Y (anow 1) 12 res.2.1, rI Y (anow 3) 8 res.2.2.1, rI Y (anow 4) 8 res.2.2.2.1, oX8 atold res.2.2.2.2.1, rJ Y (atold 1) 12 res.2.2.2.2.2] := by
  refine amf.of (cc := cX11_buildAndTell) (maxL := 4) (rt := (some .int)) (by decide) rfl RX11 rfl (Nat.le_of_ble_eq_true rfl) [some (.ref (ao 0)), some (.int x1), none, none] rfl ?_
  intro X C hQ
  unfold fX11_buildAndTell at hf
  refine a_iload_n C dX11_buildAndTell_0 rfl ?_
  refine a_iconst C (0 : Int32) dX11_buildAndTell_1 (by decide) ?_
  refine a_bipush C (30 : Int32) dX11_buildAndTell_2 (by decide) ?_
  obtain ⟨r1, h1, hf⟩ := fx_bind hf
  refine a_fS C (kX11_within l D Y x1 (0 : Int32) (30 : Int32) r1 h1) gX11_buildAndTell_X11_within rfl dvX11_within ⟨⟨rfl, rfl⟩, ⟨Nat.le_of_ble_eq_true rfl, Nat.le_of_ble_eq_true rfl⟩, ⟨Nat.le_of_ble_eq_true rfl, Nat.le_of_ble_eq_true rfl⟩⟩ rfl (Nat.le_of_ble_eq_true rfl) dX11_buildAndTell_4 [] rfl rfl rfl (wn := [oX11 ao atext atold aL aC alaw aotherLaw anow atrial ahistory aguess acrewPlan amoatPlan achance io_wind io_spadeLimit, oX2 aC iC_size, rI Y (aC 1) 8 cC_age, rI Y (aC 2) 8 cC_skill, rI Y (aC 4) 8 cC_pals, oX5 aL iL_cells, oX9 anow aL aC inow_moats inow_spades inow_tides, rI Y (anow 1) 12 cnow_wall, rI Y (anow 3) 8 cnow_mood, rI Y (anow 4) 8 cnow_place, oX8 atold itold_size, rJ Y (atold 1) 12 ctold_numbers]) rfl ?_
  refine a_if_ne C 12 dX11_buildAndTell_7 (by decide) (fun h2 => ?_) (fun h2 => ?_)
  · have hf := fx_f h2 hf
    refine a_aload_n C dX11_buildAndTell_12 rfl ?_
    refine a_get C eX11_buildAndTell_56 dX11_buildAndTell_13 0 rfl rfl ?_
    obtain ⟨r3, h3, hf⟩ := fx_bind hf
    refine a_fV C (kX9_sand l D Y anow aL aC inow_moats inow_spades inow_tides cnow_wall iL_cells r3 h3) gX11_buildAndTell_X9_sand rfl dvX9_sand ⟨⟨rfl, rfl⟩, ⟨Nat.le_of_ble_eq_true rfl, Nat.le_of_ble_eq_true rfl⟩, ⟨Nat.le_of_ble_eq_true rfl, Nat.le_of_ble_eq_true rfl⟩⟩ rfl (Nat.le_of_ble_eq_true rfl) dX11_buildAndTell_16 rfl rfl [6, 7, 5] rfl rfl rfl (wn := [oX11 ao atext atold aL aC alaw aotherLaw anow atrial ahistory aguess acrewPlan amoatPlan achance io_wind io_spadeLimit, oX2 aC iC_size, rI Y (aC 1) 8 cC_age, rI Y (aC 2) 8 cC_skill, rI Y (aC 4) 8 cC_pals, oX5 aL iL_cells, oX9 anow aL aC inow_moats inow_spades inow_tides, rI Y (anow 1) 12 cnow_wall, rI Y (anow 3) 8 cnow_mood, rI Y (anow 4) 8 cnow_place, oX8 atold itold_size, rJ Y (atold 1) 12 ctold_numbers]) rfl ?_
    refine a_istore_n C dX11_buildAndTell_19 (by decide) rfl ?_
    refine a_aload_n C dX11_buildAndTell_20 rfl ?_
    refine a_get C eX11_buildAndTell_56 dX11_buildAndTell_21 0 rfl rfl ?_
    obtain ⟨r4, h4, hf⟩ := fx_bind hf
    refine a_fV C (kX9_atHome l D Y anow aL aC inow_moats inow_spades inow_tides cnow_place iC_size r4 h4) gX11_buildAndTell_X9_atHome rfl dvX9_atHome ⟨⟨rfl, rfl⟩, ⟨Nat.le_of_ble_eq_true rfl, Nat.le_of_ble_eq_true rfl⟩, ⟨Nat.le_of_ble_eq_true rfl, Nat.le_of_ble_eq_true rfl⟩⟩ rfl (Nat.le_of_ble_eq_true rfl) dX11_buildAndTell_24 rfl rfl [6, 9, 1] rfl rfl rfl (wn := [oX11 ao atext atold aL aC alaw aotherLaw anow atrial ahistory aguess acrewPlan amoatPlan achance io_wind io_spadeLimit, oX2 aC iC_size, rI Y (aC 1) 8 cC_age, rI Y (aC 2) 8 cC_skill, rI Y (aC 4) 8 cC_pals, oX5 aL iL_cells, oX9 anow aL aC inow_moats inow_spades inow_tides, rI Y (anow 1) 12 cnow_wall, rI Y (anow 3) 8 cnow_mood, rI Y (anow 4) 8 cnow_place, oX8 atold itold_size, rJ Y (atold 1) 12 ctold_numbers]) rfl ?_
    refine a_istore_n C dX11_buildAndTell_27 (by decide) rfl ?_
    refine a_aload_n C dX11_buildAndTell_28 rfl ?_
    refine a_get C eX11_buildAndTell_56 dX11_buildAndTell_29 0 rfl rfl ?_
    refine a_iload_n C dX11_buildAndTell_32 rfl ?_
    obtain ⟨r5, h5, hf⟩ := fx_bind hf
    refine a_fV C (kX9_buildOn l D Y anow aL aC inow_moats inow_spades inow_tides cnow_wall cnow_mood cnow_place iC_size cC_age cC_skill cC_pals iL_cells x1 r5 h5) gX11_buildAndTell_X9_buildOn rfl dvX9_buildOn ⟨⟨rfl, rfl⟩, ⟨Nat.le_of_ble_eq_true rfl, Nat.le_of_ble_eq_true rfl⟩, ⟨Nat.le_of_ble_eq_true rfl, Nat.le_of_ble_eq_true rfl⟩⟩ rfl (Nat.le_of_ble_eq_true rfl) dX11_buildAndTell_33 rfl rfl [6, 7, 8, 9, 1, 2, 3, 4, 5] rfl rfl rfl (wn := [oX11 ao atext atold aL aC alaw aotherLaw anow atrial ahistory aguess acrewPlan amoatPlan achance io_wind io_spadeLimit, oX2 aC iC_size, rI Y (aC 1) 8 cC_age, rI Y (aC 2) 8 cC_skill, rI Y (aC 4) 8 cC_pals, oX5 aL iL_cells, oX9 anow aL aC inow_moats inow_spades inow_tides, rI Y (anow 1) 12 r5.1, rI Y (anow 3) 8 r5.2.1, rI Y (anow 4) 8 r5.2.2, oX8 atold itold_size, rJ Y (atold 1) 12 ctold_numbers]) rfl ?_
    refine a_aload_n C dX11_buildAndTell_36 rfl ?_
    refine a_get C eX11_buildAndTell_19 dX11_buildAndTell_37 0 rfl rfl ?_
    refine a_aload_n C dX11_buildAndTell_40 rfl ?_
    refine a_get C eX11_buildAndTell_56 dX11_buildAndTell_41 0 rfl rfl ?_
    obtain ⟨r6, h6, hf⟩ := fx_bind hf
    refine a_fV C (kX9_atHome l D Y anow aL aC inow_moats inow_spades inow_tides r5.2.2 iC_size r6 h6) gX11_buildAndTell_X9_atHome rfl dvX9_atHome ⟨⟨rfl, rfl⟩, ⟨Nat.le_of_ble_eq_true rfl, Nat.le_of_ble_eq_true rfl⟩, ⟨Nat.le_of_ble_eq_true rfl, Nat.le_of_ble_eq_true rfl⟩⟩ rfl (Nat.le_of_ble_eq_true rfl) dX11_buildAndTell_44 rfl rfl [6, 9, 1] rfl rfl rfl (wn := [oX11 ao atext atold aL aC alaw aotherLaw anow atrial ahistory aguess acrewPlan amoatPlan achance io_wind io_spadeLimit, oX2 aC iC_size, rI Y (aC 1) 8 cC_age, rI Y (aC 2) 8 cC_skill, rI Y (aC 4) 8 cC_pals, oX5 aL iL_cells, oX9 anow aL aC inow_moats inow_spades inow_tides, rI Y (anow 1) 12 r5.1, rI Y (anow 3) 8 r5.2.1, rI Y (anow 4) 8 r5.2.2, oX8 atold itold_size, rJ Y (atold 1) 12 ctold_numbers]) rfl ?_
    refine a_iload_n C dX11_buildAndTell_47 rfl ?_
    refine a_iconst C (-1 : Int32) dX11_buildAndTell_48 (by decide) ?_
    refine a_ixor C dX11_buildAndTell_49 ?_
    refine a_iand C dX11_buildAndTell_50 ?_
    refine a_i2l C dX11_buildAndTell_51 ?_
    obtain ⟨r7, h7, hf⟩ := fx_bind hf
    refine a_fV C (kX8_tell l D Y atold itold_size ctold_numbers ((r6 &&& (r4 ^^^ (-1 : Int32))).toInt64) r7 h7) gX11_buildAndTell_X8_tell rfl dvX8_tell ⟨⟨rfl, rfl⟩, ⟨Nat.le_of_ble_eq_true rfl, Nat.le_of_ble_eq_true rfl⟩, ⟨Nat.le_of_ble_eq_true rfl, Nat.le_of_ble_eq_true rfl⟩⟩ rfl (Nat.le_of_ble_eq_true rfl) dX11_buildAndTell_52 rfl rfl [10, 11] rfl rfl rfl (wn := [oX11 ao atext atold aL aC alaw aotherLaw anow atrial ahistory aguess acrewPlan amoatPlan achance io_wind io_spadeLimit, oX2 aC iC_size, rI Y (aC 1) 8 cC_age, rI Y (aC 2) 8 cC_skill, rI Y (aC 4) 8 cC_pals, oX5 aL iL_cells, oX9 anow aL aC inow_moats inow_spades inow_tides, rI Y (anow 1) 12 r5.1, rI Y (anow 3) 8 r5.2.1, rI Y (anow 4) 8 r5.2.2, oX8 atold r7.1, rJ Y (atold 1) 12 r7.2]) rfl ?_
    refine a_aload_n C dX11_buildAndTell_55 rfl ?_
    refine a_get C eX11_buildAndTell_56 dX11_buildAndTell_56 0 rfl rfl ?_
    obtain ⟨r8, h8, hf⟩ := fx_bind hf
    refine a_fV C (kX9_sand l D Y anow aL aC inow_moats inow_spades inow_tides r5.1 iL_cells r8 h8) gX11_buildAndTell_X9_sand rfl dvX9_sand ⟨⟨rfl, rfl⟩, ⟨Nat.le_of_ble_eq_true rfl, Nat.le_of_ble_eq_true rfl⟩, ⟨Nat.le_of_ble_eq_true rfl, Nat.le_of_ble_eq_true rfl⟩⟩ rfl (Nat.le_of_ble_eq_true rfl) dX11_buildAndTell_59 rfl rfl [6, 7, 5] rfl rfl rfl (wn := [oX11 ao atext atold aL aC alaw aotherLaw anow atrial ahistory aguess acrewPlan amoatPlan achance io_wind io_spadeLimit, oX2 aC iC_size, rI Y (aC 1) 8 cC_age, rI Y (aC 2) 8 cC_skill, rI Y (aC 4) 8 cC_pals, oX5 aL iL_cells, oX9 anow aL aC inow_moats inow_spades inow_tides, rI Y (anow 1) 12 r5.1, rI Y (anow 3) 8 r5.2.1, rI Y (anow 4) 8 r5.2.2, oX8 atold r7.1, rJ Y (atold 1) 12 r7.2]) rfl ?_
    refine a_iload_n C dX11_buildAndTell_62 rfl ?_
    refine a_isub C dX11_buildAndTell_63 ?_
    obtain rfl := fx_some hf
    exact a_iret C hQ dX11_buildAndTell_64 ⟨rfl, rfl⟩
  · have hf := fx_t h2 hf
    refine a_iconst C (-1 : Int32) dX11_buildAndTell_10 (by decide) ?_
    obtain rfl := fx_some hf
    exact a_iret C hQ dX11_buildAndTell_11 ⟨rfl, rfl⟩
-- X11_wordsOf
abbrev rmX11_wordsOf : Room := { frames := 0, cells := 0, slots := 0, locals := 0 }
theorem dvX11_wordsOf : yX11_wordsOf.cls ≠ "java/lang/invoke/MethodHandle" ∧ yX11_wordsOf.cls ≠ "java/lang/invoke/VarHandle" ∧ (parseMethodDescriptor yX11_wordsOf.desc).map (fun d => d.parameters.length) = some 1 := by decide +kernel
def fX11_wordsOf (x0 : Int32) : Option (Int32) :=
  if x0 = (98 : Int32) then (some (1 : Int32)) else if x0 = (99 : Int32) then (some (-1 : Int32)) else if x0 = (100 : Int32) then (some (-1 : Int32)) else if x0 = (101 : Int32) then (some (-1 : Int32)) else if x0 = (102 : Int32) then (some (-1 : Int32)) else if x0 = (103 : Int32) then (some (2 : Int32)) else if x0 = (104 : Int32) then (some (1 : Int32)) else if x0 = (105 : Int32) then (some (-1 : Int32)) else if x0 = (106 : Int32) then (some (-1 : Int32)) else if x0 = (107 : Int32) then (some (-1 : Int32)) else if x0 = (108 : Int32) then (some (-1 : Int32)) else if x0 = (109 : Int32) then (some (1 : Int32)) else if x0 = (110 : Int32) then (some (-1 : Int32)) else if x0 = (111 : Int32) then (some (-1 : Int32)) else if x0 = (112 : Int32) then (some (-1 : Int32)) else if x0 = (113 : Int32) then (some (-1 : Int32)) else if x0 = (114 : Int32) then (some (-1 : Int32)) else if x0 = (115 : Int32) then (some (1 : Int32)) else if x0 = (116 : Int32) then (some (1 : Int32)) else if x0 = (117 : Int32) then (some (-1 : Int32)) else if x0 = (118 : Int32) then (some (-1 : Int32)) else if x0 = (119 : Int32) then (some (0 : Int32)) else (some (-1 : Int32))
set_option maxHeartbeats 4000000 in
set_option maxRecDepth 100000 in
theorem kX11_wordsOf (l : Launch) (D : va_G) (Y : Nat → ClassId) (x0 : Int32) (res : Int32) (hf : fX11_wordsOf x0 = some res) : amf l D Y yX11_wordsOf wsX11_wordsOf rmX11_wordsOf [.int x0] [] (some (.int res)) [] := by
  refine amf.of (cc := cX11_wordsOf) (maxL := 1) (rt := (some .int)) (by decide) rfl RX11 rfl (Nat.le_of_ble_eq_true rfl) [some (.int x0)] rfl ?_
  intro X C hQ
  unfold fX11_wordsOf at hf
  refine a_iload_n C dX11_wordsOf_0 rfl ?_
  by_cases h1 : x0 = (98 : Int32)
  · have hf := fx_t h1 hf
    refine a_tableIn C 106 dX11_wordsOf_1 (by rw [h1]; decide) (by rw [h1]; decide) (by rw [h1]; rfl) (by decide) ?_
    refine a_iconst C (1 : Int32) dX11_wordsOf_106 (by decide) ?_
    obtain rfl := fx_some hf
    exact a_iret C hQ dX11_wordsOf_107 ⟨rfl, rfl⟩
  have hf := fx_f h1 hf
  by_cases h2 : x0 = (99 : Int32)
  · have hf := fx_t h2 hf
    refine a_tableIn C 110 dX11_wordsOf_1 (by rw [h2]; decide) (by rw [h2]; decide) (by rw [h2]; rfl) (by decide) ?_
    refine a_iconst C (-1 : Int32) dX11_wordsOf_110 (by decide) ?_
    obtain rfl := fx_some hf
    exact a_iret C hQ dX11_wordsOf_111 ⟨rfl, rfl⟩
  have hf := fx_f h2 hf
  by_cases h3 : x0 = (100 : Int32)
  · have hf := fx_t h3 hf
    refine a_tableIn C 110 dX11_wordsOf_1 (by rw [h3]; decide) (by rw [h3]; decide) (by rw [h3]; rfl) (by decide) ?_
    refine a_iconst C (-1 : Int32) dX11_wordsOf_110 (by decide) ?_
    obtain rfl := fx_some hf
    exact a_iret C hQ dX11_wordsOf_111 ⟨rfl, rfl⟩
  have hf := fx_f h3 hf
  by_cases h4 : x0 = (101 : Int32)
  · have hf := fx_t h4 hf
    refine a_tableIn C 110 dX11_wordsOf_1 (by rw [h4]; decide) (by rw [h4]; decide) (by rw [h4]; rfl) (by decide) ?_
    refine a_iconst C (-1 : Int32) dX11_wordsOf_110 (by decide) ?_
    obtain rfl := fx_some hf
    exact a_iret C hQ dX11_wordsOf_111 ⟨rfl, rfl⟩
  have hf := fx_f h4 hf
  by_cases h5 : x0 = (102 : Int32)
  · have hf := fx_t h5 hf
    refine a_tableIn C 110 dX11_wordsOf_1 (by rw [h5]; decide) (by rw [h5]; decide) (by rw [h5]; rfl) (by decide) ?_
    refine a_iconst C (-1 : Int32) dX11_wordsOf_110 (by decide) ?_
    obtain rfl := fx_some hf
    exact a_iret C hQ dX11_wordsOf_111 ⟨rfl, rfl⟩
  have hf := fx_f h5 hf
  by_cases h6 : x0 = (103 : Int32)
  · have hf := fx_t h6 hf
    refine a_tableIn C 104 dX11_wordsOf_1 (by rw [h6]; decide) (by rw [h6]; decide) (by rw [h6]; rfl) (by decide) ?_
    refine a_iconst C (2 : Int32) dX11_wordsOf_104 (by decide) ?_
    obtain rfl := fx_some hf
    exact a_iret C hQ dX11_wordsOf_105 ⟨rfl, rfl⟩
  have hf := fx_f h6 hf
  by_cases h7 : x0 = (104 : Int32)
  · have hf := fx_t h7 hf
    refine a_tableIn C 106 dX11_wordsOf_1 (by rw [h7]; decide) (by rw [h7]; decide) (by rw [h7]; rfl) (by decide) ?_
    refine a_iconst C (1 : Int32) dX11_wordsOf_106 (by decide) ?_
    obtain rfl := fx_some hf
    exact a_iret C hQ dX11_wordsOf_107 ⟨rfl, rfl⟩
  have hf := fx_f h7 hf
  by_cases h8 : x0 = (105 : Int32)
  · have hf := fx_t h8 hf
    refine a_tableIn C 110 dX11_wordsOf_1 (by rw [h8]; decide) (by rw [h8]; decide) (by rw [h8]; rfl) (by decide) ?_
    refine a_iconst C (-1 : Int32) dX11_wordsOf_110 (by decide) ?_
    obtain rfl := fx_some hf
    exact a_iret C hQ dX11_wordsOf_111 ⟨rfl, rfl⟩
  have hf := fx_f h8 hf
  by_cases h9 : x0 = (106 : Int32)
  · have hf := fx_t h9 hf
    refine a_tableIn C 110 dX11_wordsOf_1 (by rw [h9]; decide) (by rw [h9]; decide) (by rw [h9]; rfl) (by decide) ?_
    refine a_iconst C (-1 : Int32) dX11_wordsOf_110 (by decide) ?_
    obtain rfl := fx_some hf
    exact a_iret C hQ dX11_wordsOf_111 ⟨rfl, rfl⟩
  have hf := fx_f h9 hf
  by_cases h10 : x0 = (107 : Int32)
  · have hf := fx_t h10 hf
    refine a_tableIn C 110 dX11_wordsOf_1 (by rw [h10]; decide) (by rw [h10]; decide) (by rw [h10]; rfl) (by decide) ?_
    refine a_iconst C (-1 : Int32) dX11_wordsOf_110 (by decide) ?_
    obtain rfl := fx_some hf
    exact a_iret C hQ dX11_wordsOf_111 ⟨rfl, rfl⟩
  have hf := fx_f h10 hf
  by_cases h11 : x0 = (108 : Int32)
  · have hf := fx_t h11 hf
    refine a_tableIn C 110 dX11_wordsOf_1 (by rw [h11]; decide) (by rw [h11]; decide) (by rw [h11]; rfl) (by decide) ?_
    refine a_iconst C (-1 : Int32) dX11_wordsOf_110 (by decide) ?_
    obtain rfl := fx_some hf
    exact a_iret C hQ dX11_wordsOf_111 ⟨rfl, rfl⟩
  have hf := fx_f h11 hf
  by_cases h12 : x0 = (109 : Int32)
  · have hf := fx_t h12 hf
    refine a_tableIn C 106 dX11_wordsOf_1 (by rw [h12]; decide) (by rw [h12]; decide) (by rw [h12]; rfl) (by decide) ?_
    refine a_iconst C (1 : Int32) dX11_wordsOf_106 (by decide) ?_
    obtain rfl := fx_some hf
    exact a_iret C hQ dX11_wordsOf_107 ⟨rfl, rfl⟩
  have hf := fx_f h12 hf
  by_cases h13 : x0 = (110 : Int32)
  · have hf := fx_t h13 hf
    refine a_tableIn C 110 dX11_wordsOf_1 (by rw [h13]; decide) (by rw [h13]; decide) (by rw [h13]; rfl) (by decide) ?_
    refine a_iconst C (-1 : Int32) dX11_wordsOf_110 (by decide) ?_
    obtain rfl := fx_some hf
    exact a_iret C hQ dX11_wordsOf_111 ⟨rfl, rfl⟩
  have hf := fx_f h13 hf
  by_cases h14 : x0 = (111 : Int32)
  · have hf := fx_t h14 hf
    refine a_tableIn C 110 dX11_wordsOf_1 (by rw [h14]; decide) (by rw [h14]; decide) (by rw [h14]; rfl) (by decide) ?_
    refine a_iconst C (-1 : Int32) dX11_wordsOf_110 (by decide) ?_
    obtain rfl := fx_some hf
    exact a_iret C hQ dX11_wordsOf_111 ⟨rfl, rfl⟩
  have hf := fx_f h14 hf
  by_cases h15 : x0 = (112 : Int32)
  · have hf := fx_t h15 hf
    refine a_tableIn C 110 dX11_wordsOf_1 (by rw [h15]; decide) (by rw [h15]; decide) (by rw [h15]; rfl) (by decide) ?_
    refine a_iconst C (-1 : Int32) dX11_wordsOf_110 (by decide) ?_
    obtain rfl := fx_some hf
    exact a_iret C hQ dX11_wordsOf_111 ⟨rfl, rfl⟩
  have hf := fx_f h15 hf
  by_cases h16 : x0 = (113 : Int32)
  · have hf := fx_t h16 hf
    refine a_tableIn C 110 dX11_wordsOf_1 (by rw [h16]; decide) (by rw [h16]; decide) (by rw [h16]; rfl) (by decide) ?_
    refine a_iconst C (-1 : Int32) dX11_wordsOf_110 (by decide) ?_
    obtain rfl := fx_some hf
    exact a_iret C hQ dX11_wordsOf_111 ⟨rfl, rfl⟩
  have hf := fx_f h16 hf
  by_cases h17 : x0 = (114 : Int32)
  · have hf := fx_t h17 hf
    refine a_tableIn C 110 dX11_wordsOf_1 (by rw [h17]; decide) (by rw [h17]; decide) (by rw [h17]; rfl) (by decide) ?_
    refine a_iconst C (-1 : Int32) dX11_wordsOf_110 (by decide) ?_
    obtain rfl := fx_some hf
    exact a_iret C hQ dX11_wordsOf_111 ⟨rfl, rfl⟩
  have hf := fx_f h17 hf
  by_cases h18 : x0 = (115 : Int32)
  · have hf := fx_t h18 hf
    refine a_tableIn C 106 dX11_wordsOf_1 (by rw [h18]; decide) (by rw [h18]; decide) (by rw [h18]; rfl) (by decide) ?_
    refine a_iconst C (1 : Int32) dX11_wordsOf_106 (by decide) ?_
    obtain rfl := fx_some hf
    exact a_iret C hQ dX11_wordsOf_107 ⟨rfl, rfl⟩
  have hf := fx_f h18 hf
  by_cases h19 : x0 = (116 : Int32)
  · have hf := fx_t h19 hf
    refine a_tableIn C 106 dX11_wordsOf_1 (by rw [h19]; decide) (by rw [h19]; decide) (by rw [h19]; rfl) (by decide) ?_
    refine a_iconst C (1 : Int32) dX11_wordsOf_106 (by decide) ?_
    obtain rfl := fx_some hf
    exact a_iret C hQ dX11_wordsOf_107 ⟨rfl, rfl⟩
  have hf := fx_f h19 hf
  by_cases h20 : x0 = (117 : Int32)
  · have hf := fx_t h20 hf
    refine a_tableIn C 110 dX11_wordsOf_1 (by rw [h20]; decide) (by rw [h20]; decide) (by rw [h20]; rfl) (by decide) ?_
    refine a_iconst C (-1 : Int32) dX11_wordsOf_110 (by decide) ?_
    obtain rfl := fx_some hf
    exact a_iret C hQ dX11_wordsOf_111 ⟨rfl, rfl⟩
  have hf := fx_f h20 hf
  by_cases h21 : x0 = (118 : Int32)
  · have hf := fx_t h21 hf
    refine a_tableIn C 110 dX11_wordsOf_1 (by rw [h21]; decide) (by rw [h21]; decide) (by rw [h21]; rfl) (by decide) ?_
    refine a_iconst C (-1 : Int32) dX11_wordsOf_110 (by decide) ?_
    obtain rfl := fx_some hf
    exact a_iret C hQ dX11_wordsOf_111 ⟨rfl, rfl⟩
  have hf := fx_f h21 hf
  by_cases h22 : x0 = (119 : Int32)
  · have hf := fx_t h22 hf
    refine a_tableIn C 108 dX11_wordsOf_1 (by rw [h22]; decide) (by rw [h22]; decide) (by rw [h22]; rfl) (by decide) ?_
    refine a_iconst C (0 : Int32) dX11_wordsOf_108 (by decide) ?_
    obtain rfl := fx_some hf
    exact a_iret C hQ dX11_wordsOf_109 ⟨rfl, rfl⟩
  have hf := fx_f h22 hf
  refine a_tableOut C 110 dX11_wordsOf_1 (by have z0 := lv_neT (a := 98) h1 (by decide); have z1 := lv_neT (a := 99) h2 (by decide); have z2 := lv_neT (a := 100) h3 (by decide); have z3 := lv_neT (a := 101) h4 (by decide); have z4 := lv_neT (a := 102) h5 (by decide); have z5 := lv_neT (a := 103) h6 (by decide); have z6 := lv_neT (a := 104) h7 (by decide); have z7 := lv_neT (a := 105) h8 (by decide); have z8 := lv_neT (a := 106) h9 (by decide); have z9 := lv_neT (a := 107) h10 (by decide); have z10 := lv_neT (a := 108) h11 (by decide); have z11 := lv_neT (a := 109) h12 (by decide); have z12 := lv_neT (a := 110) h13 (by decide); have z13 := lv_neT (a := 111) h14 (by decide); have z14 := lv_neT (a := 112) h15 (by decide); have z15 := lv_neT (a := 113) h16 (by decide); have z16 := lv_neT (a := 114) h17 (by decide); have z17 := lv_neT (a := 115) h18 (by decide); have z18 := lv_neT (a := 116) h19 (by decide); have z19 := lv_neT (a := 117) h20 (by decide); have z20 := lv_neT (a := 118) h21 (by decide); have z21 := lv_neT (a := 119) h22 (by decide); omega) (by decide) ?_
  refine a_iconst C (-1 : Int32) dX11_wordsOf_110 (by decide) ?_
  obtain rfl := fx_some hf
  exact a_iret C hQ dX11_wordsOf_111 ⟨rfl, rfl⟩
-- X11_wordFits
abbrev rmX11_wordFits : Room := { frames := 1, cells := 0, slots := 0, locals := 22 }
theorem dvX11_wordFits : yX11_wordFits.cls ≠ "java/lang/invoke/MethodHandle" ∧ yX11_wordFits.cls ≠ "java/lang/invoke/VarHandle" ∧ (parseMethodDescriptor yX11_wordFits.desc).map (fun d => d.parameters.length) = some 3 := by decide +kernel
def fX11_wordFits_b42 (s0 : Int32) (s1 : Int32) (s2 : Int32) : Option (Int32) :=
  (fX11_within s0 s1 s2).bind (fun r1 => if r1 = 0 ∨ r1 = 1 then some r1 else none)
set_option maxHeartbeats 4000000 in
set_option maxRecDepth 100000 in
theorem kX11_wordFits_b42 {X : cxT} {l : Launch} {D : va_G} {Y : Nat → ClassId} {s0 : Int32} {s1 : Int32} {s2 : Int32} {res : Int32} (C : axC X l D Y cX11_wordFits 4 RX11 wsX11_wordFits rmX11_wordFits (some .boolean)) (hQ : axQ X 0 0 (fun r9 w9 => r9 = (some (.int res)) ∧ w9 = [])) (hf : fX11_wordFits_b42 s0 s1 s2 = some res) : ax X 0 0 42 [none, none, none, none] [] [.int s2, .int s1, .int s0] := by
  unfold fX11_wordFits_b42 at hf
  obtain ⟨r1, h1, hf⟩ := fx_bind hf
  refine a_fS C (kX11_within l D Y s0 s1 s2 r1 h1) gX11_wordFits_X11_within rfl dvX11_within ⟨⟨rfl, rfl⟩, ⟨Nat.le_of_ble_eq_true rfl, Nat.le_of_ble_eq_true rfl⟩, ⟨Nat.le_of_ble_eq_true rfl, Nat.le_of_ble_eq_true rfl⟩⟩ rfl (Nat.le_of_ble_eq_true rfl) dX11_wordFits_42 [] rfl rfl rfl (wn := []) rfl ?_
  obtain ⟨h2, hf⟩ := fx_ite hf
  obtain rfl := fx_some hf
  exact a_zret C hQ h2 dX11_wordFits_45 ⟨rfl, rfl⟩
def fX11_wordFits_b27 (x2 : Int32) (s0 : Int32) : Option (Int32) :=
  if s0 = (0 : Int32) then (fX11_wordFits_b42 x2 (97 : Int32) (104 : Int32)) else (fX11_wordFits_b42 x2 (97 : Int32) (108 : Int32))
set_option maxHeartbeats 4000000 in
set_option maxRecDepth 100000 in
theorem kX11_wordFits_b27 {X : cxT} {l : Launch} {D : va_G} {Y : Nat → ClassId} {x2 : Int32} {s0 : Int32} {res : Int32} (C : axC X l D Y cX11_wordFits 4 RX11 wsX11_wordFits rmX11_wordFits (some .boolean)) (hQ : axQ X 0 0 (fun r9 w9 => r9 = (some (.int res)) ∧ w9 = [])) (hf : fX11_wordFits_b27 x2 s0 = some res) : ax X 0 0 27 [none, none, some (.int x2), none] [] [.int s0] := by
  unfold fX11_wordFits_b27 at hf
  refine a_istore_n C dX11_wordFits_27 (by decide) rfl ?_
  refine a_iload_n C dX11_wordFits_28 rfl ?_
  refine a_bipush C (97 : Int32) dX11_wordFits_29 (by decide) ?_
  refine a_iload_n C dX11_wordFits_31 rfl ?_
  refine a_if_eq C 40 dX11_wordFits_32 (by decide) (fun h3 => ?_) (fun h3 => ?_)
  · have hf := fx_t h3 hf
    refine a_bipush C (104 : Int32) dX11_wordFits_40 (by decide) ?_
    refine a_kill [2, 3] ?_
    exact kX11_wordFits_b42 C hQ hf
  · have hf := fx_f h3 hf
    refine a_bipush C (108 : Int32) dX11_wordFits_35 (by decide) ?_
    refine a_goto C 42 dX11_wordFits_37 (by decide) ?_
    refine a_kill [2, 3] ?_
    exact kX11_wordFits_b42 C hQ hf
def fX11_wordFits_b22 (x2 : Int32) : Option (Int32) :=
  fX11_wordFits_b27 x2 (1 : Int32)
set_option maxHeartbeats 4000000 in
set_option maxRecDepth 100000 in
theorem kX11_wordFits_b22 {X : cxT} {l : Launch} {D : va_G} {Y : Nat → ClassId} {x2 : Int32} {res : Int32} (C : axC X l D Y cX11_wordFits 4 RX11 wsX11_wordFits rmX11_wordFits (some .boolean)) (hQ : axQ X 0 0 (fun r9 w9 => r9 = (some (.int res)) ∧ w9 = [])) (hf : fX11_wordFits_b22 x2 = some res) : ax X 0 0 22 [none, none, some (.int x2), none] [] [] := by
  unfold fX11_wordFits_b22 at hf
  refine a_iconst C (1 : Int32) dX11_wordFits_22 (by decide) ?_
  refine a_goto C 27 dX11_wordFits_23 (by decide) ?_
  exact kX11_wordFits_b27 C hQ hf
def fX11_wordFits (x0 : Int32) (x1 : Int32) (x2 : Int32) : Option (Int32) :=
  if x0 = (98 : Int32) then ((fX11_isDigit x2).bind (fun r7 => if r7 = 0 ∨ r7 = 1 then some r7 else none)) else (if x0 = (109 : Int32) then (fX11_wordFits_b22 x2) else (if x1 = (1 : Int32) then (fX11_wordFits_b22 x2) else (fX11_wordFits_b27 x2 (0 : Int32))))
set_option maxHeartbeats 4000000 in
set_option maxRecDepth 100000 in
theorem kX11_wordFits (l : Launch) (D : va_G) (Y : Nat → ClassId) (x0 : Int32) (x1 : Int32) (x2 : Int32) (res : Int32) (hf : fX11_wordFits x0 x1 x2 = some res) : amf l D Y yX11_wordFits wsX11_wordFits rmX11_wordFits [.int x0, .int x1, .int x2] [] (some (.int res)) [] := by
  refine amf.of (cc := cX11_wordFits) (maxL := 4) (rt := (some .boolean)) (by decide) rfl RX11 rfl (Nat.le_of_ble_eq_true rfl) [some (.int x0), some (.int x1), some (.int x2), none] rfl ?_
  intro X C hQ
  unfold fX11_wordFits at hf
  refine a_iload_n C dX11_wordFits_0 rfl ?_
  refine a_bipush C (98 : Int32) dX11_wordFits_1 (by decide) ?_
  refine a_icmp_ne C 11 dX11_wordFits_3 (by decide) (fun h4 => ?_) (fun h4 => ?_)
  · have hf := fx_f h4 hf
    refine a_iload_n C dX11_wordFits_11 rfl ?_
    refine a_bipush C (109 : Int32) dX11_wordFits_12 (by decide) ?_
    refine a_icmp_eq C 22 dX11_wordFits_14 (by decide) (fun h5 => ?_) (fun h5 => ?_)
    · have hf := fx_t h5 hf
      refine a_kill [0, 1] ?_
      exact kX11_wordFits_b22 C hQ hf
    · have hf := fx_f h5 hf
      refine a_iload_n C dX11_wordFits_17 rfl ?_
      refine a_iconst C (1 : Int32) dX11_wordFits_18 (by decide) ?_
      refine a_icmp_ne C 26 dX11_wordFits_19 (by decide) (fun h6 => ?_) (fun h6 => ?_)
      · have hf := fx_f h6 hf
        refine a_iconst C (0 : Int32) dX11_wordFits_26 (by decide) ?_
        refine a_kill [0, 1] ?_
        exact kX11_wordFits_b27 C hQ hf
      · have hf := fx_t h6 hf
        refine a_kill [0, 1] ?_
        exact kX11_wordFits_b22 C hQ hf
  · have hf := fx_t h4 hf
    refine a_iload_n C dX11_wordFits_6 rfl ?_
    obtain ⟨r7, h7, hf⟩ := fx_bind hf
    refine a_fS C (kX11_isDigit l D Y x2 r7 h7) gX11_wordFits_X11_isDigit rfl dvX11_isDigit ⟨⟨rfl, rfl⟩, ⟨Nat.le_of_ble_eq_true rfl, Nat.le_of_ble_eq_true rfl⟩, ⟨Nat.le_of_ble_eq_true rfl, Nat.le_of_ble_eq_true rfl⟩⟩ rfl (Nat.le_of_ble_eq_true rfl) dX11_wordFits_7 [] rfl rfl rfl (wn := []) rfl ?_
    obtain ⟨h8, hf⟩ := fx_ite hf
    obtain rfl := fx_some hf
    exact a_zret C hQ h8 dX11_wordFits_10 ⟨rfl, rfl⟩
-- X11_wordAt
abbrev rmX11_wordAt : Room := { frames := 1, cells := 0, slots := 0, locals := 22 }
theorem dvX11_wordAt : yX11_wordAt.cls = RX11 ∧ yX11_wordAt.cls ≠ "java/lang/invoke/MethodHandle" ∧ yX11_wordAt.cls ≠ "java/lang/invoke/VarHandle" ∧ (parseMethodDescriptor yX11_wordAt.desc).map (fun d => d.parameters.length) = some 1 := by decide +kernel
theorem eX11_wordAt_inX11 : ∀ w ∈ wsX110, w ∈ wsX11_wordAt := by decide +kernel
theorem eX11_wordAt_10 : aF wsX11_wordAt RX11 10 11 0 := ⟨RX11, TX11, 17, rfl, eX11_wordAt_inX11, by decide, by decide +kernel⟩
theorem eX11_wordAt_inX10 : ∀ w ∈ wsX100, w ∈ wsX11_wordAt := by decide +kernel
theorem eX11_wordAt_240 : aF wsX11_wordAt RX11 240 10 0 := ⟨RX10, TX10, 2, rfl, eX11_wordAt_inX10, by decide, by decide +kernel⟩
def fX11_wordAt_b40 (ctext_signs : Nat → Int32) (s0 : Int32) : Option (Int32) :=
  some s0
set_option maxHeartbeats 4000000 in
set_option maxRecDepth 100000 in
theorem kX11_wordAt_b40 {X : cxT} {l : Launch} {D : va_G} {Y : Nat → ClassId} {ao atext atold aL aC alaw aotherLaw anow atrial ahistory aguess acrewPlan amoatPlan achance : Nat → Nat} {io_wind : Int32} {io_spadeLimit : Int32} {itext_length : Int32} {ctext_signs : Nat → Int32} {s0 : Int32} {res : Int32} (C : axC X l D Y cX11_wordAt 3 RX11 wsX11_wordAt rmX11_wordAt (some .int)) (hQ : axQ X 0 0 (fun r9 w9 => r9 = (some (.int res)) ∧ w9 = [oX11 ao atext atold aL aC alaw aotherLaw anow atrial ahistory aguess acrewPlan amoatPlan achance io_wind io_spadeLimit, oX10 atext itext_length, rC Y (atext 1) 80 ctext_signs])) (hf : fX11_wordAt_b40 ctext_signs s0 = some res) : ax X 0 0 40 [none, none, none] [oX11 ao atext atold aL aC alaw aotherLaw anow atrial ahistory aguess acrewPlan amoatPlan achance io_wind io_spadeLimit, oX10 atext itext_length, rC Y (atext 1) 80 ctext_signs] [.int s0] := by
  unfold fX11_wordAt_b40 at hf
  obtain rfl := fx_some hf
  exact a_iret C hQ dX11_wordAt_40 ⟨rfl, rfl⟩
def fX11_wordAt (ctext_signs : Nat → Int32) (x1 : Int32) : Option (Int32) :=
  (fX11_within x1 (0 : Int32) (79 : Int32)).bind (fun r1 => if r1 = (0 : Int32) then (some (-1 : Int32)) else (if inb x1 80 then (fX11_isDigit (ctext_signs (Int32.toNatClampNeg x1))).bind (fun r4 => if r4 = (0 : Int32) then (fX11_wordAt_b40 ctext_signs ((ctext_signs (Int32.toNatClampNeg x1)) - (97 : Int32))) else (fX11_wordAt_b40 ctext_signs ((ctext_signs (Int32.toNatClampNeg x1)) - (48 : Int32)))) else none))
set_option maxHeartbeats 4000000 in
set_option maxRecDepth 100000 in
theorem kX11_wordAt (l : Launch) (D : va_G) (Y : Nat → ClassId) (ao atext atold aL aC alaw aotherLaw anow atrial ahistory aguess acrewPlan amoatPlan achance : Nat → Nat) (io_wind : Int32) (io_spadeLimit : Int32) (itext_length : Int32) (ctext_signs : Nat → Int32) (x1 : Int32) (res : Int32) (hf : fX11_wordAt ctext_signs x1 = some res) : amf l D Y yX11_wordAt wsX11_wordAt rmX11_wordAt [.ref (ao 0), .int x1] [oX11 ao atext atold aL aC alaw aotherLaw anow atrial ahistory aguess acrewPlan amoatPlan achance io_wind io_spadeLimit, oX10 atext itext_length, rC Y (atext 1) 80 ctext_signs] (some (.int res)) [oX11 ao atext atold aL aC alaw aotherLaw anow atrial ahistory aguess acrewPlan amoatPlan achance io_wind io_spadeLimit, oX10 atext itext_length, rC Y (atext 1) 80 ctext_signs] := by
  refine amf.of (cc := cX11_wordAt) (maxL := 3) (rt := (some .int)) (by decide) rfl RX11 rfl (Nat.le_of_ble_eq_true rfl) [some (.ref (ao 0)), some (.int x1), none] rfl ?_
  intro X C hQ
  unfold fX11_wordAt at hf
  refine a_iload_n C dX11_wordAt_0 rfl ?_
  refine a_iconst C (0 : Int32) dX11_wordAt_1 (by decide) ?_
  refine a_bipush C (79 : Int32) dX11_wordAt_2 (by decide) ?_
  obtain ⟨r1, h1, hf⟩ := fx_bind hf
  refine a_fS C (kX11_within l D Y x1 (0 : Int32) (79 : Int32) r1 h1) gX11_wordAt_X11_within rfl dvX11_within ⟨⟨rfl, rfl⟩, ⟨Nat.le_of_ble_eq_true rfl, Nat.le_of_ble_eq_true rfl⟩, ⟨Nat.le_of_ble_eq_true rfl, Nat.le_of_ble_eq_true rfl⟩⟩ rfl (Nat.le_of_ble_eq_true rfl) dX11_wordAt_4 [] rfl rfl rfl (wn := [oX11 ao atext atold aL aC alaw aotherLaw anow atrial ahistory aguess acrewPlan amoatPlan achance io_wind io_spadeLimit, oX10 atext itext_length, rC Y (atext 1) 80 ctext_signs]) rfl ?_
  refine a_if_ne C 12 dX11_wordAt_7 (by decide) (fun h2 => ?_) (fun h2 => ?_)
  · have hf := fx_f h2 hf
    refine a_aload_n C dX11_wordAt_12 rfl ?_
    refine a_get C eX11_wordAt_10 dX11_wordAt_13 0 rfl rfl ?_
    refine a_get C eX11_wordAt_240 dX11_wordAt_16 1 rfl rfl ?_
    refine a_iload_n C dX11_wordAt_19 rfl ?_
    obtain ⟨h3, hf⟩ := fx_ite hf
    refine a_cald C dX11_wordAt_20 2 rfl h3 ?_
    refine a_istore_n C dX11_wordAt_21 (by decide) rfl ?_
    refine a_iload_n C dX11_wordAt_22 rfl ?_
    obtain ⟨r4, h4, hf⟩ := fx_bind hf
    refine a_fS C (kX11_isDigit l D Y (ctext_signs (Int32.toNatClampNeg x1)) r4 h4) gX11_wordAt_X11_isDigit rfl dvX11_isDigit ⟨⟨rfl, rfl⟩, ⟨Nat.le_of_ble_eq_true rfl, Nat.le_of_ble_eq_true rfl⟩, ⟨Nat.le_of_ble_eq_true rfl, Nat.le_of_ble_eq_true rfl⟩⟩ rfl (Nat.le_of_ble_eq_true rfl) dX11_wordAt_23 [] rfl rfl rfl (wn := [oX11 ao atext atold aL aC alaw aotherLaw anow atrial ahistory aguess acrewPlan amoatPlan achance io_wind io_spadeLimit, oX10 atext itext_length, rC Y (atext 1) 80 ctext_signs]) rfl ?_
    refine a_if_eq C 36 dX11_wordAt_26 (by decide) (fun h5 => ?_) (fun h5 => ?_)
    · have hf := fx_t h5 hf
      refine a_iload_n C dX11_wordAt_36 rfl ?_
      refine a_bipush C (97 : Int32) dX11_wordAt_37 (by decide) ?_
      refine a_isub C dX11_wordAt_39 ?_
      refine a_kill [0, 1, 2] ?_
      exact kX11_wordAt_b40 C hQ hf
    · have hf := fx_f h5 hf
      refine a_iload_n C dX11_wordAt_29 rfl ?_
      refine a_bipush C (48 : Int32) dX11_wordAt_30 (by decide) ?_
      refine a_isub C dX11_wordAt_32 ?_
      refine a_goto C 40 dX11_wordAt_33 (by decide) ?_
      refine a_kill [0, 1, 2] ?_
      exact kX11_wordAt_b40 C hQ hf
  · have hf := fx_t h2 hf
    refine a_iconst C (-1 : Int32) dX11_wordAt_10 (by decide) ?_
    obtain rfl := fx_some hf
    exact a_iret C hQ dX11_wordAt_11 ⟨rfl, rfl⟩
-- X11_heightOf
abbrev rmX11_heightOf : Room := { frames := 3, cells := 0, slots := 0, locals := 69 }
theorem dvX11_heightOf : yX11_heightOf.cls = RX11 ∧ yX11_heightOf.cls ≠ "java/lang/invoke/MethodHandle" ∧ yX11_heightOf.cls ≠ "java/lang/invoke/VarHandle" ∧ (parseMethodDescriptor yX11_heightOf.desc).map (fun d => d.parameters.length) = some 3 := by decide +kernel
theorem eX11_heightOf_inX9 : ∀ w ∈ wsX90, w ∈ wsX11_heightOf := by decide +kernel
theorem eX11_heightOf_380 : aF wsX11_heightOf RX11 380 9 8 := ⟨RX9, TX9, 9, rfl, eX11_heightOf_inX9, by decide, by decide +kernel⟩
theorem eX11_heightOf_inX11 : ∀ w ∈ wsX110, w ∈ wsX11_heightOf := by decide +kernel
theorem eX11_heightOf_207 : aF wsX11_heightOf RX11 207 11 6 := ⟨RX11, TX11, 17, rfl, eX11_heightOf_inX11, by decide, by decide +kernel⟩
theorem eX11_heightOf_26 : aF wsX11_heightOf RX11 26 11 2 := ⟨RX11, TX11, 17, rfl, eX11_heightOf_inX11, by decide, by decide +kernel⟩
theorem eX11_heightOf_inX5 : ∀ w ∈ wsX50, w ∈ wsX11_heightOf := by decide +kernel
theorem eX11_heightOf_131 : aF wsX11_heightOf RX11 131 5 0 := ⟨RX5, TX5, 5, rfl, eX11_heightOf_inX5, by decide, by decide +kernel⟩
theorem eX11_heightOf_159 : aF wsX11_heightOf RX11 159 9 6 := ⟨RX9, TX9, 9, rfl, eX11_heightOf_inX9, by decide, by decide +kernel⟩
def fX11_heightOf (io_wind : Int32) (ip1_length : Int32) (cp1_codes : Nat → Int32) (cp1_stack : Nat → Int32) (ip2_moats : Int32) (ip2_tides : Int32) (iL_cells : Int32) (x3 : Int32) : Option (Int32 × (Nat → Int32)) :=
  (fJ6_bitCount_0f7a4 ip2_moats).bind (fun r1 => (fX6_value ip1_length cp1_codes cp1_stack (jrem (ip2_tides + x3) (8 : Int32)) io_wind iL_cells r1).bind (fun r2 => some (r2.1, r2.2)))
set_option maxHeartbeats 4000000 in
set_option maxRecDepth 100000 in
theorem kX11_heightOf (l : Launch) (D : va_G) (Y : Nat → ClassId) (ao atext atold aL aC alaw aotherLaw anow atrial ahistory aguess acrewPlan amoatPlan achance ap1 ap2 : Nat → Nat) (io_wind : Int32) (io_spadeLimit : Int32) (ip1_length : Int32) (ip1_at : Int32) (ip1_sign : Int32) (ip1_bad : Int32) (cp1_codes : Nat → Int32) (cp1_stack : Nat → Int32) (ip2_moats : Int32) (ip2_spades : Int32) (ip2_tides : Int32) (iL_cells : Int32) (x3 : Int32) (res : Int32 × (Nat → Int32)) (hf : fX11_heightOf io_wind ip1_length cp1_codes cp1_stack ip2_moats ip2_tides iL_cells x3 = some res) : amf l D Y yX11_heightOf wsX11_heightOf rmX11_heightOf [.ref (ao 0), .ref (ap1 0), .ref (ap2 0), .int x3] [oX11 ao atext atold aL aC alaw aotherLaw anow atrial ahistory aguess acrewPlan amoatPlan achance io_wind io_spadeLimit, oX6 ap1 ip1_length ip1_at ip1_sign ip1_bad, rI Y (ap1 1) 40 cp1_codes, rI Y (ap1 2) 40 cp1_stack, oX9 ap2 aL aC ip2_moats ip2_spades ip2_tides, oX5 aL iL_cells] (some (.int res.1)) [oX11 ao atext atold aL aC alaw aotherLaw anow atrial ahistory aguess acrewPlan amoatPlan achance io_wind io_spadeLimit, oX6 ap1 ip1_length ip1_at ip1_sign ip1_bad, rI Y (ap1 1) 40 cp1_codes, rI Y (ap1 2) 40 res.2, oX9 ap2 aL aC ip2_moats ip2_spades ip2_tides, oX5 aL iL_cells] := by
  refine amf.of (cc := cX11_heightOf) (maxL := 4) (rt := (some .int)) (by decide) rfl RX11 rfl (Nat.le_of_ble_eq_true rfl) [some (.ref (ao 0)), some (.ref (ap1 0)), some (.ref (ap2 0)), some (.int x3)] rfl ?_
  intro X C hQ
  unfold fX11_heightOf at hf
  refine a_aload_n C dX11_heightOf_0 rfl ?_
  refine a_aload_n C dX11_heightOf_1 rfl ?_
  refine a_get C eX11_heightOf_380 dX11_heightOf_2 4 rfl rfl ?_
  refine a_iload_n C dX11_heightOf_5 rfl ?_
  refine a_iadd C dX11_heightOf_6 ?_
  refine a_bipush C (8 : Int32) dX11_heightOf_7 (by decide) ?_
  refine a_irem C dX11_heightOf_9 (by decide) ?_
  refine a_aload_n C dX11_heightOf_10 rfl ?_
  refine a_get C eX11_heightOf_207 dX11_heightOf_11 0 rfl rfl ?_
  refine a_aload_n C dX11_heightOf_14 rfl ?_
  refine a_get C eX11_heightOf_26 dX11_heightOf_15 0 rfl rfl ?_
  refine a_get C eX11_heightOf_131 dX11_heightOf_18 5 rfl rfl ?_
  refine a_aload_n C dX11_heightOf_21 rfl ?_
  refine a_get C eX11_heightOf_159 dX11_heightOf_22 4 rfl rfl ?_
  obtain ⟨r1, h1, hf⟩ := fx_bind hf
  refine a_fS C (kJ6_bitCount_0f7a4 l D Y ip2_moats r1 h1) gX11_heightOf_J6_bitCount_0f7a4 rfl dvJ6_bitCount_0f7a4 ⟨⟨rfl, rfl⟩, ⟨Nat.le_of_ble_eq_true rfl, Nat.le_of_ble_eq_true rfl⟩, ⟨Nat.le_of_ble_eq_true rfl, Nat.le_of_ble_eq_true rfl⟩⟩ rfl (Nat.le_of_ble_eq_true rfl) dX11_heightOf_25 [] rfl rfl rfl (wn := [oX11 ao atext atold aL aC alaw aotherLaw anow atrial ahistory aguess acrewPlan amoatPlan achance io_wind io_spadeLimit, oX6 ap1 ip1_length ip1_at ip1_sign ip1_bad, rI Y (ap1 1) 40 cp1_codes, rI Y (ap1 2) 40 cp1_stack, oX9 ap2 aL aC ip2_moats ip2_spades ip2_tides, oX5 aL iL_cells]) rfl ?_
  obtain ⟨r2, h2, hf⟩ := fx_bind hf
  refine a_fV C (kX6_value l D Y ap1 ip1_length ip1_at ip1_sign ip1_bad cp1_codes cp1_stack (jrem (ip2_tides + x3) (8 : Int32)) io_wind iL_cells r1 r2 h2) gX11_heightOf_X6_value rfl dvX6_value ⟨⟨rfl, rfl⟩, ⟨Nat.le_of_ble_eq_true rfl, Nat.le_of_ble_eq_true rfl⟩, ⟨Nat.le_of_ble_eq_true rfl, Nat.le_of_ble_eq_true rfl⟩⟩ rfl (Nat.le_of_ble_eq_true rfl) dX11_heightOf_28 rfl rfl [1, 2, 3] rfl rfl rfl (wn := [oX11 ao atext atold aL aC alaw aotherLaw anow atrial ahistory aguess acrewPlan amoatPlan achance io_wind io_spadeLimit, oX6 ap1 ip1_length ip1_at ip1_sign ip1_bad, rI Y (ap1 1) 40 cp1_codes, rI Y (ap1 2) 40 r2.2, oX9 ap2 aL aC ip2_moats ip2_spades ip2_tides, oX5 aL iL_cells]) rfl ?_
  obtain rfl := fx_some hf
  exact a_iret C hQ dX11_heightOf_31 ⟨rfl, rfl⟩
-- X11_breaksOf
abbrev rmX11_breaksOf : Room := { frames := 4, cells := 0, slots := 0, locals := 92 }
theorem dvX11_breaksOf : yX11_breaksOf.cls = RX11 ∧ yX11_breaksOf.cls ≠ "java/lang/invoke/MethodHandle" ∧ yX11_breaksOf.cls ≠ "java/lang/invoke/VarHandle" ∧ (parseMethodDescriptor yX11_breaksOf.desc).map (fun d => d.parameters.length) = some 2 := by decide +kernel
theorem eX11_breaksOf_inX11 : ∀ w ∈ wsX110, w ∈ wsX11_breaksOf := by decide +kernel
theorem eX11_breaksOf_60 : aF wsX11_breaksOf RX11 60 11 9 := ⟨RX11, TX11, 17, rfl, eX11_breaksOf_inX11, by decide, by decide +kernel⟩
theorem eX11_breaksOf_56 : aF wsX11_breaksOf RX11 56 11 8 := ⟨RX11, TX11, 17, rfl, eX11_breaksOf_inX11, by decide, by decide +kernel⟩
def fX11_breaksOf_b51 (io_wind : Int32) (ip1_length : Int32) (cp1_codes : Nat → Int32) (cp1_stack : Nat → Int32) (iL_cells : Int32) (cL_base : Nat → Int32) (cL_dyke : Nat → Int32) (inow_moats : Int32) (inow_spades : Int32) (inow_tides : Int32) (cnow_wall : Nat → Int32) (cnow_depth : Nat → Int32) (cnow_mood : Nat → Int32) (cnow_place : Nat → Int32) (itrial_moats : Int32) (itrial_spades : Int32) (itrial_tides : Int32) (ctrial_wall : Nat → Int32) (ctrial_depth : Nat → Int32) (ctrial_mood : Nat → Int32) (ctrial_place : Nat → Int32) (x3 : Int32) : Option (Int32 × (Nat → Int32) × Int32 × Int32 × Int32 × (Nat → Int32) × (Nat → Int32) × (Nat → Int32) × (Nat → Int32)) :=
  some (x3, cp1_stack, itrial_moats, itrial_spades, itrial_tides, ctrial_wall, ctrial_depth, ctrial_mood, ctrial_place)
set_option maxHeartbeats 4000000 in
set_option maxRecDepth 100000 in
theorem kX11_breaksOf_b51 {X : cxT} {l : Launch} {D : va_G} {Y : Nat → ClassId} {ao atext atold aL aC alaw aotherLaw anow atrial ahistory aguess acrewPlan amoatPlan achance ap1 : Nat → Nat} {io_wind : Int32} {io_spadeLimit : Int32} {ip1_length : Int32} {ip1_at : Int32} {ip1_sign : Int32} {ip1_bad : Int32} {cp1_codes : Nat → Int32} {cp1_stack : Nat → Int32} {iL_cells : Int32} {cL_base : Nat → Int32} {cL_dyke : Nat → Int32} {inow_moats : Int32} {inow_spades : Int32} {inow_tides : Int32} {cnow_wall : Nat → Int32} {cnow_depth : Nat → Int32} {cnow_mood : Nat → Int32} {cnow_place : Nat → Int32} {itrial_moats : Int32} {itrial_spades : Int32} {itrial_tides : Int32} {ctrial_wall : Nat → Int32} {ctrial_depth : Nat → Int32} {ctrial_mood : Nat → Int32} {ctrial_place : Nat → Int32} {x3 : Int32} {res : Int32 × (Nat → Int32) × Int32 × Int32 × Int32 × (Nat → Int32) × (Nat → Int32) × (Nat → Int32) × (Nat → Int32)} (C : axC X l D Y cX11_breaksOf 5 RX11 wsX11_breaksOf rmX11_breaksOf (some .int)) (hQ : axQ X 0 0 (fun r9 w9 => r9 = (some (.int res.1)) ∧ w9 = [oX11 ao atext atold aL aC alaw aotherLaw anow atrial ahistory aguess acrewPlan amoatPlan achance io_wind io_spadeLimit, oX6 ap1 ip1_length ip1_at ip1_sign ip1_bad, rI Y (ap1 1) 40 cp1_codes, rI Y (ap1 2) 40 res.2.1, oX5 aL iL_cells, rI Y (aL 1) 12 cL_base, rI Y (aL 2) 12 cL_dyke, oX9 anow aL aC inow_moats inow_spades inow_tides, rI Y (anow 1) 12 cnow_wall, rI Y (anow 2) 12 cnow_depth, rI Y (anow 3) 8 cnow_mood, rI Y (anow 4) 8 cnow_place, oX9 atrial aL aC res.2.2.1 res.2.2.2.1 res.2.2.2.2.1, rI Y (atrial 1) 12 res.2.2.2.2.2.1, rI Y (atrial 2) 12 res.2.2.2.2.2.2.1, rI Y (atrial 3) 8 res.2.2.2.2.2.2.2.1, rI Y (atrial 4) 8 res.2.2.2.2.2.2.2.2])) (hf : fX11_breaksOf_b51 io_wind ip1_length cp1_codes cp1_stack iL_cells cL_base cL_dyke inow_moats inow_spades inow_tides cnow_wall cnow_depth cnow_mood cnow_place itrial_moats itrial_spades itrial_tides ctrial_wall ctrial_depth ctrial_mood ctrial_place x3 = some res) : ax X 0 0 51 [none, none, none, some (.int x3), none] [oX11 ao atext atold aL aC alaw aotherLaw anow atrial ahistory aguess acrewPlan amoatPlan achance io_wind io_spadeLimit, oX6 ap1 ip1_length ip1_at ip1_sign ip1_bad, rI Y (ap1 1) 40 cp1_codes, rI Y (ap1 2) 40 cp1_stack, oX5 aL iL_cells, rI Y (aL 1) 12 cL_base, rI Y (aL 2) 12 cL_dyke, oX9 anow aL aC inow_moats inow_spades inow_tides, rI Y (anow 1) 12 cnow_wall, rI Y (anow 2) 12 cnow_depth, rI Y (anow 3) 8 cnow_mood, rI Y (anow 4) 8 cnow_place, oX9 atrial aL aC itrial_moats itrial_spades itrial_tides, rI Y (atrial 1) 12 ctrial_wall, rI Y (atrial 2) 12 ctrial_depth, rI Y (atrial 3) 8 ctrial_mood, rI Y (atrial 4) 8 ctrial_place] [] := by
  unfold fX11_breaksOf_b51 at hf
  refine a_iload_n C dX11_breaksOf_51 rfl ?_
  obtain rfl := fx_some hf
  exact a_iret C hQ dX11_breaksOf_52 ⟨rfl, rfl⟩
def fX11_breaksOf_b45 (io_wind : Int32) (ip1_length : Int32) (cp1_codes : Nat → Int32) (cp1_stack : Nat → Int32) (iL_cells : Int32) (cL_base : Nat → Int32) (cL_dyke : Nat → Int32) (inow_moats : Int32) (inow_spades : Int32) (inow_tides : Int32) (cnow_wall : Nat → Int32) (cnow_depth : Nat → Int32) (cnow_mood : Nat → Int32) (cnow_place : Nat → Int32) (itrial_moats : Int32) (itrial_spades : Int32) (itrial_tides : Int32) (ctrial_wall : Nat → Int32) (ctrial_depth : Nat → Int32) (ctrial_mood : Nat → Int32) (ctrial_place : Nat → Int32) (x2 : Int32) (x3 : Int32) (x4 : Int32) (k16 : (Nat → Int32) × Int32 × Int32 × (Nat → Int32) × (Nat → Int32) × Int32 × Int32 → Option (Int32 × (Nat → Int32) × Int32 × Int32 × Int32 × (Nat → Int32) × (Nat → Int32) × (Nat → Int32) × (Nat → Int32))) : Option (Int32 × (Nat → Int32) × Int32 × Int32 × Int32 × (Nat → Int32) × (Nat → Int32) × (Nat → Int32) × (Nat → Int32)) :=
  k16 (cp1_stack, itrial_moats, itrial_tides, ctrial_wall, ctrial_depth, x3, (x4 + (1 : Int32)))
set_option maxHeartbeats 4000000 in
set_option maxRecDepth 100000 in
theorem kX11_breaksOf_b45 {X : cxT} {l : Launch} {D : va_G} {Y : Nat → ClassId} {ao atext atold aL aC alaw aotherLaw anow atrial ahistory aguess acrewPlan amoatPlan achance ap1 : Nat → Nat} {io_wind : Int32} {io_spadeLimit : Int32} {ip1_length : Int32} {ip1_at : Int32} {ip1_sign : Int32} {ip1_bad : Int32} {cp1_codes : Nat → Int32} {cp1_stack : Nat → Int32} {iL_cells : Int32} {cL_base : Nat → Int32} {cL_dyke : Nat → Int32} {inow_moats : Int32} {inow_spades : Int32} {inow_tides : Int32} {cnow_wall : Nat → Int32} {cnow_depth : Nat → Int32} {cnow_mood : Nat → Int32} {cnow_place : Nat → Int32} {itrial_moats : Int32} {itrial_spades : Int32} {itrial_tides : Int32} {ctrial_wall : Nat → Int32} {ctrial_depth : Nat → Int32} {ctrial_mood : Nat → Int32} {ctrial_place : Nat → Int32} {x2 : Int32} {x3 : Int32} {x4 : Int32} {res : Int32 × (Nat → Int32) × Int32 × Int32 × Int32 × (Nat → Int32) × (Nat → Int32) × (Nat → Int32) × (Nat → Int32)} (C : axC X l D Y cX11_breaksOf 5 RX11 wsX11_breaksOf rmX11_breaksOf (some .int)) (hQ : axQ X 0 0 (fun r9 w9 => r9 = (some (.int res.1)) ∧ w9 = [oX11 ao atext atold aL aC alaw aotherLaw anow atrial ahistory aguess acrewPlan amoatPlan achance io_wind io_spadeLimit, oX6 ap1 ip1_length ip1_at ip1_sign ip1_bad, rI Y (ap1 1) 40 cp1_codes, rI Y (ap1 2) 40 res.2.1, oX5 aL iL_cells, rI Y (aL 1) 12 cL_base, rI Y (aL 2) 12 cL_dyke, oX9 anow aL aC inow_moats inow_spades inow_tides, rI Y (anow 1) 12 cnow_wall, rI Y (anow 2) 12 cnow_depth, rI Y (anow 3) 8 cnow_mood, rI Y (anow 4) 8 cnow_place, oX9 atrial aL aC res.2.2.1 res.2.2.2.1 res.2.2.2.2.1, rI Y (atrial 1) 12 res.2.2.2.2.2.1, rI Y (atrial 2) 12 res.2.2.2.2.2.2.1, rI Y (atrial 3) 8 res.2.2.2.2.2.2.2.1, rI Y (atrial 4) 8 res.2.2.2.2.2.2.2.2])) {k16 : (Nat → Int32) × Int32 × Int32 × (Nat → Int32) × (Nat → Int32) × Int32 × Int32 → Option (Int32 × (Nat → Int32) × Int32 × Int32 × Int32 × (Nat → Int32) × (Nat → Int32) × (Nat → Int32) × (Nat → Int32))} (hk16 : ∀ s : (Nat → Int32) × Int32 × Int32 × (Nat → Int32) × (Nat → Int32) × Int32 × Int32, k16 s = some res → ax X 0 0 16 [some (.ref (ao 0)), some (.ref (ap1 0)), some (.int x2), some (.int s.2.2.2.2.2.1), some (.int s.2.2.2.2.2.2)] [oX11 ao atext atold aL aC alaw aotherLaw anow atrial ahistory aguess acrewPlan amoatPlan achance io_wind io_spadeLimit, oX6 ap1 ip1_length ip1_at ip1_sign ip1_bad, rI Y (ap1 1) 40 cp1_codes, rI Y (ap1 2) 40 s.1, oX5 aL iL_cells, rI Y (aL 1) 12 cL_base, rI Y (aL 2) 12 cL_dyke, oX9 anow aL aC inow_moats inow_spades inow_tides, rI Y (anow 1) 12 cnow_wall, rI Y (anow 2) 12 cnow_depth, rI Y (anow 3) 8 cnow_mood, rI Y (anow 4) 8 cnow_place, oX9 atrial aL aC s.2.1 itrial_spades s.2.2.1, rI Y (atrial 1) 12 s.2.2.2.1, rI Y (atrial 2) 12 s.2.2.2.2.1, rI Y (atrial 3) 8 ctrial_mood, rI Y (atrial 4) 8 ctrial_place] []) (hf : fX11_breaksOf_b45 io_wind ip1_length cp1_codes cp1_stack iL_cells cL_base cL_dyke inow_moats inow_spades inow_tides cnow_wall cnow_depth cnow_mood cnow_place itrial_moats itrial_spades itrial_tides ctrial_wall ctrial_depth ctrial_mood ctrial_place x2 x3 x4 k16 = some res) : ax X 0 0 45 [some (.ref (ao 0)), some (.ref (ap1 0)), some (.int x2), some (.int x3), some (.int x4)] [oX11 ao atext atold aL aC alaw aotherLaw anow atrial ahistory aguess acrewPlan amoatPlan achance io_wind io_spadeLimit, oX6 ap1 ip1_length ip1_at ip1_sign ip1_bad, rI Y (ap1 1) 40 cp1_codes, rI Y (ap1 2) 40 cp1_stack, oX5 aL iL_cells, rI Y (aL 1) 12 cL_base, rI Y (aL 2) 12 cL_dyke, oX9 anow aL aC inow_moats inow_spades inow_tides, rI Y (anow 1) 12 cnow_wall, rI Y (anow 2) 12 cnow_depth, rI Y (anow 3) 8 cnow_mood, rI Y (anow 4) 8 cnow_place, oX9 atrial aL aC itrial_moats itrial_spades itrial_tides, rI Y (atrial 1) 12 ctrial_wall, rI Y (atrial 2) 12 ctrial_depth, rI Y (atrial 3) 8 ctrial_mood, rI Y (atrial 4) 8 ctrial_place] [] := by
  unfold fX11_breaksOf_b45 at hf
  refine a_iinc C (1 : Int32) dX11_breaksOf_45 (by decide) rfl (by decide) rfl ?_
  refine a_goto C 16 dX11_breaksOf_48 (by decide) ?_
  exact hk16 (cp1_stack, itrial_moats, itrial_tides, ctrial_wall, ctrial_depth, x3, (x4 + (1 : Int32))) hf
def fX11_breaksOf_l16 (io_wind : Int32) (ip1_length : Int32) (cp1_codes : Nat → Int32) (iL_cells : Int32) (cL_base : Nat → Int32) (cL_dyke : Nat → Int32) (inow_moats : Int32) (inow_spades : Int32) (inow_tides : Int32) (cnow_wall : Nat → Int32) (cnow_depth : Nat → Int32) (cnow_mood : Nat → Int32) (cnow_place : Nat → Int32) (itrial_spades : Int32) (ctrial_mood : Nat → Int32) (ctrial_place : Nat → Int32) (x2 : Int32) (k16 : (Nat → Int32) × Int32 × Int32 × (Nat → Int32) × (Nat → Int32) × Int32 × Int32 → Option (Int32 × (Nat → Int32) × Int32 × Int32 × Int32 × (Nat → Int32) × (Nat → Int32) × (Nat → Int32) × (Nat → Int32))) (cp1_stack : Nat → Int32) (itrial_moats : Int32) (itrial_tides : Int32) (ctrial_wall : Nat → Int32) (ctrial_depth : Nat → Int32) (x3 : Int32) (x4 : Int32) : Option (Int32 × (Nat → Int32) × Int32 × Int32 × Int32 × (Nat → Int32) × (Nat → Int32) × (Nat → Int32) × (Nat → Int32)) :=
  if x2 ≤ x4 then (fX11_breaksOf_b51 io_wind ip1_length cp1_codes cp1_stack iL_cells cL_base cL_dyke inow_moats inow_spades inow_tides cnow_wall cnow_depth cnow_mood cnow_place itrial_moats itrial_spades itrial_tides ctrial_wall ctrial_depth ctrial_mood ctrial_place x3) else ((fX11_heightOf io_wind ip1_length cp1_codes cp1_stack itrial_moats itrial_tides iL_cells (0 : Int32)).bind (fun r2 => (fX9_surge itrial_moats itrial_tides ctrial_wall ctrial_depth iL_cells cL_base cL_dyke r2.1).bind (fun r3 => if r3.1 = (0 : Int32) then (fX11_breaksOf_b45 io_wind ip1_length cp1_codes r2.2 iL_cells cL_base cL_dyke inow_moats inow_spades inow_tides cnow_wall cnow_depth cnow_mood cnow_place r3.2.1 itrial_spades r3.2.2.1 r3.2.2.2.1 r3.2.2.2.2 ctrial_mood ctrial_place x2 x3 x4 k16) else (fX11_breaksOf_b45 io_wind ip1_length cp1_codes r2.2 iL_cells cL_base cL_dyke inow_moats inow_spades inow_tides cnow_wall cnow_depth cnow_mood cnow_place r3.2.1 itrial_spades r3.2.2.1 r3.2.2.2.1 r3.2.2.2.2 ctrial_mood ctrial_place x2 (x3 + (1 : Int32)) x4 k16))))
def fX11_breaksOf_b16 (io_wind : Int32) (ip1_length : Int32) (cp1_codes : Nat → Int32) (cp1_stack : Nat → Int32) (iL_cells : Int32) (cL_base : Nat → Int32) (cL_dyke : Nat → Int32) (inow_moats : Int32) (inow_spades : Int32) (inow_tides : Int32) (cnow_wall : Nat → Int32) (cnow_depth : Nat → Int32) (cnow_mood : Nat → Int32) (cnow_place : Nat → Int32) (itrial_moats : Int32) (itrial_spades : Int32) (itrial_tides : Int32) (ctrial_wall : Nat → Int32) (ctrial_depth : Nat → Int32) (ctrial_mood : Nat → Int32) (ctrial_place : Nat → Int32) (x2 : Int32) (x3 : Int32) (x4 : Int32) : Option (Int32 × (Nat → Int32) × Int32 × Int32 × Int32 × (Nat → Int32) × (Nat → Int32) × (Nat → Int32) × (Nat → Int32)) :=
  loopN (fun (s : (Nat → Int32) × Int32 × Int32 × (Nat → Int32) × (Nat → Int32) × Int32 × Int32) k16 => fX11_breaksOf_l16 io_wind ip1_length cp1_codes iL_cells cL_base cL_dyke inow_moats inow_spades inow_tides cnow_wall cnow_depth cnow_mood cnow_place itrial_spades ctrial_mood ctrial_place x2 k16 s.1 s.2.1 s.2.2.1 s.2.2.2.1 s.2.2.2.2.1 s.2.2.2.2.2.1 s.2.2.2.2.2.2) FUEL (cp1_stack, itrial_moats, itrial_tides, ctrial_wall, ctrial_depth, x3, x4)
set_option maxHeartbeats 4000000 in
set_option maxRecDepth 100000 in
theorem kX11_breaksOf_l16 {X : cxT} {l : Launch} {D : va_G} {Y : Nat → ClassId} {ao atext atold aL aC alaw aotherLaw anow atrial ahistory aguess acrewPlan amoatPlan achance ap1 : Nat → Nat} {io_wind : Int32} {io_spadeLimit : Int32} {ip1_length : Int32} {ip1_at : Int32} {ip1_sign : Int32} {ip1_bad : Int32} {cp1_codes : Nat → Int32} {cp1_stack : Nat → Int32} {iL_cells : Int32} {cL_base : Nat → Int32} {cL_dyke : Nat → Int32} {inow_moats : Int32} {inow_spades : Int32} {inow_tides : Int32} {cnow_wall : Nat → Int32} {cnow_depth : Nat → Int32} {cnow_mood : Nat → Int32} {cnow_place : Nat → Int32} {itrial_moats : Int32} {itrial_spades : Int32} {itrial_tides : Int32} {ctrial_wall : Nat → Int32} {ctrial_depth : Nat → Int32} {ctrial_mood : Nat → Int32} {ctrial_place : Nat → Int32} {x2 : Int32} {x3 : Int32} {x4 : Int32} {res : Int32 × (Nat → Int32) × Int32 × Int32 × Int32 × (Nat → Int32) × (Nat → Int32) × (Nat → Int32) × (Nat → Int32)} (C : axC X l D Y cX11_breaksOf 5 RX11 wsX11_breaksOf rmX11_breaksOf (some .int)) (hQ : axQ X 0 0 (fun r9 w9 => r9 = (some (.int res.1)) ∧ w9 = [oX11 ao atext atold aL aC alaw aotherLaw anow atrial ahistory aguess acrewPlan amoatPlan achance io_wind io_spadeLimit, oX6 ap1 ip1_length ip1_at ip1_sign ip1_bad, rI Y (ap1 1) 40 cp1_codes, rI Y (ap1 2) 40 res.2.1, oX5 aL iL_cells, rI Y (aL 1) 12 cL_base, rI Y (aL 2) 12 cL_dyke, oX9 anow aL aC inow_moats inow_spades inow_tides, rI Y (anow 1) 12 cnow_wall, rI Y (anow 2) 12 cnow_depth, rI Y (anow 3) 8 cnow_mood, rI Y (anow 4) 8 cnow_place, oX9 atrial aL aC res.2.2.1 res.2.2.2.1 res.2.2.2.2.1, rI Y (atrial 1) 12 res.2.2.2.2.2.1, rI Y (atrial 2) 12 res.2.2.2.2.2.2.1, rI Y (atrial 3) 8 res.2.2.2.2.2.2.2.1, rI Y (atrial 4) 8 res.2.2.2.2.2.2.2.2])) {k16 : (Nat → Int32) × Int32 × Int32 × (Nat → Int32) × (Nat → Int32) × Int32 × Int32 → Option (Int32 × (Nat → Int32) × Int32 × Int32 × Int32 × (Nat → Int32) × (Nat → Int32) × (Nat → Int32) × (Nat → Int32))} (hk16 : ∀ s : (Nat → Int32) × Int32 × Int32 × (Nat → Int32) × (Nat → Int32) × Int32 × Int32, k16 s = some res → ax X 0 0 16 [some (.ref (ao 0)), some (.ref (ap1 0)), some (.int x2), some (.int s.2.2.2.2.2.1), some (.int s.2.2.2.2.2.2)] [oX11 ao atext atold aL aC alaw aotherLaw anow atrial ahistory aguess acrewPlan amoatPlan achance io_wind io_spadeLimit, oX6 ap1 ip1_length ip1_at ip1_sign ip1_bad, rI Y (ap1 1) 40 cp1_codes, rI Y (ap1 2) 40 s.1, oX5 aL iL_cells, rI Y (aL 1) 12 cL_base, rI Y (aL 2) 12 cL_dyke, oX9 anow aL aC inow_moats inow_spades inow_tides, rI Y (anow 1) 12 cnow_wall, rI Y (anow 2) 12 cnow_depth, rI Y (anow 3) 8 cnow_mood, rI Y (anow 4) 8 cnow_place, oX9 atrial aL aC s.2.1 itrial_spades s.2.2.1, rI Y (atrial 1) 12 s.2.2.2.1, rI Y (atrial 2) 12 s.2.2.2.2.1, rI Y (atrial 3) 8 ctrial_mood, rI Y (atrial 4) 8 ctrial_place] []) (hf : fX11_breaksOf_l16 io_wind ip1_length cp1_codes iL_cells cL_base cL_dyke inow_moats inow_spades inow_tides cnow_wall cnow_depth cnow_mood cnow_place itrial_spades ctrial_mood ctrial_place x2 k16 cp1_stack itrial_moats itrial_tides ctrial_wall ctrial_depth x3 x4 = some res) : ax X 0 0 16 [some (.ref (ao 0)), some (.ref (ap1 0)), some (.int x2), some (.int x3), some (.int x4)] [oX11 ao atext atold aL aC alaw aotherLaw anow atrial ahistory aguess acrewPlan amoatPlan achance io_wind io_spadeLimit, oX6 ap1 ip1_length ip1_at ip1_sign ip1_bad, rI Y (ap1 1) 40 cp1_codes, rI Y (ap1 2) 40 cp1_stack, oX5 aL iL_cells, rI Y (aL 1) 12 cL_base, rI Y (aL 2) 12 cL_dyke, oX9 anow aL aC inow_moats inow_spades inow_tides, rI Y (anow 1) 12 cnow_wall, rI Y (anow 2) 12 cnow_depth, rI Y (anow 3) 8 cnow_mood, rI Y (anow 4) 8 cnow_place, oX9 atrial aL aC itrial_moats itrial_spades itrial_tides, rI Y (atrial 1) 12 ctrial_wall, rI Y (atrial 2) 12 ctrial_depth, rI Y (atrial 3) 8 ctrial_mood, rI Y (atrial 4) 8 ctrial_place] [] := by
  unfold fX11_breaksOf_l16 at hf
  refine a_iload C dX11_breaksOf_16 rfl ?_
  refine a_iload_n C dX11_breaksOf_18 rfl ?_
  refine a_icmp_ge C 51 dX11_breaksOf_19 (by decide) (fun h1 => ?_) (fun h1 => ?_)
  · have hf := fx_t h1 hf
    refine a_kill [0, 1, 2, 4] ?_
    exact kX11_breaksOf_b51 C hQ hf
  · have hf := fx_f h1 hf
    refine a_aload_n C dX11_breaksOf_22 rfl ?_
    refine a_get C eX11_breaksOf_60 dX11_breaksOf_23 0 rfl rfl ?_
    refine a_aload_n C dX11_breaksOf_26 rfl ?_
    refine a_aload_n C dX11_breaksOf_27 rfl ?_
    refine a_aload_n C dX11_breaksOf_28 rfl ?_
    refine a_get C eX11_breaksOf_60 dX11_breaksOf_29 0 rfl rfl ?_
    refine a_iconst C (0 : Int32) dX11_breaksOf_32 (by decide) ?_
    obtain ⟨r2, h2, hf⟩ := fx_bind hf
    refine a_fV C (kX11_heightOf l D Y ao atext atold aL aC alaw aotherLaw anow atrial ahistory aguess acrewPlan amoatPlan achance ap1 atrial io_wind io_spadeLimit ip1_length ip1_at ip1_sign ip1_bad cp1_codes cp1_stack itrial_moats itrial_spades itrial_tides iL_cells (0 : Int32) r2 h2) gX11_breaksOf_X11_heightOf rfl dvX11_heightOf ⟨⟨rfl, rfl⟩, ⟨Nat.le_of_ble_eq_true rfl, Nat.le_of_ble_eq_true rfl⟩, ⟨Nat.le_of_ble_eq_true rfl, Nat.le_of_ble_eq_true rfl⟩⟩ rfl (Nat.le_of_ble_eq_true rfl) dX11_breaksOf_33 rfl rfl [0, 1, 2, 3, 12, 4] rfl rfl rfl (wn := [oX11 ao atext atold aL aC alaw aotherLaw anow atrial ahistory aguess acrewPlan amoatPlan achance io_wind io_spadeLimit, oX6 ap1 ip1_length ip1_at ip1_sign ip1_bad, rI Y (ap1 1) 40 cp1_codes, rI Y (ap1 2) 40 r2.2, oX5 aL iL_cells, rI Y (aL 1) 12 cL_base, rI Y (aL 2) 12 cL_dyke, oX9 anow aL aC inow_moats inow_spades inow_tides, rI Y (anow 1) 12 cnow_wall, rI Y (anow 2) 12 cnow_depth, rI Y (anow 3) 8 cnow_mood, rI Y (anow 4) 8 cnow_place, oX9 atrial aL aC itrial_moats itrial_spades itrial_tides, rI Y (atrial 1) 12 ctrial_wall, rI Y (atrial 2) 12 ctrial_depth, rI Y (atrial 3) 8 ctrial_mood, rI Y (atrial 4) 8 ctrial_place]) rfl ?_
    obtain ⟨r3, h3, hf⟩ := fx_bind hf
    refine a_fV C (kX9_surge l D Y atrial aL aC itrial_moats itrial_spades itrial_tides ctrial_wall ctrial_depth iL_cells cL_base cL_dyke r2.1 r3 h3) gX11_breaksOf_X9_surge rfl dvX9_surge ⟨⟨rfl, rfl⟩, ⟨Nat.le_of_ble_eq_true rfl, Nat.le_of_ble_eq_true rfl⟩, ⟨Nat.le_of_ble_eq_true rfl, Nat.le_of_ble_eq_true rfl⟩⟩ rfl (Nat.le_of_ble_eq_true rfl) dX11_breaksOf_36 rfl rfl [12, 13, 14, 4, 5, 6] rfl rfl rfl (wn := [oX11 ao atext atold aL aC alaw aotherLaw anow atrial ahistory aguess acrewPlan amoatPlan achance io_wind io_spadeLimit, oX6 ap1 ip1_length ip1_at ip1_sign ip1_bad, rI Y (ap1 1) 40 cp1_codes, rI Y (ap1 2) 40 r2.2, oX5 aL iL_cells, rI Y (aL 1) 12 cL_base, rI Y (aL 2) 12 cL_dyke, oX9 anow aL aC inow_moats inow_spades inow_tides, rI Y (anow 1) 12 cnow_wall, rI Y (anow 2) 12 cnow_depth, rI Y (anow 3) 8 cnow_mood, rI Y (anow 4) 8 cnow_place, oX9 atrial aL aC r3.2.1 itrial_spades r3.2.2.1, rI Y (atrial 1) 12 r3.2.2.2.1, rI Y (atrial 2) 12 r3.2.2.2.2, rI Y (atrial 3) 8 ctrial_mood, rI Y (atrial 4) 8 ctrial_place]) rfl ?_
    refine a_if_eq C 45 dX11_breaksOf_39 (by decide) (fun h4 => ?_) (fun h4 => ?_)
    · have hf := fx_t h4 hf
      exact kX11_breaksOf_b45 C hQ hk16 hf
    · have hf := fx_f h4 hf
      refine a_iinc C (1 : Int32) dX11_breaksOf_42 (by decide) rfl (by decide) rfl ?_
      exact kX11_breaksOf_b45 C hQ hk16 hf
set_option maxHeartbeats 4000000 in
set_option maxRecDepth 100000 in
theorem kX11_breaksOf_b16 {X : cxT} {l : Launch} {D : va_G} {Y : Nat → ClassId} {ao atext atold aL aC alaw aotherLaw anow atrial ahistory aguess acrewPlan amoatPlan achance ap1 : Nat → Nat} {io_wind : Int32} {io_spadeLimit : Int32} {ip1_length : Int32} {ip1_at : Int32} {ip1_sign : Int32} {ip1_bad : Int32} {cp1_codes : Nat → Int32} {cp1_stack : Nat → Int32} {iL_cells : Int32} {cL_base : Nat → Int32} {cL_dyke : Nat → Int32} {inow_moats : Int32} {inow_spades : Int32} {inow_tides : Int32} {cnow_wall : Nat → Int32} {cnow_depth : Nat → Int32} {cnow_mood : Nat → Int32} {cnow_place : Nat → Int32} {itrial_moats : Int32} {itrial_spades : Int32} {itrial_tides : Int32} {ctrial_wall : Nat → Int32} {ctrial_depth : Nat → Int32} {ctrial_mood : Nat → Int32} {ctrial_place : Nat → Int32} {x2 : Int32} {x3 : Int32} {x4 : Int32} {res : Int32 × (Nat → Int32) × Int32 × Int32 × Int32 × (Nat → Int32) × (Nat → Int32) × (Nat → Int32) × (Nat → Int32)} (C : axC X l D Y cX11_breaksOf 5 RX11 wsX11_breaksOf rmX11_breaksOf (some .int)) (hQ : axQ X 0 0 (fun r9 w9 => r9 = (some (.int res.1)) ∧ w9 = [oX11 ao atext atold aL aC alaw aotherLaw anow atrial ahistory aguess acrewPlan amoatPlan achance io_wind io_spadeLimit, oX6 ap1 ip1_length ip1_at ip1_sign ip1_bad, rI Y (ap1 1) 40 cp1_codes, rI Y (ap1 2) 40 res.2.1, oX5 aL iL_cells, rI Y (aL 1) 12 cL_base, rI Y (aL 2) 12 cL_dyke, oX9 anow aL aC inow_moats inow_spades inow_tides, rI Y (anow 1) 12 cnow_wall, rI Y (anow 2) 12 cnow_depth, rI Y (anow 3) 8 cnow_mood, rI Y (anow 4) 8 cnow_place, oX9 atrial aL aC res.2.2.1 res.2.2.2.1 res.2.2.2.2.1, rI Y (atrial 1) 12 res.2.2.2.2.2.1, rI Y (atrial 2) 12 res.2.2.2.2.2.2.1, rI Y (atrial 3) 8 res.2.2.2.2.2.2.2.1, rI Y (atrial 4) 8 res.2.2.2.2.2.2.2.2])) (hf : fX11_breaksOf_b16 io_wind ip1_length cp1_codes cp1_stack iL_cells cL_base cL_dyke inow_moats inow_spades inow_tides cnow_wall cnow_depth cnow_mood cnow_place itrial_moats itrial_spades itrial_tides ctrial_wall ctrial_depth ctrial_mood ctrial_place x2 x3 x4 = some res) : ax X 0 0 16 [some (.ref (ao 0)), some (.ref (ap1 0)), some (.int x2), some (.int x3), some (.int x4)] [oX11 ao atext atold aL aC alaw aotherLaw anow atrial ahistory aguess acrewPlan amoatPlan achance io_wind io_spadeLimit, oX6 ap1 ip1_length ip1_at ip1_sign ip1_bad, rI Y (ap1 1) 40 cp1_codes, rI Y (ap1 2) 40 cp1_stack, oX5 aL iL_cells, rI Y (aL 1) 12 cL_base, rI Y (aL 2) 12 cL_dyke, oX9 anow aL aC inow_moats inow_spades inow_tides, rI Y (anow 1) 12 cnow_wall, rI Y (anow 2) 12 cnow_depth, rI Y (anow 3) 8 cnow_mood, rI Y (anow 4) 8 cnow_place, oX9 atrial aL aC itrial_moats itrial_spades itrial_tides, rI Y (atrial 1) 12 ctrial_wall, rI Y (atrial 2) 12 ctrial_depth, rI Y (atrial 3) 8 ctrial_mood, rI Y (atrial 4) 8 ctrial_place] [] := by
  unfold fX11_breaksOf_b16 at hf
  exact fx_loop (P := fun s : (Nat → Int32) × Int32 × Int32 × (Nat → Int32) × (Nat → Int32) × Int32 × Int32 => ax X 0 0 16 [some (.ref (ao 0)), some (.ref (ap1 0)), some (.int x2), some (.int s.2.2.2.2.2.1), some (.int s.2.2.2.2.2.2)] [oX11 ao atext atold aL aC alaw aotherLaw anow atrial ahistory aguess acrewPlan amoatPlan achance io_wind io_spadeLimit, oX6 ap1 ip1_length ip1_at ip1_sign ip1_bad, rI Y (ap1 1) 40 cp1_codes, rI Y (ap1 2) 40 s.1, oX5 aL iL_cells, rI Y (aL 1) 12 cL_base, rI Y (aL 2) 12 cL_dyke, oX9 anow aL aC inow_moats inow_spades inow_tides, rI Y (anow 1) 12 cnow_wall, rI Y (anow 2) 12 cnow_depth, rI Y (anow 3) 8 cnow_mood, rI Y (anow 4) 8 cnow_place, oX9 atrial aL aC s.2.1 itrial_spades s.2.2.1, rI Y (atrial 1) 12 s.2.2.2.1, rI Y (atrial 2) 12 s.2.2.2.2.1, rI Y (atrial 3) 8 ctrial_mood, rI Y (atrial 4) 8 ctrial_place] []) (fun s k16 hk16 h => kX11_breaksOf_l16 C hQ hk16 h) FUEL (cp1_stack, itrial_moats, itrial_tides, ctrial_wall, ctrial_depth, x3, x4) hf
def fX11_breaksOf (io_wind : Int32) (ip1_length : Int32) (cp1_codes : Nat → Int32) (cp1_stack : Nat → Int32) (iL_cells : Int32) (cL_base : Nat → Int32) (cL_dyke : Nat → Int32) (inow_moats : Int32) (inow_spades : Int32) (inow_tides : Int32) (cnow_wall : Nat → Int32) (cnow_depth : Nat → Int32) (cnow_mood : Nat → Int32) (cnow_place : Nat → Int32) (itrial_moats : Int32) (itrial_spades : Int32) (itrial_tides : Int32) (ctrial_wall : Nat → Int32) (ctrial_depth : Nat → Int32) (ctrial_mood : Nat → Int32) (ctrial_place : Nat → Int32) (x2 : Int32) : Option (Int32 × (Nat → Int32) × Int32 × Int32 × Int32 × (Nat → Int32) × (Nat → Int32) × (Nat → Int32) × (Nat → Int32)) :=
  (fX9_copy itrial_moats itrial_spades itrial_tides ctrial_wall ctrial_depth ctrial_mood ctrial_place inow_moats inow_spades inow_tides cnow_wall cnow_depth cnow_mood cnow_place).bind (fun r5 => fX11_breaksOf_b16 io_wind ip1_length cp1_codes cp1_stack iL_cells cL_base cL_dyke inow_moats inow_spades inow_tides cnow_wall cnow_depth cnow_mood cnow_place r5.1 r5.2.1 r5.2.2.1 r5.2.2.2.1 r5.2.2.2.2.1 r5.2.2.2.2.2.1 r5.2.2.2.2.2.2 x2 (0 : Int32) (0 : Int32))
set_option maxHeartbeats 4000000 in
set_option maxRecDepth 100000 in
theorem kX11_breaksOf (l : Launch) (D : va_G) (Y : Nat → ClassId) (ao atext atold aL aC alaw aotherLaw anow atrial ahistory aguess acrewPlan amoatPlan achance ap1 : Nat → Nat) (io_wind : Int32) (io_spadeLimit : Int32) (ip1_length : Int32) (ip1_at : Int32) (ip1_sign : Int32) (ip1_bad : Int32) (cp1_codes : Nat → Int32) (cp1_stack : Nat → Int32) (iL_cells : Int32) (cL_base : Nat → Int32) (cL_dyke : Nat → Int32) (inow_moats : Int32) (inow_spades : Int32) (inow_tides : Int32) (cnow_wall : Nat → Int32) (cnow_depth : Nat → Int32) (cnow_mood : Nat → Int32) (cnow_place : Nat → Int32) (itrial_moats : Int32) (itrial_spades : Int32) (itrial_tides : Int32) (ctrial_wall : Nat → Int32) (ctrial_depth : Nat → Int32) (ctrial_mood : Nat → Int32) (ctrial_place : Nat → Int32) (x2 : Int32) (res : Int32 × (Nat → Int32) × Int32 × Int32 × Int32 × (Nat → Int32) × (Nat → Int32) × (Nat → Int32) × (Nat → Int32)) (hf : fX11_breaksOf io_wind ip1_length cp1_codes cp1_stack iL_cells cL_base cL_dyke inow_moats inow_spades inow_tides cnow_wall cnow_depth cnow_mood cnow_place itrial_moats itrial_spades itrial_tides ctrial_wall ctrial_depth ctrial_mood ctrial_place x2 = some res) : amf l D Y yX11_breaksOf wsX11_breaksOf rmX11_breaksOf [.ref (ao 0), .ref (ap1 0), .int x2] [oX11 ao atext atold aL aC alaw aotherLaw anow atrial ahistory aguess acrewPlan amoatPlan achance io_wind io_spadeLimit, oX6 ap1 ip1_length ip1_at ip1_sign ip1_bad, rI Y (ap1 1) 40 cp1_codes, rI Y (ap1 2) 40 cp1_stack, oX5 aL iL_cells, rI Y (aL 1) 12 cL_base, rI Y (aL 2) 12 cL_dyke, oX9 anow aL aC inow_moats inow_spades inow_tides, rI Y (anow 1) 12 cnow_wall, rI Y (anow 2) 12 cnow_depth, rI Y (anow 3) 8 cnow_mood, rI Y (anow 4) 8 cnow_place, oX9 atrial aL aC itrial_moats itrial_spades itrial_tides, rI Y (atrial 1) 12 ctrial_wall, rI Y (atrial 2) 12 ctrial_depth, rI Y (atrial 3) 8 ctrial_mood, rI Y (atrial 4) 8 ctrial_place] (some (.int res.1)) [oX11 ao atext atold aL aC alaw aotherLaw anow atrial ahistory aguess acrewPlan amoatPlan achance io_wind io_spadeLimit, oX6 ap1 ip1_length ip1_at ip1_sign ip1_bad, rI Y (ap1 1) 40 cp1_codes, rI Y (ap1 2) 40 res.2.1, oX5 aL iL_cells, rI Y (aL 1) 12 cL_base, rI Y (aL 2) 12 cL_dyke, oX9 anow aL aC inow_moats inow_spades inow_tides, rI Y (anow 1) 12 cnow_wall, rI Y (anow 2) 12 cnow_depth, rI Y (anow 3) 8 cnow_mood, rI Y (anow 4) 8 cnow_place, oX9 atrial aL aC res.2.2.1 res.2.2.2.1 res.2.2.2.2.1, rI Y (atrial 1) 12 res.2.2.2.2.2.1, rI Y (atrial 2) 12 res.2.2.2.2.2.2.1, rI Y (atrial 3) 8 res.2.2.2.2.2.2.2.1, rI Y (atrial 4) 8 res.2.2.2.2.2.2.2.2] := by
  refine amf.of (cc := cX11_breaksOf) (maxL := 5) (rt := (some .int)) (by decide) rfl RX11 rfl (Nat.le_of_ble_eq_true rfl) [some (.ref (ao 0)), some (.ref (ap1 0)), some (.int x2), none, none] rfl ?_
  intro X C hQ
  unfold fX11_breaksOf at hf
  refine a_aload_n C dX11_breaksOf_0 rfl ?_
  refine a_get C eX11_breaksOf_60 dX11_breaksOf_1 0 rfl rfl ?_
  refine a_aload_n C dX11_breaksOf_4 rfl ?_
  refine a_get C eX11_breaksOf_56 dX11_breaksOf_5 0 rfl rfl ?_
  obtain ⟨r5, h5, hf⟩ := fx_bind hf
  refine a_fV C (kX9_copy l D Y atrial aL aC anow itrial_moats itrial_spades itrial_tides ctrial_wall ctrial_depth ctrial_mood ctrial_place inow_moats inow_spades inow_tides cnow_wall cnow_depth cnow_mood cnow_place r5 h5) gX11_breaksOf_X9_copy rfl dvX9_copy ⟨⟨rfl, rfl⟩, ⟨Nat.le_of_ble_eq_true rfl, Nat.le_of_ble_eq_true rfl⟩, ⟨Nat.le_of_ble_eq_true rfl, Nat.le_of_ble_eq_true rfl⟩⟩ rfl (Nat.le_of_ble_eq_true rfl) dX11_breaksOf_8 rfl rfl [12, 13, 14, 15, 16, 7, 8, 9, 10, 11] rfl rfl rfl (wn := [oX11 ao atext atold aL aC alaw aotherLaw anow atrial ahistory aguess acrewPlan amoatPlan achance io_wind io_spadeLimit, oX6 ap1 ip1_length ip1_at ip1_sign ip1_bad, rI Y (ap1 1) 40 cp1_codes, rI Y (ap1 2) 40 cp1_stack, oX5 aL iL_cells, rI Y (aL 1) 12 cL_base, rI Y (aL 2) 12 cL_dyke, oX9 anow aL aC inow_moats inow_spades inow_tides, rI Y (anow 1) 12 cnow_wall, rI Y (anow 2) 12 cnow_depth, rI Y (anow 3) 8 cnow_mood, rI Y (anow 4) 8 cnow_place, oX9 atrial aL aC r5.1 r5.2.1 r5.2.2.1, rI Y (atrial 1) 12 r5.2.2.2.1, rI Y (atrial 2) 12 r5.2.2.2.2.1, rI Y (atrial 3) 8 r5.2.2.2.2.2.1, rI Y (atrial 4) 8 r5.2.2.2.2.2.2]) rfl ?_
  refine a_iconst C (0 : Int32) dX11_breaksOf_11 (by decide) ?_
  refine a_istore_n C dX11_breaksOf_12 (by decide) rfl ?_
  refine a_iconst C (0 : Int32) dX11_breaksOf_13 (by decide) ?_
  refine a_istore C dX11_breaksOf_14 (by decide) rfl ?_
  exact kX11_breaksOf_b16 C hQ hf
-- X11_bestForSpade
abbrev rmX11_bestForSpade : Room := { frames := 3, cells := 0, slots := 0, locals := 66 }
theorem dvX11_bestForSpade : yX11_bestForSpade.cls = RX11 ∧ yX11_bestForSpade.cls ≠ "java/lang/invoke/MethodHandle" ∧ yX11_bestForSpade.cls ≠ "java/lang/invoke/VarHandle" ∧ (parseMethodDescriptor yX11_bestForSpade.desc).map (fun d => d.parameters.length) = some 0 := by decide +kernel
theorem eX11_bestForSpade_inX11 : ∀ w ∈ wsX110, w ∈ wsX11_bestForSpade := by decide +kernel
theorem eX11_bestForSpade_33 : aF wsX11_bestForSpade RX11 33 11 3 := ⟨RX11, TX11, 17, rfl, eX11_bestForSpade_inX11, by decide, by decide +kernel⟩
theorem eX11_bestForSpade_inX2 : ∀ w ∈ wsX20, w ∈ wsX11_bestForSpade := by decide +kernel
theorem eX11_bestForSpade_134 : aF wsX11_bestForSpade RX11 134 2 0 := ⟨RX2, TX2, 5, rfl, eX11_bestForSpade_inX2, by decide, by decide +kernel⟩
theorem eX11_bestForSpade_60 : aF wsX11_bestForSpade RX11 60 11 9 := ⟨RX11, TX11, 17, rfl, eX11_bestForSpade_inX11, by decide, by decide +kernel⟩
theorem eX11_bestForSpade_inX9 : ∀ w ∈ wsX90, w ∈ wsX11_bestForSpade := by decide +kernel
theorem eX11_bestForSpade_192 : aF wsX11_bestForSpade RX11 192 9 7 := ⟨RX9, TX9, 9, rfl, eX11_bestForSpade_inX9, by decide, by decide +kernel⟩
def fX11_bestForSpade_b93 (iC_size : Int32) (cC_age : Nat → Int32) (cC_skill : Nat → Int32) (cC_pals : Nat → Int32) (itrial_spades : Int32) (ctrial_mood : Nat → Int32) (ctrial_place : Nat → Int32) (x2 : Int32) : Option (Int32 × Int32) :=
  some (x2, itrial_spades)
set_option maxHeartbeats 4000000 in
set_option maxRecDepth 100000 in
theorem kX11_bestForSpade_b93 {X : cxT} {l : Launch} {D : va_G} {Y : Nat → ClassId} {ao atext atold aL aC alaw aotherLaw anow atrial ahistory aguess acrewPlan amoatPlan achance : Nat → Nat} {io_wind : Int32} {io_spadeLimit : Int32} {iC_size : Int32} {cC_age : Nat → Int32} {cC_skill : Nat → Int32} {cC_pals : Nat → Int32} {itrial_moats : Int32} {itrial_spades : Int32} {itrial_tides : Int32} {ctrial_mood : Nat → Int32} {ctrial_place : Nat → Int32} {x2 : Int32} {res : Int32 × Int32} (C : axC X l D Y cX11_bestForSpade 7 RX11 wsX11_bestForSpade rmX11_bestForSpade (some .int)) (hQ : axQ X 0 0 (fun r9 w9 => r9 = (some (.int res.1)) ∧ w9 = [oX11 ao atext atold aL aC alaw aotherLaw anow atrial ahistory aguess acrewPlan amoatPlan achance io_wind io_spadeLimit, oX2 aC iC_size, rI Y (aC 1) 8 cC_age, rI Y (aC 2) 8 cC_skill, rI Y (aC 4) 8 cC_pals, oX9 atrial aL aC itrial_moats res.2 itrial_tides, rI Y (atrial 3) 8 ctrial_mood, rI Y (atrial 4) 8 ctrial_place])) (hf : fX11_bestForSpade_b93 iC_size cC_age cC_skill cC_pals itrial_spades ctrial_mood ctrial_place x2 = some res) : ax X 0 0 93 [none, none, some (.int x2), none, none, none, none] [oX11 ao atext atold aL aC alaw aotherLaw anow atrial ahistory aguess acrewPlan amoatPlan achance io_wind io_spadeLimit, oX2 aC iC_size, rI Y (aC 1) 8 cC_age, rI Y (aC 2) 8 cC_skill, rI Y (aC 4) 8 cC_pals, oX9 atrial aL aC itrial_moats itrial_spades itrial_tides, rI Y (atrial 3) 8 ctrial_mood, rI Y (atrial 4) 8 ctrial_place] [] := by
  unfold fX11_bestForSpade_b93 at hf
  refine a_iload_n C dX11_bestForSpade_93 rfl ?_
  obtain rfl := fx_some hf
  exact a_iret C hQ dX11_bestForSpade_94 ⟨rfl, rfl⟩
def fX11_bestForSpade_b87 (iC_size : Int32) (cC_age : Nat → Int32) (cC_skill : Nat → Int32) (cC_pals : Nat → Int32) (itrial_spades : Int32) (ctrial_mood : Nat → Int32) (ctrial_place : Nat → Int32) (x1 : Int32) (x2 : Int32) (x3 : Int32) (x4 : Int32) (k15 : Int32 × Int32 × Int32 × Int32 → Option (Int32 × Int32)) : Option (Int32 × Int32) :=
  k15 (itrial_spades, x2, x3, (x4 + (1 : Int32)))
set_option maxHeartbeats 4000000 in
set_option maxRecDepth 100000 in
theorem kX11_bestForSpade_b87 {X : cxT} {l : Launch} {D : va_G} {Y : Nat → ClassId} {ao atext atold aL aC alaw aotherLaw anow atrial ahistory aguess acrewPlan amoatPlan achance : Nat → Nat} {io_wind : Int32} {io_spadeLimit : Int32} {iC_size : Int32} {cC_age : Nat → Int32} {cC_skill : Nat → Int32} {cC_pals : Nat → Int32} {itrial_moats : Int32} {itrial_spades : Int32} {itrial_tides : Int32} {ctrial_mood : Nat → Int32} {ctrial_place : Nat → Int32} {x1 : Int32} {x2 : Int32} {x3 : Int32} {x4 : Int32} {res : Int32 × Int32} (C : axC X l D Y cX11_bestForSpade 7 RX11 wsX11_bestForSpade rmX11_bestForSpade (some .int)) (hQ : axQ X 0 0 (fun r9 w9 => r9 = (some (.int res.1)) ∧ w9 = [oX11 ao atext atold aL aC alaw aotherLaw anow atrial ahistory aguess acrewPlan amoatPlan achance io_wind io_spadeLimit, oX2 aC iC_size, rI Y (aC 1) 8 cC_age, rI Y (aC 2) 8 cC_skill, rI Y (aC 4) 8 cC_pals, oX9 atrial aL aC itrial_moats res.2 itrial_tides, rI Y (atrial 3) 8 ctrial_mood, rI Y (atrial 4) 8 ctrial_place])) {k15 : Int32 × Int32 × Int32 × Int32 → Option (Int32 × Int32)} (hk15 : ∀ s : Int32 × Int32 × Int32 × Int32, k15 s = some res → ax X 0 0 15 [some (.ref (ao 0)), some (.int x1), some (.int s.2.1), some (.int s.2.2.1), some (.int s.2.2.2), none, none] [oX11 ao atext atold aL aC alaw aotherLaw anow atrial ahistory aguess acrewPlan amoatPlan achance io_wind io_spadeLimit, oX2 aC iC_size, rI Y (aC 1) 8 cC_age, rI Y (aC 2) 8 cC_skill, rI Y (aC 4) 8 cC_pals, oX9 atrial aL aC itrial_moats s.1 itrial_tides, rI Y (atrial 3) 8 ctrial_mood, rI Y (atrial 4) 8 ctrial_place] []) (hf : fX11_bestForSpade_b87 iC_size cC_age cC_skill cC_pals itrial_spades ctrial_mood ctrial_place x1 x2 x3 x4 k15 = some res) : ax X 0 0 87 [some (.ref (ao 0)), some (.int x1), some (.int x2), some (.int x3), some (.int x4), none, none] [oX11 ao atext atold aL aC alaw aotherLaw anow atrial ahistory aguess acrewPlan amoatPlan achance io_wind io_spadeLimit, oX2 aC iC_size, rI Y (aC 1) 8 cC_age, rI Y (aC 2) 8 cC_skill, rI Y (aC 4) 8 cC_pals, oX9 atrial aL aC itrial_moats itrial_spades itrial_tides, rI Y (atrial 3) 8 ctrial_mood, rI Y (atrial 4) 8 ctrial_place] [] := by
  unfold fX11_bestForSpade_b87 at hf
  refine a_iinc C (1 : Int32) dX11_bestForSpade_87 (by decide) rfl (by decide) rfl ?_
  refine a_goto C 15 dX11_bestForSpade_90 (by decide) ?_
  exact hk15 (itrial_spades, x2, x3, (x4 + (1 : Int32))) hf
def fX11_bestForSpade_l15 (iC_size : Int32) (cC_age : Nat → Int32) (cC_skill : Nat → Int32) (cC_pals : Nat → Int32) (ctrial_mood : Nat → Int32) (ctrial_place : Nat → Int32) (x1 : Int32) (k15 : Int32 × Int32 × Int32 × Int32 → Option (Int32 × Int32)) (itrial_spades : Int32) (x2 : Int32) (x3 : Int32) (x4 : Int32) : Option (Int32 × Int32) :=
  if iC_size ≤ x4 then (fX11_bestForSpade_b93 iC_size cC_age cC_skill cC_pals itrial_spades ctrial_mood ctrial_place x2) else ((fX9_buckets itrial_spades ctrial_mood ctrial_place iC_size cC_age cC_skill cC_pals x4).bind (fun r2 => (fX9_buckets (x1 ||| (jshl (1 : Int32) x4)) ctrial_mood ctrial_place iC_size cC_age cC_skill cC_pals x4).bind (fun r3 => if (r3 - r2) ≤ x3 then (fX11_bestForSpade_b87 iC_size cC_age cC_skill cC_pals x1 ctrial_mood ctrial_place x1 x2 x3 x4 k15) else (fX11_bestForSpade_b87 iC_size cC_age cC_skill cC_pals x1 ctrial_mood ctrial_place x1 (jshl (1 : Int32) x4) (r3 - r2) x4 k15))))
def fX11_bestForSpade_b15 (iC_size : Int32) (cC_age : Nat → Int32) (cC_skill : Nat → Int32) (cC_pals : Nat → Int32) (itrial_spades : Int32) (ctrial_mood : Nat → Int32) (ctrial_place : Nat → Int32) (x1 : Int32) (x2 : Int32) (x3 : Int32) (x4 : Int32) : Option (Int32 × Int32) :=
  loopN (fun (s : Int32 × Int32 × Int32 × Int32) k15 => fX11_bestForSpade_l15 iC_size cC_age cC_skill cC_pals ctrial_mood ctrial_place x1 k15 s.1 s.2.1 s.2.2.1 s.2.2.2) FUEL (itrial_spades, x2, x3, x4)
set_option maxHeartbeats 4000000 in
set_option maxRecDepth 100000 in
theorem kX11_bestForSpade_l15 {X : cxT} {l : Launch} {D : va_G} {Y : Nat → ClassId} {ao atext atold aL aC alaw aotherLaw anow atrial ahistory aguess acrewPlan amoatPlan achance : Nat → Nat} {io_wind : Int32} {io_spadeLimit : Int32} {iC_size : Int32} {cC_age : Nat → Int32} {cC_skill : Nat → Int32} {cC_pals : Nat → Int32} {itrial_moats : Int32} {itrial_spades : Int32} {itrial_tides : Int32} {ctrial_mood : Nat → Int32} {ctrial_place : Nat → Int32} {x1 : Int32} {x2 : Int32} {x3 : Int32} {x4 : Int32} {res : Int32 × Int32} (C : axC X l D Y cX11_bestForSpade 7 RX11 wsX11_bestForSpade rmX11_bestForSpade (some .int)) (hQ : axQ X 0 0 (fun r9 w9 => r9 = (some (.int res.1)) ∧ w9 = [oX11 ao atext atold aL aC alaw aotherLaw anow atrial ahistory aguess acrewPlan amoatPlan achance io_wind io_spadeLimit, oX2 aC iC_size, rI Y (aC 1) 8 cC_age, rI Y (aC 2) 8 cC_skill, rI Y (aC 4) 8 cC_pals, oX9 atrial aL aC itrial_moats res.2 itrial_tides, rI Y (atrial 3) 8 ctrial_mood, rI Y (atrial 4) 8 ctrial_place])) {k15 : Int32 × Int32 × Int32 × Int32 → Option (Int32 × Int32)} (hk15 : ∀ s : Int32 × Int32 × Int32 × Int32, k15 s = some res → ax X 0 0 15 [some (.ref (ao 0)), some (.int x1), some (.int s.2.1), some (.int s.2.2.1), some (.int s.2.2.2), none, none] [oX11 ao atext atold aL aC alaw aotherLaw anow atrial ahistory aguess acrewPlan amoatPlan achance io_wind io_spadeLimit, oX2 aC iC_size, rI Y (aC 1) 8 cC_age, rI Y (aC 2) 8 cC_skill, rI Y (aC 4) 8 cC_pals, oX9 atrial aL aC itrial_moats s.1 itrial_tides, rI Y (atrial 3) 8 ctrial_mood, rI Y (atrial 4) 8 ctrial_place] []) (hf : fX11_bestForSpade_l15 iC_size cC_age cC_skill cC_pals ctrial_mood ctrial_place x1 k15 itrial_spades x2 x3 x4 = some res) : ax X 0 0 15 [some (.ref (ao 0)), some (.int x1), some (.int x2), some (.int x3), some (.int x4), none, none] [oX11 ao atext atold aL aC alaw aotherLaw anow atrial ahistory aguess acrewPlan amoatPlan achance io_wind io_spadeLimit, oX2 aC iC_size, rI Y (aC 1) 8 cC_age, rI Y (aC 2) 8 cC_skill, rI Y (aC 4) 8 cC_pals, oX9 atrial aL aC itrial_moats itrial_spades itrial_tides, rI Y (atrial 3) 8 ctrial_mood, rI Y (atrial 4) 8 ctrial_place] [] := by
  unfold fX11_bestForSpade_l15 at hf
  refine a_iload C dX11_bestForSpade_15 rfl ?_
  refine a_aload_n C dX11_bestForSpade_17 rfl ?_
  refine a_get C eX11_bestForSpade_33 dX11_bestForSpade_18 0 rfl rfl ?_
  refine a_get C eX11_bestForSpade_134 dX11_bestForSpade_21 1 rfl rfl ?_
  refine a_icmp_ge C 93 dX11_bestForSpade_24 (by decide) (fun h1 => ?_) (fun h1 => ?_)
  · have hf := fx_t h1 hf
    refine a_kill [0, 1, 3, 4] ?_
    exact kX11_bestForSpade_b93 C hQ hf
  · have hf := fx_f h1 hf
    refine a_aload_n C dX11_bestForSpade_27 rfl ?_
    refine a_get C eX11_bestForSpade_60 dX11_bestForSpade_28 0 rfl rfl ?_
    refine a_iload C dX11_bestForSpade_31 rfl ?_
    obtain ⟨r2, h2, hf⟩ := fx_bind hf
    refine a_fV C (kX9_buckets l D Y atrial aL aC itrial_moats itrial_spades itrial_tides ctrial_mood ctrial_place iC_size cC_age cC_skill cC_pals x4 r2 h2) gX11_bestForSpade_X9_buckets rfl dvX9_buckets ⟨⟨rfl, rfl⟩, ⟨Nat.le_of_ble_eq_true rfl, Nat.le_of_ble_eq_true rfl⟩, ⟨Nat.le_of_ble_eq_true rfl, Nat.le_of_ble_eq_true rfl⟩⟩ rfl (Nat.le_of_ble_eq_true rfl) dX11_bestForSpade_33 rfl rfl [5, 6, 7, 1, 2, 3, 4] rfl rfl rfl (wn := [oX11 ao atext atold aL aC alaw aotherLaw anow atrial ahistory aguess acrewPlan amoatPlan achance io_wind io_spadeLimit, oX2 aC iC_size, rI Y (aC 1) 8 cC_age, rI Y (aC 2) 8 cC_skill, rI Y (aC 4) 8 cC_pals, oX9 atrial aL aC itrial_moats itrial_spades itrial_tides, rI Y (atrial 3) 8 ctrial_mood, rI Y (atrial 4) 8 ctrial_place]) rfl ?_
    refine a_istore C dX11_bestForSpade_36 (by decide) rfl ?_
    refine a_aload_n C dX11_bestForSpade_38 rfl ?_
    refine a_get C eX11_bestForSpade_60 dX11_bestForSpade_39 0 rfl rfl ?_
    refine a_iload_n C dX11_bestForSpade_42 rfl ?_
    refine a_iconst C (1 : Int32) dX11_bestForSpade_43 (by decide) ?_
    refine a_iload C dX11_bestForSpade_44 rfl ?_
    refine a_ishl C dX11_bestForSpade_46 ?_
    refine a_ior C dX11_bestForSpade_47 ?_
    refine a_put C eX11_bestForSpade_192 tfX9_7 dX11_bestForSpade_48 5 rfl rfl rfl (Nat.le_of_ble_eq_true rfl) ?_
    refine a_aload_n C dX11_bestForSpade_51 rfl ?_
    refine a_get C eX11_bestForSpade_60 dX11_bestForSpade_52 0 rfl rfl ?_
    refine a_iload C dX11_bestForSpade_55 rfl ?_
    obtain ⟨r3, h3, hf⟩ := fx_bind hf
    refine a_fV C (kX9_buckets l D Y atrial aL aC itrial_moats (x1 ||| (jshl (1 : Int32) x4)) itrial_tides ctrial_mood ctrial_place iC_size cC_age cC_skill cC_pals x4 r3 h3) gX11_bestForSpade_X9_buckets rfl dvX9_buckets ⟨⟨rfl, rfl⟩, ⟨Nat.le_of_ble_eq_true rfl, Nat.le_of_ble_eq_true rfl⟩, ⟨Nat.le_of_ble_eq_true rfl, Nat.le_of_ble_eq_true rfl⟩⟩ rfl (Nat.le_of_ble_eq_true rfl) dX11_bestForSpade_57 rfl rfl [5, 6, 7, 1, 2, 3, 4] rfl rfl rfl (wn := [oX11 ao atext atold aL aC alaw aotherLaw anow atrial ahistory aguess acrewPlan amoatPlan achance io_wind io_spadeLimit, oX2 aC iC_size, rI Y (aC 1) 8 cC_age, rI Y (aC 2) 8 cC_skill, rI Y (aC 4) 8 cC_pals, oX9 atrial aL aC itrial_moats (x1 ||| (jshl (1 : Int32) x4)) itrial_tides, rI Y (atrial 3) 8 ctrial_mood, rI Y (atrial 4) 8 ctrial_place]) rfl ?_
    refine a_iload C dX11_bestForSpade_60 rfl ?_
    refine a_isub C dX11_bestForSpade_62 ?_
    refine a_istore C dX11_bestForSpade_63 (by decide) rfl ?_
    refine a_aload_n C dX11_bestForSpade_65 rfl ?_
    refine a_get C eX11_bestForSpade_60 dX11_bestForSpade_66 0 rfl rfl ?_
    refine a_iload_n C dX11_bestForSpade_69 rfl ?_
    refine a_put C eX11_bestForSpade_192 tfX9_7 dX11_bestForSpade_70 5 rfl rfl rfl (Nat.le_of_ble_eq_true rfl) ?_
    refine a_iload C dX11_bestForSpade_73 rfl ?_
    refine a_iload_n C dX11_bestForSpade_75 rfl ?_
    refine a_icmp_le C 87 dX11_bestForSpade_76 (by decide) (fun h4 => ?_) (fun h4 => ?_)
    · have hf := fx_t h4 hf
      refine a_kill [5, 6] ?_
      exact kX11_bestForSpade_b87 C hQ hk15 hf
    · have hf := fx_f h4 hf
      refine a_iload C dX11_bestForSpade_79 rfl ?_
      refine a_istore_n C dX11_bestForSpade_81 (by decide) rfl ?_
      refine a_iconst C (1 : Int32) dX11_bestForSpade_82 (by decide) ?_
      refine a_iload C dX11_bestForSpade_83 rfl ?_
      refine a_ishl C dX11_bestForSpade_85 ?_
      refine a_istore_n C dX11_bestForSpade_86 (by decide) rfl ?_
      refine a_kill [5, 6] ?_
      exact kX11_bestForSpade_b87 C hQ hk15 hf
set_option maxHeartbeats 4000000 in
set_option maxRecDepth 100000 in
theorem kX11_bestForSpade_b15 {X : cxT} {l : Launch} {D : va_G} {Y : Nat → ClassId} {ao atext atold aL aC alaw aotherLaw anow atrial ahistory aguess acrewPlan amoatPlan achance : Nat → Nat} {io_wind : Int32} {io_spadeLimit : Int32} {iC_size : Int32} {cC_age : Nat → Int32} {cC_skill : Nat → Int32} {cC_pals : Nat → Int32} {itrial_moats : Int32} {itrial_spades : Int32} {itrial_tides : Int32} {ctrial_mood : Nat → Int32} {ctrial_place : Nat → Int32} {x1 : Int32} {x2 : Int32} {x3 : Int32} {x4 : Int32} {res : Int32 × Int32} (C : axC X l D Y cX11_bestForSpade 7 RX11 wsX11_bestForSpade rmX11_bestForSpade (some .int)) (hQ : axQ X 0 0 (fun r9 w9 => r9 = (some (.int res.1)) ∧ w9 = [oX11 ao atext atold aL aC alaw aotherLaw anow atrial ahistory aguess acrewPlan amoatPlan achance io_wind io_spadeLimit, oX2 aC iC_size, rI Y (aC 1) 8 cC_age, rI Y (aC 2) 8 cC_skill, rI Y (aC 4) 8 cC_pals, oX9 atrial aL aC itrial_moats res.2 itrial_tides, rI Y (atrial 3) 8 ctrial_mood, rI Y (atrial 4) 8 ctrial_place])) (hf : fX11_bestForSpade_b15 iC_size cC_age cC_skill cC_pals itrial_spades ctrial_mood ctrial_place x1 x2 x3 x4 = some res) : ax X 0 0 15 [some (.ref (ao 0)), some (.int x1), some (.int x2), some (.int x3), some (.int x4), none, none] [oX11 ao atext atold aL aC alaw aotherLaw anow atrial ahistory aguess acrewPlan amoatPlan achance io_wind io_spadeLimit, oX2 aC iC_size, rI Y (aC 1) 8 cC_age, rI Y (aC 2) 8 cC_skill, rI Y (aC 4) 8 cC_pals, oX9 atrial aL aC itrial_moats itrial_spades itrial_tides, rI Y (atrial 3) 8 ctrial_mood, rI Y (atrial 4) 8 ctrial_place] [] := by
  unfold fX11_bestForSpade_b15 at hf
  exact fx_loop (P := fun s : Int32 × Int32 × Int32 × Int32 => ax X 0 0 15 [some (.ref (ao 0)), some (.int x1), some (.int s.2.1), some (.int s.2.2.1), some (.int s.2.2.2), none, none] [oX11 ao atext atold aL aC alaw aotherLaw anow atrial ahistory aguess acrewPlan amoatPlan achance io_wind io_spadeLimit, oX2 aC iC_size, rI Y (aC 1) 8 cC_age, rI Y (aC 2) 8 cC_skill, rI Y (aC 4) 8 cC_pals, oX9 atrial aL aC itrial_moats s.1 itrial_tides, rI Y (atrial 3) 8 ctrial_mood, rI Y (atrial 4) 8 ctrial_place] []) (fun s k15 hk15 h => kX11_bestForSpade_l15 C hQ hk15 h) FUEL (itrial_spades, x2, x3, x4) hf
def fX11_bestForSpade (iC_size : Int32) (cC_age : Nat → Int32) (cC_skill : Nat → Int32) (cC_pals : Nat → Int32) (itrial_spades : Int32) (ctrial_mood : Nat → Int32) (ctrial_place : Nat → Int32) : Option (Int32 × Int32) :=
  fX11_bestForSpade_b15 iC_size cC_age cC_skill cC_pals itrial_spades ctrial_mood ctrial_place itrial_spades (0 : Int32) (0 : Int32) (0 : Int32)
set_option maxHeartbeats 4000000 in
set_option maxRecDepth 100000 in
theorem kX11_bestForSpade (l : Launch) (D : va_G) (Y : Nat → ClassId) (ao atext atold aL aC alaw aotherLaw anow atrial ahistory aguess acrewPlan amoatPlan achance : Nat → Nat) (io_wind : Int32) (io_spadeLimit : Int32) (iC_size : Int32) (cC_age : Nat → Int32) (cC_skill : Nat → Int32) (cC_pals : Nat → Int32) (itrial_moats : Int32) (itrial_spades : Int32) (itrial_tides : Int32) (ctrial_mood : Nat → Int32) (ctrial_place : Nat → Int32) (res : Int32 × Int32) (hf : fX11_bestForSpade iC_size cC_age cC_skill cC_pals itrial_spades ctrial_mood ctrial_place = some res) : amf l D Y yX11_bestForSpade wsX11_bestForSpade rmX11_bestForSpade [.ref (ao 0)] [oX11 ao atext atold aL aC alaw aotherLaw anow atrial ahistory aguess acrewPlan amoatPlan achance io_wind io_spadeLimit, oX2 aC iC_size, rI Y (aC 1) 8 cC_age, rI Y (aC 2) 8 cC_skill, rI Y (aC 4) 8 cC_pals, oX9 atrial aL aC itrial_moats itrial_spades itrial_tides, rI Y (atrial 3) 8 ctrial_mood, rI Y (atrial 4) 8 ctrial_place] (some (.int res.1)) [oX11 ao atext atold aL aC alaw aotherLaw anow atrial ahistory aguess acrewPlan amoatPlan achance io_wind io_spadeLimit, oX2 aC iC_size, rI Y (aC 1) 8 cC_age, rI Y (aC 2) 8 cC_skill, rI Y (aC 4) 8 cC_pals, oX9 atrial aL aC itrial_moats res.2 itrial_tides, rI Y (atrial 3) 8 ctrial_mood, rI Y (atrial 4) 8 ctrial_place] := by
  refine amf.of (cc := cX11_bestForSpade) (maxL := 7) (rt := (some .int)) (by decide) rfl RX11 rfl (Nat.le_of_ble_eq_true rfl) [some (.ref (ao 0)), none, none, none, none, none, none] rfl ?_
  intro X C hQ
  unfold fX11_bestForSpade at hf
  refine a_aload_n C dX11_bestForSpade_0 rfl ?_
  refine a_get C eX11_bestForSpade_60 dX11_bestForSpade_1 0 rfl rfl ?_
  refine a_get C eX11_bestForSpade_192 dX11_bestForSpade_4 5 rfl rfl ?_
  refine a_istore_n C dX11_bestForSpade_7 (by decide) rfl ?_
  refine a_iconst C (0 : Int32) dX11_bestForSpade_8 (by decide) ?_
  refine a_istore_n C dX11_bestForSpade_9 (by decide) rfl ?_
  refine a_iconst C (0 : Int32) dX11_bestForSpade_10 (by decide) ?_
  refine a_istore_n C dX11_bestForSpade_11 (by decide) rfl ?_
  refine a_iconst C (0 : Int32) dX11_bestForSpade_12 (by decide) ?_
  refine a_istore C dX11_bestForSpade_13 (by decide) rfl ?_
  exact kX11_bestForSpade_b15 C hQ hf
