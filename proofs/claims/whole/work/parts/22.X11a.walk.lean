-- X11_sign
abbrev rmX11_sign : Room := { frames := 1, cells := 0, slots := 0, locals := 22 }
theorem dvX11_sign : yX11_sign.cls = RX11 ∧ yX11_sign.cls ≠ "java/lang/invoke/MethodHandle" ∧ yX11_sign.cls ≠ "java/lang/invoke/VarHandle" ∧ (parseMethodDescriptor yX11_sign.desc).map (fun d => d.parameters.length) = some 1 := by decide +kernel
def fX11_sign_b22 (itext_length : Int32) (ctext_signs : Nat → Int32) (s0 : Int32) : Option (Int32 × Int32 × (Nat → Int32)) :=
  some (s0, itext_length, ctext_signs)
set_option maxHeartbeats 400000 in
set_option maxRecDepth 100000 in
theorem kX11_sign_b22 {X : cxT} {l : Launch} {D : va_G} {Y : Nat → ClassId} {ao atext atold aL aC alaw aotherLaw anow atrial ahistory aguess acrewPlan amoatPlan achance : Nat → Nat} {io_wind : Int32} {io_spadeLimit : Int32} {itext_length : Int32} {ctext_signs : Nat → Int32} {s0 : Int32} {res : Int32 × Int32 × (Nat → Int32)} (C : axC X l D Y cX11_sign 2 RX11 wsX11_sign rmX11_sign (some .int)) (hQ : axQ X 0 0 (fun r9 w9 => r9 = (some (.int res.1)) ∧ w9 = [oX11 ao atext atold aL aC alaw aotherLaw anow atrial ahistory aguess acrewPlan amoatPlan achance io_wind io_spadeLimit, oX10 atext res.2.1, rC Y (atext 1) 80 res.2.2])) (hf : fX11_sign_b22 itext_length ctext_signs s0 = some res) : ax X 0 0 22 [none, none] [oX11 ao atext atold aL aC alaw aotherLaw anow atrial ahistory aguess acrewPlan amoatPlan achance io_wind io_spadeLimit, oX10 atext itext_length, rC Y (atext 1) 80 ctext_signs] [.int s0] := by
  unfold fX11_sign_b22 at hf
  obtain rfl := fx_some hf
  exact a_iret C hQ dX11_sign_22 ⟨rfl, rfl⟩
def fX11_sign (itext_length : Int32) (ctext_signs : Nat → Int32) (x1 : Int32) : Option (Int32 × Int32 × (Nat → Int32)) :=
  (fX10_add itext_length ctext_signs x1).bind (fun r1 => if r1.1 = (0 : Int32) then (fX11_sign_b22 r1.2.1 r1.2.2 (-1 : Int32)) else (fX11_sign_b22 r1.2.1 r1.2.2 r1.2.1))
set_option maxHeartbeats 400000 in
set_option maxRecDepth 100000 in
theorem kX11_sign (l : Launch) (D : va_G) (Y : Nat → ClassId) (ao atext atold aL aC alaw aotherLaw anow atrial ahistory aguess acrewPlan amoatPlan achance : Nat → Nat) (io_wind : Int32) (io_spadeLimit : Int32) (itext_length : Int32) (ctext_signs : Nat → Int32) (x1 : Int32) (res : Int32 × Int32 × (Nat → Int32)) (hf : fX11_sign itext_length ctext_signs x1 = some res) : amf l D Y yX11_sign wsX11_sign rmX11_sign [.ref (ao 0), .int x1] [oX11 ao atext atold aL aC alaw aotherLaw anow atrial ahistory aguess acrewPlan amoatPlan achance io_wind io_spadeLimit, oX10 atext itext_length, rC Y (atext 1) 80 ctext_signs] (some (.int res.1)) [oX11 ao atext atold aL aC alaw aotherLaw anow atrial ahistory aguess acrewPlan amoatPlan achance io_wind io_spadeLimit, oX10 atext res.2.1, rC Y (atext 1) 80 res.2.2] := by
  refine amf.of (cc := cX11_sign) (maxL := 2) (rt := (some .int)) (by decide) rfl RX11 rfl (Nat.le_of_ble_eq_true rfl) [some (.ref (ao 0)), some (.int x1)] rfl ?_
  intro X C hQ
  unfold fX11_sign at hf
  refine a_aload_n C dX11_sign_0 rfl ?_
  refine a_get C (eB_X11_10 _) dX11_sign_1 0 rfl rfl ?_
  refine a_iload_n C dX11_sign_4 rfl ?_
  obtain ⟨r1, h1, hf⟩ := fx_bind hf
  refine a_fV C (kX10_add l D Y atext itext_length ctext_signs x1 r1 h1) (gB_X11_110 _) rfl dvX10_add ⟨⟨rfl, rfl⟩, ⟨Nat.le_of_ble_eq_true rfl, Nat.le_of_ble_eq_true rfl⟩, ⟨Nat.le_of_ble_eq_true rfl, Nat.le_of_ble_eq_true rfl⟩⟩ rfl (Nat.le_of_ble_eq_true rfl) dX11_sign_5 rfl rfl [1, 2] [0] ⟨rfl, rfl, trivial⟩ (by decide +kernel) rfl [oX11 ao atext atold aL aC alaw aotherLaw anow atrial ahistory aguess acrewPlan amoatPlan achance io_wind io_spadeLimit, oX10 atext r1.2.1, rC Y (atext 1) 80 r1.2.2] ⟨rfl, rfl, trivial⟩ ⟨rfl, trivial⟩ 3 rfl (by decide +kernel) ?_
  refine a_if_eq C 21 dX11_sign_8 (by decide) (fun h2 => ?_) (fun h2 => ?_)
  · have hf := fx_t h2 hf
    refine a_iconst C (-1 : Int32) dX11_sign_21 (by decide) ?_
    refine a_kill [0, 1] ?_
    exact kX11_sign_b22 C hQ hf
  · have hf := fx_f h2 hf
    refine a_aload_n C dX11_sign_11 rfl ?_
    refine a_get C (eB_X11_10 _) dX11_sign_12 0 rfl rfl ?_
    refine a_get C (eB_X11_114 _) dX11_sign_15 1 rfl rfl ?_
    refine a_goto C 22 dX11_sign_18 (by decide) ?_
    refine a_kill [0, 1] ?_
    exact kX11_sign_b22 C hQ hf
-- X11_end
abbrev rmX11_end : Room := { frames := 1, cells := 0, slots := 0, locals := 21 }
theorem dvX11_end : yX11_end.cls = RX11 ∧ yX11_end.cls ≠ "java/lang/invoke/MethodHandle" ∧ yX11_end.cls ≠ "java/lang/invoke/VarHandle" ∧ (parseMethodDescriptor yX11_end.desc).map (fun d => d.parameters.length) = some 1 := by decide +kernel
def fX11_end (itext_length : Int32) (x1 : Int32) : Option (Int32 × Int32) :=
  (fX10_cut itext_length x1).bind (fun r1 => if r1.1 = 0 ∨ r1.1 = 1 then some (r1.1, r1.2) else none)
set_option maxHeartbeats 400000 in
set_option maxRecDepth 100000 in
theorem kX11_end (l : Launch) (D : va_G) (Y : Nat → ClassId) (ao atext atold aL aC alaw aotherLaw anow atrial ahistory aguess acrewPlan amoatPlan achance : Nat → Nat) (io_wind : Int32) (io_spadeLimit : Int32) (itext_length : Int32) (x1 : Int32) (res : Int32 × Int32) (hf : fX11_end itext_length x1 = some res) : amf l D Y yX11_end wsX11_end rmX11_end [.ref (ao 0), .int x1] [oX11 ao atext atold aL aC alaw aotherLaw anow atrial ahistory aguess acrewPlan amoatPlan achance io_wind io_spadeLimit, oX10 atext itext_length] (some (.int res.1)) [oX11 ao atext atold aL aC alaw aotherLaw anow atrial ahistory aguess acrewPlan amoatPlan achance io_wind io_spadeLimit, oX10 atext res.2] := by
  refine amf.of (cc := cX11_end) (maxL := 2) (rt := (some .boolean)) (by decide) rfl RX11 rfl (Nat.le_of_ble_eq_true rfl) [some (.ref (ao 0)), some (.int x1)] rfl ?_
  intro X C hQ
  unfold fX11_end at hf
  refine a_aload_n C dX11_end_0 rfl ?_
  refine a_get C (eB_X11_10 _) dX11_end_1 0 rfl rfl ?_
  refine a_iload_n C dX11_end_4 rfl ?_
  obtain ⟨r1, h1, hf⟩ := fx_bind hf
  refine a_fV C (kX10_cut l D Y atext itext_length x1 r1 h1) (gB_X11_117 _) rfl dvX10_cut ⟨⟨rfl, rfl⟩, ⟨Nat.le_of_ble_eq_true rfl, Nat.le_of_ble_eq_true rfl⟩, ⟨Nat.le_of_ble_eq_true rfl, Nat.le_of_ble_eq_true rfl⟩⟩ rfl (Nat.le_of_ble_eq_true rfl) dX11_end_5 rfl rfl [1] [0] ⟨rfl, trivial⟩ (by decide +kernel) rfl [oX11 ao atext atold aL aC alaw aotherLaw anow atrial ahistory aguess acrewPlan amoatPlan achance io_wind io_spadeLimit, oX10 atext r1.2] ⟨rfl, trivial⟩ ⟨rfl, trivial⟩ 2 rfl (by decide +kernel) ?_
  obtain ⟨h2, hf⟩ := fx_ite hf
  obtain rfl := fx_some hf
  exact a_zret C hQ h2 dX11_end_8 ⟨rfl, rfl⟩
-- X11_shore
abbrev rmX11_shore : Room := { frames := 2, cells := 0, slots := 0, locals := 65 }
theorem dvX11_shore : yX11_shore.cls = RX11 ∧ yX11_shore.cls ≠ "java/lang/invoke/MethodHandle" ∧ yX11_shore.cls ≠ "java/lang/invoke/VarHandle" ∧ (parseMethodDescriptor yX11_shore.desc).map (fun d => d.parameters.length) = some 0 := by decide +kernel
def fX11_shore_b70 (co_keptChildren : Nat → Int32) (iL_cells : Int32) (cL_base : Nat → Int32) (cL_dyke : Nat → Int32) (cL_newBase : Nat → Int32) (cL_newDyke : Nat → Int32) (iguess_cells : Int32) (ihistory_size : Int32) (inow_moats : Int32) (inow_tides : Int32) (cnow_wall : Nat → Int32) (cnow_depth : Nat → Int32) (cnow_place : Nat → Int32) (itext_length : Int32) (ctext_signs : Nat → Int32) : Option (Int32 × (Nat → Int32) × Int32 × (Nat → Int32) × (Nat → Int32) × (Nat → Int32) × (Nat → Int32) × Int32 × Int32 × Int32 × Int32 × (Nat → Int32) × (Nat → Int32) × (Nat → Int32) × Int32) :=
  some (iL_cells, co_keptChildren, iL_cells, cL_base, cL_dyke, cL_newBase, cL_newDyke, iguess_cells, ihistory_size, inow_moats, inow_tides, cnow_wall, cnow_depth, cnow_place, itext_length)
set_option maxHeartbeats 400000 in
set_option maxRecDepth 100000 in
theorem kX11_shore_b70 {X : cxT} {l : Launch} {D : va_G} {Y : Nat → ClassId} {ao atext atold aL aC alaw aotherLaw anow atrial ahistory aguess acrewPlan amoatPlan achance : Nat → Nat} {io_wind : Int32} {io_spadeLimit : Int32} {co_keptChildren : Nat → Int32} {iL_cells : Int32} {cL_base : Nat → Int32} {cL_dyke : Nat → Int32} {cL_newBase : Nat → Int32} {cL_newDyke : Nat → Int32} {iguess_cells : Int32} {ihistory_next : Int32} {ihistory_size : Int32} {inow_moats : Int32} {inow_spades : Int32} {inow_tides : Int32} {cnow_wall : Nat → Int32} {cnow_depth : Nat → Int32} {cnow_place : Nat → Int32} {itext_length : Int32} {ctext_signs : Nat → Int32} {res : Int32 × (Nat → Int32) × Int32 × (Nat → Int32) × (Nat → Int32) × (Nat → Int32) × (Nat → Int32) × Int32 × Int32 × Int32 × Int32 × (Nat → Int32) × (Nat → Int32) × (Nat → Int32) × Int32} (C : axC X l D Y cX11_shore 3 RX11 wsX11_shore rmX11_shore (some .int)) (hQ : axQ X 0 0 (fun r9 w9 => r9 = (some (.int res.1)) ∧ w9 = [oX11 ao atext atold aL aC alaw aotherLaw anow atrial ahistory aguess acrewPlan amoatPlan achance io_wind io_spadeLimit, rI Y (ao 2) 3 res.2.1, oX5 aL res.2.2.1, rI Y (aL 1) 12 res.2.2.2.1, rI Y (aL 2) 12 res.2.2.2.2.1, rI Y (aL 3) 12 res.2.2.2.2.2.1, rI Y (aL 4) 12 res.2.2.2.2.2.2.1, oX3 aguess aC res.2.2.2.2.2.2.2.1, oX4 ahistory ihistory_next res.2.2.2.2.2.2.2.2.1, oX9 anow aL aC res.2.2.2.2.2.2.2.2.2.1 inow_spades res.2.2.2.2.2.2.2.2.2.2.1, rI Y (anow 1) 12 res.2.2.2.2.2.2.2.2.2.2.2.1, rI Y (anow 2) 12 res.2.2.2.2.2.2.2.2.2.2.2.2.1, rI Y (anow 4) 8 res.2.2.2.2.2.2.2.2.2.2.2.2.2.1, oX10 atext res.2.2.2.2.2.2.2.2.2.2.2.2.2.2, rC Y (atext 1) 80 ctext_signs])) (hf : fX11_shore_b70 co_keptChildren iL_cells cL_base cL_dyke cL_newBase cL_newDyke iguess_cells ihistory_size inow_moats inow_tides cnow_wall cnow_depth cnow_place itext_length ctext_signs = some res) : ax X 0 0 70 [some (.ref (ao 0)), none, none] [oX11 ao atext atold aL aC alaw aotherLaw anow atrial ahistory aguess acrewPlan amoatPlan achance io_wind io_spadeLimit, rI Y (ao 2) 3 co_keptChildren, oX5 aL iL_cells, rI Y (aL 1) 12 cL_base, rI Y (aL 2) 12 cL_dyke, rI Y (aL 3) 12 cL_newBase, rI Y (aL 4) 12 cL_newDyke, oX3 aguess aC iguess_cells, oX4 ahistory ihistory_next ihistory_size, oX9 anow aL aC inow_moats inow_spades inow_tides, rI Y (anow 1) 12 cnow_wall, rI Y (anow 2) 12 cnow_depth, rI Y (anow 4) 8 cnow_place, oX10 atext itext_length, rC Y (atext 1) 80 ctext_signs] [] := by
  unfold fX11_shore_b70 at hf
  refine a_aload_n C dX11_shore_70 rfl ?_
  refine a_get C (eB_X11_26 _) dX11_shore_71 0 rfl rfl ?_
  refine a_get C (eB_X11_131 _) dX11_shore_74 2 rfl rfl ?_
  obtain rfl := fx_some hf
  exact a_iret C hQ dX11_shore_77 ⟨rfl, rfl⟩
def fX11_shore_l52 (iL_cells : Int32) (cL_base : Nat → Int32) (cL_dyke : Nat → Int32) (cL_newBase : Nat → Int32) (cL_newDyke : Nat → Int32) (iguess_cells : Int32) (ihistory_size : Int32) (inow_moats : Int32) (inow_tides : Int32) (cnow_wall : Nat → Int32) (cnow_depth : Nat → Int32) (cnow_place : Nat → Int32) (itext_length : Int32) (ctext_signs : Nat → Int32) (k52 : (Nat → Int32) × Int32 → Option (Int32 × (Nat → Int32) × Int32 × (Nat → Int32) × (Nat → Int32) × (Nat → Int32) × (Nat → Int32) × Int32 × Int32 × Int32 × Int32 × (Nat → Int32) × (Nat → Int32) × (Nat → Int32) × Int32)) (co_keptChildren : Nat → Int32) (x2 : Int32) : Option (Int32 × (Nat → Int32) × Int32 × (Nat → Int32) × (Nat → Int32) × (Nat → Int32) × (Nat → Int32) × Int32 × Int32 × Int32 × Int32 × (Nat → Int32) × (Nat → Int32) × (Nat → Int32) × Int32) :=
  if (3 : Int32) ≤ x2 then (fX11_shore_b70 co_keptChildren iL_cells cL_base cL_dyke cL_newBase cL_newDyke iguess_cells ihistory_size inow_moats inow_tides cnow_wall cnow_depth cnow_place itext_length ctext_signs) else (if inb x2 3 then k52 ((upd co_keptChildren (Int32.toNatClampNeg x2) (-1 : Int32)), (x2 + (1 : Int32))) else none)
def fX11_shore_b52 (co_keptChildren : Nat → Int32) (iL_cells : Int32) (cL_base : Nat → Int32) (cL_dyke : Nat → Int32) (cL_newBase : Nat → Int32) (cL_newDyke : Nat → Int32) (iguess_cells : Int32) (ihistory_size : Int32) (inow_moats : Int32) (inow_tides : Int32) (cnow_wall : Nat → Int32) (cnow_depth : Nat → Int32) (cnow_place : Nat → Int32) (itext_length : Int32) (ctext_signs : Nat → Int32) (x2 : Int32) : Option (Int32 × (Nat → Int32) × Int32 × (Nat → Int32) × (Nat → Int32) × (Nat → Int32) × (Nat → Int32) × Int32 × Int32 × Int32 × Int32 × (Nat → Int32) × (Nat → Int32) × (Nat → Int32) × Int32) :=
  loopN (fun (s : (Nat → Int32) × Int32) k52 => fX11_shore_l52 iL_cells cL_base cL_dyke cL_newBase cL_newDyke iguess_cells ihistory_size inow_moats inow_tides cnow_wall cnow_depth cnow_place itext_length ctext_signs k52 s.1 s.2) FUEL (co_keptChildren, x2)
set_option maxHeartbeats 400000 in
set_option maxRecDepth 100000 in
theorem kX11_shore_l52 {X : cxT} {l : Launch} {D : va_G} {Y : Nat → ClassId} {ao atext atold aL aC alaw aotherLaw anow atrial ahistory aguess acrewPlan amoatPlan achance : Nat → Nat} {io_wind : Int32} {io_spadeLimit : Int32} {co_keptChildren : Nat → Int32} {iL_cells : Int32} {cL_base : Nat → Int32} {cL_dyke : Nat → Int32} {cL_newBase : Nat → Int32} {cL_newDyke : Nat → Int32} {iguess_cells : Int32} {ihistory_next : Int32} {ihistory_size : Int32} {inow_moats : Int32} {inow_spades : Int32} {inow_tides : Int32} {cnow_wall : Nat → Int32} {cnow_depth : Nat → Int32} {cnow_place : Nat → Int32} {itext_length : Int32} {ctext_signs : Nat → Int32} {x2 : Int32} {res : Int32 × (Nat → Int32) × Int32 × (Nat → Int32) × (Nat → Int32) × (Nat → Int32) × (Nat → Int32) × Int32 × Int32 × Int32 × Int32 × (Nat → Int32) × (Nat → Int32) × (Nat → Int32) × Int32} (C : axC X l D Y cX11_shore 3 RX11 wsX11_shore rmX11_shore (some .int)) (hQ : axQ X 0 0 (fun r9 w9 => r9 = (some (.int res.1)) ∧ w9 = [oX11 ao atext atold aL aC alaw aotherLaw anow atrial ahistory aguess acrewPlan amoatPlan achance io_wind io_spadeLimit, rI Y (ao 2) 3 res.2.1, oX5 aL res.2.2.1, rI Y (aL 1) 12 res.2.2.2.1, rI Y (aL 2) 12 res.2.2.2.2.1, rI Y (aL 3) 12 res.2.2.2.2.2.1, rI Y (aL 4) 12 res.2.2.2.2.2.2.1, oX3 aguess aC res.2.2.2.2.2.2.2.1, oX4 ahistory ihistory_next res.2.2.2.2.2.2.2.2.1, oX9 anow aL aC res.2.2.2.2.2.2.2.2.2.1 inow_spades res.2.2.2.2.2.2.2.2.2.2.1, rI Y (anow 1) 12 res.2.2.2.2.2.2.2.2.2.2.2.1, rI Y (anow 2) 12 res.2.2.2.2.2.2.2.2.2.2.2.2.1, rI Y (anow 4) 8 res.2.2.2.2.2.2.2.2.2.2.2.2.2.1, oX10 atext res.2.2.2.2.2.2.2.2.2.2.2.2.2.2, rC Y (atext 1) 80 ctext_signs])) {k52 : (Nat → Int32) × Int32 → Option (Int32 × (Nat → Int32) × Int32 × (Nat → Int32) × (Nat → Int32) × (Nat → Int32) × (Nat → Int32) × Int32 × Int32 × Int32 × Int32 × (Nat → Int32) × (Nat → Int32) × (Nat → Int32) × Int32)} (hk52 : ∀ s : (Nat → Int32) × Int32, k52 s = some res → ax X 0 0 52 [some (.ref (ao 0)), none, some (.int s.2)] [oX11 ao atext atold aL aC alaw aotherLaw anow atrial ahistory aguess acrewPlan amoatPlan achance io_wind io_spadeLimit, rI Y (ao 2) 3 s.1, oX5 aL iL_cells, rI Y (aL 1) 12 cL_base, rI Y (aL 2) 12 cL_dyke, rI Y (aL 3) 12 cL_newBase, rI Y (aL 4) 12 cL_newDyke, oX3 aguess aC iguess_cells, oX4 ahistory ihistory_next ihistory_size, oX9 anow aL aC inow_moats inow_spades inow_tides, rI Y (anow 1) 12 cnow_wall, rI Y (anow 2) 12 cnow_depth, rI Y (anow 4) 8 cnow_place, oX10 atext itext_length, rC Y (atext 1) 80 ctext_signs] []) (hf : fX11_shore_l52 iL_cells cL_base cL_dyke cL_newBase cL_newDyke iguess_cells ihistory_size inow_moats inow_tides cnow_wall cnow_depth cnow_place itext_length ctext_signs k52 co_keptChildren x2 = some res) : ax X 0 0 52 [some (.ref (ao 0)), none, some (.int x2)] [oX11 ao atext atold aL aC alaw aotherLaw anow atrial ahistory aguess acrewPlan amoatPlan achance io_wind io_spadeLimit, rI Y (ao 2) 3 co_keptChildren, oX5 aL iL_cells, rI Y (aL 1) 12 cL_base, rI Y (aL 2) 12 cL_dyke, rI Y (aL 3) 12 cL_newBase, rI Y (aL 4) 12 cL_newDyke, oX3 aguess aC iguess_cells, oX4 ahistory ihistory_next ihistory_size, oX9 anow aL aC inow_moats inow_spades inow_tides, rI Y (anow 1) 12 cnow_wall, rI Y (anow 2) 12 cnow_depth, rI Y (anow 4) 8 cnow_place, oX10 atext itext_length, rC Y (atext 1) 80 ctext_signs] [] := by
  unfold fX11_shore_l52 at hf
  refine a_iload_n C dX11_shore_52 rfl ?_
  refine a_iconst C (3 : Int32) dX11_shore_53 (by decide) ?_
  refine a_icmp_ge C 70 dX11_shore_54 (by decide) (fun h1 => ?_) (fun h1 => ?_)
  · have hf := fx_t h1 hf
    refine a_kill [2] ?_
    exact kX11_shore_b70 C hQ hf
  · have hf := fx_f h1 hf
    refine a_aload_n C dX11_shore_57 rfl ?_
    refine a_get C (eB_X11_74 _) dX11_shore_58 0 rfl rfl ?_
    refine a_iload_n C dX11_shore_61 rfl ?_
    refine a_iconst C (-1 : Int32) dX11_shore_62 (by decide) ?_
    obtain ⟨h2, hf⟩ := fx_ite hf
    refine a_iast C dX11_shore_63 1 rfl h2 ?_
    refine a_iinc C (1 : Int32) dX11_shore_64 (by decide) rfl (by decide) rfl ?_
    refine a_goto C 52 dX11_shore_67 (by decide) ?_
    exact hk52 ((upd co_keptChildren (Int32.toNatClampNeg x2) (-1 : Int32)), (x2 + (1 : Int32))) hf
set_option maxHeartbeats 400000 in
set_option maxRecDepth 100000 in
theorem kX11_shore_b52 {X : cxT} {l : Launch} {D : va_G} {Y : Nat → ClassId} {ao atext atold aL aC alaw aotherLaw anow atrial ahistory aguess acrewPlan amoatPlan achance : Nat → Nat} {io_wind : Int32} {io_spadeLimit : Int32} {co_keptChildren : Nat → Int32} {iL_cells : Int32} {cL_base : Nat → Int32} {cL_dyke : Nat → Int32} {cL_newBase : Nat → Int32} {cL_newDyke : Nat → Int32} {iguess_cells : Int32} {ihistory_next : Int32} {ihistory_size : Int32} {inow_moats : Int32} {inow_spades : Int32} {inow_tides : Int32} {cnow_wall : Nat → Int32} {cnow_depth : Nat → Int32} {cnow_place : Nat → Int32} {itext_length : Int32} {ctext_signs : Nat → Int32} {x2 : Int32} {res : Int32 × (Nat → Int32) × Int32 × (Nat → Int32) × (Nat → Int32) × (Nat → Int32) × (Nat → Int32) × Int32 × Int32 × Int32 × Int32 × (Nat → Int32) × (Nat → Int32) × (Nat → Int32) × Int32} (C : axC X l D Y cX11_shore 3 RX11 wsX11_shore rmX11_shore (some .int)) (hQ : axQ X 0 0 (fun r9 w9 => r9 = (some (.int res.1)) ∧ w9 = [oX11 ao atext atold aL aC alaw aotherLaw anow atrial ahistory aguess acrewPlan amoatPlan achance io_wind io_spadeLimit, rI Y (ao 2) 3 res.2.1, oX5 aL res.2.2.1, rI Y (aL 1) 12 res.2.2.2.1, rI Y (aL 2) 12 res.2.2.2.2.1, rI Y (aL 3) 12 res.2.2.2.2.2.1, rI Y (aL 4) 12 res.2.2.2.2.2.2.1, oX3 aguess aC res.2.2.2.2.2.2.2.1, oX4 ahistory ihistory_next res.2.2.2.2.2.2.2.2.1, oX9 anow aL aC res.2.2.2.2.2.2.2.2.2.1 inow_spades res.2.2.2.2.2.2.2.2.2.2.1, rI Y (anow 1) 12 res.2.2.2.2.2.2.2.2.2.2.2.1, rI Y (anow 2) 12 res.2.2.2.2.2.2.2.2.2.2.2.2.1, rI Y (anow 4) 8 res.2.2.2.2.2.2.2.2.2.2.2.2.2.1, oX10 atext res.2.2.2.2.2.2.2.2.2.2.2.2.2.2, rC Y (atext 1) 80 ctext_signs])) (hf : fX11_shore_b52 co_keptChildren iL_cells cL_base cL_dyke cL_newBase cL_newDyke iguess_cells ihistory_size inow_moats inow_tides cnow_wall cnow_depth cnow_place itext_length ctext_signs x2 = some res) : ax X 0 0 52 [some (.ref (ao 0)), none, some (.int x2)] [oX11 ao atext atold aL aC alaw aotherLaw anow atrial ahistory aguess acrewPlan amoatPlan achance io_wind io_spadeLimit, rI Y (ao 2) 3 co_keptChildren, oX5 aL iL_cells, rI Y (aL 1) 12 cL_base, rI Y (aL 2) 12 cL_dyke, rI Y (aL 3) 12 cL_newBase, rI Y (aL 4) 12 cL_newDyke, oX3 aguess aC iguess_cells, oX4 ahistory ihistory_next ihistory_size, oX9 anow aL aC inow_moats inow_spades inow_tides, rI Y (anow 1) 12 cnow_wall, rI Y (anow 2) 12 cnow_depth, rI Y (anow 4) 8 cnow_place, oX10 atext itext_length, rC Y (atext 1) 80 ctext_signs] [] := by
  unfold fX11_shore_b52 at hf
  exact fx_loop (P := fun s : (Nat → Int32) × Int32 => ax X 0 0 52 [some (.ref (ao 0)), none, some (.int s.2)] [oX11 ao atext atold aL aC alaw aotherLaw anow atrial ahistory aguess acrewPlan amoatPlan achance io_wind io_spadeLimit, rI Y (ao 2) 3 s.1, oX5 aL iL_cells, rI Y (aL 1) 12 cL_base, rI Y (aL 2) 12 cL_dyke, rI Y (aL 3) 12 cL_newBase, rI Y (aL 4) 12 cL_newDyke, oX3 aguess aC iguess_cells, oX4 ahistory ihistory_next ihistory_size, oX9 anow aL aC inow_moats inow_spades inow_tides, rI Y (anow 1) 12 cnow_wall, rI Y (anow 2) 12 cnow_depth, rI Y (anow 4) 8 cnow_place, oX10 atext itext_length, rC Y (atext 1) 80 ctext_signs] []) (fun s k52 hk52 h => kX11_shore_l52 C hQ hk52 h) FUEL (co_keptChildren, x2) hf
def fX11_shore (co_keptChildren : Nat → Int32) (iL_cells : Int32) (cL_base : Nat → Int32) (cL_dyke : Nat → Int32) (cL_newBase : Nat → Int32) (cL_newDyke : Nat → Int32) (iguess_cells : Int32) (ihistory_size : Int32) (inow_moats : Int32) (inow_tides : Int32) (cnow_wall : Nat → Int32) (cnow_depth : Nat → Int32) (cnow_place : Nat → Int32) (itext_length : Int32) (ctext_signs : Nat → Int32) : Option (Int32 × (Nat → Int32) × Int32 × (Nat → Int32) × (Nat → Int32) × (Nat → Int32) × (Nat → Int32) × Int32 × Int32 × Int32 × Int32 × (Nat → Int32) × (Nat → Int32) × (Nat → Int32) × Int32) :=
  (fX5_read iL_cells cL_base cL_dyke cL_newBase cL_newDyke itext_length ctext_signs).bind (fun r3 => if r3.1 = (-1 : Int32) then ((fX9_startAnew inow_moats inow_tides cnow_wall cnow_depth cnow_place).bind (fun r5 => (fX3_clear iguess_cells).bind (fun r6 => (fX4_clear ihistory_size).bind (fun r7 => fX11_shore_b52 co_keptChildren r3.2.1 r3.2.2.1 r3.2.2.2.1 r3.2.2.2.2.1 r3.2.2.2.2.2 r6 r7 r5.1 r5.2.1 r5.2.2.1 r5.2.2.2.1 r5.2.2.2.2 (0 : Int32) ctext_signs (0 : Int32))))) else (some (((-1 : Int32) - r3.1), co_keptChildren, r3.2.1, r3.2.2.1, r3.2.2.2.1, r3.2.2.2.2.1, r3.2.2.2.2.2, iguess_cells, ihistory_size, inow_moats, inow_tides, cnow_wall, cnow_depth, cnow_place, (0 : Int32))))
set_option maxHeartbeats 400000 in
set_option maxRecDepth 100000 in
theorem kX11_shore (l : Launch) (D : va_G) (Y : Nat → ClassId) (ao atext atold aL aC alaw aotherLaw anow atrial ahistory aguess acrewPlan amoatPlan achance : Nat → Nat) (io_wind : Int32) (io_spadeLimit : Int32) (co_keptChildren : Nat → Int32) (iL_cells : Int32) (cL_base : Nat → Int32) (cL_dyke : Nat → Int32) (cL_newBase : Nat → Int32) (cL_newDyke : Nat → Int32) (iguess_cells : Int32) (ihistory_next : Int32) (ihistory_size : Int32) (inow_moats : Int32) (inow_spades : Int32) (inow_tides : Int32) (cnow_wall : Nat → Int32) (cnow_depth : Nat → Int32) (cnow_place : Nat → Int32) (itext_length : Int32) (ctext_signs : Nat → Int32) (res : Int32 × (Nat → Int32) × Int32 × (Nat → Int32) × (Nat → Int32) × (Nat → Int32) × (Nat → Int32) × Int32 × Int32 × Int32 × Int32 × (Nat → Int32) × (Nat → Int32) × (Nat → Int32) × Int32) (hf : fX11_shore co_keptChildren iL_cells cL_base cL_dyke cL_newBase cL_newDyke iguess_cells ihistory_size inow_moats inow_tides cnow_wall cnow_depth cnow_place itext_length ctext_signs = some res) : amf l D Y yX11_shore wsX11_shore rmX11_shore [.ref (ao 0)] [oX11 ao atext atold aL aC alaw aotherLaw anow atrial ahistory aguess acrewPlan amoatPlan achance io_wind io_spadeLimit, rI Y (ao 2) 3 co_keptChildren, oX5 aL iL_cells, rI Y (aL 1) 12 cL_base, rI Y (aL 2) 12 cL_dyke, rI Y (aL 3) 12 cL_newBase, rI Y (aL 4) 12 cL_newDyke, oX3 aguess aC iguess_cells, oX4 ahistory ihistory_next ihistory_size, oX9 anow aL aC inow_moats inow_spades inow_tides, rI Y (anow 1) 12 cnow_wall, rI Y (anow 2) 12 cnow_depth, rI Y (anow 4) 8 cnow_place, oX10 atext itext_length, rC Y (atext 1) 80 ctext_signs] (some (.int res.1)) [oX11 ao atext atold aL aC alaw aotherLaw anow atrial ahistory aguess acrewPlan amoatPlan achance io_wind io_spadeLimit, rI Y (ao 2) 3 res.2.1, oX5 aL res.2.2.1, rI Y (aL 1) 12 res.2.2.2.1, rI Y (aL 2) 12 res.2.2.2.2.1, rI Y (aL 3) 12 res.2.2.2.2.2.1, rI Y (aL 4) 12 res.2.2.2.2.2.2.1, oX3 aguess aC res.2.2.2.2.2.2.2.1, oX4 ahistory ihistory_next res.2.2.2.2.2.2.2.2.1, oX9 anow aL aC res.2.2.2.2.2.2.2.2.2.1 inow_spades res.2.2.2.2.2.2.2.2.2.2.1, rI Y (anow 1) 12 res.2.2.2.2.2.2.2.2.2.2.2.1, rI Y (anow 2) 12 res.2.2.2.2.2.2.2.2.2.2.2.2.1, rI Y (anow 4) 8 res.2.2.2.2.2.2.2.2.2.2.2.2.2.1, oX10 atext res.2.2.2.2.2.2.2.2.2.2.2.2.2.2, rC Y (atext 1) 80 ctext_signs] := by
  refine amf.of (cc := cX11_shore) (maxL := 3) (rt := (some .int)) (by decide) rfl RX11 rfl (Nat.le_of_ble_eq_true rfl) [some (.ref (ao 0)), none, none] rfl ?_
  intro X C hQ
  unfold fX11_shore at hf
  refine a_aload_n C dX11_shore_0 rfl ?_
  refine a_get C (eB_X11_26 _) dX11_shore_1 0 rfl rfl ?_
  refine a_aload_n C dX11_shore_4 rfl ?_
  refine a_get C (eB_X11_10 _) dX11_shore_5 0 rfl rfl ?_
  obtain ⟨r3, h3, hf⟩ := fx_bind hf
  refine a_fV C (kX5_read l D Y aL atext iL_cells cL_base cL_dyke cL_newBase cL_newDyke itext_length ctext_signs r3 h3) (gB_X11_120 _) rfl dvX5_read ⟨⟨rfl, rfl⟩, ⟨Nat.le_of_ble_eq_true rfl, Nat.le_of_ble_eq_true rfl⟩, ⟨Nat.le_of_ble_eq_true rfl, Nat.le_of_ble_eq_true rfl⟩⟩ rfl (Nat.le_of_ble_eq_true rfl) dX11_shore_8 rfl rfl [2, 3, 4, 5, 6, 13, 14] [0, 1, 7, 8, 9, 10, 11, 12] ⟨rfl, rfl, rfl, rfl, rfl, rfl, rfl, trivial⟩ (by decide +kernel) rfl [oX11 ao atext atold aL aC alaw aotherLaw anow atrial ahistory aguess acrewPlan amoatPlan achance io_wind io_spadeLimit, rI Y (ao 2) 3 co_keptChildren, oX5 aL r3.2.1, rI Y (aL 1) 12 r3.2.2.1, rI Y (aL 2) 12 r3.2.2.2.1, rI Y (aL 3) 12 r3.2.2.2.2.1, rI Y (aL 4) 12 r3.2.2.2.2.2, oX3 aguess aC iguess_cells, oX4 ahistory ihistory_next ihistory_size, oX9 anow aL aC inow_moats inow_spades inow_tides, rI Y (anow 1) 12 cnow_wall, rI Y (anow 2) 12 cnow_depth, rI Y (anow 4) 8 cnow_place, oX10 atext itext_length, rC Y (atext 1) 80 ctext_signs] ⟨rfl, rfl, rfl, rfl, rfl, rfl, rfl, trivial⟩ ⟨rfl, rfl, rfl, rfl, rfl, rfl, rfl, rfl, trivial⟩ 15 rfl (by decide +kernel) ?_
  refine a_istore_n C dX11_shore_11 (by decide) rfl ?_
  refine a_aload_n C dX11_shore_12 rfl ?_
  refine a_get C (eB_X11_10 _) dX11_shore_13 0 rfl rfl ?_
  refine a_iconst C (0 : Int32) dX11_shore_16 (by decide) ?_
  refine a_put C (eB_X11_114 _) tfX10_1 dX11_shore_17 13 rfl rfl rfl (Nat.le_of_ble_eq_true rfl) ?_
  refine a_iload_n C dX11_shore_20 rfl ?_
  refine a_iconst C (-1 : Int32) dX11_shore_21 (by decide) ?_
  refine a_icmp_eq C 29 dX11_shore_22 (by decide) (fun h4 => ?_) (fun h4 => ?_)
  · have hf := fx_t h4 hf
    refine a_aload_n C dX11_shore_29 rfl ?_
    refine a_get C (eB_X11_56 _) dX11_shore_30 0 rfl rfl ?_
    obtain ⟨r5, h5, hf⟩ := fx_bind hf
    refine a_fV C (kX9_startAnew l D Y anow aL aC inow_moats inow_spades inow_tides cnow_wall cnow_depth cnow_place r5 h5) (gB_X11_124 _) rfl dvX9_startAnew ⟨⟨rfl, rfl⟩, ⟨Nat.le_of_ble_eq_true rfl, Nat.le_of_ble_eq_true rfl⟩, ⟨Nat.le_of_ble_eq_true rfl, Nat.le_of_ble_eq_true rfl⟩⟩ rfl (Nat.le_of_ble_eq_true rfl) dX11_shore_33 rfl rfl [9, 10, 11, 12] [0, 1, 2, 3, 4, 5, 6, 7, 8, 13, 14] ⟨rfl, rfl, rfl, rfl, trivial⟩ (by decide +kernel) rfl [oX11 ao atext atold aL aC alaw aotherLaw anow atrial ahistory aguess acrewPlan amoatPlan achance io_wind io_spadeLimit, rI Y (ao 2) 3 co_keptChildren, oX5 aL r3.2.1, rI Y (aL 1) 12 r3.2.2.1, rI Y (aL 2) 12 r3.2.2.2.1, rI Y (aL 3) 12 r3.2.2.2.2.1, rI Y (aL 4) 12 r3.2.2.2.2.2, oX3 aguess aC iguess_cells, oX4 ahistory ihistory_next ihistory_size, oX9 anow aL aC r5.1 inow_spades r5.2.1, rI Y (anow 1) 12 r5.2.2.1, rI Y (anow 2) 12 r5.2.2.2.1, rI Y (anow 4) 8 r5.2.2.2.2, oX10 atext (0 : Int32), rC Y (atext 1) 80 ctext_signs] ⟨rfl, rfl, rfl, rfl, trivial⟩ ⟨rfl, rfl, rfl, rfl, rfl, rfl, rfl, rfl, rfl, rfl, rfl, trivial⟩ 15 rfl (by decide +kernel) ?_
    refine a_aload_n C dX11_shore_36 rfl ?_
    refine a_get C (eB_X11_83 _) dX11_shore_37 0 rfl rfl ?_
    obtain ⟨r6, h6, hf⟩ := fx_bind hf
    refine a_fV C (kX3_clear l D Y aguess aC iguess_cells r6 h6) (gB_X11_127 _) rfl dvX3_clear ⟨⟨rfl, rfl⟩, ⟨Nat.le_of_ble_eq_true rfl, Nat.le_of_ble_eq_true rfl⟩, ⟨Nat.le_of_ble_eq_true rfl, Nat.le_of_ble_eq_true rfl⟩⟩ rfl (Nat.le_of_ble_eq_true rfl) dX11_shore_40 rfl rfl [7] [0, 1, 2, 3, 4, 5, 6, 8, 9, 10, 11, 12, 13, 14] ⟨rfl, trivial⟩ (by decide +kernel) rfl [oX11 ao atext atold aL aC alaw aotherLaw anow atrial ahistory aguess acrewPlan amoatPlan achance io_wind io_spadeLimit, rI Y (ao 2) 3 co_keptChildren, oX5 aL r3.2.1, rI Y (aL 1) 12 r3.2.2.1, rI Y (aL 2) 12 r3.2.2.2.1, rI Y (aL 3) 12 r3.2.2.2.2.1, rI Y (aL 4) 12 r3.2.2.2.2.2, oX3 aguess aC r6, oX4 ahistory ihistory_next ihistory_size, oX9 anow aL aC r5.1 inow_spades r5.2.1, rI Y (anow 1) 12 r5.2.2.1, rI Y (anow 2) 12 r5.2.2.2.1, rI Y (anow 4) 8 r5.2.2.2.2, oX10 atext (0 : Int32), rC Y (atext 1) 80 ctext_signs] ⟨rfl, trivial⟩ ⟨rfl, rfl, rfl, rfl, rfl, rfl, rfl, rfl, rfl, rfl, rfl, rfl, rfl, rfl, trivial⟩ 15 rfl (by decide +kernel) ?_
    refine a_aload_n C dX11_shore_43 rfl ?_
    refine a_get C (eB_X11_66 _) dX11_shore_44 0 rfl rfl ?_
    obtain ⟨r7, h7, hf⟩ := fx_bind hf
    refine a_fV C (kX4_clear l D Y ahistory ihistory_next ihistory_size r7 h7) (gB_X11_130 _) rfl dvX4_clear ⟨⟨rfl, rfl⟩, ⟨Nat.le_of_ble_eq_true rfl, Nat.le_of_ble_eq_true rfl⟩, ⟨Nat.le_of_ble_eq_true rfl, Nat.le_of_ble_eq_true rfl⟩⟩ rfl (Nat.le_of_ble_eq_true rfl) dX11_shore_47 rfl rfl [8] [0, 1, 2, 3, 4, 5, 6, 7, 9, 10, 11, 12, 13, 14] ⟨rfl, trivial⟩ (by decide +kernel) rfl [oX11 ao atext atold aL aC alaw aotherLaw anow atrial ahistory aguess acrewPlan amoatPlan achance io_wind io_spadeLimit, rI Y (ao 2) 3 co_keptChildren, oX5 aL r3.2.1, rI Y (aL 1) 12 r3.2.2.1, rI Y (aL 2) 12 r3.2.2.2.1, rI Y (aL 3) 12 r3.2.2.2.2.1, rI Y (aL 4) 12 r3.2.2.2.2.2, oX3 aguess aC r6, oX4 ahistory ihistory_next r7, oX9 anow aL aC r5.1 inow_spades r5.2.1, rI Y (anow 1) 12 r5.2.2.1, rI Y (anow 2) 12 r5.2.2.2.1, rI Y (anow 4) 8 r5.2.2.2.2, oX10 atext (0 : Int32), rC Y (atext 1) 80 ctext_signs] ⟨rfl, trivial⟩ ⟨rfl, rfl, rfl, rfl, rfl, rfl, rfl, rfl, rfl, rfl, rfl, rfl, rfl, rfl, trivial⟩ 15 rfl (by decide +kernel) ?_
    refine a_iconst C (0 : Int32) dX11_shore_50 (by decide) ?_
    refine a_istore_n C dX11_shore_51 (by decide) rfl ?_
    refine a_kill [1] ?_
    exact kX11_shore_b52 C hQ hf
  · have hf := fx_f h4 hf
    refine a_iconst C (-1 : Int32) dX11_shore_25 (by decide) ?_
    refine a_iload_n C dX11_shore_26 rfl ?_
    refine a_isub C dX11_shore_27 ?_
    obtain rfl := fx_some hf
    exact a_iret C hQ dX11_shore_28 ⟨rfl, rfl⟩
-- X11_children
abbrev rmX11_children : Room := { frames := 3, cells := 0, slots := 0, locals := 73 }
theorem dvX11_children : yX11_children.cls = RX11 ∧ yX11_children.cls ≠ "java/lang/invoke/MethodHandle" ∧ yX11_children.cls ≠ "java/lang/invoke/VarHandle" ∧ (parseMethodDescriptor yX11_children.desc).map (fun d => d.parameters.length) = some 0 := by decide +kernel
def fX11_children_b47 (iC_size : Int32) (cC_age : Nat → Int32) (cC_skill : Nat → Int32) (cC_friend : Nat → Int32) (cC_pals : Nat → Int32) (ihistory_size : Int32) (cnow_mood : Nat → Int32) (cnow_place : Nat → Int32) (itext_length : Int32) (ctext_signs : Nat → Int32) (x2 : Int32) : Option (Int32 × Int32 × (Nat → Int32) × (Nat → Int32) × (Nat → Int32) × (Nat → Int32) × Int32 × (Nat → Int32) × (Nat → Int32) × Int32) :=
  some (x2, iC_size, cC_age, cC_skill, cC_friend, cC_pals, ihistory_size, cnow_mood, cnow_place, itext_length)
set_option maxHeartbeats 400000 in
set_option maxRecDepth 100000 in
theorem kX11_children_b47 {X : cxT} {l : Launch} {D : va_G} {Y : Nat → ClassId} {ao atext atold aL aC alaw aotherLaw anow atrial ahistory aguess acrewPlan amoatPlan achance : Nat → Nat} {io_wind : Int32} {io_spadeLimit : Int32} {iC_size : Int32} {cC_age : Nat → Int32} {cC_skill : Nat → Int32} {cC_friend : Nat → Int32} {cC_pals : Nat → Int32} {ihistory_next : Int32} {ihistory_size : Int32} {inow_moats : Int32} {inow_spades : Int32} {inow_tides : Int32} {cnow_mood : Nat → Int32} {cnow_place : Nat → Int32} {itext_length : Int32} {ctext_signs : Nat → Int32} {x2 : Int32} {res : Int32 × Int32 × (Nat → Int32) × (Nat → Int32) × (Nat → Int32) × (Nat → Int32) × Int32 × (Nat → Int32) × (Nat → Int32) × Int32} (C : axC X l D Y cX11_children 3 RX11 wsX11_children rmX11_children (some .int)) (hQ : axQ X 0 0 (fun r9 w9 => r9 = (some (.int res.1)) ∧ w9 = [oX11 ao atext atold aL aC alaw aotherLaw anow atrial ahistory aguess acrewPlan amoatPlan achance io_wind io_spadeLimit, oX2 aC res.2.1, rI Y (aC 1) 8 res.2.2.1, rI Y (aC 2) 8 res.2.2.2.1, rI Y (aC 3) 8 res.2.2.2.2.1, rI Y (aC 4) 8 res.2.2.2.2.2.1, oX4 ahistory ihistory_next res.2.2.2.2.2.2.1, oX9 anow aL aC inow_moats inow_spades inow_tides, rI Y (anow 3) 8 res.2.2.2.2.2.2.2.1, rI Y (anow 4) 8 res.2.2.2.2.2.2.2.2.1, oX10 atext res.2.2.2.2.2.2.2.2.2, rC Y (atext 1) 80 ctext_signs])) (hf : fX11_children_b47 iC_size cC_age cC_skill cC_friend cC_pals ihistory_size cnow_mood cnow_place itext_length ctext_signs x2 = some res) : ax X 0 0 47 [none, none, some (.int x2)] [oX11 ao atext atold aL aC alaw aotherLaw anow atrial ahistory aguess acrewPlan amoatPlan achance io_wind io_spadeLimit, oX2 aC iC_size, rI Y (aC 1) 8 cC_age, rI Y (aC 2) 8 cC_skill, rI Y (aC 3) 8 cC_friend, rI Y (aC 4) 8 cC_pals, oX4 ahistory ihistory_next ihistory_size, oX9 anow aL aC inow_moats inow_spades inow_tides, rI Y (anow 3) 8 cnow_mood, rI Y (anow 4) 8 cnow_place, oX10 atext itext_length, rC Y (atext 1) 80 ctext_signs] [] := by
  unfold fX11_children_b47 at hf
  refine a_iload_n C dX11_children_47 rfl ?_
  obtain rfl := fx_some hf
  exact a_iret C hQ dX11_children_48 ⟨rfl, rfl⟩
def fX11_children (iC_size : Int32) (cC_age : Nat → Int32) (cC_skill : Nat → Int32) (cC_friend : Nat → Int32) (cC_pals : Nat → Int32) (ihistory_size : Int32) (cnow_mood : Nat → Int32) (cnow_place : Nat → Int32) (itext_length : Int32) (ctext_signs : Nat → Int32) : Option (Int32 × Int32 × (Nat → Int32) × (Nat → Int32) × (Nat → Int32) × (Nat → Int32) × Int32 × (Nat → Int32) × (Nat → Int32) × Int32) :=
  (fX2_read iC_size cC_age cC_skill cC_friend cC_pals itext_length ctext_signs).bind (fun r1 => if r1.1 ≤ (0 : Int32) then (fX11_children_b47 r1.2.1 r1.2.2.1 r1.2.2.2.1 r1.2.2.2.2.1 r1.2.2.2.2.2 ihistory_size cnow_mood cnow_place (0 : Int32) ctext_signs r1.1) else ((fX9_welcome cnow_mood cnow_place r1.2.1 iC_size).bind (fun r3 => (fX4_clear ihistory_size).bind (fun r4 => fX11_children_b47 r1.2.1 r1.2.2.1 r1.2.2.2.1 r1.2.2.2.2.1 r1.2.2.2.2.2 r4 r3.1 r3.2 (0 : Int32) ctext_signs r1.1))))
set_option maxHeartbeats 400000 in
set_option maxRecDepth 100000 in
theorem kX11_children (l : Launch) (D : va_G) (Y : Nat → ClassId) (ao atext atold aL aC alaw aotherLaw anow atrial ahistory aguess acrewPlan amoatPlan achance : Nat → Nat) (io_wind : Int32) (io_spadeLimit : Int32) (iC_size : Int32) (cC_age : Nat → Int32) (cC_skill : Nat → Int32) (cC_friend : Nat → Int32) (cC_pals : Nat → Int32) (ihistory_next : Int32) (ihistory_size : Int32) (inow_moats : Int32) (inow_spades : Int32) (inow_tides : Int32) (cnow_mood : Nat → Int32) (cnow_place : Nat → Int32) (itext_length : Int32) (ctext_signs : Nat → Int32) (res : Int32 × Int32 × (Nat → Int32) × (Nat → Int32) × (Nat → Int32) × (Nat → Int32) × Int32 × (Nat → Int32) × (Nat → Int32) × Int32) (hf : fX11_children iC_size cC_age cC_skill cC_friend cC_pals ihistory_size cnow_mood cnow_place itext_length ctext_signs = some res) : amf l D Y yX11_children wsX11_children rmX11_children [.ref (ao 0)] [oX11 ao atext atold aL aC alaw aotherLaw anow atrial ahistory aguess acrewPlan amoatPlan achance io_wind io_spadeLimit, oX2 aC iC_size, rI Y (aC 1) 8 cC_age, rI Y (aC 2) 8 cC_skill, rI Y (aC 3) 8 cC_friend, rI Y (aC 4) 8 cC_pals, oX4 ahistory ihistory_next ihistory_size, oX9 anow aL aC inow_moats inow_spades inow_tides, rI Y (anow 3) 8 cnow_mood, rI Y (anow 4) 8 cnow_place, oX10 atext itext_length, rC Y (atext 1) 80 ctext_signs] (some (.int res.1)) [oX11 ao atext atold aL aC alaw aotherLaw anow atrial ahistory aguess acrewPlan amoatPlan achance io_wind io_spadeLimit, oX2 aC res.2.1, rI Y (aC 1) 8 res.2.2.1, rI Y (aC 2) 8 res.2.2.2.1, rI Y (aC 3) 8 res.2.2.2.2.1, rI Y (aC 4) 8 res.2.2.2.2.2.1, oX4 ahistory ihistory_next res.2.2.2.2.2.2.1, oX9 anow aL aC inow_moats inow_spades inow_tides, rI Y (anow 3) 8 res.2.2.2.2.2.2.2.1, rI Y (anow 4) 8 res.2.2.2.2.2.2.2.2.1, oX10 atext res.2.2.2.2.2.2.2.2.2, rC Y (atext 1) 80 ctext_signs] := by
  refine amf.of (cc := cX11_children) (maxL := 3) (rt := (some .int)) (by decide) rfl RX11 rfl (Nat.le_of_ble_eq_true rfl) [some (.ref (ao 0)), none, none] rfl ?_
  intro X C hQ
  unfold fX11_children at hf
  refine a_aload_n C dX11_children_0 rfl ?_
  refine a_get C (eB_X11_33 _) dX11_children_1 0 rfl rfl ?_
  refine a_get C (eB_X11_134 _) dX11_children_4 1 rfl rfl ?_
  refine a_istore_n C dX11_children_7 (by decide) rfl ?_
  refine a_aload_n C dX11_children_8 rfl ?_
  refine a_get C (eB_X11_33 _) dX11_children_9 0 rfl rfl ?_
  refine a_aload_n C dX11_children_12 rfl ?_
  refine a_get C (eB_X11_10 _) dX11_children_13 0 rfl rfl ?_
  obtain ⟨r1, h1, hf⟩ := fx_bind hf
  refine a_fV C (kX2_read l D Y aC atext iC_size cC_age cC_skill cC_friend cC_pals itext_length ctext_signs r1 h1) (gB_X11_137 _) rfl dvX2_read ⟨⟨rfl, rfl⟩, ⟨Nat.le_of_ble_eq_true rfl, Nat.le_of_ble_eq_true rfl⟩, ⟨Nat.le_of_ble_eq_true rfl, Nat.le_of_ble_eq_true rfl⟩⟩ rfl (Nat.le_of_ble_eq_true rfl) dX11_children_16 rfl rfl [1, 2, 3, 4, 5, 10, 11] [0, 6, 7, 8, 9] ⟨rfl, rfl, rfl, rfl, rfl, rfl, rfl, trivial⟩ (by decide +kernel) rfl [oX11 ao atext atold aL aC alaw aotherLaw anow atrial ahistory aguess acrewPlan amoatPlan achance io_wind io_spadeLimit, oX2 aC r1.2.1, rI Y (aC 1) 8 r1.2.2.1, rI Y (aC 2) 8 r1.2.2.2.1, rI Y (aC 3) 8 r1.2.2.2.2.1, rI Y (aC 4) 8 r1.2.2.2.2.2, oX4 ahistory ihistory_next ihistory_size, oX9 anow aL aC inow_moats inow_spades inow_tides, rI Y (anow 3) 8 cnow_mood, rI Y (anow 4) 8 cnow_place, oX10 atext itext_length, rC Y (atext 1) 80 ctext_signs] ⟨rfl, rfl, rfl, rfl, rfl, rfl, rfl, trivial⟩ ⟨rfl, rfl, rfl, rfl, rfl, trivial⟩ 12 rfl (by decide +kernel) ?_
  refine a_istore_n C dX11_children_19 (by decide) rfl ?_
  refine a_aload_n C dX11_children_20 rfl ?_
  refine a_get C (eB_X11_10 _) dX11_children_21 0 rfl rfl ?_
  refine a_iconst C (0 : Int32) dX11_children_24 (by decide) ?_
  refine a_put C (eB_X11_114 _) tfX10_1 dX11_children_25 10 rfl rfl rfl (Nat.le_of_ble_eq_true rfl) ?_
  refine a_iload_n C dX11_children_28 rfl ?_
  refine a_if_le C 47 dX11_children_29 (by decide) (fun h2 => ?_) (fun h2 => ?_)
  · have hf := fx_t h2 hf
    refine a_kill [0, 1] ?_
    exact kX11_children_b47 C hQ hf
  · have hf := fx_f h2 hf
    refine a_aload_n C dX11_children_32 rfl ?_
    refine a_get C (eB_X11_56 _) dX11_children_33 0 rfl rfl ?_
    refine a_iload_n C dX11_children_36 rfl ?_
    obtain ⟨r3, h3, hf⟩ := fx_bind hf
    refine a_fV C (kX9_welcome l D Y anow aL aC inow_moats inow_spades inow_tides cnow_mood cnow_place r1.2.1 iC_size r3 h3) (gB_X11_138 _) rfl dvX9_welcome ⟨⟨rfl, rfl⟩, ⟨Nat.le_of_ble_eq_true rfl, Nat.le_of_ble_eq_true rfl⟩, ⟨Nat.le_of_ble_eq_true rfl, Nat.le_of_ble_eq_true rfl⟩⟩ rfl (Nat.le_of_ble_eq_true rfl) dX11_children_37 rfl rfl [7, 8, 9, 1] [0, 2, 3, 4, 5, 6, 10, 11] ⟨rfl, rfl, rfl, rfl, trivial⟩ (by decide +kernel) rfl [oX11 ao atext atold aL aC alaw aotherLaw anow atrial ahistory aguess acrewPlan amoatPlan achance io_wind io_spadeLimit, oX2 aC r1.2.1, rI Y (aC 1) 8 r1.2.2.1, rI Y (aC 2) 8 r1.2.2.2.1, rI Y (aC 3) 8 r1.2.2.2.2.1, rI Y (aC 4) 8 r1.2.2.2.2.2, oX4 ahistory ihistory_next ihistory_size, oX9 anow aL aC inow_moats inow_spades inow_tides, rI Y (anow 3) 8 r3.1, rI Y (anow 4) 8 r3.2, oX10 atext (0 : Int32), rC Y (atext 1) 80 ctext_signs] ⟨rfl, rfl, rfl, rfl, trivial⟩ ⟨rfl, rfl, rfl, rfl, rfl, rfl, rfl, rfl, trivial⟩ 12 rfl (by decide +kernel) ?_
    refine a_aload_n C dX11_children_40 rfl ?_
    refine a_get C (eB_X11_66 _) dX11_children_41 0 rfl rfl ?_
    obtain ⟨r4, h4, hf⟩ := fx_bind hf
    refine a_fV C (kX4_clear l D Y ahistory ihistory_next ihistory_size r4 h4) (gB_X11_130 _) rfl dvX4_clear ⟨⟨rfl, rfl⟩, ⟨Nat.le_of_ble_eq_true rfl, Nat.le_of_ble_eq_true rfl⟩, ⟨Nat.le_of_ble_eq_true rfl, Nat.le_of_ble_eq_true rfl⟩⟩ rfl (Nat.le_of_ble_eq_true rfl) dX11_children_44 rfl rfl [6] [0, 1, 2, 3, 4, 5, 7, 8, 9, 10, 11] ⟨rfl, trivial⟩ (by decide +kernel) rfl [oX11 ao atext atold aL aC alaw aotherLaw anow atrial ahistory aguess acrewPlan amoatPlan achance io_wind io_spadeLimit, oX2 aC r1.2.1, rI Y (aC 1) 8 r1.2.2.1, rI Y (aC 2) 8 r1.2.2.2.1, rI Y (aC 3) 8 r1.2.2.2.2.1, rI Y (aC 4) 8 r1.2.2.2.2.2, oX4 ahistory ihistory_next r4, oX9 anow aL aC inow_moats inow_spades inow_tides, rI Y (anow 3) 8 r3.1, rI Y (anow 4) 8 r3.2, oX10 atext (0 : Int32), rC Y (atext 1) 80 ctext_signs] ⟨rfl, trivial⟩ ⟨rfl, rfl, rfl, rfl, rfl, rfl, rfl, rfl, rfl, rfl, rfl, trivial⟩ 12 rfl (by decide +kernel) ?_
    refine a_kill [0, 1] ?_
    exact kX11_children_b47 C hQ hf
-- X11_rule
abbrev rmX11_rule : Room := { frames := 50, cells := 0, slots := 0, locals := 1148 }
theorem dvX11_rule : yX11_rule.cls = RX11 ∧ yX11_rule.cls ≠ "java/lang/invoke/MethodHandle" ∧ yX11_rule.cls ≠ "java/lang/invoke/VarHandle" ∧ (parseMethodDescriptor yX11_rule.desc).map (fun d => d.parameters.length) = some 0 := by decide +kernel
def fX11_rule (ilaw_length : Int32) (ilaw_at : Int32) (ilaw_sign : Int32) (ilaw_bad : Int32) (claw_codes : Nat → Int32) (claw_stack : Nat → Int32) (iotherLaw_length : Int32) (iotherLaw_at : Int32) (iotherLaw_sign : Int32) (iotherLaw_bad : Int32) (cotherLaw_codes : Nat → Int32) (cotherLaw_stack : Nat → Int32) (itext_length : Int32) (ctext_signs : Nat → Int32) : Option (Int32 × Int32 × Int32 × Int32 × Int32 × (Nat → Int32) × (Nat → Int32) × Int32 × Int32 × Int32 × Int32 × (Nat → Int32) × (Nat → Int32) × Int32) :=
  (fX6_read iotherLaw_length iotherLaw_at iotherLaw_sign iotherLaw_bad cotherLaw_codes itext_length ctext_signs).bind (fun r1 => if r1.1 = (-1 : Int32) then (some ((0 : Int32), r1.2.1, r1.2.2.1, r1.2.2.2.1, r1.2.2.2.2.1, r1.2.2.2.2.2, cotherLaw_stack, ilaw_length, ilaw_at, ilaw_sign, ilaw_bad, claw_codes, claw_stack, (0 : Int32))) else (some (((-1 : Int32) - r1.1), ilaw_length, ilaw_at, ilaw_sign, ilaw_bad, claw_codes, claw_stack, r1.2.1, r1.2.2.1, r1.2.2.2.1, r1.2.2.2.2.1, r1.2.2.2.2.2, cotherLaw_stack, (0 : Int32))))
set_option maxHeartbeats 400000 in
set_option maxRecDepth 100000 in
theorem kX11_rule (l : Launch) (D : va_G) (Y : Nat → ClassId) (ao atext atold aL aC alaw aotherLaw anow atrial ahistory aguess acrewPlan amoatPlan achance : Nat → Nat) (io_wind : Int32) (io_spadeLimit : Int32) (ilaw_length : Int32) (ilaw_at : Int32) (ilaw_sign : Int32) (ilaw_bad : Int32) (claw_codes : Nat → Int32) (claw_stack : Nat → Int32) (iotherLaw_length : Int32) (iotherLaw_at : Int32) (iotherLaw_sign : Int32) (iotherLaw_bad : Int32) (cotherLaw_codes : Nat → Int32) (cotherLaw_stack : Nat → Int32) (itext_length : Int32) (ctext_signs : Nat → Int32) (res : Int32 × Int32 × Int32 × Int32 × Int32 × (Nat → Int32) × (Nat → Int32) × Int32 × Int32 × Int32 × Int32 × (Nat → Int32) × (Nat → Int32) × Int32) (hf : fX11_rule ilaw_length ilaw_at ilaw_sign ilaw_bad claw_codes claw_stack iotherLaw_length iotherLaw_at iotherLaw_sign iotherLaw_bad cotherLaw_codes cotherLaw_stack itext_length ctext_signs = some res) : am l D Y yX11_rule wsX11_rule rmX11_rule [.ref (ao 0)] [oX11 ao atext atold aL aC alaw aotherLaw anow atrial ahistory aguess acrewPlan amoatPlan achance io_wind io_spadeLimit, oX6 alaw ilaw_length ilaw_at ilaw_sign ilaw_bad, rI Y (alaw 1) 40 claw_codes, rI Y (alaw 2) 40 claw_stack, oX6 aotherLaw iotherLaw_length iotherLaw_at iotherLaw_sign iotherLaw_bad, rI Y (aotherLaw 1) 40 cotherLaw_codes, rI Y (aotherLaw 2) 40 cotherLaw_stack, oX10 atext itext_length, rC Y (atext 1) 80 ctext_signs] 0 0 (fun r9 w9 => r9 = (some (.int res.1)) ∧ ∃ alaw_ aotherLaw_ : Nat → Nat, w9 = [oX11 ao atext atold aL aC alaw_ aotherLaw_ anow atrial ahistory aguess acrewPlan amoatPlan achance io_wind io_spadeLimit, oX6 alaw_ res.2.1 res.2.2.1 res.2.2.2.1 res.2.2.2.2.1, rI Y (alaw_ 1) 40 res.2.2.2.2.2.1, rI Y (alaw_ 2) 40 res.2.2.2.2.2.2.1, oX6 aotherLaw_ res.2.2.2.2.2.2.2.1 res.2.2.2.2.2.2.2.2.1 res.2.2.2.2.2.2.2.2.2.1 res.2.2.2.2.2.2.2.2.2.2.1, rI Y (aotherLaw_ 1) 40 res.2.2.2.2.2.2.2.2.2.2.2.1, rI Y (aotherLaw_ 2) 40 res.2.2.2.2.2.2.2.2.2.2.2.2.1, oX10 atext res.2.2.2.2.2.2.2.2.2.2.2.2.2, rC Y (atext 1) 80 ctext_signs]) := by
  refine am.of (cc := cX11_rule) (maxL := 3) (rt := (some .int)) (by decide) rfl RX11 rfl (Nat.le_of_ble_eq_true rfl) [some (.ref (ao 0)), none, none] rfl ?_
  intro X C hQ
  unfold fX11_rule at hf
  refine a_aload_n C dX11_rule_0 rfl ?_
  refine a_get C (eB_X11_44 _) dX11_rule_1 0 rfl rfl ?_
  refine a_aload_n C dX11_rule_4 rfl ?_
  refine a_get C (eB_X11_10 _) dX11_rule_5 0 rfl rfl ?_
  obtain ⟨r1, h1, hf⟩ := fx_bind hf
  refine a_fV C (kX6_read l D Y aotherLaw atext iotherLaw_length iotherLaw_at iotherLaw_sign iotherLaw_bad cotherLaw_codes itext_length ctext_signs r1 h1) (gB_X11_142 _) rfl dvX6_read ⟨⟨rfl, rfl⟩, ⟨Nat.le_of_ble_eq_true rfl, Nat.le_of_ble_eq_true rfl⟩, ⟨Nat.le_of_ble_eq_true rfl, Nat.le_of_ble_eq_true rfl⟩⟩ rfl (Nat.le_of_ble_eq_true rfl) dX11_rule_8 rfl rfl [4, 5, 7, 8] [0, 1, 2, 3, 6] ⟨rfl, rfl, rfl, rfl, trivial⟩ (by decide +kernel) rfl [oX11 ao atext atold aL aC alaw aotherLaw anow atrial ahistory aguess acrewPlan amoatPlan achance io_wind io_spadeLimit, oX6 alaw ilaw_length ilaw_at ilaw_sign ilaw_bad, rI Y (alaw 1) 40 claw_codes, rI Y (alaw 2) 40 claw_stack, oX6 aotherLaw r1.2.1 r1.2.2.1 r1.2.2.2.1 r1.2.2.2.2.1, rI Y (aotherLaw 1) 40 r1.2.2.2.2.2, rI Y (aotherLaw 2) 40 cotherLaw_stack, oX10 atext itext_length, rC Y (atext 1) 80 ctext_signs] ⟨rfl, rfl, rfl, rfl, trivial⟩ ⟨rfl, rfl, rfl, rfl, rfl, trivial⟩ 9 rfl (by decide +kernel) ?_
  refine a_istore_n C dX11_rule_11 (by decide) rfl ?_
  refine a_aload_n C dX11_rule_12 rfl ?_
  refine a_get C (eB_X11_10 _) dX11_rule_13 0 rfl rfl ?_
  refine a_iconst C (0 : Int32) dX11_rule_16 (by decide) ?_
  refine a_put C (eB_X11_114 _) tfX10_1 dX11_rule_17 7 rfl rfl rfl (Nat.le_of_ble_eq_true rfl) ?_
  refine a_iload_n C dX11_rule_20 rfl ?_
  refine a_iconst C (-1 : Int32) dX11_rule_21 (by decide) ?_
  refine a_icmp_eq C 29 dX11_rule_22 (by decide) (fun h2 => ?_) (fun h2 => ?_)
  · have hf := fx_t h2 hf
    refine a_aload_n C dX11_rule_29 rfl ?_
    refine a_get C (eB_X11_40 _) dX11_rule_30 0 rfl rfl ?_
    refine a_astore_n C dX11_rule_33 (by decide) rfl ?_
    refine a_aload_n C dX11_rule_34 rfl ?_
    refine a_aload_n C dX11_rule_35 rfl ?_
    refine a_get C (eB_X11_44 _) dX11_rule_36 0 rfl rfl ?_
    refine a_put C (eB_X11_40 _) tfX11_4 dX11_rule_39 0 rfl rfl rfl (Nat.le_of_ble_eq_true rfl) ?_
    refine a_aload_n C dX11_rule_42 rfl ?_
    refine a_aload_n C dX11_rule_43 rfl ?_
    refine a_put C (eB_X11_44 _) tfX11_5 dX11_rule_44 0 rfl rfl rfl (Nat.le_of_ble_eq_true rfl) ?_
    refine a_iconst C (0 : Int32) dX11_rule_47 (by decide) ?_
    obtain rfl := fx_some hf
    refine a_perm [0, 4, 5, 6, 1, 2, 3, 7, 8] [oX11 ao atext atold aL aC aotherLaw alaw anow atrial ahistory aguess acrewPlan amoatPlan achance io_wind io_spadeLimit, oX6 aotherLaw r1.2.1 r1.2.2.1 r1.2.2.2.1 r1.2.2.2.2.1, rI Y (aotherLaw 1) 40 r1.2.2.2.2.2, rI Y (aotherLaw 2) 40 cotherLaw_stack, oX6 alaw ilaw_length ilaw_at ilaw_sign ilaw_bad, rI Y (alaw 1) 40 claw_codes, rI Y (alaw 2) 40 claw_stack, oX10 atext (0 : Int32), rC Y (atext 1) 80 ctext_signs] ⟨rfl, rfl, rfl, rfl, rfl, rfl, rfl, rfl, rfl, trivial⟩ rfl ?_
    exact a_iret C hQ dX11_rule_48 ⟨rfl, aotherLaw, alaw, rfl⟩
  · have hf := fx_f h2 hf
    refine a_iconst C (-1 : Int32) dX11_rule_25 (by decide) ?_
    refine a_iload_n C dX11_rule_26 rfl ?_
    refine a_isub C dX11_rule_27 ?_
    obtain rfl := fx_some hf
    exact a_iret C hQ dX11_rule_28 ⟨rfl, alaw, aotherLaw, rfl⟩
-- X11_set
abbrev rmX11_set : Room := { frames := 1, cells := 0, slots := 0, locals := 22 }
theorem dvX11_set : yX11_set.cls = RX11 ∧ yX11_set.cls ≠ "java/lang/invoke/MethodHandle" ∧ yX11_set.cls ≠ "java/lang/invoke/VarHandle" ∧ (parseMethodDescriptor yX11_set.desc).map (fun d => d.parameters.length) = some 2 := by decide +kernel
def fX11_set_b62 (io_wind : Int32) (io_spadeLimit : Int32) (inow_spades : Int32) : Option (Int32 × Int32 × Int32) :=
  some ((-1 : Int32), io_wind, io_spadeLimit)
set_option maxHeartbeats 400000 in
set_option maxRecDepth 100000 in
theorem kX11_set_b62 {X : cxT} {l : Launch} {D : va_G} {Y : Nat → ClassId} {ao atext atold aL aC alaw aotherLaw anow atrial ahistory aguess acrewPlan amoatPlan achance : Nat → Nat} {io_wind : Int32} {io_spadeLimit : Int32} {inow_moats : Int32} {inow_spades : Int32} {inow_tides : Int32} {res : Int32 × Int32 × Int32} (C : axC X l D Y cX11_set 4 RX11 wsX11_set rmX11_set (some .int)) (hQ : axQ X 0 0 (fun r9 w9 => r9 = (some (.int res.1)) ∧ w9 = [oX11 ao atext atold aL aC alaw aotherLaw anow atrial ahistory aguess acrewPlan amoatPlan achance res.2.1 res.2.2, oX9 anow aL aC inow_moats inow_spades inow_tides])) (hf : fX11_set_b62 io_wind io_spadeLimit inow_spades = some res) : ax X 0 0 62 [none, none, none, none] [oX11 ao atext atold aL aC alaw aotherLaw anow atrial ahistory aguess acrewPlan amoatPlan achance io_wind io_spadeLimit, oX9 anow aL aC inow_moats inow_spades inow_tides] [] := by
  unfold fX11_set_b62 at hf
  refine a_iconst C (-1 : Int32) dX11_set_62 (by decide) ?_
  obtain rfl := fx_some hf
  exact a_iret C hQ dX11_set_63 ⟨rfl, rfl⟩
def fX11_set_b26 (io_wind : Int32) (io_spadeLimit : Int32) (inow_spades : Int32) (x1 : Int32) (x2 : Int32) : Option (Int32 × Int32 × Int32) :=
  if x1 = (1 : Int32) then ((fJ6_bitCount_0f7a4 inow_spades).bind (fun r2 => (fX11_within x2 r2 (8 : Int32)).bind (fun r3 => if r3 = (0 : Int32) then (fX11_set_b62 io_wind io_spadeLimit inow_spades) else (some (io_spadeLimit, io_wind, x2))))) else (fX11_set_b62 io_wind io_spadeLimit inow_spades)
set_option maxHeartbeats 400000 in
set_option maxRecDepth 100000 in
theorem kX11_set_b26 {X : cxT} {l : Launch} {D : va_G} {Y : Nat → ClassId} {ao atext atold aL aC alaw aotherLaw anow atrial ahistory aguess acrewPlan amoatPlan achance : Nat → Nat} {io_wind : Int32} {io_spadeLimit : Int32} {inow_moats : Int32} {inow_spades : Int32} {inow_tides : Int32} {x1 : Int32} {x2 : Int32} {res : Int32 × Int32 × Int32} (C : axC X l D Y cX11_set 4 RX11 wsX11_set rmX11_set (some .int)) (hQ : axQ X 0 0 (fun r9 w9 => r9 = (some (.int res.1)) ∧ w9 = [oX11 ao atext atold aL aC alaw aotherLaw anow atrial ahistory aguess acrewPlan amoatPlan achance res.2.1 res.2.2, oX9 anow aL aC inow_moats inow_spades inow_tides])) (hf : fX11_set_b26 io_wind io_spadeLimit inow_spades x1 x2 = some res) : ax X 0 0 26 [some (.ref (ao 0)), some (.int x1), some (.int x2), none] [oX11 ao atext atold aL aC alaw aotherLaw anow atrial ahistory aguess acrewPlan amoatPlan achance io_wind io_spadeLimit, oX9 anow aL aC inow_moats inow_spades inow_tides] [] := by
  unfold fX11_set_b26 at hf
  refine a_iload_n C dX11_set_26 rfl ?_
  refine a_iconst C (1 : Int32) dX11_set_27 (by decide) ?_
  refine a_icmp_ne C 62 dX11_set_28 (by decide) (fun h1 => ?_) (fun h1 => ?_)
  · have hf := fx_f h1 hf
    refine a_kill [0, 1, 2] ?_
    exact kX11_set_b62 C hQ hf
  · have hf := fx_t h1 hf
    refine a_iload_n C dX11_set_31 rfl ?_
    refine a_aload_n C dX11_set_32 rfl ?_
    refine a_get C (eB_X11_56 _) dX11_set_33 0 rfl rfl ?_
    refine a_get C (eB_X11_192 _) dX11_set_36 1 rfl rfl ?_
    obtain ⟨r2, h2, hf⟩ := fx_bind hf
    refine a_fS C (kJ6_bitCount_0f7a4 l D Y inow_spades r2 h2) (gB_X11_210 _) rfl dvJ6_bitCount_0f7a4 ⟨⟨rfl, rfl⟩, ⟨Nat.le_of_ble_eq_true rfl, Nat.le_of_ble_eq_true rfl⟩, ⟨Nat.le_of_ble_eq_true rfl, Nat.le_of_ble_eq_true rfl⟩⟩ rfl (Nat.le_of_ble_eq_true rfl) dX11_set_39 [] [0, 1] trivial (by decide +kernel) rfl [oX11 ao atext atold aL aC alaw aotherLaw anow atrial ahistory aguess acrewPlan amoatPlan achance io_wind io_spadeLimit, oX9 anow aL aC inow_moats inow_spades inow_tides] trivial ⟨rfl, rfl, trivial⟩ 2 rfl (by decide +kernel) ?_
    refine a_bipush C (8 : Int32) dX11_set_42 (by decide) ?_
    obtain ⟨r3, h3, hf⟩ := fx_bind hf
    refine a_fS C (kX11_within l D Y x2 r2 (8 : Int32) r3 h3) (gB_X11_203 _) rfl dvX11_within ⟨⟨rfl, rfl⟩, ⟨Nat.le_of_ble_eq_true rfl, Nat.le_of_ble_eq_true rfl⟩, ⟨Nat.le_of_ble_eq_true rfl, Nat.le_of_ble_eq_true rfl⟩⟩ rfl (Nat.le_of_ble_eq_true rfl) dX11_set_44 [] [0, 1] trivial (by decide +kernel) rfl [oX11 ao atext atold aL aC alaw aotherLaw anow atrial ahistory aguess acrewPlan amoatPlan achance io_wind io_spadeLimit, oX9 anow aL aC inow_moats inow_spades inow_tides] trivial ⟨rfl, rfl, trivial⟩ 2 rfl (by decide +kernel) ?_
    refine a_if_eq C 62 dX11_set_47 (by decide) (fun h4 => ?_) (fun h4 => ?_)
    · have hf := fx_t h4 hf
      refine a_kill [0, 1, 2] ?_
      exact kX11_set_b62 C hQ hf
    · have hf := fx_f h4 hf
      refine a_aload_n C dX11_set_50 rfl ?_
      refine a_get C (eB_X11_47 _) dX11_set_51 0 rfl rfl ?_
      refine a_istore_n C dX11_set_54 (by decide) rfl ?_
      refine a_aload_n C dX11_set_55 rfl ?_
      refine a_iload_n C dX11_set_56 rfl ?_
      refine a_put C (eB_X11_47 _) tfX11_7 dX11_set_57 0 rfl rfl rfl (Nat.le_of_ble_eq_true rfl) ?_
      refine a_iload_n C dX11_set_60 rfl ?_
      obtain rfl := fx_some hf
      exact a_iret C hQ dX11_set_61 ⟨rfl, rfl⟩
def fX11_set (io_wind : Int32) (io_spadeLimit : Int32) (inow_spades : Int32) (x1 : Int32) (x2 : Int32) : Option (Int32 × Int32 × Int32) :=
  if x1 = (0 : Int32) then ((fX11_within x2 (0 : Int32) (9 : Int32)).bind (fun r6 => if r6 = (0 : Int32) then (fX11_set_b26 io_wind io_spadeLimit inow_spades x1 x2) else (some (io_wind, x2, io_spadeLimit)))) else (fX11_set_b26 io_wind io_spadeLimit inow_spades x1 x2)
set_option maxHeartbeats 400000 in
set_option maxRecDepth 100000 in
theorem kX11_set (l : Launch) (D : va_G) (Y : Nat → ClassId) (ao atext atold aL aC alaw aotherLaw anow atrial ahistory aguess acrewPlan amoatPlan achance : Nat → Nat) (io_wind : Int32) (io_spadeLimit : Int32) (inow_moats : Int32) (inow_spades : Int32) (inow_tides : Int32) (x1 : Int32) (x2 : Int32) (res : Int32 × Int32 × Int32) (hf : fX11_set io_wind io_spadeLimit inow_spades x1 x2 = some res) : amf l D Y yX11_set wsX11_set rmX11_set [.ref (ao 0), .int x1, .int x2] [oX11 ao atext atold aL aC alaw aotherLaw anow atrial ahistory aguess acrewPlan amoatPlan achance io_wind io_spadeLimit, oX9 anow aL aC inow_moats inow_spades inow_tides] (some (.int res.1)) [oX11 ao atext atold aL aC alaw aotherLaw anow atrial ahistory aguess acrewPlan amoatPlan achance res.2.1 res.2.2, oX9 anow aL aC inow_moats inow_spades inow_tides] := by
  refine amf.of (cc := cX11_set) (maxL := 4) (rt := (some .int)) (by decide) rfl RX11 rfl (Nat.le_of_ble_eq_true rfl) [some (.ref (ao 0)), some (.int x1), some (.int x2), none] rfl ?_
  intro X C hQ
  unfold fX11_set at hf
  refine a_iload_n C dX11_set_0 rfl ?_
  refine a_if_ne C 26 dX11_set_1 (by decide) (fun h5 => ?_) (fun h5 => ?_)
  · have hf := fx_f h5 hf
    exact kX11_set_b26 C hQ hf
  · have hf := fx_t h5 hf
    refine a_iload_n C dX11_set_4 rfl ?_
    refine a_iconst C (0 : Int32) dX11_set_5 (by decide) ?_
    refine a_bipush C (9 : Int32) dX11_set_6 (by decide) ?_
    obtain ⟨r6, h6, hf⟩ := fx_bind hf
    refine a_fS C (kX11_within l D Y x2 (0 : Int32) (9 : Int32) r6 h6) (gB_X11_203 _) rfl dvX11_within ⟨⟨rfl, rfl⟩, ⟨Nat.le_of_ble_eq_true rfl, Nat.le_of_ble_eq_true rfl⟩, ⟨Nat.le_of_ble_eq_true rfl, Nat.le_of_ble_eq_true rfl⟩⟩ rfl (Nat.le_of_ble_eq_true rfl) dX11_set_8 [] [0, 1] trivial (by decide +kernel) rfl [oX11 ao atext atold aL aC alaw aotherLaw anow atrial ahistory aguess acrewPlan amoatPlan achance io_wind io_spadeLimit, oX9 anow aL aC inow_moats inow_spades inow_tides] trivial ⟨rfl, rfl, trivial⟩ 2 rfl (by decide +kernel) ?_
    refine a_if_eq C 26 dX11_set_11 (by decide) (fun h7 => ?_) (fun h7 => ?_)
    · have hf := fx_t h7 hf
      exact kX11_set_b26 C hQ hf
    · have hf := fx_f h7 hf
      refine a_aload_n C dX11_set_14 rfl ?_
      refine a_get C (eB_X11_207 _) dX11_set_15 0 rfl rfl ?_
      refine a_istore_n C dX11_set_18 (by decide) rfl ?_
      refine a_aload_n C dX11_set_19 rfl ?_
      refine a_iload_n C dX11_set_20 rfl ?_
      refine a_put C (eB_X11_207 _) tfX11_6 dX11_set_21 0 rfl rfl rfl (Nat.le_of_ble_eq_true rfl) ?_
      refine a_iload_n C dX11_set_24 rfl ?_
      obtain rfl := fx_some hf
      exact a_iret C hQ dX11_set_25 ⟨rfl, rfl⟩
-- X11_undo
abbrev rmX11_undo : Room := { frames := 3, cells := 0, slots := 0, locals := 82 }
theorem dvX11_undo : yX11_undo.cls = RX11 ∧ yX11_undo.cls ≠ "java/lang/invoke/MethodHandle" ∧ yX11_undo.cls ≠ "java/lang/invoke/VarHandle" ∧ (parseMethodDescriptor yX11_undo.desc).map (fun d => d.parameters.length) = some 0 := by decide +kernel
def fX11_undo (ihistory_next : Int32) (ihistory_size : Int32) (inow_moats : Int32) (inow_spades : Int32) (inow_tides : Int32) (cnow_wall : Nat → Int32) (cnow_depth : Nat → Int32) (cnow_mood : Nat → Int32) (cnow_place : Nat → Int32) (iring_moats : Nat → Int32) (iring_spades : Nat → Int32) (iring_tides : Nat → Int32) (cring_wall : Nat → Nat → Int32) (cring_depth : Nat → Nat → Int32) (cring_mood : Nat → Nat → Int32) (cring_place : Nat → Nat → Int32) : Option (Int32 × Int32 × Int32 × Int32 × Int32 × Int32 × (Nat → Int32) × (Nat → Int32) × (Nat → Int32) × (Nat → Int32)) :=
  (fX4_takeBack ihistory_next ihistory_size inow_moats inow_spades inow_tides cnow_wall cnow_depth cnow_mood cnow_place iring_moats iring_spades iring_tides cring_wall cring_depth cring_mood cring_place).bind (fun r1 => some (r1.1, r1.2.1, r1.2.2.1, r1.2.2.2.1, r1.2.2.2.2.1, r1.2.2.2.2.2.1, r1.2.2.2.2.2.2.1, r1.2.2.2.2.2.2.2.1, r1.2.2.2.2.2.2.2.2.1, r1.2.2.2.2.2.2.2.2.2))
set_option maxHeartbeats 4000000 in
set_option maxRecDepth 100000 in
theorem kX11_undo (l : Launch) (D : va_G) (Y : Nat → ClassId) (ao atext atold aL aC alaw aotherLaw anow atrial ahistory aguess acrewPlan amoatPlan achance : Nat → Nat) (aring : Nat → Nat → Nat) (io_wind : Int32) (io_spadeLimit : Int32) (ihistory_next : Int32) (ihistory_size : Int32) (inow_moats : Int32) (inow_spades : Int32) (inow_tides : Int32) (cnow_wall : Nat → Int32) (cnow_depth : Nat → Int32) (cnow_mood : Nat → Int32) (cnow_place : Nat → Int32) (iring_moats : Nat → Int32) (iring_spades : Nat → Int32) (iring_tides : Nat → Int32) (cring_wall : Nat → Nat → Int32) (cring_depth : Nat → Nat → Int32) (cring_mood : Nat → Nat → Int32) (cring_place : Nat → Nat → Int32) (res : Int32 × Int32 × Int32 × Int32 × Int32 × Int32 × (Nat → Int32) × (Nat → Int32) × (Nat → Int32) × (Nat → Int32)) (hf : fX11_undo ihistory_next ihistory_size inow_moats inow_spades inow_tides cnow_wall cnow_depth cnow_mood cnow_place iring_moats iring_spades iring_tides cring_wall cring_depth cring_mood cring_place = some res) : amf l D Y yX11_undo wsX11_undo rmX11_undo [.ref (ao 0)] [oX11 ao atext atold aL aC alaw aotherLaw anow atrial ahistory aguess acrewPlan amoatPlan achance io_wind io_spadeLimit, oX4 ahistory ihistory_next ihistory_size, rQ Y (ahistory 1) 16 (fun j => some (aring j 0)), oX9 anow aL aC inow_moats inow_spades inow_tides, rI Y (anow 1) 12 cnow_wall, rI Y (anow 2) 12 cnow_depth, rI Y (anow 3) 8 cnow_mood, rI Y (anow 4) 8 cnow_place, oX9 (aring 0) aL aC (iring_moats 0) (iring_spades 0) (iring_tides 0), rI Y ((aring 0) 1) 12 (cring_wall 0), rI Y ((aring 0) 2) 12 (cring_depth 0), rI Y ((aring 0) 3) 8 (cring_mood 0), rI Y ((aring 0) 4) 8 (cring_place 0), oX9 (aring 1) aL aC (iring_moats 1) (iring_spades 1) (iring_tides 1), rI Y ((aring 1) 1) 12 (cring_wall 1), rI Y ((aring 1) 2) 12 (cring_depth 1), rI Y ((aring 1) 3) 8 (cring_mood 1), rI Y ((aring 1) 4) 8 (cring_place 1), oX9 (aring 2) aL aC (iring_moats 2) (iring_spades 2) (iring_tides 2), rI Y ((aring 2) 1) 12 (cring_wall 2), rI Y ((aring 2) 2) 12 (cring_depth 2), rI Y ((aring 2) 3) 8 (cring_mood 2), rI Y ((aring 2) 4) 8 (cring_place 2), oX9 (aring 3) aL aC (iring_moats 3) (iring_spades 3) (iring_tides 3), rI Y ((aring 3) 1) 12 (cring_wall 3), rI Y ((aring 3) 2) 12 (cring_depth 3), rI Y ((aring 3) 3) 8 (cring_mood 3), rI Y ((aring 3) 4) 8 (cring_place 3), oX9 (aring 4) aL aC (iring_moats 4) (iring_spades 4) (iring_tides 4), rI Y ((aring 4) 1) 12 (cring_wall 4), rI Y ((aring 4) 2) 12 (cring_depth 4), rI Y ((aring 4) 3) 8 (cring_mood 4), rI Y ((aring 4) 4) 8 (cring_place 4), oX9 (aring 5) aL aC (iring_moats 5) (iring_spades 5) (iring_tides 5), rI Y ((aring 5) 1) 12 (cring_wall 5), rI Y ((aring 5) 2) 12 (cring_depth 5), rI Y ((aring 5) 3) 8 (cring_mood 5), rI Y ((aring 5) 4) 8 (cring_place 5), oX9 (aring 6) aL aC (iring_moats 6) (iring_spades 6) (iring_tides 6), rI Y ((aring 6) 1) 12 (cring_wall 6), rI Y ((aring 6) 2) 12 (cring_depth 6), rI Y ((aring 6) 3) 8 (cring_mood 6), rI Y ((aring 6) 4) 8 (cring_place 6), oX9 (aring 7) aL aC (iring_moats 7) (iring_spades 7) (iring_tides 7), rI Y ((aring 7) 1) 12 (cring_wall 7), rI Y ((aring 7) 2) 12 (cring_depth 7), rI Y ((aring 7) 3) 8 (cring_mood 7), rI Y ((aring 7) 4) 8 (cring_place 7), oX9 (aring 8) aL aC (iring_moats 8) (iring_spades 8) (iring_tides 8), rI Y ((aring 8) 1) 12 (cring_wall 8), rI Y ((aring 8) 2) 12 (cring_depth 8), rI Y ((aring 8) 3) 8 (cring_mood 8), rI Y ((aring 8) 4) 8 (cring_place 8), oX9 (aring 9) aL aC (iring_moats 9) (iring_spades 9) (iring_tides 9), rI Y ((aring 9) 1) 12 (cring_wall 9), rI Y ((aring 9) 2) 12 (cring_depth 9), rI Y ((aring 9) 3) 8 (cring_mood 9), rI Y ((aring 9) 4) 8 (cring_place 9), oX9 (aring 10) aL aC (iring_moats 10) (iring_spades 10) (iring_tides 10), rI Y ((aring 10) 1) 12 (cring_wall 10), rI Y ((aring 10) 2) 12 (cring_depth 10), rI Y ((aring 10) 3) 8 (cring_mood 10), rI Y ((aring 10) 4) 8 (cring_place 10), oX9 (aring 11) aL aC (iring_moats 11) (iring_spades 11) (iring_tides 11), rI Y ((aring 11) 1) 12 (cring_wall 11), rI Y ((aring 11) 2) 12 (cring_depth 11), rI Y ((aring 11) 3) 8 (cring_mood 11), rI Y ((aring 11) 4) 8 (cring_place 11), oX9 (aring 12) aL aC (iring_moats 12) (iring_spades 12) (iring_tides 12), rI Y ((aring 12) 1) 12 (cring_wall 12), rI Y ((aring 12) 2) 12 (cring_depth 12), rI Y ((aring 12) 3) 8 (cring_mood 12), rI Y ((aring 12) 4) 8 (cring_place 12), oX9 (aring 13) aL aC (iring_moats 13) (iring_spades 13) (iring_tides 13), rI Y ((aring 13) 1) 12 (cring_wall 13), rI Y ((aring 13) 2) 12 (cring_depth 13), rI Y ((aring 13) 3) 8 (cring_mood 13), rI Y ((aring 13) 4) 8 (cring_place 13), oX9 (aring 14) aL aC (iring_moats 14) (iring_spades 14) (iring_tides 14), rI Y ((aring 14) 1) 12 (cring_wall 14), rI Y ((aring 14) 2) 12 (cring_depth 14), rI Y ((aring 14) 3) 8 (cring_mood 14), rI Y ((aring 14) 4) 8 (cring_place 14), oX9 (aring 15) aL aC (iring_moats 15) (iring_spades 15) (iring_tides 15), rI Y ((aring 15) 1) 12 (cring_wall 15), rI Y ((aring 15) 2) 12 (cring_depth 15), rI Y ((aring 15) 3) 8 (cring_mood 15), rI Y ((aring 15) 4) 8 (cring_place 15)] (some (.int res.1)) [oX11 ao atext atold aL aC alaw aotherLaw anow atrial ahistory aguess acrewPlan amoatPlan achance io_wind io_spadeLimit, oX4 ahistory res.2.1 res.2.2.1, rQ Y (ahistory 1) 16 (fun j => some (aring j 0)), oX9 anow aL aC res.2.2.2.1 res.2.2.2.2.1 res.2.2.2.2.2.1, rI Y (anow 1) 12 res.2.2.2.2.2.2.1, rI Y (anow 2) 12 res.2.2.2.2.2.2.2.1, rI Y (anow 3) 8 res.2.2.2.2.2.2.2.2.1, rI Y (anow 4) 8 res.2.2.2.2.2.2.2.2.2, oX9 (aring 0) aL aC (iring_moats 0) (iring_spades 0) (iring_tides 0), rI Y ((aring 0) 1) 12 (cring_wall 0), rI Y ((aring 0) 2) 12 (cring_depth 0), rI Y ((aring 0) 3) 8 (cring_mood 0), rI Y ((aring 0) 4) 8 (cring_place 0), oX9 (aring 1) aL aC (iring_moats 1) (iring_spades 1) (iring_tides 1), rI Y ((aring 1) 1) 12 (cring_wall 1), rI Y ((aring 1) 2) 12 (cring_depth 1), rI Y ((aring 1) 3) 8 (cring_mood 1), rI Y ((aring 1) 4) 8 (cring_place 1), oX9 (aring 2) aL aC (iring_moats 2) (iring_spades 2) (iring_tides 2), rI Y ((aring 2) 1) 12 (cring_wall 2), rI Y ((aring 2) 2) 12 (cring_depth 2), rI Y ((aring 2) 3) 8 (cring_mood 2), rI Y ((aring 2) 4) 8 (cring_place 2), oX9 (aring 3) aL aC (iring_moats 3) (iring_spades 3) (iring_tides 3), rI Y ((aring 3) 1) 12 (cring_wall 3), rI Y ((aring 3) 2) 12 (cring_depth 3), rI Y ((aring 3) 3) 8 (cring_mood 3), rI Y ((aring 3) 4) 8 (cring_place 3), oX9 (aring 4) aL aC (iring_moats 4) (iring_spades 4) (iring_tides 4), rI Y ((aring 4) 1) 12 (cring_wall 4), rI Y ((aring 4) 2) 12 (cring_depth 4), rI Y ((aring 4) 3) 8 (cring_mood 4), rI Y ((aring 4) 4) 8 (cring_place 4), oX9 (aring 5) aL aC (iring_moats 5) (iring_spades 5) (iring_tides 5), rI Y ((aring 5) 1) 12 (cring_wall 5), rI Y ((aring 5) 2) 12 (cring_depth 5), rI Y ((aring 5) 3) 8 (cring_mood 5), rI Y ((aring 5) 4) 8 (cring_place 5), oX9 (aring 6) aL aC (iring_moats 6) (iring_spades 6) (iring_tides 6), rI Y ((aring 6) 1) 12 (cring_wall 6), rI Y ((aring 6) 2) 12 (cring_depth 6), rI Y ((aring 6) 3) 8 (cring_mood 6), rI Y ((aring 6) 4) 8 (cring_place 6), oX9 (aring 7) aL aC (iring_moats 7) (iring_spades 7) (iring_tides 7), rI Y ((aring 7) 1) 12 (cring_wall 7), rI Y ((aring 7) 2) 12 (cring_depth 7), rI Y ((aring 7) 3) 8 (cring_mood 7), rI Y ((aring 7) 4) 8 (cring_place 7), oX9 (aring 8) aL aC (iring_moats 8) (iring_spades 8) (iring_tides 8), rI Y ((aring 8) 1) 12 (cring_wall 8), rI Y ((aring 8) 2) 12 (cring_depth 8), rI Y ((aring 8) 3) 8 (cring_mood 8), rI Y ((aring 8) 4) 8 (cring_place 8), oX9 (aring 9) aL aC (iring_moats 9) (iring_spades 9) (iring_tides 9), rI Y ((aring 9) 1) 12 (cring_wall 9), rI Y ((aring 9) 2) 12 (cring_depth 9), rI Y ((aring 9) 3) 8 (cring_mood 9), rI Y ((aring 9) 4) 8 (cring_place 9), oX9 (aring 10) aL aC (iring_moats 10) (iring_spades 10) (iring_tides 10), rI Y ((aring 10) 1) 12 (cring_wall 10), rI Y ((aring 10) 2) 12 (cring_depth 10), rI Y ((aring 10) 3) 8 (cring_mood 10), rI Y ((aring 10) 4) 8 (cring_place 10), oX9 (aring 11) aL aC (iring_moats 11) (iring_spades 11) (iring_tides 11), rI Y ((aring 11) 1) 12 (cring_wall 11), rI Y ((aring 11) 2) 12 (cring_depth 11), rI Y ((aring 11) 3) 8 (cring_mood 11), rI Y ((aring 11) 4) 8 (cring_place 11), oX9 (aring 12) aL aC (iring_moats 12) (iring_spades 12) (iring_tides 12), rI Y ((aring 12) 1) 12 (cring_wall 12), rI Y ((aring 12) 2) 12 (cring_depth 12), rI Y ((aring 12) 3) 8 (cring_mood 12), rI Y ((aring 12) 4) 8 (cring_place 12), oX9 (aring 13) aL aC (iring_moats 13) (iring_spades 13) (iring_tides 13), rI Y ((aring 13) 1) 12 (cring_wall 13), rI Y ((aring 13) 2) 12 (cring_depth 13), rI Y ((aring 13) 3) 8 (cring_mood 13), rI Y ((aring 13) 4) 8 (cring_place 13), oX9 (aring 14) aL aC (iring_moats 14) (iring_spades 14) (iring_tides 14), rI Y ((aring 14) 1) 12 (cring_wall 14), rI Y ((aring 14) 2) 12 (cring_depth 14), rI Y ((aring 14) 3) 8 (cring_mood 14), rI Y ((aring 14) 4) 8 (cring_place 14), oX9 (aring 15) aL aC (iring_moats 15) (iring_spades 15) (iring_tides 15), rI Y ((aring 15) 1) 12 (cring_wall 15), rI Y ((aring 15) 2) 12 (cring_depth 15), rI Y ((aring 15) 3) 8 (cring_mood 15), rI Y ((aring 15) 4) 8 (cring_place 15)] := by
  refine amf.of (cc := cX11_undo) (maxL := 1) (rt := (some .int)) (by decide) rfl RX11 rfl (Nat.le_of_ble_eq_true rfl) [some (.ref (ao 0))] rfl ?_
  intro X C hQ
  unfold fX11_undo at hf
  refine a_aload_n C dX11_undo_0 rfl ?_
  refine a_get C (eB_X11_66 _) dX11_undo_1 0 rfl rfl ?_
  refine a_aload_n C dX11_undo_4 rfl ?_
  refine a_get C (eB_X11_56 _) dX11_undo_5 0 rfl rfl ?_
  obtain ⟨r1, h1, hf⟩ := fx_bind hf
  refine a_fV C (kX4_takeBack l D Y ahistory anow aL aC aring ihistory_next ihistory_size inow_moats inow_spades inow_tides cnow_wall cnow_depth cnow_mood cnow_place iring_moats iring_spades iring_tides cring_wall cring_depth cring_mood cring_place r1 h1) (gB_X11_268 _) rfl dvX4_takeBack ⟨⟨rfl, rfl⟩, ⟨Nat.le_of_ble_eq_true rfl, Nat.le_of_ble_eq_true rfl⟩, ⟨Nat.le_of_ble_eq_true rfl, Nat.le_of_ble_eq_true rfl⟩⟩ rfl (Nat.le_of_ble_eq_true rfl) dX11_undo_8 rfl rfl [1, 2, 3, 4, 5, 6, 7, 8, 9, 10, 11, 12, 13, 14, 15, 16, 17, 18, 19, 20, 21, 22, 23, 24, 25, 26, 27, 28, 29, 30, 31, 32, 33, 34, 35, 36, 37, 38, 39, 40, 41, 42, 43, 44, 45, 46, 47, 48, 49, 50, 51, 52, 53, 54, 55, 56, 57, 58, 59, 60, 61, 62, 63, 64, 65, 66, 67, 68, 69, 70, 71, 72, 73, 74, 75, 76, 77, 78, 79, 80, 81, 82, 83, 84, 85, 86, 87] [0] ⟨rfl, rfl, rfl, rfl, rfl, rfl, rfl, rfl, rfl, rfl, rfl, rfl, rfl, rfl, rfl, rfl, rfl, rfl, rfl, rfl, rfl, rfl, rfl, rfl, rfl, rfl, rfl, rfl, rfl, rfl, rfl, rfl, rfl, rfl, rfl, rfl, rfl, rfl, rfl, rfl, rfl, rfl, rfl, rfl, rfl, rfl, rfl, rfl, rfl, rfl, rfl, rfl, rfl, rfl, rfl, rfl, rfl, rfl, rfl, rfl, rfl, rfl, rfl, rfl, rfl, rfl, rfl, rfl, rfl, rfl, rfl, rfl, rfl, rfl, rfl, rfl, rfl, rfl, rfl, rfl, rfl, rfl, rfl, rfl, rfl, rfl, rfl, trivial⟩ (by decide +kernel) rfl [oX11 ao atext atold aL aC alaw aotherLaw anow atrial ahistory aguess acrewPlan amoatPlan achance io_wind io_spadeLimit, oX4 ahistory r1.2.1 r1.2.2.1, rQ Y (ahistory 1) 16 (fun j => some (aring j 0)), oX9 anow aL aC r1.2.2.2.1 r1.2.2.2.2.1 r1.2.2.2.2.2.1, rI Y (anow 1) 12 r1.2.2.2.2.2.2.1, rI Y (anow 2) 12 r1.2.2.2.2.2.2.2.1, rI Y (anow 3) 8 r1.2.2.2.2.2.2.2.2.1, rI Y (anow 4) 8 r1.2.2.2.2.2.2.2.2.2, oX9 (aring 0) aL aC (iring_moats 0) (iring_spades 0) (iring_tides 0), rI Y ((aring 0) 1) 12 (cring_wall 0), rI Y ((aring 0) 2) 12 (cring_depth 0), rI Y ((aring 0) 3) 8 (cring_mood 0), rI Y ((aring 0) 4) 8 (cring_place 0), oX9 (aring 1) aL aC (iring_moats 1) (iring_spades 1) (iring_tides 1), rI Y ((aring 1) 1) 12 (cring_wall 1), rI Y ((aring 1) 2) 12 (cring_depth 1), rI Y ((aring 1) 3) 8 (cring_mood 1), rI Y ((aring 1) 4) 8 (cring_place 1), oX9 (aring 2) aL aC (iring_moats 2) (iring_spades 2) (iring_tides 2), rI Y ((aring 2) 1) 12 (cring_wall 2), rI Y ((aring 2) 2) 12 (cring_depth 2), rI Y ((aring 2) 3) 8 (cring_mood 2), rI Y ((aring 2) 4) 8 (cring_place 2), oX9 (aring 3) aL aC (iring_moats 3) (iring_spades 3) (iring_tides 3), rI Y ((aring 3) 1) 12 (cring_wall 3), rI Y ((aring 3) 2) 12 (cring_depth 3), rI Y ((aring 3) 3) 8 (cring_mood 3), rI Y ((aring 3) 4) 8 (cring_place 3), oX9 (aring 4) aL aC (iring_moats 4) (iring_spades 4) (iring_tides 4), rI Y ((aring 4) 1) 12 (cring_wall 4), rI Y ((aring 4) 2) 12 (cring_depth 4), rI Y ((aring 4) 3) 8 (cring_mood 4), rI Y ((aring 4) 4) 8 (cring_place 4), oX9 (aring 5) aL aC (iring_moats 5) (iring_spades 5) (iring_tides 5), rI Y ((aring 5) 1) 12 (cring_wall 5), rI Y ((aring 5) 2) 12 (cring_depth 5), rI Y ((aring 5) 3) 8 (cring_mood 5), rI Y ((aring 5) 4) 8 (cring_place 5), oX9 (aring 6) aL aC (iring_moats 6) (iring_spades 6) (iring_tides 6), rI Y ((aring 6) 1) 12 (cring_wall 6), rI Y ((aring 6) 2) 12 (cring_depth 6), rI Y ((aring 6) 3) 8 (cring_mood 6), rI Y ((aring 6) 4) 8 (cring_place 6), oX9 (aring 7) aL aC (iring_moats 7) (iring_spades 7) (iring_tides 7), rI Y ((aring 7) 1) 12 (cring_wall 7), rI Y ((aring 7) 2) 12 (cring_depth 7), rI Y ((aring 7) 3) 8 (cring_mood 7), rI Y ((aring 7) 4) 8 (cring_place 7), oX9 (aring 8) aL aC (iring_moats 8) (iring_spades 8) (iring_tides 8), rI Y ((aring 8) 1) 12 (cring_wall 8), rI Y ((aring 8) 2) 12 (cring_depth 8), rI Y ((aring 8) 3) 8 (cring_mood 8), rI Y ((aring 8) 4) 8 (cring_place 8), oX9 (aring 9) aL aC (iring_moats 9) (iring_spades 9) (iring_tides 9), rI Y ((aring 9) 1) 12 (cring_wall 9), rI Y ((aring 9) 2) 12 (cring_depth 9), rI Y ((aring 9) 3) 8 (cring_mood 9), rI Y ((aring 9) 4) 8 (cring_place 9), oX9 (aring 10) aL aC (iring_moats 10) (iring_spades 10) (iring_tides 10), rI Y ((aring 10) 1) 12 (cring_wall 10), rI Y ((aring 10) 2) 12 (cring_depth 10), rI Y ((aring 10) 3) 8 (cring_mood 10), rI Y ((aring 10) 4) 8 (cring_place 10), oX9 (aring 11) aL aC (iring_moats 11) (iring_spades 11) (iring_tides 11), rI Y ((aring 11) 1) 12 (cring_wall 11), rI Y ((aring 11) 2) 12 (cring_depth 11), rI Y ((aring 11) 3) 8 (cring_mood 11), rI Y ((aring 11) 4) 8 (cring_place 11), oX9 (aring 12) aL aC (iring_moats 12) (iring_spades 12) (iring_tides 12), rI Y ((aring 12) 1) 12 (cring_wall 12), rI Y ((aring 12) 2) 12 (cring_depth 12), rI Y ((aring 12) 3) 8 (cring_mood 12), rI Y ((aring 12) 4) 8 (cring_place 12), oX9 (aring 13) aL aC (iring_moats 13) (iring_spades 13) (iring_tides 13), rI Y ((aring 13) 1) 12 (cring_wall 13), rI Y ((aring 13) 2) 12 (cring_depth 13), rI Y ((aring 13) 3) 8 (cring_mood 13), rI Y ((aring 13) 4) 8 (cring_place 13), oX9 (aring 14) aL aC (iring_moats 14) (iring_spades 14) (iring_tides 14), rI Y ((aring 14) 1) 12 (cring_wall 14), rI Y ((aring 14) 2) 12 (cring_depth 14), rI Y ((aring 14) 3) 8 (cring_mood 14), rI Y ((aring 14) 4) 8 (cring_place 14), oX9 (aring 15) aL aC (iring_moats 15) (iring_spades 15) (iring_tides 15), rI Y ((aring 15) 1) 12 (cring_wall 15), rI Y ((aring 15) 2) 12 (cring_depth 15), rI Y ((aring 15) 3) 8 (cring_mood 15), rI Y ((aring 15) 4) 8 (cring_place 15)] ⟨rfl, rfl, rfl, rfl, rfl, rfl, rfl, rfl, rfl, rfl, rfl, rfl, rfl, rfl, rfl, rfl, rfl, rfl, rfl, rfl, rfl, rfl, rfl, rfl, rfl, rfl, rfl, rfl, rfl, rfl, rfl, rfl, rfl, rfl, rfl, rfl, rfl, rfl, rfl, rfl, rfl, rfl, rfl, rfl, rfl, rfl, rfl, rfl, rfl, rfl, rfl, rfl, rfl, rfl, rfl, rfl, rfl, rfl, rfl, rfl, rfl, rfl, rfl, rfl, rfl, rfl, rfl, rfl, rfl, rfl, rfl, rfl, rfl, rfl, rfl, rfl, rfl, rfl, rfl, rfl, rfl, rfl, rfl, rfl, rfl, rfl, rfl, trivial⟩ ⟨rfl, trivial⟩ 88 rfl (by decide +kernel) ?_
  obtain rfl := fx_some hf
  exact a_iret C hQ dX11_undo_11 ⟨rfl, rfl⟩
-- X11_floods
abbrev rmX11_floods : Room := { frames := 2, cells := 0, slots := 0, locals := 46 }
theorem dvX11_floods : yX11_floods.cls = RX11 ∧ yX11_floods.cls ≠ "java/lang/invoke/MethodHandle" ∧ yX11_floods.cls ≠ "java/lang/invoke/VarHandle" ∧ (parseMethodDescriptor yX11_floods.desc).map (fun d => d.parameters.length) = some 2 := by decide +kernel
def fX11_floods_b22 (iL_cells : Int32) (cL_dyke : Nat → Int32) (itold_size : Int32) (ctold_numbers : Nat → Int64) (ctrial_depth : Nat → Int32) : Option (Int32 × Int32 × (Nat → Int64) × (Nat → Int32)) :=
  some ((-1 : Int32), itold_size, ctold_numbers, ctrial_depth)
set_option maxHeartbeats 400000 in
set_option maxRecDepth 100000 in
theorem kX11_floods_b22 {X : cxT} {l : Launch} {D : va_G} {Y : Nat → ClassId} {ao atext atold aL aC alaw aotherLaw anow atrial ahistory aguess acrewPlan amoatPlan achance : Nat → Nat} {io_wind : Int32} {io_spadeLimit : Int32} {iL_cells : Int32} {cL_dyke : Nat → Int32} {itold_size : Int32} {ctold_numbers : Nat → Int64} {itrial_moats : Int32} {itrial_spades : Int32} {itrial_tides : Int32} {ctrial_depth : Nat → Int32} {res : Int32 × Int32 × (Nat → Int64) × (Nat → Int32)} (C : axC X l D Y cX11_floods 3 RX11 wsX11_floods rmX11_floods (some .int)) (hQ : axQ X 0 0 (fun r9 w9 => r9 = (some (.int res.1)) ∧ w9 = [oX11 ao atext atold aL aC alaw aotherLaw anow atrial ahistory aguess acrewPlan amoatPlan achance io_wind io_spadeLimit, oX5 aL iL_cells, rI Y (aL 2) 12 cL_dyke, oX8 atold res.2.1, rJ Y (atold 1) 12 res.2.2.1, oX9 atrial aL aC itrial_moats itrial_spades itrial_tides, rI Y (atrial 2) 12 res.2.2.2])) (hf : fX11_floods_b22 iL_cells cL_dyke itold_size ctold_numbers ctrial_depth = some res) : ax X 0 0 22 [none, none, none] [oX11 ao atext atold aL aC alaw aotherLaw anow atrial ahistory aguess acrewPlan amoatPlan achance io_wind io_spadeLimit, oX5 aL iL_cells, rI Y (aL 2) 12 cL_dyke, oX8 atold itold_size, rJ Y (atold 1) 12 ctold_numbers, oX9 atrial aL aC itrial_moats itrial_spades itrial_tides, rI Y (atrial 2) 12 ctrial_depth] [] := by
  unfold fX11_floods_b22 at hf
  refine a_iconst C (-1 : Int32) dX11_floods_22 (by decide) ?_
  obtain rfl := fx_some hf
  exact a_iret C hQ dX11_floods_23 ⟨rfl, rfl⟩
def fX11_floods (iL_cells : Int32) (cL_dyke : Nat → Int32) (itold_size : Int32) (ctold_numbers : Nat → Int64) (ctrial_depth : Nat → Int32) (x1 : Int32) (x2 : Int32) : Option (Int32 × Int32 × (Nat → Int64) × (Nat → Int32)) :=
  (fX5_has iL_cells x1).bind (fun r1 => if r1 = (0 : Int32) then (fX11_floods_b22 iL_cells cL_dyke itold_size ctold_numbers ctrial_depth) else ((fX11_within x2 (1 : Int32) (999 : Int32)).bind (fun r3 => if r3 = (0 : Int32) then (fX11_floods_b22 iL_cells cL_dyke itold_size ctold_numbers ctrial_depth) else ((fJ7_fill_53178 ctrial_depth 12 (0 : Int32)).bind (fun r5 => if inb x1 12 then (fX9_spread (upd r5 (Int32.toNatClampNeg x1) x2) iL_cells cL_dyke).bind (fun r7 => (fX9_wet r7 iL_cells).bind (fun r8 => (fJ6_bitCount_0f7a4 r8).bind (fun r9 => (fX9_water r7 iL_cells).bind (fun r10 => (fX8_tell_ itold_size ctold_numbers (r9.toInt64) (r10.toInt64)).bind (fun r11 => (fX9_wet r7 iL_cells).bind (fun r12 => some (r12, r11.1, r11.2, r7))))))) else none)))))
set_option maxHeartbeats 400000 in
set_option maxRecDepth 100000 in
theorem kX11_floods (l : Launch) (D : va_G) (Y : Nat → ClassId) (ao atext atold aL aC alaw aotherLaw anow atrial ahistory aguess acrewPlan amoatPlan achance : Nat → Nat) (io_wind : Int32) (io_spadeLimit : Int32) (iL_cells : Int32) (cL_dyke : Nat → Int32) (itold_size : Int32) (ctold_numbers : Nat → Int64) (itrial_moats : Int32) (itrial_spades : Int32) (itrial_tides : Int32) (ctrial_depth : Nat → Int32) (x1 : Int32) (x2 : Int32) (res : Int32 × Int32 × (Nat → Int64) × (Nat → Int32)) (hf : fX11_floods iL_cells cL_dyke itold_size ctold_numbers ctrial_depth x1 x2 = some res) : amf l D Y yX11_floods wsX11_floods rmX11_floods [.ref (ao 0), .int x1, .int x2] [oX11 ao atext atold aL aC alaw aotherLaw anow atrial ahistory aguess acrewPlan amoatPlan achance io_wind io_spadeLimit, oX5 aL iL_cells, rI Y (aL 2) 12 cL_dyke, oX8 atold itold_size, rJ Y (atold 1) 12 ctold_numbers, oX9 atrial aL aC itrial_moats itrial_spades itrial_tides, rI Y (atrial 2) 12 ctrial_depth] (some (.int res.1)) [oX11 ao atext atold aL aC alaw aotherLaw anow atrial ahistory aguess acrewPlan amoatPlan achance io_wind io_spadeLimit, oX5 aL iL_cells, rI Y (aL 2) 12 cL_dyke, oX8 atold res.2.1, rJ Y (atold 1) 12 res.2.2.1, oX9 atrial aL aC itrial_moats itrial_spades itrial_tides, rI Y (atrial 2) 12 res.2.2.2] := by
  refine amf.of (cc := cX11_floods) (maxL := 3) (rt := (some .int)) (by decide) rfl RX11 rfl (Nat.le_of_ble_eq_true rfl) [some (.ref (ao 0)), some (.int x1), some (.int x2)] rfl ?_
  intro X C hQ
  unfold fX11_floods at hf
  refine a_aload_n C dX11_floods_0 rfl ?_
  refine a_get C (eB_X11_26 _) dX11_floods_1 0 rfl rfl ?_
  refine a_iload_n C dX11_floods_4 rfl ?_
  obtain ⟨r1, h1, hf⟩ := fx_bind hf
  refine a_fV C (kX5_has l D Y aL iL_cells x1 r1 h1) (gB_X11_143 _) rfl dvX5_has ⟨⟨rfl, rfl⟩, ⟨Nat.le_of_ble_eq_true rfl, Nat.le_of_ble_eq_true rfl⟩, ⟨Nat.le_of_ble_eq_true rfl, Nat.le_of_ble_eq_true rfl⟩⟩ rfl (Nat.le_of_ble_eq_true rfl) dX11_floods_5 rfl rfl [1] [0, 2, 3, 4, 5, 6] ⟨rfl, trivial⟩ (by decide +kernel) rfl [oX11 ao atext atold aL aC alaw aotherLaw anow atrial ahistory aguess acrewPlan amoatPlan achance io_wind io_spadeLimit, oX5 aL iL_cells, rI Y (aL 2) 12 cL_dyke, oX8 atold itold_size, rJ Y (atold 1) 12 ctold_numbers, oX9 atrial aL aC itrial_moats itrial_spades itrial_tides, rI Y (atrial 2) 12 ctrial_depth] ⟨rfl, trivial⟩ ⟨rfl, rfl, rfl, rfl, rfl, rfl, trivial⟩ 7 rfl (by decide +kernel) ?_
  refine a_if_eq C 22 dX11_floods_8 (by decide) (fun h2 => ?_) (fun h2 => ?_)
  · have hf := fx_t h2 hf
    refine a_kill [0, 1, 2] ?_
    exact kX11_floods_b22 C hQ hf
  · have hf := fx_f h2 hf
    refine a_iload_n C dX11_floods_11 rfl ?_
    refine a_iconst C (1 : Int32) dX11_floods_12 (by decide) ?_
    refine a_sipush C (999 : Int32) dX11_floods_13 (by decide) ?_
    obtain ⟨r3, h3, hf⟩ := fx_bind hf
    refine a_fS C (kX11_within l D Y x2 (1 : Int32) (999 : Int32) r3 h3) (gB_X11_203 _) rfl dvX11_within ⟨⟨rfl, rfl⟩, ⟨Nat.le_of_ble_eq_true rfl, Nat.le_of_ble_eq_true rfl⟩, ⟨Nat.le_of_ble_eq_true rfl, Nat.le_of_ble_eq_true rfl⟩⟩ rfl (Nat.le_of_ble_eq_true rfl) dX11_floods_16 [] [0, 1, 2, 3, 4, 5, 6] trivial (by decide +kernel) rfl [oX11 ao atext atold aL aC alaw aotherLaw anow atrial ahistory aguess acrewPlan amoatPlan achance io_wind io_spadeLimit, oX5 aL iL_cells, rI Y (aL 2) 12 cL_dyke, oX8 atold itold_size, rJ Y (atold 1) 12 ctold_numbers, oX9 atrial aL aC itrial_moats itrial_spades itrial_tides, rI Y (atrial 2) 12 ctrial_depth] trivial ⟨rfl, rfl, rfl, rfl, rfl, rfl, rfl, trivial⟩ 7 rfl (by decide +kernel) ?_
    refine a_if_ne C 24 dX11_floods_19 (by decide) (fun h4 => ?_) (fun h4 => ?_)
    · have hf := fx_f h4 hf
      refine a_aload_n C dX11_floods_24 rfl ?_
      refine a_get C (eB_X11_60 _) dX11_floods_25 0 rfl rfl ?_
      refine a_get C (eB_X11_162 _) dX11_floods_28 5 rfl rfl ?_
      refine a_iconst C (0 : Int32) dX11_floods_31 (by decide) ?_
      obtain ⟨r5, h5, hf⟩ := fx_bind hf
      refine a_fS C (kJ7_fill_53178 l D Y (atrial 2) ctrial_depth 12 (0 : Int32) r5 h5) (gB_X11_215 _) rfl dvJ7_fill_53178 ⟨⟨rfl, rfl⟩, ⟨Nat.le_of_ble_eq_true rfl, Nat.le_of_ble_eq_true rfl⟩, ⟨Nat.le_of_ble_eq_true rfl, Nat.le_of_ble_eq_true rfl⟩⟩ rfl (Nat.le_of_ble_eq_true rfl) dX11_floods_32 [6] [0, 1, 2, 3, 4, 5] ⟨rfl, trivial⟩ (by decide +kernel) rfl [oX11 ao atext atold aL aC alaw aotherLaw anow atrial ahistory aguess acrewPlan amoatPlan achance io_wind io_spadeLimit, oX5 aL iL_cells, rI Y (aL 2) 12 cL_dyke, oX8 atold itold_size, rJ Y (atold 1) 12 ctold_numbers, oX9 atrial aL aC itrial_moats itrial_spades itrial_tides, rI Y (atrial 2) 12 r5] ⟨rfl, trivial⟩ ⟨rfl, rfl, rfl, rfl, rfl, rfl, trivial⟩ 7 rfl (by decide +kernel) ?_
      refine a_aload_n C dX11_floods_35 rfl ?_
      refine a_get C (eB_X11_60 _) dX11_floods_36 0 rfl rfl ?_
      refine a_get C (eB_X11_162 _) dX11_floods_39 5 rfl rfl ?_
      refine a_iload_n C dX11_floods_42 rfl ?_
      refine a_iload_n C dX11_floods_43 rfl ?_
      obtain ⟨h6, hf⟩ := fx_ite hf
      refine a_iast C dX11_floods_44 6 rfl h6 ?_
      refine a_aload_n C dX11_floods_45 rfl ?_
      refine a_get C (eB_X11_60 _) dX11_floods_46 0 rfl rfl ?_
      obtain ⟨r7, h7, hf⟩ := fx_bind hf
      refine a_fV C (kX9_spread l D Y atrial aL aC itrial_moats itrial_spades itrial_tides (upd r5 (Int32.toNatClampNeg x1) x2) iL_cells cL_dyke r7 h7) (gB_X11_298 _) rfl dvX9_spread ⟨⟨rfl, rfl⟩, ⟨Nat.le_of_ble_eq_true rfl, Nat.le_of_ble_eq_true rfl⟩, ⟨Nat.le_of_ble_eq_true rfl, Nat.le_of_ble_eq_true rfl⟩⟩ rfl (Nat.le_of_ble_eq_true rfl) dX11_floods_49 rfl rfl [5, 6, 1, 2] [0, 3, 4] ⟨rfl, rfl, rfl, rfl, trivial⟩ (by decide +kernel) rfl [oX11 ao atext atold aL aC alaw aotherLaw anow atrial ahistory aguess acrewPlan amoatPlan achance io_wind io_spadeLimit, oX5 aL iL_cells, rI Y (aL 2) 12 cL_dyke, oX8 atold itold_size, rJ Y (atold 1) 12 ctold_numbers, oX9 atrial aL aC itrial_moats itrial_spades itrial_tides, rI Y (atrial 2) 12 r7] ⟨rfl, rfl, rfl, rfl, trivial⟩ ⟨rfl, rfl, rfl, trivial⟩ 7 rfl (by decide +kernel) ?_
      refine a_aload_n C dX11_floods_52 rfl ?_
      refine a_get C (eB_X11_19 _) dX11_floods_53 0 rfl rfl ?_
      refine a_aload_n C dX11_floods_56 rfl ?_
      refine a_get C (eB_X11_60 _) dX11_floods_57 0 rfl rfl ?_
      obtain ⟨r8, h8, hf⟩ := fx_bind hf
      refine a_fV C (kX9_wet l D Y atrial aL aC itrial_moats itrial_spades itrial_tides r7 iL_cells r8 h8) (gB_X11_261 _) rfl dvX9_wet ⟨⟨rfl, rfl⟩, ⟨Nat.le_of_ble_eq_true rfl, Nat.le_of_ble_eq_true rfl⟩, ⟨Nat.le_of_ble_eq_true rfl, Nat.le_of_ble_eq_true rfl⟩⟩ rfl (Nat.le_of_ble_eq_true rfl) dX11_floods_60 rfl rfl [5, 6, 1] [0, 2, 3, 4] ⟨rfl, rfl, rfl, trivial⟩ (by decide +kernel) rfl [oX11 ao atext atold aL aC alaw aotherLaw anow atrial ahistory aguess acrewPlan amoatPlan achance io_wind io_spadeLimit, oX5 aL iL_cells, rI Y (aL 2) 12 cL_dyke, oX8 atold itold_size, rJ Y (atold 1) 12 ctold_numbers, oX9 atrial aL aC itrial_moats itrial_spades itrial_tides, rI Y (atrial 2) 12 r7] ⟨rfl, rfl, rfl, trivial⟩ ⟨rfl, rfl, rfl, rfl, trivial⟩ 7 rfl (by decide +kernel) ?_
      obtain ⟨r9, h9, hf⟩ := fx_bind hf
      refine a_fS C (kJ6_bitCount_0f7a4 l D Y r8 r9 h9) (gB_X11_210 _) rfl dvJ6_bitCount_0f7a4 ⟨⟨rfl, rfl⟩, ⟨Nat.le_of_ble_eq_true rfl, Nat.le_of_ble_eq_true rfl⟩, ⟨Nat.le_of_ble_eq_true rfl, Nat.le_of_ble_eq_true rfl⟩⟩ rfl (Nat.le_of_ble_eq_true rfl) dX11_floods_63 [] [0, 1, 2, 3, 4, 5, 6] trivial (by decide +kernel) rfl [oX11 ao atext atold aL aC alaw aotherLaw anow atrial ahistory aguess acrewPlan amoatPlan achance io_wind io_spadeLimit, oX5 aL iL_cells, rI Y (aL 2) 12 cL_dyke, oX8 atold itold_size, rJ Y (atold 1) 12 ctold_numbers, oX9 atrial aL aC itrial_moats itrial_spades itrial_tides, rI Y (atrial 2) 12 r7] trivial ⟨rfl, rfl, rfl, rfl, rfl, rfl, rfl, trivial⟩ 7 rfl (by decide +kernel) ?_
      refine a_i2l C dX11_floods_66 ?_
      refine a_aload_n C dX11_floods_67 rfl ?_
      refine a_get C (eB_X11_60 _) dX11_floods_68 0 rfl rfl ?_
      obtain ⟨r10, h10, hf⟩ := fx_bind hf
      refine a_fV C (kX9_water l D Y atrial aL aC itrial_moats itrial_spades itrial_tides r7 iL_cells r10 h10) (gB_X11_292 _) rfl dvX9_water ⟨⟨rfl, rfl⟩, ⟨Nat.le_of_ble_eq_true rfl, Nat.le_of_ble_eq_true rfl⟩, ⟨Nat.le_of_ble_eq_true rfl, Nat.le_of_ble_eq_true rfl⟩⟩ rfl (Nat.le_of_ble_eq_true rfl) dX11_floods_71 rfl rfl [5, 6, 1] [0, 2, 3, 4] ⟨rfl, rfl, rfl, trivial⟩ (by decide +kernel) rfl [oX11 ao atext atold aL aC alaw aotherLaw anow atrial ahistory aguess acrewPlan amoatPlan achance io_wind io_spadeLimit, oX5 aL iL_cells, rI Y (aL 2) 12 cL_dyke, oX8 atold itold_size, rJ Y (atold 1) 12 ctold_numbers, oX9 atrial aL aC itrial_moats itrial_spades itrial_tides, rI Y (atrial 2) 12 r7] ⟨rfl, rfl, rfl, trivial⟩ ⟨rfl, rfl, rfl, rfl, trivial⟩ 7 rfl (by decide +kernel) ?_
      refine a_i2l C dX11_floods_74 ?_
      obtain ⟨r11, h11, hf⟩ := fx_bind hf
      refine a_fV C (kX8_tell_ l D Y atold itold_size ctold_numbers (r9.toInt64) (r10.toInt64) r11 h11) (gB_X11_264 _) rfl dvX8_tell_ ⟨⟨rfl, rfl⟩, ⟨Nat.le_of_ble_eq_true rfl, Nat.le_of_ble_eq_true rfl⟩, ⟨Nat.le_of_ble_eq_true rfl, Nat.le_of_ble_eq_true rfl⟩⟩ rfl (Nat.le_of_ble_eq_true rfl) dX11_floods_75 rfl rfl [3, 4] [0, 1, 2, 5, 6] ⟨rfl, rfl, trivial⟩ (by decide +kernel) rfl [oX11 ao atext atold aL aC alaw aotherLaw anow atrial ahistory aguess acrewPlan amoatPlan achance io_wind io_spadeLimit, oX5 aL iL_cells, rI Y (aL 2) 12 cL_dyke, oX8 atold r11.1, rJ Y (atold 1) 12 r11.2, oX9 atrial aL aC itrial_moats itrial_spades itrial_tides, rI Y (atrial 2) 12 r7] ⟨rfl, rfl, trivial⟩ ⟨rfl, rfl, rfl, rfl, rfl, trivial⟩ 7 rfl (by decide +kernel) ?_
      refine a_aload_n C dX11_floods_78 rfl ?_
      refine a_get C (eB_X11_60 _) dX11_floods_79 0 rfl rfl ?_
      obtain ⟨r12, h12, hf⟩ := fx_bind hf
      refine a_fV C (kX9_wet l D Y atrial aL aC itrial_moats itrial_spades itrial_tides r7 iL_cells r12 h12) (gB_X11_261 _) rfl dvX9_wet ⟨⟨rfl, rfl⟩, ⟨Nat.le_of_ble_eq_true rfl, Nat.le_of_ble_eq_true rfl⟩, ⟨Nat.le_of_ble_eq_true rfl, Nat.le_of_ble_eq_true rfl⟩⟩ rfl (Nat.le_of_ble_eq_true rfl) dX11_floods_82 rfl rfl [5, 6, 1] [0, 2, 3, 4] ⟨rfl, rfl, rfl, trivial⟩ (by decide +kernel) rfl [oX11 ao atext atold aL aC alaw aotherLaw anow atrial ahistory aguess acrewPlan amoatPlan achance io_wind io_spadeLimit, oX5 aL iL_cells, rI Y (aL 2) 12 cL_dyke, oX8 atold r11.1, rJ Y (atold 1) 12 r11.2, oX9 atrial aL aC itrial_moats itrial_spades itrial_tides, rI Y (atrial 2) 12 r7] ⟨rfl, rfl, rfl, trivial⟩ ⟨rfl, rfl, rfl, rfl, trivial⟩ 7 rfl (by decide +kernel) ?_
      obtain rfl := fx_some hf
      exact a_iret C hQ dX11_floods_85 ⟨rfl, rfl⟩
    · have hf := fx_t h4 hf
      refine a_kill [0, 1, 2] ?_
      exact kX11_floods_b22 C hQ hf
-- X11_raise
abbrev rmX11_raise : Room := { frames := 2, cells := 0, slots := 0, locals := 44 }
theorem dvX11_raise : yX11_raise.cls = RX11 ∧ yX11_raise.cls ≠ "java/lang/invoke/MethodHandle" ∧ yX11_raise.cls ≠ "java/lang/invoke/VarHandle" ∧ (parseMethodDescriptor yX11_raise.desc).map (fun d => d.parameters.length) = some 2 := by decide +kernel
def fX11_raise_b22 (iL_cells : Int32) (cL_dyke : Nat → Int32) (itold_size : Int32) (ctold_numbers : Nat → Int64) : Option (Int32 × Int32 × (Nat → Int64)) :=
  some ((-1 : Int32), itold_size, ctold_numbers)
set_option maxHeartbeats 400000 in
set_option maxRecDepth 100000 in
theorem kX11_raise_b22 {X : cxT} {l : Launch} {D : va_G} {Y : Nat → ClassId} {ao atext atold aL aC alaw aotherLaw anow atrial ahistory aguess acrewPlan amoatPlan achance : Nat → Nat} {io_wind : Int32} {io_spadeLimit : Int32} {iL_cells : Int32} {cL_dyke : Nat → Int32} {itold_size : Int32} {ctold_numbers : Nat → Int64} {res : Int32 × Int32 × (Nat → Int64)} (C : axC X l D Y cX11_raise 4 RX11 wsX11_raise rmX11_raise (some .int)) (hQ : axQ X 0 0 (fun r9 w9 => r9 = (some (.int res.1)) ∧ w9 = [oX11 ao atext atold aL aC alaw aotherLaw anow atrial ahistory aguess acrewPlan amoatPlan achance io_wind io_spadeLimit, oX5 aL iL_cells, rI Y (aL 2) 12 cL_dyke, oX8 atold res.2.1, rJ Y (atold 1) 12 res.2.2])) (hf : fX11_raise_b22 iL_cells cL_dyke itold_size ctold_numbers = some res) : ax X 0 0 22 [none, none, none, none] [oX11 ao atext atold aL aC alaw aotherLaw anow atrial ahistory aguess acrewPlan amoatPlan achance io_wind io_spadeLimit, oX5 aL iL_cells, rI Y (aL 2) 12 cL_dyke, oX8 atold itold_size, rJ Y (atold 1) 12 ctold_numbers] [] := by
  unfold fX11_raise_b22 at hf
  refine a_iconst C (-1 : Int32) dX11_raise_22 (by decide) ?_
  obtain rfl := fx_some hf
  exact a_iret C hQ dX11_raise_23 ⟨rfl, rfl⟩
def fX11_raise_b102 (iL_cells : Int32) (cL_dyke : Nat → Int32) (itold_size : Int32) (ctold_numbers : Nat → Int64) (x3 : Int32) : Option (Int32 × Int32 × (Nat → Int64)) :=
  (fX8_tell itold_size ctold_numbers (x3.toInt64)).bind (fun r1 => (fJ6_bitCount_0f7a4 x3).bind (fun r2 => some (r2, r1.1, r1.2)))
set_option maxHeartbeats 400000 in
set_option maxRecDepth 100000 in
theorem kX11_raise_b102 {X : cxT} {l : Launch} {D : va_G} {Y : Nat → ClassId} {ao atext atold aL aC alaw aotherLaw anow atrial ahistory aguess acrewPlan amoatPlan achance : Nat → Nat} {io_wind : Int32} {io_spadeLimit : Int32} {iL_cells : Int32} {cL_dyke : Nat → Int32} {itold_size : Int32} {ctold_numbers : Nat → Int64} {x3 : Int32} {res : Int32 × Int32 × (Nat → Int64)} (C : axC X l D Y cX11_raise 4 RX11 wsX11_raise rmX11_raise (some .int)) (hQ : axQ X 0 0 (fun r9 w9 => r9 = (some (.int res.1)) ∧ w9 = [oX11 ao atext atold aL aC alaw aotherLaw anow atrial ahistory aguess acrewPlan amoatPlan achance io_wind io_spadeLimit, oX5 aL iL_cells, rI Y (aL 2) 12 cL_dyke, oX8 atold res.2.1, rJ Y (atold 1) 12 res.2.2])) (hf : fX11_raise_b102 iL_cells cL_dyke itold_size ctold_numbers x3 = some res) : ax X 0 0 102 [some (.ref (ao 0)), none, none, some (.int x3)] [oX11 ao atext atold aL aC alaw aotherLaw anow atrial ahistory aguess acrewPlan amoatPlan achance io_wind io_spadeLimit, oX5 aL iL_cells, rI Y (aL 2) 12 cL_dyke, oX8 atold itold_size, rJ Y (atold 1) 12 ctold_numbers] [] := by
  unfold fX11_raise_b102 at hf
  refine a_aload_n C dX11_raise_102 rfl ?_
  refine a_get C (eB_X11_19 _) dX11_raise_103 0 rfl rfl ?_
  refine a_iload_n C dX11_raise_106 rfl ?_
  refine a_i2l C dX11_raise_107 ?_
  obtain ⟨r1, h1, hf⟩ := fx_bind hf
  refine a_fV C (kX8_tell l D Y atold itold_size ctold_numbers (x3.toInt64) r1 h1) (gB_X11_279 _) rfl dvX8_tell ⟨⟨rfl, rfl⟩, ⟨Nat.le_of_ble_eq_true rfl, Nat.le_of_ble_eq_true rfl⟩, ⟨Nat.le_of_ble_eq_true rfl, Nat.le_of_ble_eq_true rfl⟩⟩ rfl (Nat.le_of_ble_eq_true rfl) dX11_raise_108 rfl rfl [3, 4] [0, 1, 2] ⟨rfl, rfl, trivial⟩ (by decide +kernel) rfl [oX11 ao atext atold aL aC alaw aotherLaw anow atrial ahistory aguess acrewPlan amoatPlan achance io_wind io_spadeLimit, oX5 aL iL_cells, rI Y (aL 2) 12 cL_dyke, oX8 atold r1.1, rJ Y (atold 1) 12 r1.2] ⟨rfl, rfl, trivial⟩ ⟨rfl, rfl, rfl, trivial⟩ 5 rfl (by decide +kernel) ?_
  refine a_iload_n C dX11_raise_111 rfl ?_
  obtain ⟨r2, h2, hf⟩ := fx_bind hf
  refine a_fS C (kJ6_bitCount_0f7a4 l D Y x3 r2 h2) (gB_X11_210 _) rfl dvJ6_bitCount_0f7a4 ⟨⟨rfl, rfl⟩, ⟨Nat.le_of_ble_eq_true rfl, Nat.le_of_ble_eq_true rfl⟩, ⟨Nat.le_of_ble_eq_true rfl, Nat.le_of_ble_eq_true rfl⟩⟩ rfl (Nat.le_of_ble_eq_true rfl) dX11_raise_112 [] [0, 1, 2, 3, 4] trivial (by decide +kernel) rfl [oX11 ao atext atold aL aC alaw aotherLaw anow atrial ahistory aguess acrewPlan amoatPlan achance io_wind io_spadeLimit, oX5 aL iL_cells, rI Y (aL 2) 12 cL_dyke, oX8 atold r1.1, rJ Y (atold 1) 12 r1.2] trivial ⟨rfl, rfl, rfl, rfl, rfl, trivial⟩ 5 rfl (by decide +kernel) ?_
  obtain rfl := fx_some hf
  exact a_iret C hQ dX11_raise_115 ⟨rfl, rfl⟩
def fX11_raise_b89 (iL_cells : Int32) (cL_dyke : Nat → Int32) (itold_size : Int32) (ctold_numbers : Nat → Int64) (x2 : Int32) (x3 : Int32) : Option (Int32 × Int32 × (Nat → Int64)) :=
  if x3 = (0 : Int32) then (fX11_raise_b102 iL_cells cL_dyke itold_size ctold_numbers x3) else (if x2 ≤ (10 : Int32) then (fX11_raise_b102 iL_cells cL_dyke itold_size ctold_numbers x3) else (some ((-2 : Int32), itold_size, ctold_numbers)))
set_option maxHeartbeats 400000 in
set_option maxRecDepth 100000 in
theorem kX11_raise_b89 {X : cxT} {l : Launch} {D : va_G} {Y : Nat → ClassId} {ao atext atold aL aC alaw aotherLaw anow atrial ahistory aguess acrewPlan amoatPlan achance : Nat → Nat} {io_wind : Int32} {io_spadeLimit : Int32} {iL_cells : Int32} {cL_dyke : Nat → Int32} {itold_size : Int32} {ctold_numbers : Nat → Int64} {x2 : Int32} {x3 : Int32} {res : Int32 × Int32 × (Nat → Int64)} (C : axC X l D Y cX11_raise 4 RX11 wsX11_raise rmX11_raise (some .int)) (hQ : axQ X 0 0 (fun r9 w9 => r9 = (some (.int res.1)) ∧ w9 = [oX11 ao atext atold aL aC alaw aotherLaw anow atrial ahistory aguess acrewPlan amoatPlan achance io_wind io_spadeLimit, oX5 aL iL_cells, rI Y (aL 2) 12 cL_dyke, oX8 atold res.2.1, rJ Y (atold 1) 12 res.2.2])) (hf : fX11_raise_b89 iL_cells cL_dyke itold_size ctold_numbers x2 x3 = some res) : ax X 0 0 89 [some (.ref (ao 0)), none, some (.int x2), some (.int x3)] [oX11 ao atext atold aL aC alaw aotherLaw anow atrial ahistory aguess acrewPlan amoatPlan achance io_wind io_spadeLimit, oX5 aL iL_cells, rI Y (aL 2) 12 cL_dyke, oX8 atold itold_size, rJ Y (atold 1) 12 ctold_numbers] [] := by
  unfold fX11_raise_b89 at hf
  refine a_iload_n C dX11_raise_89 rfl ?_
  refine a_if_eq C 102 dX11_raise_90 (by decide) (fun h3 => ?_) (fun h3 => ?_)
  · have hf := fx_t h3 hf
    refine a_kill [2] ?_
    exact kX11_raise_b102 C hQ hf
  · have hf := fx_f h3 hf
    refine a_iload_n C dX11_raise_93 rfl ?_
    refine a_bipush C (10 : Int32) dX11_raise_94 (by decide) ?_
    refine a_icmp_le C 102 dX11_raise_96 (by decide) (fun h4 => ?_) (fun h4 => ?_)
    · have hf := fx_t h4 hf
      refine a_kill [2] ?_
      exact kX11_raise_b102 C hQ hf
    · have hf := fx_f h4 hf
      refine a_bipush C (-2 : Int32) dX11_raise_99 (by decide) ?_
      obtain rfl := fx_some hf
      exact a_iret C hQ dX11_raise_101 ⟨rfl, rfl⟩
def fX11_raise_b55 (iL_cells : Int32) (cL_dyke : Nat → Int32) (itold_size : Int32) (ctold_numbers : Nat → Int64) (x1 : Int32) (x2 : Int32) (x3 : Int32) : Option (Int32 × Int32 × (Nat → Int64)) :=
  if iL_cells ≤ (x1 + (1 : Int32)) then (fX11_raise_b89 iL_cells cL_dyke itold_size ctold_numbers x2 x3) else (if inb x1 12 then if x2 ≤ ((cL_dyke (Int32.toNatClampNeg x1)) + (1 : Int32)) then (fX11_raise_b89 iL_cells cL_dyke itold_size ctold_numbers x2 x3) else (fX11_raise_b89 iL_cells cL_dyke itold_size ctold_numbers x2 (x3 ||| (jshl (1 : Int32) x1))) else none)
set_option maxHeartbeats 400000 in
set_option maxRecDepth 100000 in
theorem kX11_raise_b55 {X : cxT} {l : Launch} {D : va_G} {Y : Nat → ClassId} {ao atext atold aL aC alaw aotherLaw anow atrial ahistory aguess acrewPlan amoatPlan achance : Nat → Nat} {io_wind : Int32} {io_spadeLimit : Int32} {iL_cells : Int32} {cL_dyke : Nat → Int32} {itold_size : Int32} {ctold_numbers : Nat → Int64} {x1 : Int32} {x2 : Int32} {x3 : Int32} {res : Int32 × Int32 × (Nat → Int64)} (C : axC X l D Y cX11_raise 4 RX11 wsX11_raise rmX11_raise (some .int)) (hQ : axQ X 0 0 (fun r9 w9 => r9 = (some (.int res.1)) ∧ w9 = [oX11 ao atext atold aL aC alaw aotherLaw anow atrial ahistory aguess acrewPlan amoatPlan achance io_wind io_spadeLimit, oX5 aL iL_cells, rI Y (aL 2) 12 cL_dyke, oX8 atold res.2.1, rJ Y (atold 1) 12 res.2.2])) (hf : fX11_raise_b55 iL_cells cL_dyke itold_size ctold_numbers x1 x2 x3 = some res) : ax X 0 0 55 [some (.ref (ao 0)), some (.int x1), some (.int x2), some (.int x3)] [oX11 ao atext atold aL aC alaw aotherLaw anow atrial ahistory aguess acrewPlan amoatPlan achance io_wind io_spadeLimit, oX5 aL iL_cells, rI Y (aL 2) 12 cL_dyke, oX8 atold itold_size, rJ Y (atold 1) 12 ctold_numbers] [] := by
  unfold fX11_raise_b55 at hf
  refine a_iload_n C dX11_raise_55 rfl ?_
  refine a_iconst C (1 : Int32) dX11_raise_56 (by decide) ?_
  refine a_iadd C dX11_raise_57 ?_
  refine a_aload_n C dX11_raise_58 rfl ?_
  refine a_get C (eB_X11_26 _) dX11_raise_59 0 rfl rfl ?_
  refine a_get C (eB_X11_131 _) dX11_raise_62 1 rfl rfl ?_
  refine a_icmp_ge C 89 dX11_raise_65 (by decide) (fun h5 => ?_) (fun h5 => ?_)
  · have hf := fx_t h5 hf
    refine a_kill [1] ?_
    exact kX11_raise_b89 C hQ hf
  · have hf := fx_f h5 hf
    refine a_iload_n C dX11_raise_68 rfl ?_
    refine a_aload_n C dX11_raise_69 rfl ?_
    refine a_get C (eB_X11_26 _) dX11_raise_70 0 rfl rfl ?_
    refine a_get C (eB_X11_165 _) dX11_raise_73 1 rfl rfl ?_
    refine a_iload_n C dX11_raise_76 rfl ?_
    obtain ⟨h6, hf⟩ := fx_ite hf
    refine a_iald C dX11_raise_77 2 rfl h6 ?_
    refine a_iconst C (1 : Int32) dX11_raise_78 (by decide) ?_
    refine a_iadd C dX11_raise_79 ?_
    refine a_icmp_le C 89 dX11_raise_80 (by decide) (fun h7 => ?_) (fun h7 => ?_)
    · have hf := fx_t h7 hf
      refine a_kill [1] ?_
      exact kX11_raise_b89 C hQ hf
    · have hf := fx_f h7 hf
      refine a_iload_n C dX11_raise_83 rfl ?_
      refine a_iconst C (1 : Int32) dX11_raise_84 (by decide) ?_
      refine a_iload_n C dX11_raise_85 rfl ?_
      refine a_ishl C dX11_raise_86 ?_
      refine a_ior C dX11_raise_87 ?_
      refine a_istore_n C dX11_raise_88 (by decide) rfl ?_
      refine a_kill [1] ?_
      exact kX11_raise_b89 C hQ hf
def fX11_raise (iL_cells : Int32) (cL_dyke : Nat → Int32) (itold_size : Int32) (ctold_numbers : Nat → Int64) (x1 : Int32) (x2 : Int32) : Option (Int32 × Int32 × (Nat → Int64)) :=
  (fX5_has iL_cells x1).bind (fun r8 => if r8 = (0 : Int32) then (fX11_raise_b22 iL_cells cL_dyke itold_size ctold_numbers) else ((fX11_within x2 (1 : Int32) (999 : Int32)).bind (fun r10 => if r10 = (0 : Int32) then (fX11_raise_b22 iL_cells cL_dyke itold_size ctold_numbers) else (if x1 ≤ (0 : Int32) then (fX11_raise_b55 iL_cells cL_dyke itold_size ctold_numbers x1 x2 (0 : Int32)) else (if inb (x1 - (1 : Int32)) 12 then if x2 ≤ ((cL_dyke (Int32.toNatClampNeg (x1 - (1 : Int32)))) + (1 : Int32)) then (fX11_raise_b55 iL_cells cL_dyke itold_size ctold_numbers x1 x2 (0 : Int32)) else (fX11_raise_b55 iL_cells cL_dyke itold_size ctold_numbers x1 x2 ((0 : Int32) ||| (jshl (1 : Int32) (x1 - (1 : Int32))))) else none)))))
set_option maxHeartbeats 400000 in
set_option maxRecDepth 100000 in
theorem kX11_raise (l : Launch) (D : va_G) (Y : Nat → ClassId) (ao atext atold aL aC alaw aotherLaw anow atrial ahistory aguess acrewPlan amoatPlan achance : Nat → Nat) (io_wind : Int32) (io_spadeLimit : Int32) (iL_cells : Int32) (cL_dyke : Nat → Int32) (itold_size : Int32) (ctold_numbers : Nat → Int64) (x1 : Int32) (x2 : Int32) (res : Int32 × Int32 × (Nat → Int64)) (hf : fX11_raise iL_cells cL_dyke itold_size ctold_numbers x1 x2 = some res) : amf l D Y yX11_raise wsX11_raise rmX11_raise [.ref (ao 0), .int x1, .int x2] [oX11 ao atext atold aL aC alaw aotherLaw anow atrial ahistory aguess acrewPlan amoatPlan achance io_wind io_spadeLimit, oX5 aL iL_cells, rI Y (aL 2) 12 cL_dyke, oX8 atold itold_size, rJ Y (atold 1) 12 ctold_numbers] (some (.int res.1)) [oX11 ao atext atold aL aC alaw aotherLaw anow atrial ahistory aguess acrewPlan amoatPlan achance io_wind io_spadeLimit, oX5 aL iL_cells, rI Y (aL 2) 12 cL_dyke, oX8 atold res.2.1, rJ Y (atold 1) 12 res.2.2] := by
  refine amf.of (cc := cX11_raise) (maxL := 4) (rt := (some .int)) (by decide) rfl RX11 rfl (Nat.le_of_ble_eq_true rfl) [some (.ref (ao 0)), some (.int x1), some (.int x2), none] rfl ?_
  intro X C hQ
  unfold fX11_raise at hf
  refine a_aload_n C dX11_raise_0 rfl ?_
  refine a_get C (eB_X11_26 _) dX11_raise_1 0 rfl rfl ?_
  refine a_iload_n C dX11_raise_4 rfl ?_
  obtain ⟨r8, h8, hf⟩ := fx_bind hf
  refine a_fV C (kX5_has l D Y aL iL_cells x1 r8 h8) (gB_X11_143 _) rfl dvX5_has ⟨⟨rfl, rfl⟩, ⟨Nat.le_of_ble_eq_true rfl, Nat.le_of_ble_eq_true rfl⟩, ⟨Nat.le_of_ble_eq_true rfl, Nat.le_of_ble_eq_true rfl⟩⟩ rfl (Nat.le_of_ble_eq_true rfl) dX11_raise_5 rfl rfl [1] [0, 2, 3, 4] ⟨rfl, trivial⟩ (by decide +kernel) rfl [oX11 ao atext atold aL aC alaw aotherLaw anow atrial ahistory aguess acrewPlan amoatPlan achance io_wind io_spadeLimit, oX5 aL iL_cells, rI Y (aL 2) 12 cL_dyke, oX8 atold itold_size, rJ Y (atold 1) 12 ctold_numbers] ⟨rfl, trivial⟩ ⟨rfl, rfl, rfl, rfl, trivial⟩ 5 rfl (by decide +kernel) ?_
  refine a_if_eq C 22 dX11_raise_8 (by decide) (fun h9 => ?_) (fun h9 => ?_)
  · have hf := fx_t h9 hf
    refine a_kill [0, 1, 2] ?_
    exact kX11_raise_b22 C hQ hf
  · have hf := fx_f h9 hf
    refine a_iload_n C dX11_raise_11 rfl ?_
    refine a_iconst C (1 : Int32) dX11_raise_12 (by decide) ?_
    refine a_sipush C (999 : Int32) dX11_raise_13 (by decide) ?_
    obtain ⟨r10, h10, hf⟩ := fx_bind hf
    refine a_fS C (kX11_within l D Y x2 (1 : Int32) (999 : Int32) r10 h10) (gB_X11_203 _) rfl dvX11_within ⟨⟨rfl, rfl⟩, ⟨Nat.le_of_ble_eq_true rfl, Nat.le_of_ble_eq_true rfl⟩, ⟨Nat.le_of_ble_eq_true rfl, Nat.le_of_ble_eq_true rfl⟩⟩ rfl (Nat.le_of_ble_eq_true rfl) dX11_raise_16 [] [0, 1, 2, 3, 4] trivial (by decide +kernel) rfl [oX11 ao atext atold aL aC alaw aotherLaw anow atrial ahistory aguess acrewPlan amoatPlan achance io_wind io_spadeLimit, oX5 aL iL_cells, rI Y (aL 2) 12 cL_dyke, oX8 atold itold_size, rJ Y (atold 1) 12 ctold_numbers] trivial ⟨rfl, rfl, rfl, rfl, rfl, trivial⟩ 5 rfl (by decide +kernel) ?_
    refine a_if_ne C 24 dX11_raise_19 (by decide) (fun h11 => ?_) (fun h11 => ?_)
    · have hf := fx_f h11 hf
      refine a_iconst C (0 : Int32) dX11_raise_24 (by decide) ?_
      refine a_istore_n C dX11_raise_25 (by decide) rfl ?_
      refine a_iload_n C dX11_raise_26 rfl ?_
      refine a_if_le C 55 dX11_raise_27 (by decide) (fun h12 => ?_) (fun h12 => ?_)
      · have hf := fx_t h12 hf
        exact kX11_raise_b55 C hQ hf
      · have hf := fx_f h12 hf
        refine a_iload_n C dX11_raise_30 rfl ?_
        refine a_aload_n C dX11_raise_31 rfl ?_
        refine a_get C (eB_X11_26 _) dX11_raise_32 0 rfl rfl ?_
        refine a_get C (eB_X11_165 _) dX11_raise_35 1 rfl rfl ?_
        refine a_iload_n C dX11_raise_38 rfl ?_
        refine a_iconst C (1 : Int32) dX11_raise_39 (by decide) ?_
        refine a_isub C dX11_raise_40 ?_
        obtain ⟨h13, hf⟩ := fx_ite hf
        refine a_iald C dX11_raise_41 2 rfl h13 ?_
        refine a_iconst C (1 : Int32) dX11_raise_42 (by decide) ?_
        refine a_iadd C dX11_raise_43 ?_
        refine a_icmp_le C 55 dX11_raise_44 (by decide) (fun h14 => ?_) (fun h14 => ?_)
        · have hf := fx_t h14 hf
          exact kX11_raise_b55 C hQ hf
        · have hf := fx_f h14 hf
          refine a_iload_n C dX11_raise_47 rfl ?_
          refine a_iconst C (1 : Int32) dX11_raise_48 (by decide) ?_
          refine a_iload_n C dX11_raise_49 rfl ?_
          refine a_iconst C (1 : Int32) dX11_raise_50 (by decide) ?_
          refine a_isub C dX11_raise_51 ?_
          refine a_ishl C dX11_raise_52 ?_
          refine a_ior C dX11_raise_53 ?_
          refine a_istore_n C dX11_raise_54 (by decide) rfl ?_
          exact kX11_raise_b55 C hQ hf
    · have hf := fx_t h11 hf
      refine a_kill [0, 1, 2] ?_
      exact kX11_raise_b22 C hQ hf
-- X11_moats
abbrev rmX11_moats : Room := { frames := 4, cells := 0, slots := 0, locals := 96 }
theorem dvX11_moats : yX11_moats.cls = RX11 ∧ yX11_moats.cls ≠ "java/lang/invoke/MethodHandle" ∧ yX11_moats.cls ≠ "java/lang/invoke/VarHandle" ∧ (parseMethodDescriptor yX11_moats.desc).map (fun d => d.parameters.length) = some 1 := by decide +kernel
def fX11_moats (io_wind : Int32) (iL_cells : Int32) (cL_base : Nat → Int32) (ilaw_length : Int32) (claw_codes : Nat → Int32) (claw_stack : Nat → Int32) (imoatPlan_chosen : Int32) (cmoatPlan_heights : Nat → Int32) (cmoatPlan_bare : Nat → Int32) (cmoatPlan_moated : Nat → Int32) (inow_tides : Int32) (cnow_wall : Nat → Int32) (itold_size : Int32) (ctold_numbers : Nat → Int64) (x1 : Int32) : Option (Int32 × (Nat → Int32) × Int32 × (Nat → Int32) × (Nat → Int32) × (Nat → Int32) × Int32 × (Nat → Int64)) :=
  (fX11_within x1 (0 : Int32) (4 : Int32)).bind (fun r1 => if r1 = (0 : Int32) then (some ((-1 : Int32), claw_stack, imoatPlan_chosen, cmoatPlan_heights, cmoatPlan_bare, cmoatPlan_moated, itold_size, ctold_numbers)) else (if x1 ≤ iL_cells then ((fX7_find imoatPlan_chosen cmoatPlan_heights cmoatPlan_bare cmoatPlan_moated inow_tides cnow_wall ilaw_length claw_codes claw_stack iL_cells cL_base io_wind x1).bind (fun r4 => (fX8_tell itold_size ctold_numbers (r4.2.1.toInt64)).bind (fun r5 => some (r4.1, r4.2.2.2.2.2, r4.2.1, r4.2.2.1, r4.2.2.2.1, r4.2.2.2.2.1, r5.1, r5.2)))) else (some ((-2 : Int32), claw_stack, imoatPlan_chosen, cmoatPlan_heights, cmoatPlan_bare, cmoatPlan_moated, itold_size, ctold_numbers))))
set_option maxHeartbeats 400000 in
set_option maxRecDepth 100000 in
theorem kX11_moats (l : Launch) (D : va_G) (Y : Nat → ClassId) (ao atext atold aL aC alaw aotherLaw anow atrial ahistory aguess acrewPlan amoatPlan achance : Nat → Nat) (io_wind : Int32) (io_spadeLimit : Int32) (iL_cells : Int32) (cL_base : Nat → Int32) (ilaw_length : Int32) (ilaw_at : Int32) (ilaw_sign : Int32) (ilaw_bad : Int32) (claw_codes : Nat → Int32) (claw_stack : Nat → Int32) (imoatPlan_chosen : Int32) (cmoatPlan_heights : Nat → Int32) (cmoatPlan_bare : Nat → Int32) (cmoatPlan_moated : Nat → Int32) (inow_moats : Int32) (inow_spades : Int32) (inow_tides : Int32) (cnow_wall : Nat → Int32) (itold_size : Int32) (ctold_numbers : Nat → Int64) (x1 : Int32) (res : Int32 × (Nat → Int32) × Int32 × (Nat → Int32) × (Nat → Int32) × (Nat → Int32) × Int32 × (Nat → Int64)) (hf : fX11_moats io_wind iL_cells cL_base ilaw_length claw_codes claw_stack imoatPlan_chosen cmoatPlan_heights cmoatPlan_bare cmoatPlan_moated inow_tides cnow_wall itold_size ctold_numbers x1 = some res) : amf l D Y yX11_moats wsX11_moats rmX11_moats [.ref (ao 0), .int x1] [oX11 ao atext atold aL aC alaw aotherLaw anow atrial ahistory aguess acrewPlan amoatPlan achance io_wind io_spadeLimit, oX5 aL iL_cells, rI Y (aL 1) 12 cL_base, oX6 alaw ilaw_length ilaw_at ilaw_sign ilaw_bad, rI Y (alaw 1) 40 claw_codes, rI Y (alaw 2) 40 claw_stack, oX7 amoatPlan aL imoatPlan_chosen, rI Y (amoatPlan 1) 8 cmoatPlan_heights, rI Y (amoatPlan 2) 12 cmoatPlan_bare, rI Y (amoatPlan 3) 12 cmoatPlan_moated, oX9 anow aL aC inow_moats inow_spades inow_tides, rI Y (anow 1) 12 cnow_wall, oX8 atold itold_size, rJ Y (atold 1) 12 ctold_numbers] (some (.int res.1)) [oX11 ao atext atold aL aC alaw aotherLaw anow atrial ahistory aguess acrewPlan amoatPlan achance io_wind io_spadeLimit, oX5 aL iL_cells, rI Y (aL 1) 12 cL_base, oX6 alaw ilaw_length ilaw_at ilaw_sign ilaw_bad, rI Y (alaw 1) 40 claw_codes, rI Y (alaw 2) 40 res.2.1, oX7 amoatPlan aL res.2.2.1, rI Y (amoatPlan 1) 8 res.2.2.2.1, rI Y (amoatPlan 2) 12 res.2.2.2.2.1, rI Y (amoatPlan 3) 12 res.2.2.2.2.2.1, oX9 anow aL aC inow_moats inow_spades inow_tides, rI Y (anow 1) 12 cnow_wall, oX8 atold res.2.2.2.2.2.2.1, rJ Y (atold 1) 12 res.2.2.2.2.2.2.2] := by
  refine amf.of (cc := cX11_moats) (maxL := 3) (rt := (some .int)) (by decide) rfl RX11 rfl (Nat.le_of_ble_eq_true rfl) [some (.ref (ao 0)), some (.int x1), none] rfl ?_
  intro X C hQ
  unfold fX11_moats at hf
  refine a_iload_n C dX11_moats_0 rfl ?_
  refine a_iconst C (0 : Int32) dX11_moats_1 (by decide) ?_
  refine a_iconst C (4 : Int32) dX11_moats_2 (by decide) ?_
  obtain ⟨r1, h1, hf⟩ := fx_bind hf
  refine a_fS C (kX11_within l D Y x1 (0 : Int32) (4 : Int32) r1 h1) (gB_X11_203 _) rfl dvX11_within ⟨⟨rfl, rfl⟩, ⟨Nat.le_of_ble_eq_true rfl, Nat.le_of_ble_eq_true rfl⟩, ⟨Nat.le_of_ble_eq_true rfl, Nat.le_of_ble_eq_true rfl⟩⟩ rfl (Nat.le_of_ble_eq_true rfl) dX11_moats_3 [] [0, 1, 2, 3, 4, 5, 6, 7, 8, 9, 10, 11, 12, 13] trivial (by decide +kernel) rfl [oX11 ao atext atold aL aC alaw aotherLaw anow atrial ahistory aguess acrewPlan amoatPlan achance io_wind io_spadeLimit, oX5 aL iL_cells, rI Y (aL 1) 12 cL_base, oX6 alaw ilaw_length ilaw_at ilaw_sign ilaw_bad, rI Y (alaw 1) 40 claw_codes, rI Y (alaw 2) 40 claw_stack, oX7 amoatPlan aL imoatPlan_chosen, rI Y (amoatPlan 1) 8 cmoatPlan_heights, rI Y (amoatPlan 2) 12 cmoatPlan_bare, rI Y (amoatPlan 3) 12 cmoatPlan_moated, oX9 anow aL aC inow_moats inow_spades inow_tides, rI Y (anow 1) 12 cnow_wall, oX8 atold itold_size, rJ Y (atold 1) 12 ctold_numbers] trivial ⟨rfl, rfl, rfl, rfl, rfl, rfl, rfl, rfl, rfl, rfl, rfl, rfl, rfl, rfl, trivial⟩ 14 rfl (by decide +kernel) ?_
  refine a_if_ne C 11 dX11_moats_6 (by decide) (fun h2 => ?_) (fun h2 => ?_)
  · have hf := fx_f h2 hf
    refine a_iload_n C dX11_moats_11 rfl ?_
    refine a_aload_n C dX11_moats_12 rfl ?_
    refine a_get C (eB_X11_26 _) dX11_moats_13 0 rfl rfl ?_
    refine a_get C (eB_X11_131 _) dX11_moats_16 1 rfl rfl ?_
    refine a_icmp_le C 25 dX11_moats_19 (by decide) (fun h3 => ?_) (fun h3 => ?_)
    · have hf := fx_t h3 hf
      refine a_aload_n C dX11_moats_25 rfl ?_
      refine a_get C (eB_X11_99 _) dX11_moats_26 0 rfl rfl ?_
      refine a_aload_n C dX11_moats_29 rfl ?_
      refine a_get C (eB_X11_56 _) dX11_moats_30 0 rfl rfl ?_
      refine a_aload_n C dX11_moats_33 rfl ?_
      refine a_get C (eB_X11_40 _) dX11_moats_34 0 rfl rfl ?_
      refine a_aload_n C dX11_moats_37 rfl ?_
      refine a_get C (eB_X11_207 _) dX11_moats_38 0 rfl rfl ?_
      refine a_iload_n C dX11_moats_41 rfl ?_
      obtain ⟨r4, h4, hf⟩ := fx_bind hf
      refine a_fV C (kX7_find l D Y amoatPlan aL anow aC alaw imoatPlan_chosen cmoatPlan_heights cmoatPlan_bare cmoatPlan_moated inow_moats inow_spades inow_tides cnow_wall ilaw_length ilaw_at ilaw_sign ilaw_bad claw_codes claw_stack iL_cells cL_base io_wind x1 r4 h4) (gB_X11_315 _) rfl dvX7_find ⟨⟨rfl, rfl⟩, ⟨Nat.le_of_ble_eq_true rfl, Nat.le_of_ble_eq_true rfl⟩, ⟨Nat.le_of_ble_eq_true rfl, Nat.le_of_ble_eq_true rfl⟩⟩ rfl (Nat.le_of_ble_eq_true rfl) dX11_moats_42 rfl rfl [6, 7, 8, 9, 10, 11, 3, 4, 5, 1, 2] [0, 12, 13] ⟨rfl, rfl, rfl, rfl, rfl, rfl, rfl, rfl, rfl, rfl, rfl, trivial⟩ (by decide +kernel) rfl [oX11 ao atext atold aL aC alaw aotherLaw anow atrial ahistory aguess acrewPlan amoatPlan achance io_wind io_spadeLimit, oX5 aL iL_cells, rI Y (aL 1) 12 cL_base, oX6 alaw ilaw_length ilaw_at ilaw_sign ilaw_bad, rI Y (alaw 1) 40 claw_codes, rI Y (alaw 2) 40 r4.2.2.2.2.2, oX7 amoatPlan aL r4.2.1, rI Y (amoatPlan 1) 8 r4.2.2.1, rI Y (amoatPlan 2) 12 r4.2.2.2.1, rI Y (amoatPlan 3) 12 r4.2.2.2.2.1, oX9 anow aL aC inow_moats inow_spades inow_tides, rI Y (anow 1) 12 cnow_wall, oX8 atold itold_size, rJ Y (atold 1) 12 ctold_numbers] ⟨rfl, rfl, rfl, rfl, rfl, rfl, rfl, rfl, rfl, rfl, rfl, trivial⟩ ⟨rfl, rfl, rfl, trivial⟩ 14 rfl (by decide +kernel) ?_
      refine a_istore_n C dX11_moats_45 (by decide) rfl ?_
      refine a_aload_n C dX11_moats_46 rfl ?_
      refine a_get C (eB_X11_19 _) dX11_moats_47 0 rfl rfl ?_
      refine a_aload_n C dX11_moats_50 rfl ?_
      refine a_get C (eB_X11_99 _) dX11_moats_51 0 rfl rfl ?_
      refine a_get C (eB_X11_318 _) dX11_moats_54 6 rfl rfl ?_
      refine a_i2l C dX11_moats_57 ?_
      obtain ⟨r5, h5, hf⟩ := fx_bind hf
      refine a_fV C (kX8_tell l D Y atold itold_size ctold_numbers (r4.2.1.toInt64) r5 h5) (gB_X11_279 _) rfl dvX8_tell ⟨⟨rfl, rfl⟩, ⟨Nat.le_of_ble_eq_true rfl, Nat.le_of_ble_eq_true rfl⟩, ⟨Nat.le_of_ble_eq_true rfl, Nat.le_of_ble_eq_true rfl⟩⟩ rfl (Nat.le_of_ble_eq_true rfl) dX11_moats_58 rfl rfl [12, 13] [0, 1, 2, 3, 4, 5, 6, 7, 8, 9, 10, 11] ⟨rfl, rfl, trivial⟩ (by decide +kernel) rfl [oX11 ao atext atold aL aC alaw aotherLaw anow atrial ahistory aguess acrewPlan amoatPlan achance io_wind io_spadeLimit, oX5 aL iL_cells, rI Y (aL 1) 12 cL_base, oX6 alaw ilaw_length ilaw_at ilaw_sign ilaw_bad, rI Y (alaw 1) 40 claw_codes, rI Y (alaw 2) 40 r4.2.2.2.2.2, oX7 amoatPlan aL r4.2.1, rI Y (amoatPlan 1) 8 r4.2.2.1, rI Y (amoatPlan 2) 12 r4.2.2.2.1, rI Y (amoatPlan 3) 12 r4.2.2.2.2.1, oX9 anow aL aC inow_moats inow_spades inow_tides, rI Y (anow 1) 12 cnow_wall, oX8 atold r5.1, rJ Y (atold 1) 12 r5.2] ⟨rfl, rfl, trivial⟩ ⟨rfl, rfl, rfl, rfl, rfl, rfl, rfl, rfl, rfl, rfl, rfl, rfl, trivial⟩ 14 rfl (by decide +kernel) ?_
      refine a_iload_n C dX11_moats_61 rfl ?_
      obtain rfl := fx_some hf
      exact a_iret C hQ dX11_moats_62 ⟨rfl, rfl⟩
    · have hf := fx_f h3 hf
      refine a_bipush C (-2 : Int32) dX11_moats_22 (by decide) ?_
      obtain rfl := fx_some hf
      exact a_iret C hQ dX11_moats_24 ⟨rfl, rfl⟩
  · have hf := fx_t h2 hf
    refine a_iconst C (-1 : Int32) dX11_moats_9 (by decide) ?_
    obtain rfl := fx_some hf
    exact a_iret C hQ dX11_moats_10 ⟨rfl, rfl⟩
-- X11_treats
abbrev rmX11_treats : Room := { frames := 2, cells := 0, slots := 0, locals := 43 }
theorem dvX11_treats : yX11_treats.cls = RX11 ∧ yX11_treats.cls ≠ "java/lang/invoke/MethodHandle" ∧ yX11_treats.cls ≠ "java/lang/invoke/VarHandle" ∧ (parseMethodDescriptor yX11_treats.desc).map (fun d => d.parameters.length) = some 1 := by decide +kernel
def fX11_treats_b133 (iC_size : Int32) (cnow_mood : Nat → Int32) (cnow_place : Nat → Int32) (itold_size : Int32) (ctold_numbers : Nat → Int64) (x3 : Int32) : Option (Int32 × Int32 × (Nat → Int64)) :=
  some (x3, itold_size, ctold_numbers)
set_option maxHeartbeats 400000 in
set_option maxRecDepth 100000 in
theorem kX11_treats_b133 {X : cxT} {l : Launch} {D : va_G} {Y : Nat → ClassId} {ao atext atold aL aC alaw aotherLaw anow atrial ahistory aguess acrewPlan amoatPlan achance : Nat → Nat} {io_wind : Int32} {io_spadeLimit : Int32} {iC_size : Int32} {inow_moats : Int32} {inow_spades : Int32} {inow_tides : Int32} {cnow_mood : Nat → Int32} {cnow_place : Nat → Int32} {itold_size : Int32} {ctold_numbers : Nat → Int64} {x3 : Int32} {res : Int32 × Int32 × (Nat → Int64)} (C : axC X l D Y cX11_treats 7 RX11 wsX11_treats rmX11_treats (some .int)) (hQ : axQ X 0 0 (fun r9 w9 => r9 = (some (.int res.1)) ∧ w9 = [oX11 ao atext atold aL aC alaw aotherLaw anow atrial ahistory aguess acrewPlan amoatPlan achance io_wind io_spadeLimit, oX2 aC iC_size, oX9 anow aL aC inow_moats inow_spades inow_tides, rI Y (anow 3) 8 cnow_mood, rI Y (anow 4) 8 cnow_place, oX8 atold res.2.1, rJ Y (atold 1) 12 res.2.2])) (hf : fX11_treats_b133 iC_size cnow_mood cnow_place itold_size ctold_numbers x3 = some res) : ax X 0 0 133 [none, none, none, some (.int x3), none, none, none] [oX11 ao atext atold aL aC alaw aotherLaw anow atrial ahistory aguess acrewPlan amoatPlan achance io_wind io_spadeLimit, oX2 aC iC_size, oX9 anow aL aC inow_moats inow_spades inow_tides, rI Y (anow 3) 8 cnow_mood, rI Y (anow 4) 8 cnow_place, oX8 atold itold_size, rJ Y (atold 1) 12 ctold_numbers] [] := by
  unfold fX11_treats_b133 at hf
  refine a_iload_n C dX11_treats_133 rfl ?_
  obtain rfl := fx_some hf
  exact a_iret C hQ dX11_treats_134 ⟨rfl, rfl⟩
def fX11_treats_b100 (iC_size : Int32) (cnow_mood : Nat → Int32) (cnow_place : Nat → Int32) (itold_size : Int32) (ctold_numbers : Nat → Int64) (x1 : Int32) (x2 : Int32) (x3 : Int32) (x4 : Int32) (s0 : Int32) (k57 : Int32 × (Nat → Int64) × Int32 × Int32 → Option (Int32 × Int32 × (Nat → Int64))) : Option (Int32 × Int32 × (Nat → Int64)) :=
  (fX8_add itold_size ctold_numbers ((((s0 + (3 : Int32)) - (1 : Int32)) / (3 : Int32)).toInt64)).bind (fun r1 => k57 (r1.1, r1.2, (x3 + (((s0 + (3 : Int32)) - (1 : Int32)) / (3 : Int32))), (x4 + (1 : Int32))))
set_option maxHeartbeats 400000 in
set_option maxRecDepth 100000 in
theorem kX11_treats_b100 {X : cxT} {l : Launch} {D : va_G} {Y : Nat → ClassId} {ao atext atold aL aC alaw aotherLaw anow atrial ahistory aguess acrewPlan amoatPlan achance : Nat → Nat} {io_wind : Int32} {io_spadeLimit : Int32} {iC_size : Int32} {inow_moats : Int32} {inow_spades : Int32} {inow_tides : Int32} {cnow_mood : Nat → Int32} {cnow_place : Nat → Int32} {itold_size : Int32} {ctold_numbers : Nat → Int64} {x1 : Int32} {x2 : Int32} {x3 : Int32} {x4 : Int32} {s0 : Int32} {res : Int32 × Int32 × (Nat → Int64)} (C : axC X l D Y cX11_treats 7 RX11 wsX11_treats rmX11_treats (some .int)) (hQ : axQ X 0 0 (fun r9 w9 => r9 = (some (.int res.1)) ∧ w9 = [oX11 ao atext atold aL aC alaw aotherLaw anow atrial ahistory aguess acrewPlan amoatPlan achance io_wind io_spadeLimit, oX2 aC iC_size, oX9 anow aL aC inow_moats inow_spades inow_tides, rI Y (anow 3) 8 cnow_mood, rI Y (anow 4) 8 cnow_place, oX8 atold res.2.1, rJ Y (atold 1) 12 res.2.2])) {k57 : Int32 × (Nat → Int64) × Int32 × Int32 → Option (Int32 × Int32 × (Nat → Int64))} (hk57 : ∀ s : Int32 × (Nat → Int64) × Int32 × Int32, k57 s = some res → ax X 0 0 57 [some (.ref (ao 0)), some (.int x1), some (.int x2), some (.int s.2.2.1), some (.int s.2.2.2), none, none] [oX11 ao atext atold aL aC alaw aotherLaw anow atrial ahistory aguess acrewPlan amoatPlan achance io_wind io_spadeLimit, oX2 aC iC_size, oX9 anow aL aC inow_moats inow_spades inow_tides, rI Y (anow 3) 8 cnow_mood, rI Y (anow 4) 8 cnow_place, oX8 atold s.1, rJ Y (atold 1) 12 s.2.1] []) (hf : fX11_treats_b100 iC_size cnow_mood cnow_place itold_size ctold_numbers x1 x2 x3 x4 s0 k57 = some res) : ax X 0 0 100 [some (.ref (ao 0)), some (.int x1), some (.int x2), some (.int x3), some (.int x4), none, none] [oX11 ao atext atold aL aC alaw aotherLaw anow atrial ahistory aguess acrewPlan amoatPlan achance io_wind io_spadeLimit, oX2 aC iC_size, oX9 anow aL aC inow_moats inow_spades inow_tides, rI Y (anow 3) 8 cnow_mood, rI Y (anow 4) 8 cnow_place, oX8 atold itold_size, rJ Y (atold 1) 12 ctold_numbers] [.int s0] := by
  unfold fX11_treats_b100 at hf
  refine a_istore C dX11_treats_100 (by decide) rfl ?_
  refine a_iload C dX11_treats_102 rfl ?_
  refine a_iconst C (3 : Int32) dX11_treats_104 (by decide) ?_
  refine a_iadd C dX11_treats_105 ?_
  refine a_iconst C (1 : Int32) dX11_treats_106 (by decide) ?_
  refine a_isub C dX11_treats_107 ?_
  refine a_iconst C (3 : Int32) dX11_treats_108 (by decide) ?_
  refine a_idiv C dX11_treats_109 (by decide) ?_
  refine a_istore C dX11_treats_110 (by decide) rfl ?_
  refine a_aload_n C dX11_treats_112 rfl ?_
  refine a_get C (eB_X11_19 _) dX11_treats_113 0 rfl rfl ?_
  refine a_iload C dX11_treats_116 rfl ?_
  refine a_i2l C dX11_treats_118 ?_
  obtain ⟨r1, h1, hf⟩ := fx_bind hf
  refine a_fV C (kX8_add l D Y atold itold_size ctold_numbers ((((s0 + (3 : Int32)) - (1 : Int32)) / (3 : Int32)).toInt64) r1 h1) (gB_X11_307 _) rfl dvX8_add ⟨⟨rfl, rfl⟩, ⟨Nat.le_of_ble_eq_true rfl, Nat.le_of_ble_eq_true rfl⟩, ⟨Nat.le_of_ble_eq_true rfl, Nat.le_of_ble_eq_true rfl⟩⟩ rfl (Nat.le_of_ble_eq_true rfl) dX11_treats_119 rfl rfl [5, 6] [0, 1, 2, 3, 4] ⟨rfl, rfl, trivial⟩ (by decide +kernel) rfl [oX11 ao atext atold aL aC alaw aotherLaw anow atrial ahistory aguess acrewPlan amoatPlan achance io_wind io_spadeLimit, oX2 aC iC_size, oX9 anow aL aC inow_moats inow_spades inow_tides, rI Y (anow 3) 8 cnow_mood, rI Y (anow 4) 8 cnow_place, oX8 atold r1.1, rJ Y (atold 1) 12 r1.2] ⟨rfl, rfl, trivial⟩ ⟨rfl, rfl, rfl, rfl, rfl, trivial⟩ 7 rfl (by decide +kernel) ?_
  refine a_iload_n C dX11_treats_122 rfl ?_
  refine a_iload C dX11_treats_123 rfl ?_
  refine a_iadd C dX11_treats_125 ?_
  refine a_istore_n C dX11_treats_126 (by decide) rfl ?_
  refine a_iinc C (1 : Int32) dX11_treats_127 (by decide) rfl (by decide) rfl ?_
  refine a_goto C 57 dX11_treats_130 (by decide) ?_
  refine a_kill [5, 6] ?_
  exact hk57 (r1.1, r1.2, (x3 + (((s0 + (3 : Int32)) - (1 : Int32)) / (3 : Int32))), (x4 + (1 : Int32))) hf
def fX11_treats_l57 (iC_size : Int32) (cnow_mood : Nat → Int32) (cnow_place : Nat → Int32) (x1 : Int32) (x2 : Int32) (k57 : Int32 × (Nat → Int64) × Int32 × Int32 → Option (Int32 × Int32 × (Nat → Int64))) (itold_size : Int32) (ctold_numbers : Nat → Int64) (x3 : Int32) (x4 : Int32) : Option (Int32 × Int32 × (Nat → Int64)) :=
  if iC_size ≤ x4 then (fX11_treats_b133 iC_size cnow_mood cnow_place itold_size ctold_numbers x3) else (if ((jshr x2 x4) &&& (1 : Int32)) = (0 : Int32) then (fX11_treats_b100 iC_size cnow_mood cnow_place itold_size ctold_numbers x1 x2 x3 x4 (0 : Int32) k57) else (if inb x4 8 then fX11_treats_b100 iC_size cnow_mood cnow_place itold_size ctold_numbers x1 x2 x3 x4 (jmax (0 : Int32) ((x1 + (1 : Int32)) - (cnow_mood (Int32.toNatClampNeg x4)))) k57 else none))
def fX11_treats_b57 (iC_size : Int32) (cnow_mood : Nat → Int32) (cnow_place : Nat → Int32) (itold_size : Int32) (ctold_numbers : Nat → Int64) (x1 : Int32) (x2 : Int32) (x3 : Int32) (x4 : Int32) : Option (Int32 × Int32 × (Nat → Int64)) :=
  loopN (fun (s : Int32 × (Nat → Int64) × Int32 × Int32) k57 => fX11_treats_l57 iC_size cnow_mood cnow_place x1 x2 k57 s.1 s.2.1 s.2.2.1 s.2.2.2) FUEL (itold_size, ctold_numbers, x3, x4)
set_option maxHeartbeats 400000 in
set_option maxRecDepth 100000 in
theorem kX11_treats_l57 {X : cxT} {l : Launch} {D : va_G} {Y : Nat → ClassId} {ao atext atold aL aC alaw aotherLaw anow atrial ahistory aguess acrewPlan amoatPlan achance : Nat → Nat} {io_wind : Int32} {io_spadeLimit : Int32} {iC_size : Int32} {inow_moats : Int32} {inow_spades : Int32} {inow_tides : Int32} {cnow_mood : Nat → Int32} {cnow_place : Nat → Int32} {itold_size : Int32} {ctold_numbers : Nat → Int64} {x1 : Int32} {x2 : Int32} {x3 : Int32} {x4 : Int32} {res : Int32 × Int32 × (Nat → Int64)} (C : axC X l D Y cX11_treats 7 RX11 wsX11_treats rmX11_treats (some .int)) (hQ : axQ X 0 0 (fun r9 w9 => r9 = (some (.int res.1)) ∧ w9 = [oX11 ao atext atold aL aC alaw aotherLaw anow atrial ahistory aguess acrewPlan amoatPlan achance io_wind io_spadeLimit, oX2 aC iC_size, oX9 anow aL aC inow_moats inow_spades inow_tides, rI Y (anow 3) 8 cnow_mood, rI Y (anow 4) 8 cnow_place, oX8 atold res.2.1, rJ Y (atold 1) 12 res.2.2])) {k57 : Int32 × (Nat → Int64) × Int32 × Int32 → Option (Int32 × Int32 × (Nat → Int64))} (hk57 : ∀ s : Int32 × (Nat → Int64) × Int32 × Int32, k57 s = some res → ax X 0 0 57 [some (.ref (ao 0)), some (.int x1), some (.int x2), some (.int s.2.2.1), some (.int s.2.2.2), none, none] [oX11 ao atext atold aL aC alaw aotherLaw anow atrial ahistory aguess acrewPlan amoatPlan achance io_wind io_spadeLimit, oX2 aC iC_size, oX9 anow aL aC inow_moats inow_spades inow_tides, rI Y (anow 3) 8 cnow_mood, rI Y (anow 4) 8 cnow_place, oX8 atold s.1, rJ Y (atold 1) 12 s.2.1] []) (hf : fX11_treats_l57 iC_size cnow_mood cnow_place x1 x2 k57 itold_size ctold_numbers x3 x4 = some res) : ax X 0 0 57 [some (.ref (ao 0)), some (.int x1), some (.int x2), some (.int x3), some (.int x4), none, none] [oX11 ao atext atold aL aC alaw aotherLaw anow atrial ahistory aguess acrewPlan amoatPlan achance io_wind io_spadeLimit, oX2 aC iC_size, oX9 anow aL aC inow_moats inow_spades inow_tides, rI Y (anow 3) 8 cnow_mood, rI Y (anow 4) 8 cnow_place, oX8 atold itold_size, rJ Y (atold 1) 12 ctold_numbers] [] := by
  unfold fX11_treats_l57 at hf
  refine a_iload C dX11_treats_57 rfl ?_
  refine a_aload_n C dX11_treats_59 rfl ?_
  refine a_get C (eB_X11_33 _) dX11_treats_60 0 rfl rfl ?_
  refine a_get C (eB_X11_134 _) dX11_treats_63 1 rfl rfl ?_
  refine a_icmp_ge C 133 dX11_treats_66 (by decide) (fun h2 => ?_) (fun h2 => ?_)
  · have hf := fx_t h2 hf
    refine a_kill [0, 1, 2, 4] ?_
    exact kX11_treats_b133 C hQ hf
  · have hf := fx_f h2 hf
    refine a_iload_n C dX11_treats_69 rfl ?_
    refine a_iload C dX11_treats_70 rfl ?_
    refine a_ishr C dX11_treats_72 ?_
    refine a_iconst C (1 : Int32) dX11_treats_73 (by decide) ?_
    refine a_iand C dX11_treats_74 ?_
    refine a_if_ne C 82 dX11_treats_75 (by decide) (fun h3 => ?_) (fun h3 => ?_)
    · have hf := fx_f h3 hf
      refine a_iconst C (0 : Int32) dX11_treats_82 (by decide) ?_
      refine a_iload_n C dX11_treats_83 rfl ?_
      refine a_iconst C (1 : Int32) dX11_treats_84 (by decide) ?_
      refine a_iadd C dX11_treats_85 ?_
      refine a_aload_n C dX11_treats_86 rfl ?_
      refine a_get C (eB_X11_56 _) dX11_treats_87 0 rfl rfl ?_
      refine a_get C (eB_X11_189 _) dX11_treats_90 2 rfl rfl ?_
      refine a_iload C dX11_treats_93 rfl ?_
      obtain ⟨h4, hf⟩ := fx_ite hf
      refine a_iald C dX11_treats_95 3 rfl h4 ?_
      refine a_isub C dX11_treats_96 ?_
      refine a_mmax C dX11_treats_97 (mB_X11_253 _) ⟨⟨Nat.le_of_ble_eq_true rfl, Nat.le_of_ble_eq_true rfl⟩, ⟨Nat.le_of_ble_eq_true rfl, Nat.le_of_ble_eq_true rfl⟩⟩ (Nat.le_of_ble_eq_true rfl) ?_
      exact kX11_treats_b100 C hQ hk57 hf
    · have hf := fx_t h3 hf
      refine a_iconst C (0 : Int32) dX11_treats_78 (by decide) ?_
      refine a_goto C 100 dX11_treats_79 (by decide) ?_
      exact kX11_treats_b100 C hQ hk57 hf
set_option maxHeartbeats 400000 in
set_option maxRecDepth 100000 in
theorem kX11_treats_b57 {X : cxT} {l : Launch} {D : va_G} {Y : Nat → ClassId} {ao atext atold aL aC alaw aotherLaw anow atrial ahistory aguess acrewPlan amoatPlan achance : Nat → Nat} {io_wind : Int32} {io_spadeLimit : Int32} {iC_size : Int32} {inow_moats : Int32} {inow_spades : Int32} {inow_tides : Int32} {cnow_mood : Nat → Int32} {cnow_place : Nat → Int32} {itold_size : Int32} {ctold_numbers : Nat → Int64} {x1 : Int32} {x2 : Int32} {x3 : Int32} {x4 : Int32} {res : Int32 × Int32 × (Nat → Int64)} (C : axC X l D Y cX11_treats 7 RX11 wsX11_treats rmX11_treats (some .int)) (hQ : axQ X 0 0 (fun r9 w9 => r9 = (some (.int res.1)) ∧ w9 = [oX11 ao atext atold aL aC alaw aotherLaw anow atrial ahistory aguess acrewPlan amoatPlan achance io_wind io_spadeLimit, oX2 aC iC_size, oX9 anow aL aC inow_moats inow_spades inow_tides, rI Y (anow 3) 8 cnow_mood, rI Y (anow 4) 8 cnow_place, oX8 atold res.2.1, rJ Y (atold 1) 12 res.2.2])) (hf : fX11_treats_b57 iC_size cnow_mood cnow_place itold_size ctold_numbers x1 x2 x3 x4 = some res) : ax X 0 0 57 [some (.ref (ao 0)), some (.int x1), some (.int x2), some (.int x3), some (.int x4), none, none] [oX11 ao atext atold aL aC alaw aotherLaw anow atrial ahistory aguess acrewPlan amoatPlan achance io_wind io_spadeLimit, oX2 aC iC_size, oX9 anow aL aC inow_moats inow_spades inow_tides, rI Y (anow 3) 8 cnow_mood, rI Y (anow 4) 8 cnow_place, oX8 atold itold_size, rJ Y (atold 1) 12 ctold_numbers] [] := by
  unfold fX11_treats_b57 at hf
  exact fx_loop (P := fun s : Int32 × (Nat → Int64) × Int32 × Int32 => ax X 0 0 57 [some (.ref (ao 0)), some (.int x1), some (.int x2), some (.int s.2.2.1), some (.int s.2.2.2), none, none] [oX11 ao atext atold aL aC alaw aotherLaw anow atrial ahistory aguess acrewPlan amoatPlan achance io_wind io_spadeLimit, oX2 aC iC_size, oX9 anow aL aC inow_moats inow_spades inow_tides, rI Y (anow 3) 8 cnow_mood, rI Y (anow 4) 8 cnow_place, oX8 atold s.1, rJ Y (atold 1) 12 s.2.1] []) (fun s k57 hk57 h => kX11_treats_l57 C hQ hk57 h) FUEL (itold_size, ctold_numbers, x3, x4) hf
def fX11_treats_b45 (iC_size : Int32) (cnow_mood : Nat → Int32) (cnow_place : Nat → Int32) (itold_size : Int32) (ctold_numbers : Nat → Int64) (x1 : Int32) (x2 : Int32) : Option (Int32 × Int32 × (Nat → Int64)) :=
  (fX8_clear itold_size).bind (fun r5 => fX11_treats_b57 iC_size cnow_mood cnow_place r5 ctold_numbers x1 x2 (0 : Int32) (0 : Int32))
set_option maxHeartbeats 400000 in
set_option maxRecDepth 100000 in
theorem kX11_treats_b45 {X : cxT} {l : Launch} {D : va_G} {Y : Nat → ClassId} {ao atext atold aL aC alaw aotherLaw anow atrial ahistory aguess acrewPlan amoatPlan achance : Nat → Nat} {io_wind : Int32} {io_spadeLimit : Int32} {iC_size : Int32} {inow_moats : Int32} {inow_spades : Int32} {inow_tides : Int32} {cnow_mood : Nat → Int32} {cnow_place : Nat → Int32} {itold_size : Int32} {ctold_numbers : Nat → Int64} {x1 : Int32} {x2 : Int32} {res : Int32 × Int32 × (Nat → Int64)} (C : axC X l D Y cX11_treats 7 RX11 wsX11_treats rmX11_treats (some .int)) (hQ : axQ X 0 0 (fun r9 w9 => r9 = (some (.int res.1)) ∧ w9 = [oX11 ao atext atold aL aC alaw aotherLaw anow atrial ahistory aguess acrewPlan amoatPlan achance io_wind io_spadeLimit, oX2 aC iC_size, oX9 anow aL aC inow_moats inow_spades inow_tides, rI Y (anow 3) 8 cnow_mood, rI Y (anow 4) 8 cnow_place, oX8 atold res.2.1, rJ Y (atold 1) 12 res.2.2])) (hf : fX11_treats_b45 iC_size cnow_mood cnow_place itold_size ctold_numbers x1 x2 = some res) : ax X 0 0 45 [some (.ref (ao 0)), some (.int x1), some (.int x2), none, none, none, none] [oX11 ao atext atold aL aC alaw aotherLaw anow atrial ahistory aguess acrewPlan amoatPlan achance io_wind io_spadeLimit, oX2 aC iC_size, oX9 anow aL aC inow_moats inow_spades inow_tides, rI Y (anow 3) 8 cnow_mood, rI Y (anow 4) 8 cnow_place, oX8 atold itold_size, rJ Y (atold 1) 12 ctold_numbers] [] := by
  unfold fX11_treats_b45 at hf
  refine a_aload_n C dX11_treats_45 rfl ?_
  refine a_get C (eB_X11_19 _) dX11_treats_46 0 rfl rfl ?_
  obtain ⟨r5, h5, hf⟩ := fx_bind hf
  refine a_fV C (kX8_clear l D Y atold itold_size r5 h5) (gB_X11_305 _) rfl dvX8_clear ⟨⟨rfl, rfl⟩, ⟨Nat.le_of_ble_eq_true rfl, Nat.le_of_ble_eq_true rfl⟩, ⟨Nat.le_of_ble_eq_true rfl, Nat.le_of_ble_eq_true rfl⟩⟩ rfl (Nat.le_of_ble_eq_true rfl) dX11_treats_49 rfl rfl [5] [0, 1, 2, 3, 4, 6] ⟨rfl, trivial⟩ (by decide +kernel) rfl [oX11 ao atext atold aL aC alaw aotherLaw anow atrial ahistory aguess acrewPlan amoatPlan achance io_wind io_spadeLimit, oX2 aC iC_size, oX9 anow aL aC inow_moats inow_spades inow_tides, rI Y (anow 3) 8 cnow_mood, rI Y (anow 4) 8 cnow_place, oX8 atold r5, rJ Y (atold 1) 12 ctold_numbers] ⟨rfl, trivial⟩ ⟨rfl, rfl, rfl, rfl, rfl, rfl, trivial⟩ 7 rfl (by decide +kernel) ?_
  refine a_iconst C (0 : Int32) dX11_treats_52 (by decide) ?_
  refine a_istore_n C dX11_treats_53 (by decide) rfl ?_
  refine a_iconst C (0 : Int32) dX11_treats_54 (by decide) ?_
  refine a_istore C dX11_treats_55 (by decide) rfl ?_
  exact kX11_treats_b57 C hQ hf
def fX11_treats (iC_size : Int32) (cnow_mood : Nat → Int32) (cnow_place : Nat → Int32) (itold_size : Int32) (ctold_numbers : Nat → Int64) (x1 : Int32) : Option (Int32 × Int32 × (Nat → Int64)) :=
  (fX11_within x1 (1 : Int32) (9 : Int32)).bind (fun r6 => if r6 = (0 : Int32) then (some ((-1 : Int32), itold_size, ctold_numbers)) else ((fX2_all iC_size).bind (fun r8 => (fX9_atHome cnow_place iC_size).bind (fun r9 => if (x1 + (1 : Int32)) ≤ (9 : Int32) then (fX11_treats_b45 iC_size cnow_mood cnow_place itold_size ctold_numbers x1 (r8 &&& (r9 ^^^ (-1 : Int32)))) else (if (r8 &&& (r9 ^^^ (-1 : Int32))) = (0 : Int32) then (fX11_treats_b45 iC_size cnow_mood cnow_place itold_size ctold_numbers x1 (r8 &&& (r9 ^^^ (-1 : Int32)))) else (some ((-2 : Int32), itold_size, ctold_numbers)))))))
set_option maxHeartbeats 400000 in
set_option maxRecDepth 100000 in
theorem kX11_treats (l : Launch) (D : va_G) (Y : Nat → ClassId) (ao atext atold aL aC alaw aotherLaw anow atrial ahistory aguess acrewPlan amoatPlan achance : Nat → Nat) (io_wind : Int32) (io_spadeLimit : Int32) (iC_size : Int32) (inow_moats : Int32) (inow_spades : Int32) (inow_tides : Int32) (cnow_mood : Nat → Int32) (cnow_place : Nat → Int32) (itold_size : Int32) (ctold_numbers : Nat → Int64) (x1 : Int32) (res : Int32 × Int32 × (Nat → Int64)) (hf : fX11_treats iC_size cnow_mood cnow_place itold_size ctold_numbers x1 = some res) : amf l D Y yX11_treats wsX11_treats rmX11_treats [.ref (ao 0), .int x1] [oX11 ao atext atold aL aC alaw aotherLaw anow atrial ahistory aguess acrewPlan amoatPlan achance io_wind io_spadeLimit, oX2 aC iC_size, oX9 anow aL aC inow_moats inow_spades inow_tides, rI Y (anow 3) 8 cnow_mood, rI Y (anow 4) 8 cnow_place, oX8 atold itold_size, rJ Y (atold 1) 12 ctold_numbers] (some (.int res.1)) [oX11 ao atext atold aL aC alaw aotherLaw anow atrial ahistory aguess acrewPlan amoatPlan achance io_wind io_spadeLimit, oX2 aC iC_size, oX9 anow aL aC inow_moats inow_spades inow_tides, rI Y (anow 3) 8 cnow_mood, rI Y (anow 4) 8 cnow_place, oX8 atold res.2.1, rJ Y (atold 1) 12 res.2.2] := by
  refine amf.of (cc := cX11_treats) (maxL := 7) (rt := (some .int)) (by decide) rfl RX11 rfl (Nat.le_of_ble_eq_true rfl) [some (.ref (ao 0)), some (.int x1), none, none, none, none, none] rfl ?_
  intro X C hQ
  unfold fX11_treats at hf
  refine a_iload_n C dX11_treats_0 rfl ?_
  refine a_iconst C (1 : Int32) dX11_treats_1 (by decide) ?_
  refine a_bipush C (9 : Int32) dX11_treats_2 (by decide) ?_
  obtain ⟨r6, h6, hf⟩ := fx_bind hf
  refine a_fS C (kX11_within l D Y x1 (1 : Int32) (9 : Int32) r6 h6) (gB_X11_203 _) rfl dvX11_within ⟨⟨rfl, rfl⟩, ⟨Nat.le_of_ble_eq_true rfl, Nat.le_of_ble_eq_true rfl⟩, ⟨Nat.le_of_ble_eq_true rfl, Nat.le_of_ble_eq_true rfl⟩⟩ rfl (Nat.le_of_ble_eq_true rfl) dX11_treats_4 [] [0, 1, 2, 3, 4, 5, 6] trivial (by decide +kernel) rfl [oX11 ao atext atold aL aC alaw aotherLaw anow atrial ahistory aguess acrewPlan amoatPlan achance io_wind io_spadeLimit, oX2 aC iC_size, oX9 anow aL aC inow_moats inow_spades inow_tides, rI Y (anow 3) 8 cnow_mood, rI Y (anow 4) 8 cnow_place, oX8 atold itold_size, rJ Y (atold 1) 12 ctold_numbers] trivial ⟨rfl, rfl, rfl, rfl, rfl, rfl, rfl, trivial⟩ 7 rfl (by decide +kernel) ?_
  refine a_if_ne C 12 dX11_treats_7 (by decide) (fun h7 => ?_) (fun h7 => ?_)
  · have hf := fx_f h7 hf
    refine a_aload_n C dX11_treats_12 rfl ?_
    refine a_get C (eB_X11_33 _) dX11_treats_13 0 rfl rfl ?_
    obtain ⟨r8, h8, hf⟩ := fx_bind hf
    refine a_fV C (kX2_all l D Y aC iC_size r8 h8) (gB_X11_327 _) rfl dvX2_all ⟨⟨rfl, rfl⟩, ⟨Nat.le_of_ble_eq_true rfl, Nat.le_of_ble_eq_true rfl⟩, ⟨Nat.le_of_ble_eq_true rfl, Nat.le_of_ble_eq_true rfl⟩⟩ rfl (Nat.le_of_ble_eq_true rfl) dX11_treats_16 rfl rfl [1] [0, 2, 3, 4, 5, 6] ⟨rfl, trivial⟩ (by decide +kernel) rfl [oX11 ao atext atold aL aC alaw aotherLaw anow atrial ahistory aguess acrewPlan amoatPlan achance io_wind io_spadeLimit, oX2 aC iC_size, oX9 anow aL aC inow_moats inow_spades inow_tides, rI Y (anow 3) 8 cnow_mood, rI Y (anow 4) 8 cnow_place, oX8 atold itold_size, rJ Y (atold 1) 12 ctold_numbers] ⟨rfl, trivial⟩ ⟨rfl, rfl, rfl, rfl, rfl, rfl, trivial⟩ 7 rfl (by decide +kernel) ?_
    refine a_aload_n C dX11_treats_19 rfl ?_
    refine a_get C (eB_X11_56 _) dX11_treats_20 0 rfl rfl ?_
    obtain ⟨r9, h9, hf⟩ := fx_bind hf
    refine a_fV C (kX9_atHome l D Y anow aL aC inow_moats inow_spades inow_tides cnow_place iC_size r9 h9) (gB_X11_330 _) rfl dvX9_atHome ⟨⟨rfl, rfl⟩, ⟨Nat.le_of_ble_eq_true rfl, Nat.le_of_ble_eq_true rfl⟩, ⟨Nat.le_of_ble_eq_true rfl, Nat.le_of_ble_eq_true rfl⟩⟩ rfl (Nat.le_of_ble_eq_true rfl) dX11_treats_23 rfl rfl [2, 4, 1] [0, 3, 5, 6] ⟨rfl, rfl, rfl, trivial⟩ (by decide +kernel) rfl [oX11 ao atext atold aL aC alaw aotherLaw anow atrial ahistory aguess acrewPlan amoatPlan achance io_wind io_spadeLimit, oX2 aC iC_size, oX9 anow aL aC inow_moats inow_spades inow_tides, rI Y (anow 3) 8 cnow_mood, rI Y (anow 4) 8 cnow_place, oX8 atold itold_size, rJ Y (atold 1) 12 ctold_numbers] ⟨rfl, rfl, rfl, trivial⟩ ⟨rfl, rfl, rfl, rfl, trivial⟩ 7 rfl (by decide +kernel) ?_
    refine a_iconst C (-1 : Int32) dX11_treats_26 (by decide) ?_
    refine a_ixor C dX11_treats_27 ?_
    refine a_iand C dX11_treats_28 ?_
    refine a_istore_n C dX11_treats_29 (by decide) rfl ?_
    refine a_iload_n C dX11_treats_30 rfl ?_
    refine a_iconst C (1 : Int32) dX11_treats_31 (by decide) ?_
    refine a_iadd C dX11_treats_32 ?_
    refine a_bipush C (9 : Int32) dX11_treats_33 (by decide) ?_
    refine a_icmp_le C 45 dX11_treats_35 (by decide) (fun h10 => ?_) (fun h10 => ?_)
    · have hf := fx_t h10 hf
      exact kX11_treats_b45 C hQ hf
    · have hf := fx_f h10 hf
      refine a_iload_n C dX11_treats_38 rfl ?_
      refine a_if_eq C 45 dX11_treats_39 (by decide) (fun h11 => ?_) (fun h11 => ?_)
      · have hf := fx_t h11 hf
        exact kX11_treats_b45 C hQ hf
      · have hf := fx_f h11 hf
        refine a_bipush C (-2 : Int32) dX11_treats_42 (by decide) ?_
        obtain rfl := fx_some hf
        exact a_iret C hQ dX11_treats_44 ⟨rfl, rfl⟩
  · have hf := fx_t h7 hf
    refine a_iconst C (-1 : Int32) dX11_treats_10 (by decide) ?_
    obtain rfl := fx_some hf
    exact a_iret C hQ dX11_treats_11 ⟨rfl, rfl⟩
-- X11_work
abbrev rmX11_work : Room := { frames := 5, cells := 0, slots := 0, locals := 110 }
theorem dvX11_work : yX11_work.cls = RX11 ∧ yX11_work.cls ≠ "java/lang/invoke/MethodHandle" ∧ yX11_work.cls ≠ "java/lang/invoke/VarHandle" ∧ (parseMethodDescriptor yX11_work.desc).map (fun d => d.parameters.length) = some 1 := by decide +kernel
def fX11_work_b84 (iC_size : Int32) (cC_age : Nat → Int32) (cC_skill : Nat → Int32) (cC_pals : Nat → Int32) (iL_cells : Int32) (inow_moats : Int32) (inow_spades : Int32) (inow_tides : Int32) (cnow_wall : Nat → Int32) (cnow_depth : Nat → Int32) (cnow_mood : Nat → Int32) (cnow_place : Nat → Int32) (itold_size : Int32) (ctold_numbers : Nat → Int64) (itrial_moats : Int32) (itrial_spades : Int32) (itrial_tides : Int32) (ctrial_wall : Nat → Int32) (ctrial_depth : Nat → Int32) (ctrial_mood : Nat → Int32) (ctrial_place : Nat → Int32) : Option (Int32 × Int32 × (Nat → Int64) × Int32 × Int32 × Int32 × (Nat → Int32) × (Nat → Int32) × (Nat → Int32) × (Nat → Int32)) :=
  (fX9_sand ctrial_wall iL_cells).bind (fun r1 => (fX9_sand cnow_wall iL_cells).bind (fun r2 => some ((r1 - r2), itold_size, ctold_numbers, itrial_moats, itrial_spades, itrial_tides, ctrial_wall, ctrial_depth, ctrial_mood, ctrial_place)))
set_option maxHeartbeats 400000 in
set_option maxRecDepth 100000 in
theorem kX11_work_b84 {X : cxT} {l : Launch} {D : va_G} {Y : Nat → ClassId} {ao atext atold aL aC alaw aotherLaw anow atrial ahistory aguess acrewPlan amoatPlan achance : Nat → Nat} {io_wind : Int32} {io_spadeLimit : Int32} {iC_size : Int32} {cC_age : Nat → Int32} {cC_skill : Nat → Int32} {cC_pals : Nat → Int32} {iL_cells : Int32} {inow_moats : Int32} {inow_spades : Int32} {inow_tides : Int32} {cnow_wall : Nat → Int32} {cnow_depth : Nat → Int32} {cnow_mood : Nat → Int32} {cnow_place : Nat → Int32} {itold_size : Int32} {ctold_numbers : Nat → Int64} {itrial_moats : Int32} {itrial_spades : Int32} {itrial_tides : Int32} {ctrial_wall : Nat → Int32} {ctrial_depth : Nat → Int32} {ctrial_mood : Nat → Int32} {ctrial_place : Nat → Int32} {res : Int32 × Int32 × (Nat → Int64) × Int32 × Int32 × Int32 × (Nat → Int32) × (Nat → Int32) × (Nat → Int32) × (Nat → Int32)} (C : axC X l D Y cX11_work 3 RX11 wsX11_work rmX11_work (some .int)) (hQ : axQ X 0 0 (fun r9 w9 => r9 = (some (.int res.1)) ∧ w9 = [oX11 ao atext atold aL aC alaw aotherLaw anow atrial ahistory aguess acrewPlan amoatPlan achance io_wind io_spadeLimit, oX2 aC iC_size, rI Y (aC 1) 8 cC_age, rI Y (aC 2) 8 cC_skill, rI Y (aC 4) 8 cC_pals, oX5 aL iL_cells, oX9 anow aL aC inow_moats inow_spades inow_tides, rI Y (anow 1) 12 cnow_wall, rI Y (anow 2) 12 cnow_depth, rI Y (anow 3) 8 cnow_mood, rI Y (anow 4) 8 cnow_place, oX8 atold res.2.1, rJ Y (atold 1) 12 res.2.2.1, oX9 atrial aL aC res.2.2.2.1 res.2.2.2.2.1 res.2.2.2.2.2.1, rI Y (atrial 1) 12 res.2.2.2.2.2.2.1, rI Y (atrial 2) 12 res.2.2.2.2.2.2.2.1, rI Y (atrial 3) 8 res.2.2.2.2.2.2.2.2.1, rI Y (atrial 4) 8 res.2.2.2.2.2.2.2.2.2])) (hf : fX11_work_b84 iC_size cC_age cC_skill cC_pals iL_cells inow_moats inow_spades inow_tides cnow_wall cnow_depth cnow_mood cnow_place itold_size ctold_numbers itrial_moats itrial_spades itrial_tides ctrial_wall ctrial_depth ctrial_mood ctrial_place = some res) : ax X 0 0 84 [some (.ref (ao 0)), none, none] [oX11 ao atext atold aL aC alaw aotherLaw anow atrial ahistory aguess acrewPlan amoatPlan achance io_wind io_spadeLimit, oX2 aC iC_size, rI Y (aC 1) 8 cC_age, rI Y (aC 2) 8 cC_skill, rI Y (aC 4) 8 cC_pals, oX5 aL iL_cells, oX9 anow aL aC inow_moats inow_spades inow_tides, rI Y (anow 1) 12 cnow_wall, rI Y (anow 2) 12 cnow_depth, rI Y (anow 3) 8 cnow_mood, rI Y (anow 4) 8 cnow_place, oX8 atold itold_size, rJ Y (atold 1) 12 ctold_numbers, oX9 atrial aL aC itrial_moats itrial_spades itrial_tides, rI Y (atrial 1) 12 ctrial_wall, rI Y (atrial 2) 12 ctrial_depth, rI Y (atrial 3) 8 ctrial_mood, rI Y (atrial 4) 8 ctrial_place] [] := by
  unfold fX11_work_b84 at hf
  refine a_aload_n C dX11_work_84 rfl ?_
  refine a_get C (eB_X11_60 _) dX11_work_85 0 rfl rfl ?_
  obtain ⟨r1, h1, hf⟩ := fx_bind hf
  refine a_fV C (kX9_sand l D Y atrial aL aC itrial_moats itrial_spades itrial_tides ctrial_wall iL_cells r1 h1) (gB_X11_333 _) rfl dvX9_sand ⟨⟨rfl, rfl⟩, ⟨Nat.le_of_ble_eq_true rfl, Nat.le_of_ble_eq_true rfl⟩, ⟨Nat.le_of_ble_eq_true rfl, Nat.le_of_ble_eq_true rfl⟩⟩ rfl (Nat.le_of_ble_eq_true rfl) dX11_work_88 rfl rfl [13, 14, 5] [0, 1, 2, 3, 4, 6, 7, 8, 9, 10, 11, 12, 15, 16, 17] ⟨rfl, rfl, rfl, trivial⟩ (by decide +kernel) rfl [oX11 ao atext atold aL aC alaw aotherLaw anow atrial ahistory aguess acrewPlan amoatPlan achance io_wind io_spadeLimit, oX2 aC iC_size, rI Y (aC 1) 8 cC_age, rI Y (aC 2) 8 cC_skill, rI Y (aC 4) 8 cC_pals, oX5 aL iL_cells, oX9 anow aL aC inow_moats inow_spades inow_tides, rI Y (anow 1) 12 cnow_wall, rI Y (anow 2) 12 cnow_depth, rI Y (anow 3) 8 cnow_mood, rI Y (anow 4) 8 cnow_place, oX8 atold itold_size, rJ Y (atold 1) 12 ctold_numbers, oX9 atrial aL aC itrial_moats itrial_spades itrial_tides, rI Y (atrial 1) 12 ctrial_wall, rI Y (atrial 2) 12 ctrial_depth, rI Y (atrial 3) 8 ctrial_mood, rI Y (atrial 4) 8 ctrial_place] ⟨rfl, rfl, rfl, trivial⟩ ⟨rfl, rfl, rfl, rfl, rfl, rfl, rfl, rfl, rfl, rfl, rfl, rfl, rfl, rfl, rfl, trivial⟩ 18 rfl (by decide +kernel) ?_
  refine a_aload_n C dX11_work_91 rfl ?_
  refine a_get C (eB_X11_56 _) dX11_work_92 0 rfl rfl ?_
  obtain ⟨r2, h2, hf⟩ := fx_bind hf
  refine a_fV C (kX9_sand l D Y anow aL aC inow_moats inow_spades inow_tides cnow_wall iL_cells r2 h2) (gB_X11_333 _) rfl dvX9_sand ⟨⟨rfl, rfl⟩, ⟨Nat.le_of_ble_eq_true rfl, Nat.le_of_ble_eq_true rfl⟩, ⟨Nat.le_of_ble_eq_true rfl, Nat.le_of_ble_eq_true rfl⟩⟩ rfl (Nat.le_of_ble_eq_true rfl) dX11_work_95 rfl rfl [6, 7, 5] [0, 1, 2, 3, 4, 8, 9, 10, 11, 12, 13, 14, 15, 16, 17] ⟨rfl, rfl, rfl, trivial⟩ (by decide +kernel) rfl [oX11 ao atext atold aL aC alaw aotherLaw anow atrial ahistory aguess acrewPlan amoatPlan achance io_wind io_spadeLimit, oX2 aC iC_size, rI Y (aC 1) 8 cC_age, rI Y (aC 2) 8 cC_skill, rI Y (aC 4) 8 cC_pals, oX5 aL iL_cells, oX9 anow aL aC inow_moats inow_spades inow_tides, rI Y (anow 1) 12 cnow_wall, rI Y (anow 2) 12 cnow_depth, rI Y (anow 3) 8 cnow_mood, rI Y (anow 4) 8 cnow_place, oX8 atold itold_size, rJ Y (atold 1) 12 ctold_numbers, oX9 atrial aL aC itrial_moats itrial_spades itrial_tides, rI Y (atrial 1) 12 ctrial_wall, rI Y (atrial 2) 12 ctrial_depth, rI Y (atrial 3) 8 ctrial_mood, rI Y (atrial 4) 8 ctrial_place] ⟨rfl, rfl, rfl, trivial⟩ ⟨rfl, rfl, rfl, rfl, rfl, rfl, rfl, rfl, rfl, rfl, rfl, rfl, rfl, rfl, rfl, trivial⟩ 18 rfl (by decide +kernel) ?_
  refine a_isub C dX11_work_98 ?_
  obtain rfl := fx_some hf
  exact a_iret C hQ dX11_work_99 ⟨rfl, rfl⟩
def fX11_work_l40 (iC_size : Int32) (cC_age : Nat → Int32) (cC_skill : Nat → Int32) (cC_pals : Nat → Int32) (iL_cells : Int32) (inow_moats : Int32) (inow_spades : Int32) (inow_tides : Int32) (cnow_wall : Nat → Int32) (cnow_depth : Nat → Int32) (cnow_mood : Nat → Int32) (cnow_place : Nat → Int32) (itrial_moats : Int32) (itrial_spades : Int32) (itrial_tides : Int32) (ctrial_wall : Nat → Int32) (ctrial_depth : Nat → Int32) (ctrial_mood : Nat → Int32) (ctrial_place : Nat → Int32) (k40 : Int32 × (Nat → Int64) × Int32 → Option (Int32 × Int32 × (Nat → Int64) × Int32 × Int32 × Int32 × (Nat → Int32) × (Nat → Int32) × (Nat → Int32) × (Nat → Int32))) (itold_size : Int32) (ctold_numbers : Nat → Int64) (x2 : Int32) : Option (Int32 × Int32 × (Nat → Int64) × Int32 × Int32 × Int32 × (Nat → Int32) × (Nat → Int32) × (Nat → Int32) × (Nat → Int32)) :=
  if iL_cells ≤ x2 then (fX11_work_b84 iC_size cC_age cC_skill cC_pals iL_cells inow_moats inow_spades inow_tides cnow_wall cnow_depth cnow_mood cnow_place itold_size ctold_numbers itrial_moats itrial_spades itrial_tides ctrial_wall ctrial_depth ctrial_mood ctrial_place) else (if inb x2 12 then (fX8_add itold_size ctold_numbers (((ctrial_wall (Int32.toNatClampNeg x2)) - (cnow_wall (Int32.toNatClampNeg x2))).toInt64)).bind (fun r5 => k40 (r5.1, r5.2, (x2 + (1 : Int32)))) else none)
def fX11_work_b40 (iC_size : Int32) (cC_age : Nat → Int32) (cC_skill : Nat → Int32) (cC_pals : Nat → Int32) (iL_cells : Int32) (inow_moats : Int32) (inow_spades : Int32) (inow_tides : Int32) (cnow_wall : Nat → Int32) (cnow_depth : Nat → Int32) (cnow_mood : Nat → Int32) (cnow_place : Nat → Int32) (itold_size : Int32) (ctold_numbers : Nat → Int64) (itrial_moats : Int32) (itrial_spades : Int32) (itrial_tides : Int32) (ctrial_wall : Nat → Int32) (ctrial_depth : Nat → Int32) (ctrial_mood : Nat → Int32) (ctrial_place : Nat → Int32) (x2 : Int32) : Option (Int32 × Int32 × (Nat → Int64) × Int32 × Int32 × Int32 × (Nat → Int32) × (Nat → Int32) × (Nat → Int32) × (Nat → Int32)) :=
  loopN (fun (s : Int32 × (Nat → Int64) × Int32) k40 => fX11_work_l40 iC_size cC_age cC_skill cC_pals iL_cells inow_moats inow_spades inow_tides cnow_wall cnow_depth cnow_mood cnow_place itrial_moats itrial_spades itrial_tides ctrial_wall ctrial_depth ctrial_mood ctrial_place k40 s.1 s.2.1 s.2.2) FUEL (itold_size, ctold_numbers, x2)
set_option maxHeartbeats 400000 in
set_option maxRecDepth 100000 in
theorem kX11_work_l40 {X : cxT} {l : Launch} {D : va_G} {Y : Nat → ClassId} {ao atext atold aL aC alaw aotherLaw anow atrial ahistory aguess acrewPlan amoatPlan achance : Nat → Nat} {io_wind : Int32} {io_spadeLimit : Int32} {iC_size : Int32} {cC_age : Nat → Int32} {cC_skill : Nat → Int32} {cC_pals : Nat → Int32} {iL_cells : Int32} {inow_moats : Int32} {inow_spades : Int32} {inow_tides : Int32} {cnow_wall : Nat → Int32} {cnow_depth : Nat → Int32} {cnow_mood : Nat → Int32} {cnow_place : Nat → Int32} {itold_size : Int32} {ctold_numbers : Nat → Int64} {itrial_moats : Int32} {itrial_spades : Int32} {itrial_tides : Int32} {ctrial_wall : Nat → Int32} {ctrial_depth : Nat → Int32} {ctrial_mood : Nat → Int32} {ctrial_place : Nat → Int32} {x2 : Int32} {res : Int32 × Int32 × (Nat → Int64) × Int32 × Int32 × Int32 × (Nat → Int32) × (Nat → Int32) × (Nat → Int32) × (Nat → Int32)} (C : axC X l D Y cX11_work 3 RX11 wsX11_work rmX11_work (some .int)) (hQ : axQ X 0 0 (fun r9 w9 => r9 = (some (.int res.1)) ∧ w9 = [oX11 ao atext atold aL aC alaw aotherLaw anow atrial ahistory aguess acrewPlan amoatPlan achance io_wind io_spadeLimit, oX2 aC iC_size, rI Y (aC 1) 8 cC_age, rI Y (aC 2) 8 cC_skill, rI Y (aC 4) 8 cC_pals, oX5 aL iL_cells, oX9 anow aL aC inow_moats inow_spades inow_tides, rI Y (anow 1) 12 cnow_wall, rI Y (anow 2) 12 cnow_depth, rI Y (anow 3) 8 cnow_mood, rI Y (anow 4) 8 cnow_place, oX8 atold res.2.1, rJ Y (atold 1) 12 res.2.2.1, oX9 atrial aL aC res.2.2.2.1 res.2.2.2.2.1 res.2.2.2.2.2.1, rI Y (atrial 1) 12 res.2.2.2.2.2.2.1, rI Y (atrial 2) 12 res.2.2.2.2.2.2.2.1, rI Y (atrial 3) 8 res.2.2.2.2.2.2.2.2.1, rI Y (atrial 4) 8 res.2.2.2.2.2.2.2.2.2])) {k40 : Int32 × (Nat → Int64) × Int32 → Option (Int32 × Int32 × (Nat → Int64) × Int32 × Int32 × Int32 × (Nat → Int32) × (Nat → Int32) × (Nat → Int32) × (Nat → Int32))} (hk40 : ∀ s : Int32 × (Nat → Int64) × Int32, k40 s = some res → ax X 0 0 40 [some (.ref (ao 0)), none, some (.int s.2.2)] [oX11 ao atext atold aL aC alaw aotherLaw anow atrial ahistory aguess acrewPlan amoatPlan achance io_wind io_spadeLimit, oX2 aC iC_size, rI Y (aC 1) 8 cC_age, rI Y (aC 2) 8 cC_skill, rI Y (aC 4) 8 cC_pals, oX5 aL iL_cells, oX9 anow aL aC inow_moats inow_spades inow_tides, rI Y (anow 1) 12 cnow_wall, rI Y (anow 2) 12 cnow_depth, rI Y (anow 3) 8 cnow_mood, rI Y (anow 4) 8 cnow_place, oX8 atold s.1, rJ Y (atold 1) 12 s.2.1, oX9 atrial aL aC itrial_moats itrial_spades itrial_tides, rI Y (atrial 1) 12 ctrial_wall, rI Y (atrial 2) 12 ctrial_depth, rI Y (atrial 3) 8 ctrial_mood, rI Y (atrial 4) 8 ctrial_place] []) (hf : fX11_work_l40 iC_size cC_age cC_skill cC_pals iL_cells inow_moats inow_spades inow_tides cnow_wall cnow_depth cnow_mood cnow_place itrial_moats itrial_spades itrial_tides ctrial_wall ctrial_depth ctrial_mood ctrial_place k40 itold_size ctold_numbers x2 = some res) : ax X 0 0 40 [some (.ref (ao 0)), none, some (.int x2)] [oX11 ao atext atold aL aC alaw aotherLaw anow atrial ahistory aguess acrewPlan amoatPlan achance io_wind io_spadeLimit, oX2 aC iC_size, rI Y (aC 1) 8 cC_age, rI Y (aC 2) 8 cC_skill, rI Y (aC 4) 8 cC_pals, oX5 aL iL_cells, oX9 anow aL aC inow_moats inow_spades inow_tides, rI Y (anow 1) 12 cnow_wall, rI Y (anow 2) 12 cnow_depth, rI Y (anow 3) 8 cnow_mood, rI Y (anow 4) 8 cnow_place, oX8 atold itold_size, rJ Y (atold 1) 12 ctold_numbers, oX9 atrial aL aC itrial_moats itrial_spades itrial_tides, rI Y (atrial 1) 12 ctrial_wall, rI Y (atrial 2) 12 ctrial_depth, rI Y (atrial 3) 8 ctrial_mood, rI Y (atrial 4) 8 ctrial_place] [] := by
  unfold fX11_work_l40 at hf
  refine a_iload_n C dX11_work_40 rfl ?_
  refine a_aload_n C dX11_work_41 rfl ?_
  refine a_get C (eB_X11_26 _) dX11_work_42 0 rfl rfl ?_
  refine a_get C (eB_X11_131 _) dX11_work_45 5 rfl rfl ?_
  refine a_icmp_ge C 84 dX11_work_48 (by decide) (fun h3 => ?_) (fun h3 => ?_)
  · have hf := fx_t h3 hf
    refine a_kill [2] ?_
    exact kX11_work_b84 C hQ hf
  · have hf := fx_f h3 hf
    refine a_aload_n C dX11_work_51 rfl ?_
    refine a_get C (eB_X11_19 _) dX11_work_52 0 rfl rfl ?_
    refine a_aload_n C dX11_work_55 rfl ?_
    refine a_get C (eB_X11_60 _) dX11_work_56 0 rfl rfl ?_
    refine a_get C (eB_X11_156 _) dX11_work_59 13 rfl rfl ?_
    refine a_iload_n C dX11_work_62 rfl ?_
    obtain ⟨h4, hf⟩ := fx_ite hf
    refine a_iald C dX11_work_63 14 rfl h4 ?_
    refine a_aload_n C dX11_work_64 rfl ?_
    refine a_get C (eB_X11_56 _) dX11_work_65 0 rfl rfl ?_
    refine a_get C (eB_X11_156 _) dX11_work_68 6 rfl rfl ?_
    refine a_iload_n C dX11_work_71 rfl ?_
    refine a_iald C dX11_work_72 7 rfl h4 ?_
    refine a_isub C dX11_work_73 ?_
    refine a_i2l C dX11_work_74 ?_
    obtain ⟨r5, h5, hf⟩ := fx_bind hf
    refine a_fV C (kX8_add l D Y atold itold_size ctold_numbers (((ctrial_wall (Int32.toNatClampNeg x2)) - (cnow_wall (Int32.toNatClampNeg x2))).toInt64) r5 h5) (gB_X11_307 _) rfl dvX8_add ⟨⟨rfl, rfl⟩, ⟨Nat.le_of_ble_eq_true rfl, Nat.le_of_ble_eq_true rfl⟩, ⟨Nat.le_of_ble_eq_true rfl, Nat.le_of_ble_eq_true rfl⟩⟩ rfl (Nat.le_of_ble_eq_true rfl) dX11_work_75 rfl rfl [11, 12] [0, 1, 2, 3, 4, 5, 6, 7, 8, 9, 10, 13, 14, 15, 16, 17] ⟨rfl, rfl, trivial⟩ (by decide +kernel) rfl [oX11 ao atext atold aL aC alaw aotherLaw anow atrial ahistory aguess acrewPlan amoatPlan achance io_wind io_spadeLimit, oX2 aC iC_size, rI Y (aC 1) 8 cC_age, rI Y (aC 2) 8 cC_skill, rI Y (aC 4) 8 cC_pals, oX5 aL iL_cells, oX9 anow aL aC inow_moats inow_spades inow_tides, rI Y (anow 1) 12 cnow_wall, rI Y (anow 2) 12 cnow_depth, rI Y (anow 3) 8 cnow_mood, rI Y (anow 4) 8 cnow_place, oX8 atold r5.1, rJ Y (atold 1) 12 r5.2, oX9 atrial aL aC itrial_moats itrial_spades itrial_tides, rI Y (atrial 1) 12 ctrial_wall, rI Y (atrial 2) 12 ctrial_depth, rI Y (atrial 3) 8 ctrial_mood, rI Y (atrial 4) 8 ctrial_place] ⟨rfl, rfl, trivial⟩ ⟨rfl, rfl, rfl, rfl, rfl, rfl, rfl, rfl, rfl, rfl, rfl, rfl, rfl, rfl, rfl, rfl, trivial⟩ 18 rfl (by decide +kernel) ?_
    refine a_iinc C (1 : Int32) dX11_work_78 (by decide) rfl (by decide) rfl ?_
    refine a_goto C 40 dX11_work_81 (by decide) ?_
    exact hk40 (r5.1, r5.2, (x2 + (1 : Int32))) hf
set_option maxHeartbeats 400000 in
set_option maxRecDepth 100000 in
theorem kX11_work_b40 {X : cxT} {l : Launch} {D : va_G} {Y : Nat → ClassId} {ao atext atold aL aC alaw aotherLaw anow atrial ahistory aguess acrewPlan amoatPlan achance : Nat → Nat} {io_wind : Int32} {io_spadeLimit : Int32} {iC_size : Int32} {cC_age : Nat → Int32} {cC_skill : Nat → Int32} {cC_pals : Nat → Int32} {iL_cells : Int32} {inow_moats : Int32} {inow_spades : Int32} {inow_tides : Int32} {cnow_wall : Nat → Int32} {cnow_depth : Nat → Int32} {cnow_mood : Nat → Int32} {cnow_place : Nat → Int32} {itold_size : Int32} {ctold_numbers : Nat → Int64} {itrial_moats : Int32} {itrial_spades : Int32} {itrial_tides : Int32} {ctrial_wall : Nat → Int32} {ctrial_depth : Nat → Int32} {ctrial_mood : Nat → Int32} {ctrial_place : Nat → Int32} {x2 : Int32} {res : Int32 × Int32 × (Nat → Int64) × Int32 × Int32 × Int32 × (Nat → Int32) × (Nat → Int32) × (Nat → Int32) × (Nat → Int32)} (C : axC X l D Y cX11_work 3 RX11 wsX11_work rmX11_work (some .int)) (hQ : axQ X 0 0 (fun r9 w9 => r9 = (some (.int res.1)) ∧ w9 = [oX11 ao atext atold aL aC alaw aotherLaw anow atrial ahistory aguess acrewPlan amoatPlan achance io_wind io_spadeLimit, oX2 aC iC_size, rI Y (aC 1) 8 cC_age, rI Y (aC 2) 8 cC_skill, rI Y (aC 4) 8 cC_pals, oX5 aL iL_cells, oX9 anow aL aC inow_moats inow_spades inow_tides, rI Y (anow 1) 12 cnow_wall, rI Y (anow 2) 12 cnow_depth, rI Y (anow 3) 8 cnow_mood, rI Y (anow 4) 8 cnow_place, oX8 atold res.2.1, rJ Y (atold 1) 12 res.2.2.1, oX9 atrial aL aC res.2.2.2.1 res.2.2.2.2.1 res.2.2.2.2.2.1, rI Y (atrial 1) 12 res.2.2.2.2.2.2.1, rI Y (atrial 2) 12 res.2.2.2.2.2.2.2.1, rI Y (atrial 3) 8 res.2.2.2.2.2.2.2.2.1, rI Y (atrial 4) 8 res.2.2.2.2.2.2.2.2.2])) (hf : fX11_work_b40 iC_size cC_age cC_skill cC_pals iL_cells inow_moats inow_spades inow_tides cnow_wall cnow_depth cnow_mood cnow_place itold_size ctold_numbers itrial_moats itrial_spades itrial_tides ctrial_wall ctrial_depth ctrial_mood ctrial_place x2 = some res) : ax X 0 0 40 [some (.ref (ao 0)), none, some (.int x2)] [oX11 ao atext atold aL aC alaw aotherLaw anow atrial ahistory aguess acrewPlan amoatPlan achance io_wind io_spadeLimit, oX2 aC iC_size, rI Y (aC 1) 8 cC_age, rI Y (aC 2) 8 cC_skill, rI Y (aC 4) 8 cC_pals, oX5 aL iL_cells, oX9 anow aL aC inow_moats inow_spades inow_tides, rI Y (anow 1) 12 cnow_wall, rI Y (anow 2) 12 cnow_depth, rI Y (anow 3) 8 cnow_mood, rI Y (anow 4) 8 cnow_place, oX8 atold itold_size, rJ Y (atold 1) 12 ctold_numbers, oX9 atrial aL aC itrial_moats itrial_spades itrial_tides, rI Y (atrial 1) 12 ctrial_wall, rI Y (atrial 2) 12 ctrial_depth, rI Y (atrial 3) 8 ctrial_mood, rI Y (atrial 4) 8 ctrial_place] [] := by
  unfold fX11_work_b40 at hf
  exact fx_loop (P := fun s : Int32 × (Nat → Int64) × Int32 => ax X 0 0 40 [some (.ref (ao 0)), none, some (.int s.2.2)] [oX11 ao atext atold aL aC alaw aotherLaw anow atrial ahistory aguess acrewPlan amoatPlan achance io_wind io_spadeLimit, oX2 aC iC_size, rI Y (aC 1) 8 cC_age, rI Y (aC 2) 8 cC_skill, rI Y (aC 4) 8 cC_pals, oX5 aL iL_cells, oX9 anow aL aC inow_moats inow_spades inow_tides, rI Y (anow 1) 12 cnow_wall, rI Y (anow 2) 12 cnow_depth, rI Y (anow 3) 8 cnow_mood, rI Y (anow 4) 8 cnow_place, oX8 atold s.1, rJ Y (atold 1) 12 s.2.1, oX9 atrial aL aC itrial_moats itrial_spades itrial_tides, rI Y (atrial 1) 12 ctrial_wall, rI Y (atrial 2) 12 ctrial_depth, rI Y (atrial 3) 8 ctrial_mood, rI Y (atrial 4) 8 ctrial_place] []) (fun s k40 hk40 h => kX11_work_l40 C hQ hk40 h) FUEL (itold_size, ctold_numbers, x2) hf
def fX11_work (iC_size : Int32) (cC_age : Nat → Int32) (cC_skill : Nat → Int32) (cC_pals : Nat → Int32) (iL_cells : Int32) (inow_moats : Int32) (inow_spades : Int32) (inow_tides : Int32) (cnow_wall : Nat → Int32) (cnow_depth : Nat → Int32) (cnow_mood : Nat → Int32) (cnow_place : Nat → Int32) (itold_size : Int32) (ctold_numbers : Nat → Int64) (itrial_moats : Int32) (itrial_spades : Int32) (itrial_tides : Int32) (ctrial_wall : Nat → Int32) (ctrial_depth : Nat → Int32) (ctrial_mood : Nat → Int32) (ctrial_place : Nat → Int32) (x1 : Int32) : Option (Int32 × Int32 × (Nat → Int64) × Int32 × Int32 × Int32 × (Nat → Int32) × (Nat → Int32) × (Nat → Int32) × (Nat → Int32)) :=
  (fX11_within x1 (0 : Int32) (30 : Int32)).bind (fun r6 => if r6 = (0 : Int32) then (some ((-1 : Int32), itold_size, ctold_numbers, itrial_moats, itrial_spades, itrial_tides, ctrial_wall, ctrial_depth, ctrial_mood, ctrial_place)) else ((fX9_copy itrial_moats itrial_spades itrial_tides ctrial_wall ctrial_depth ctrial_mood ctrial_place inow_moats inow_spades inow_tides cnow_wall cnow_depth cnow_mood cnow_place).bind (fun r8 => (fX9_buildOn r8.2.1 r8.2.2.2.1 r8.2.2.2.2.2.1 r8.2.2.2.2.2.2 iC_size cC_age cC_skill cC_pals iL_cells x1).bind (fun r9 => (fX8_clear itold_size).bind (fun r10 => fX11_work_b40 iC_size cC_age cC_skill cC_pals iL_cells inow_moats inow_spades inow_tides cnow_wall cnow_depth cnow_mood cnow_place r10 ctold_numbers r8.1 r8.2.1 r8.2.2.1 r9.1 r8.2.2.2.2.1 r9.2.1 r9.2.2 (0 : Int32))))))
set_option maxHeartbeats 400000 in
set_option maxRecDepth 100000 in
theorem kX11_work (l : Launch) (D : va_G) (Y : Nat → ClassId) (ao atext atold aL aC alaw aotherLaw anow atrial ahistory aguess acrewPlan amoatPlan achance : Nat → Nat) (io_wind : Int32) (io_spadeLimit : Int32) (iC_size : Int32) (cC_age : Nat → Int32) (cC_skill : Nat → Int32) (cC_pals : Nat → Int32) (iL_cells : Int32) (inow_moats : Int32) (inow_spades : Int32) (inow_tides : Int32) (cnow_wall : Nat → Int32) (cnow_depth : Nat → Int32) (cnow_mood : Nat → Int32) (cnow_place : Nat → Int32) (itold_size : Int32) (ctold_numbers : Nat → Int64) (itrial_moats : Int32) (itrial_spades : Int32) (itrial_tides : Int32) (ctrial_wall : Nat → Int32) (ctrial_depth : Nat → Int32) (ctrial_mood : Nat → Int32) (ctrial_place : Nat → Int32) (x1 : Int32) (res : Int32 × Int32 × (Nat → Int64) × Int32 × Int32 × Int32 × (Nat → Int32) × (Nat → Int32) × (Nat → Int32) × (Nat → Int32)) (hf : fX11_work iC_size cC_age cC_skill cC_pals iL_cells inow_moats inow_spades inow_tides cnow_wall cnow_depth cnow_mood cnow_place itold_size ctold_numbers itrial_moats itrial_spades itrial_tides ctrial_wall ctrial_depth ctrial_mood ctrial_place x1 = some res) : amf l D Y yX11_work wsX11_work rmX11_work [.ref (ao 0), .int x1] [oX11 ao atext atold aL aC alaw aotherLaw anow atrial ahistory aguess acrewPlan amoatPlan achance io_wind io_spadeLimit, oX2 aC iC_size, rI Y (aC 1) 8 cC_age, rI Y (aC 2) 8 cC_skill, rI Y (aC 4) 8 cC_pals, oX5 aL iL_cells, oX9 anow aL aC inow_moats inow_spades inow_tides, rI Y (anow 1) 12 cnow_wall, rI Y (anow 2) 12 cnow_depth, rI Y (anow 3) 8 cnow_mood, rI Y (anow 4) 8 cnow_place, oX8 atold itold_size, rJ Y (atold 1) 12 ctold_numbers, oX9 atrial aL aC itrial_moats itrial_spades itrial_tides, rI Y (atrial 1) 12 ctrial_wall, rI Y (atrial 2) 12 ctrial_depth, rI Y (atrial 3) 8 ctrial_mood, rI Y (atrial 4) 8 ctrial_place] (some (.int res.1)) [oX11 ao atext atold aL aC alaw aotherLaw anow atrial ahistory aguess acrewPlan amoatPlan achance io_wind io_spadeLimit, oX2 aC iC_size, rI Y (aC 1) 8 cC_age, rI Y (aC 2) 8 cC_skill, rI Y (aC 4) 8 cC_pals, oX5 aL iL_cells, oX9 anow aL aC inow_moats inow_spades inow_tides, rI Y (anow 1) 12 cnow_wall, rI Y (anow 2) 12 cnow_depth, rI Y (anow 3) 8 cnow_mood, rI Y (anow 4) 8 cnow_place, oX8 atold res.2.1, rJ Y (atold 1) 12 res.2.2.1, oX9 atrial aL aC res.2.2.2.1 res.2.2.2.2.1 res.2.2.2.2.2.1, rI Y (atrial 1) 12 res.2.2.2.2.2.2.1, rI Y (atrial 2) 12 res.2.2.2.2.2.2.2.1, rI Y (atrial 3) 8 res.2.2.2.2.2.2.2.2.1, rI Y (atrial 4) 8 res.2.2.2.2.2.2.2.2.2] := by
  refine amf.of (cc := cX11_work) (maxL := 3) (rt := (some .int)) (by decide) rfl RX11 rfl (Nat.le_of_ble_eq_true rfl) [some (.ref (ao 0)), some (.int x1), none] rfl ?_
  intro X C hQ
  unfold fX11_work at hf
  refine a_iload_n C dX11_work_0 rfl ?_
  refine a_iconst C (0 : Int32) dX11_work_1 (by decide) ?_
  refine a_bipush C (30 : Int32) dX11_work_2 (by decide) ?_
  obtain ⟨r6, h6, hf⟩ := fx_bind hf
  refine a_fS C (kX11_within l D Y x1 (0 : Int32) (30 : Int32) r6 h6) (gB_X11_203 _) rfl dvX11_within ⟨⟨rfl, rfl⟩, ⟨Nat.le_of_ble_eq_true rfl, Nat.le_of_ble_eq_true rfl⟩, ⟨Nat.le_of_ble_eq_true rfl, Nat.le_of_ble_eq_true rfl⟩⟩ rfl (Nat.le_of_ble_eq_true rfl) dX11_work_4 [] [0, 1, 2, 3, 4, 5, 6, 7, 8, 9, 10, 11, 12, 13, 14, 15, 16, 17] trivial (by decide +kernel) rfl [oX11 ao atext atold aL aC alaw aotherLaw anow atrial ahistory aguess acrewPlan amoatPlan achance io_wind io_spadeLimit, oX2 aC iC_size, rI Y (aC 1) 8 cC_age, rI Y (aC 2) 8 cC_skill, rI Y (aC 4) 8 cC_pals, oX5 aL iL_cells, oX9 anow aL aC inow_moats inow_spades inow_tides, rI Y (anow 1) 12 cnow_wall, rI Y (anow 2) 12 cnow_depth, rI Y (anow 3) 8 cnow_mood, rI Y (anow 4) 8 cnow_place, oX8 atold itold_size, rJ Y (atold 1) 12 ctold_numbers, oX9 atrial aL aC itrial_moats itrial_spades itrial_tides, rI Y (atrial 1) 12 ctrial_wall, rI Y (atrial 2) 12 ctrial_depth, rI Y (atrial 3) 8 ctrial_mood, rI Y (atrial 4) 8 ctrial_place] trivial ⟨rfl, rfl, rfl, rfl, rfl, rfl, rfl, rfl, rfl, rfl, rfl, rfl, rfl, rfl, rfl, rfl, rfl, rfl, trivial⟩ 18 rfl (by decide +kernel) ?_
  refine a_if_ne C 12 dX11_work_7 (by decide) (fun h7 => ?_) (fun h7 => ?_)
  · have hf := fx_f h7 hf
    refine a_aload_n C dX11_work_12 rfl ?_
    refine a_get C (eB_X11_60 _) dX11_work_13 0 rfl rfl ?_
    refine a_aload_n C dX11_work_16 rfl ?_
    refine a_get C (eB_X11_56 _) dX11_work_17 0 rfl rfl ?_
    obtain ⟨r8, h8, hf⟩ := fx_bind hf
    refine a_fV C (kX9_copy l D Y atrial aL aC anow itrial_moats itrial_spades itrial_tides ctrial_wall ctrial_depth ctrial_mood ctrial_place inow_moats inow_spades inow_tides cnow_wall cnow_depth cnow_mood cnow_place r8 h8) (gB_X11_282 _) rfl dvX9_copy ⟨⟨rfl, rfl⟩, ⟨Nat.le_of_ble_eq_true rfl, Nat.le_of_ble_eq_true rfl⟩, ⟨Nat.le_of_ble_eq_true rfl, Nat.le_of_ble_eq_true rfl⟩⟩ rfl (Nat.le_of_ble_eq_true rfl) dX11_work_20 rfl rfl [13, 14, 15, 16, 17, 6, 7, 8, 9, 10] [0, 1, 2, 3, 4, 5, 11, 12] ⟨rfl, rfl, rfl, rfl, rfl, rfl, rfl, rfl, rfl, rfl, trivial⟩ (by decide +kernel) rfl [oX11 ao atext atold aL aC alaw aotherLaw anow atrial ahistory aguess acrewPlan amoatPlan achance io_wind io_spadeLimit, oX2 aC iC_size, rI Y (aC 1) 8 cC_age, rI Y (aC 2) 8 cC_skill, rI Y (aC 4) 8 cC_pals, oX5 aL iL_cells, oX9 anow aL aC inow_moats inow_spades inow_tides, rI Y (anow 1) 12 cnow_wall, rI Y (anow 2) 12 cnow_depth, rI Y (anow 3) 8 cnow_mood, rI Y (anow 4) 8 cnow_place, oX8 atold itold_size, rJ Y (atold 1) 12 ctold_numbers, oX9 atrial aL aC r8.1 r8.2.1 r8.2.2.1, rI Y (atrial 1) 12 r8.2.2.2.1, rI Y (atrial 2) 12 r8.2.2.2.2.1, rI Y (atrial 3) 8 r8.2.2.2.2.2.1, rI Y (atrial 4) 8 r8.2.2.2.2.2.2] ⟨rfl, rfl, rfl, rfl, rfl, rfl, rfl, rfl, rfl, rfl, trivial⟩ ⟨rfl, rfl, rfl, rfl, rfl, rfl, rfl, rfl, trivial⟩ 18 rfl (by decide +kernel) ?_
    refine a_aload_n C dX11_work_23 rfl ?_
    refine a_get C (eB_X11_60 _) dX11_work_24 0 rfl rfl ?_
    refine a_iload_n C dX11_work_27 rfl ?_
    obtain ⟨r9, h9, hf⟩ := fx_bind hf
    refine a_fV C (kX9_buildOn l D Y atrial aL aC r8.1 r8.2.1 r8.2.2.1 r8.2.2.2.1 r8.2.2.2.2.2.1 r8.2.2.2.2.2.2 iC_size cC_age cC_skill cC_pals iL_cells x1 r9 h9) (gB_X11_309 _) rfl dvX9_buildOn ⟨⟨rfl, rfl⟩, ⟨Nat.le_of_ble_eq_true rfl, Nat.le_of_ble_eq_true rfl⟩, ⟨Nat.le_of_ble_eq_true rfl, Nat.le_of_ble_eq_true rfl⟩⟩ rfl (Nat.le_of_ble_eq_true rfl) dX11_work_28 rfl rfl [13, 14, 16, 17, 1, 2, 3, 4, 5] [0, 6, 7, 8, 9, 10, 11, 12, 15] ⟨rfl, rfl, rfl, rfl, rfl, rfl, rfl, rfl, rfl, trivial⟩ (by decide +kernel) rfl [oX11 ao atext atold aL aC alaw aotherLaw anow atrial ahistory aguess acrewPlan amoatPlan achance io_wind io_spadeLimit, oX2 aC iC_size, rI Y (aC 1) 8 cC_age, rI Y (aC 2) 8 cC_skill, rI Y (aC 4) 8 cC_pals, oX5 aL iL_cells, oX9 anow aL aC inow_moats inow_spades inow_tides, rI Y (anow 1) 12 cnow_wall, rI Y (anow 2) 12 cnow_depth, rI Y (anow 3) 8 cnow_mood, rI Y (anow 4) 8 cnow_place, oX8 atold itold_size, rJ Y (atold 1) 12 ctold_numbers, oX9 atrial aL aC r8.1 r8.2.1 r8.2.2.1, rI Y (atrial 1) 12 r9.1, rI Y (atrial 2) 12 r8.2.2.2.2.1, rI Y (atrial 3) 8 r9.2.1, rI Y (atrial 4) 8 r9.2.2] ⟨rfl, rfl, rfl, rfl, rfl, rfl, rfl, rfl, rfl, trivial⟩ ⟨rfl, rfl, rfl, rfl, rfl, rfl, rfl, rfl, rfl, trivial⟩ 18 rfl (by decide +kernel) ?_
    refine a_aload_n C dX11_work_31 rfl ?_
    refine a_get C (eB_X11_19 _) dX11_work_32 0 rfl rfl ?_
    obtain ⟨r10, h10, hf⟩ := fx_bind hf
    refine a_fV C (kX8_clear l D Y atold itold_size r10 h10) (gB_X11_305 _) rfl dvX8_clear ⟨⟨rfl, rfl⟩, ⟨Nat.le_of_ble_eq_true rfl, Nat.le_of_ble_eq_true rfl⟩, ⟨Nat.le_of_ble_eq_true rfl, Nat.le_of_ble_eq_true rfl⟩⟩ rfl (Nat.le_of_ble_eq_true rfl) dX11_work_35 rfl rfl [11] [0, 1, 2, 3, 4, 5, 6, 7, 8, 9, 10, 12, 13, 14, 15, 16, 17] ⟨rfl, trivial⟩ (by decide +kernel) rfl [oX11 ao atext atold aL aC alaw aotherLaw anow atrial ahistory aguess acrewPlan amoatPlan achance io_wind io_spadeLimit, oX2 aC iC_size, rI Y (aC 1) 8 cC_age, rI Y (aC 2) 8 cC_skill, rI Y (aC 4) 8 cC_pals, oX5 aL iL_cells, oX9 anow aL aC inow_moats inow_spades inow_tides, rI Y (anow 1) 12 cnow_wall, rI Y (anow 2) 12 cnow_depth, rI Y (anow 3) 8 cnow_mood, rI Y (anow 4) 8 cnow_place, oX8 atold r10, rJ Y (atold 1) 12 ctold_numbers, oX9 atrial aL aC r8.1 r8.2.1 r8.2.2.1, rI Y (atrial 1) 12 r9.1, rI Y (atrial 2) 12 r8.2.2.2.2.1, rI Y (atrial 3) 8 r9.2.1, rI Y (atrial 4) 8 r9.2.2] ⟨rfl, trivial⟩ ⟨rfl, rfl, rfl, rfl, rfl, rfl, rfl, rfl, rfl, rfl, rfl, rfl, rfl, rfl, rfl, rfl, rfl, trivial⟩ 18 rfl (by decide +kernel) ?_
    refine a_iconst C (0 : Int32) dX11_work_38 (by decide) ?_
    refine a_istore_n C dX11_work_39 (by decide) rfl ?_
    refine a_kill [1] ?_
    exact kX11_work_b40 C hQ hf
  · have hf := fx_t h7 hf
    refine a_iconst C (-1 : Int32) dX11_work_10 (by decide) ?_
    obtain rfl := fx_some hf
    exact a_iret C hQ dX11_work_11 ⟨rfl, rfl⟩
-- X11_seen
abbrev rmX11_seen : Room := { frames := 2, cells := 0, slots := 0, locals := 43 }
theorem dvX11_seen : yX11_seen.cls = RX11 ∧ yX11_seen.cls ≠ "java/lang/invoke/MethodHandle" ∧ yX11_seen.cls ≠ "java/lang/invoke/VarHandle" ∧ (parseMethodDescriptor yX11_seen.desc).map (fun d => d.parameters.length) = some 2 := by decide +kernel
def fX11_seen_b21 (iL_cells : Int32) (iguess_cells : Int32) (cguess_amount : Nat → Int32) : Option (Int32 × Int32 × (Nat → Int32)) :=
  some ((-1 : Int32), iguess_cells, cguess_amount)
set_option maxHeartbeats 400000 in
set_option maxRecDepth 100000 in
theorem kX11_seen_b21 {X : cxT} {l : Launch} {D : va_G} {Y : Nat → ClassId} {ao atext atold aL aC alaw aotherLaw anow atrial ahistory aguess acrewPlan amoatPlan achance : Nat → Nat} {io_wind : Int32} {io_spadeLimit : Int32} {iL_cells : Int32} {iguess_cells : Int32} {cguess_amount : Nat → Int32} {res : Int32 × Int32 × (Nat → Int32)} (C : axC X l D Y cX11_seen 3 RX11 wsX11_seen rmX11_seen (some .int)) (hQ : axQ X 0 0 (fun r9 w9 => r9 = (some (.int res.1)) ∧ w9 = [oX11 ao atext atold aL aC alaw aotherLaw anow atrial ahistory aguess acrewPlan amoatPlan achance io_wind io_spadeLimit, oX5 aL iL_cells, oX3 aguess aC res.2.1, rI Y (aguess 1) 12 res.2.2])) (hf : fX11_seen_b21 iL_cells iguess_cells cguess_amount = some res) : ax X 0 0 21 [none, none, none] [oX11 ao atext atold aL aC alaw aotherLaw anow atrial ahistory aguess acrewPlan amoatPlan achance io_wind io_spadeLimit, oX5 aL iL_cells, oX3 aguess aC iguess_cells, rI Y (aguess 1) 12 cguess_amount] [] := by
  unfold fX11_seen_b21 at hf
  refine a_iconst C (-1 : Int32) dX11_seen_21 (by decide) ?_
  obtain rfl := fx_some hf
  exact a_iret C hQ dX11_seen_22 ⟨rfl, rfl⟩
def fX11_seen (iL_cells : Int32) (iguess_cells : Int32) (cguess_amount : Nat → Int32) (x1 : Int32) (x2 : Int32) : Option (Int32 × Int32 × (Nat → Int32)) :=
  (fX5_has iL_cells x1).bind (fun r1 => if r1 = (0 : Int32) then (fX11_seen_b21 iL_cells iguess_cells cguess_amount) else ((fX11_within x2 (0 : Int32) (99 : Int32)).bind (fun r3 => if r3 = (0 : Int32) then (fX11_seen_b21 iL_cells iguess_cells cguess_amount) else ((fX3_note iguess_cells cguess_amount x1 x2).bind (fun r5 => some (r5.1, r5.2.1, r5.2.2))))))
set_option maxHeartbeats 400000 in
set_option maxRecDepth 100000 in
theorem kX11_seen (l : Launch) (D : va_G) (Y : Nat → ClassId) (ao atext atold aL aC alaw aotherLaw anow atrial ahistory aguess acrewPlan amoatPlan achance : Nat → Nat) (io_wind : Int32) (io_spadeLimit : Int32) (iL_cells : Int32) (iguess_cells : Int32) (cguess_amount : Nat → Int32) (x1 : Int32) (x2 : Int32) (res : Int32 × Int32 × (Nat → Int32)) (hf : fX11_seen iL_cells iguess_cells cguess_amount x1 x2 = some res) : amf l D Y yX11_seen wsX11_seen rmX11_seen [.ref (ao 0), .int x1, .int x2] [oX11 ao atext atold aL aC alaw aotherLaw anow atrial ahistory aguess acrewPlan amoatPlan achance io_wind io_spadeLimit, oX5 aL iL_cells, oX3 aguess aC iguess_cells, rI Y (aguess 1) 12 cguess_amount] (some (.int res.1)) [oX11 ao atext atold aL aC alaw aotherLaw anow atrial ahistory aguess acrewPlan amoatPlan achance io_wind io_spadeLimit, oX5 aL iL_cells, oX3 aguess aC res.2.1, rI Y (aguess 1) 12 res.2.2] := by
  refine amf.of (cc := cX11_seen) (maxL := 3) (rt := (some .int)) (by decide) rfl RX11 rfl (Nat.le_of_ble_eq_true rfl) [some (.ref (ao 0)), some (.int x1), some (.int x2)] rfl ?_
  intro X C hQ
  unfold fX11_seen at hf
  refine a_aload_n C dX11_seen_0 rfl ?_
  refine a_get C (eB_X11_26 _) dX11_seen_1 0 rfl rfl ?_
  refine a_iload_n C dX11_seen_4 rfl ?_
  obtain ⟨r1, h1, hf⟩ := fx_bind hf
  refine a_fV C (kX5_has l D Y aL iL_cells x1 r1 h1) (gB_X11_143 _) rfl dvX5_has ⟨⟨rfl, rfl⟩, ⟨Nat.le_of_ble_eq_true rfl, Nat.le_of_ble_eq_true rfl⟩, ⟨Nat.le_of_ble_eq_true rfl, Nat.le_of_ble_eq_true rfl⟩⟩ rfl (Nat.le_of_ble_eq_true rfl) dX11_seen_5 rfl rfl [1] [0, 2, 3] ⟨rfl, trivial⟩ (by decide +kernel) rfl [oX11 ao atext atold aL aC alaw aotherLaw anow atrial ahistory aguess acrewPlan amoatPlan achance io_wind io_spadeLimit, oX5 aL iL_cells, oX3 aguess aC iguess_cells, rI Y (aguess 1) 12 cguess_amount] ⟨rfl, trivial⟩ ⟨rfl, rfl, rfl, trivial⟩ 4 rfl (by decide +kernel) ?_
  refine a_if_eq C 21 dX11_seen_8 (by decide) (fun h2 => ?_) (fun h2 => ?_)
  · have hf := fx_t h2 hf
    refine a_kill [0, 1, 2] ?_
    exact kX11_seen_b21 C hQ hf
  · have hf := fx_f h2 hf
    refine a_iload_n C dX11_seen_11 rfl ?_
    refine a_iconst C (0 : Int32) dX11_seen_12 (by decide) ?_
    refine a_bipush C (99 : Int32) dX11_seen_13 (by decide) ?_
    obtain ⟨r3, h3, hf⟩ := fx_bind hf
    refine a_fS C (kX11_within l D Y x2 (0 : Int32) (99 : Int32) r3 h3) (gB_X11_203 _) rfl dvX11_within ⟨⟨rfl, rfl⟩, ⟨Nat.le_of_ble_eq_true rfl, Nat.le_of_ble_eq_true rfl⟩, ⟨Nat.le_of_ble_eq_true rfl, Nat.le_of_ble_eq_true rfl⟩⟩ rfl (Nat.le_of_ble_eq_true rfl) dX11_seen_15 [] [0, 1, 2, 3] trivial (by decide +kernel) rfl [oX11 ao atext atold aL aC alaw aotherLaw anow atrial ahistory aguess acrewPlan amoatPlan achance io_wind io_spadeLimit, oX5 aL iL_cells, oX3 aguess aC iguess_cells, rI Y (aguess 1) 12 cguess_amount] trivial ⟨rfl, rfl, rfl, rfl, trivial⟩ 4 rfl (by decide +kernel) ?_
    refine a_if_ne C 23 dX11_seen_18 (by decide) (fun h4 => ?_) (fun h4 => ?_)
    · have hf := fx_f h4 hf
      refine a_aload_n C dX11_seen_23 rfl ?_
      refine a_get C (eB_X11_83 _) dX11_seen_24 0 rfl rfl ?_
      refine a_iload_n C dX11_seen_27 rfl ?_
      refine a_iload_n C dX11_seen_28 rfl ?_
      obtain ⟨r5, h5, hf⟩ := fx_bind hf
      refine a_fV C (kX3_note l D Y aguess aC iguess_cells cguess_amount x1 x2 r5 h5) (gB_X11_336 _) rfl dvX3_note ⟨⟨rfl, rfl⟩, ⟨Nat.le_of_ble_eq_true rfl, Nat.le_of_ble_eq_true rfl⟩, ⟨Nat.le_of_ble_eq_true rfl, Nat.le_of_ble_eq_true rfl⟩⟩ rfl (Nat.le_of_ble_eq_true rfl) dX11_seen_29 rfl rfl [2, 3] [0, 1] ⟨rfl, rfl, trivial⟩ (by decide +kernel) rfl [oX11 ao atext atold aL aC alaw aotherLaw anow atrial ahistory aguess acrewPlan amoatPlan achance io_wind io_spadeLimit, oX5 aL iL_cells, oX3 aguess aC r5.2.1, rI Y (aguess 1) 12 r5.2.2] ⟨rfl, rfl, trivial⟩ ⟨rfl, rfl, trivial⟩ 4 rfl (by decide +kernel) ?_
      obtain rfl := fx_some hf
      exact a_iret C hQ dX11_seen_32 ⟨rfl, rfl⟩
    · have hf := fx_t h4 hf
      refine a_kill [0, 1, 2] ?_
      exact kX11_seen_b21 C hQ hf
-- X11_forget
abbrev rmX11_forget : Room := { frames := 1, cells := 0, slots := 0, locals := 20 }
theorem dvX11_forget : yX11_forget.cls = RX11 ∧ yX11_forget.cls ≠ "java/lang/invoke/MethodHandle" ∧ yX11_forget.cls ≠ "java/lang/invoke/VarHandle" ∧ (parseMethodDescriptor yX11_forget.desc).map (fun d => d.parameters.length) = some 0 := by decide +kernel
def fX11_forget (iguess_cells : Int32) : Option (Int32 × Int32) :=
  (fJ6_bitCount_0f7a4 iguess_cells).bind (fun r1 => (fX3_clear iguess_cells).bind (fun r2 => some (r1, r2)))
set_option maxHeartbeats 400000 in
set_option maxRecDepth 100000 in
theorem kX11_forget (l : Launch) (D : va_G) (Y : Nat → ClassId) (ao atext atold aL aC alaw aotherLaw anow atrial ahistory aguess acrewPlan amoatPlan achance : Nat → Nat) (io_wind : Int32) (io_spadeLimit : Int32) (iguess_cells : Int32) (res : Int32 × Int32) (hf : fX11_forget iguess_cells = some res) : amf l D Y yX11_forget wsX11_forget rmX11_forget [.ref (ao 0)] [oX11 ao atext atold aL aC alaw aotherLaw anow atrial ahistory aguess acrewPlan amoatPlan achance io_wind io_spadeLimit, oX3 aguess aC iguess_cells] (some (.int res.1)) [oX11 ao atext atold aL aC alaw aotherLaw anow atrial ahistory aguess acrewPlan amoatPlan achance io_wind io_spadeLimit, oX3 aguess aC res.2] := by
  refine amf.of (cc := cX11_forget) (maxL := 2) (rt := (some .int)) (by decide) rfl RX11 rfl (Nat.le_of_ble_eq_true rfl) [some (.ref (ao 0)), none] rfl ?_
  intro X C hQ
  unfold fX11_forget at hf
  refine a_aload_n C dX11_forget_0 rfl ?_
  refine a_get C (eB_X11_83 _) dX11_forget_1 0 rfl rfl ?_
  refine a_get C (eB_X11_339 _) dX11_forget_4 1 rfl rfl ?_
  obtain ⟨r1, h1, hf⟩ := fx_bind hf
  refine a_fS C (kJ6_bitCount_0f7a4 l D Y iguess_cells r1 h1) (gB_X11_210 _) rfl dvJ6_bitCount_0f7a4 ⟨⟨rfl, rfl⟩, ⟨Nat.le_of_ble_eq_true rfl, Nat.le_of_ble_eq_true rfl⟩, ⟨Nat.le_of_ble_eq_true rfl, Nat.le_of_ble_eq_true rfl⟩⟩ rfl (Nat.le_of_ble_eq_true rfl) dX11_forget_7 [] [0, 1] trivial (by decide +kernel) rfl [oX11 ao atext atold aL aC alaw aotherLaw anow atrial ahistory aguess acrewPlan amoatPlan achance io_wind io_spadeLimit, oX3 aguess aC iguess_cells] trivial ⟨rfl, rfl, trivial⟩ 2 rfl (by decide +kernel) ?_
  refine a_istore_n C dX11_forget_10 (by decide) rfl ?_
  refine a_aload_n C dX11_forget_11 rfl ?_
  refine a_get C (eB_X11_83 _) dX11_forget_12 0 rfl rfl ?_
  obtain ⟨r2, h2, hf⟩ := fx_bind hf
  refine a_fV C (kX3_clear l D Y aguess aC iguess_cells r2 h2) (gB_X11_127 _) rfl dvX3_clear ⟨⟨rfl, rfl⟩, ⟨Nat.le_of_ble_eq_true rfl, Nat.le_of_ble_eq_true rfl⟩, ⟨Nat.le_of_ble_eq_true rfl, Nat.le_of_ble_eq_true rfl⟩⟩ rfl (Nat.le_of_ble_eq_true rfl) dX11_forget_15 rfl rfl [1] [0] ⟨rfl, trivial⟩ (by decide +kernel) rfl [oX11 ao atext atold aL aC alaw aotherLaw anow atrial ahistory aguess acrewPlan amoatPlan achance io_wind io_spadeLimit, oX3 aguess aC r2] ⟨rfl, trivial⟩ ⟨rfl, trivial⟩ 2 rfl (by decide +kernel) ?_
  refine a_iload_n C dX11_forget_18 rfl ?_
  obtain rfl := fx_some hf
  exact a_iret C hQ dX11_forget_19 ⟨rfl, rfl⟩
-- X11_ways
abbrev rmX11_ways : Room := { frames := 6, cells := 0, slots := 0, locals := 141 }
theorem dvX11_ways : yX11_ways.cls = RX11 ∧ yX11_ways.cls ≠ "java/lang/invoke/MethodHandle" ∧ yX11_ways.cls ≠ "java/lang/invoke/VarHandle" ∧ (parseMethodDescriptor yX11_ways.desc).map (fun d => d.parameters.length) = some 0 := by decide +kernel
def fX11_ways_b44 (iC_size : Int32) (cC_skill : Nat → Int32) (iguess_cells : Int32) (cguess_amount : Nat → Int32) (cguess_open : Nat → Int32) (cguess_sums : Nat → Int32) (cguess_ways : Nat → Int32) (cguess_nextWays : Nat → Int32) (itold_size : Int32) (ctold_numbers : Nat → Int64) (x1 : Int32) : Option (Int32 × (Nat → Int32) × (Nat → Int32) × (Nat → Int32) × (Nat → Int32) × Int32 × (Nat → Int64)) :=
  some (x1, cguess_open, cguess_sums, cguess_ways, cguess_nextWays, itold_size, ctold_numbers)
set_option maxHeartbeats 400000 in
set_option maxRecDepth 100000 in
theorem kX11_ways_b44 {X : cxT} {l : Launch} {D : va_G} {Y : Nat → ClassId} {ao atext atold aL aC alaw aotherLaw anow atrial ahistory aguess acrewPlan amoatPlan achance : Nat → Nat} {io_wind : Int32} {io_spadeLimit : Int32} {iC_size : Int32} {cC_skill : Nat → Int32} {iguess_cells : Int32} {cguess_amount : Nat → Int32} {cguess_open : Nat → Int32} {cguess_sums : Nat → Int32} {cguess_ways : Nat → Int32} {cguess_nextWays : Nat → Int32} {itold_size : Int32} {ctold_numbers : Nat → Int64} {x1 : Int32} {res : Int32 × (Nat → Int32) × (Nat → Int32) × (Nat → Int32) × (Nat → Int32) × Int32 × (Nat → Int64)} (C : axC X l D Y cX11_ways 2 RX11 wsX11_ways rmX11_ways (some .int)) {q0 : Nat} (hQ : axQ X 0 0 (fun r9 w9 => r9 = (some (.int res.1)) ∧ ∃ aguess_ : Nat → Nat, aguess_ 0 = q0 ∧ w9 = [oX11 ao atext atold aL aC alaw aotherLaw anow atrial ahistory aguess_ acrewPlan amoatPlan achance io_wind io_spadeLimit, oX2 aC iC_size, rI Y (aC 2) 8 cC_skill, oX3 aguess_ aC iguess_cells, rI Y (aguess_ 1) 12 cguess_amount, rI Y (aguess_ 2) 12 res.2.1, rI Y (aguess_ 3) 256 res.2.2.1, rI Y (aguess_ 4) 256 res.2.2.2.1, rI Y (aguess_ 5) 256 res.2.2.2.2.1, oX8 atold res.2.2.2.2.2.1, rJ Y (atold 1) 12 res.2.2.2.2.2.2])) (hq0 : aguess 0 = q0) (hf : fX11_ways_b44 iC_size cC_skill iguess_cells cguess_amount cguess_open cguess_sums cguess_ways cguess_nextWays itold_size ctold_numbers x1 = some res) : ax X 0 0 44 [none, some (.int x1)] [oX11 ao atext atold aL aC alaw aotherLaw anow atrial ahistory aguess acrewPlan amoatPlan achance io_wind io_spadeLimit, oX2 aC iC_size, rI Y (aC 2) 8 cC_skill, oX3 aguess aC iguess_cells, rI Y (aguess 1) 12 cguess_amount, rI Y (aguess 2) 12 cguess_open, rI Y (aguess 3) 256 cguess_sums, rI Y (aguess 4) 256 cguess_ways, rI Y (aguess 5) 256 cguess_nextWays, oX8 atold itold_size, rJ Y (atold 1) 12 ctold_numbers] [] := by
  unfold fX11_ways_b44 at hf
  refine a_iload_n C dX11_ways_44 rfl ?_
  obtain rfl := fx_some hf
  exact a_iret C hQ dX11_ways_45 ⟨rfl, aguess, hq0, rfl⟩
def fX11_ways (iC_size : Int32) (cC_skill : Nat → Int32) (iguess_cells : Int32) (cguess_amount : Nat → Int32) (cguess_open : Nat → Int32) (cguess_sums : Nat → Int32) (cguess_ways : Nat → Int32) (cguess_nextWays : Nat → Int32) (itold_size : Int32) (ctold_numbers : Nat → Int64) : Option (Int32 × (Nat → Int32) × (Nat → Int32) × (Nat → Int32) × (Nat → Int32) × Int32 × (Nat → Int64)) :=
  (fX3_begin cguess_amount cguess_open cguess_sums iC_size cC_skill).bind (fun r1 => (fX2_all iC_size).bind (fun r2 => (fX3_fitting iguess_cells r1.1 r1.2 cguess_ways cguess_nextWays r2).bind (fun r3 => (fX8_clear itold_size).bind (fun r4 => if r3.1 ≤ (0 : Int32) then (fX11_ways_b44 iC_size cC_skill iguess_cells cguess_amount r1.1 r1.2 r3.2.1 r3.2.2 r4 ctold_numbers r3.1) else ((fX3_tellLeast iguess_cells r1.1 r1.2 r3.2.1 r3.2.2 r4 ctold_numbers iC_size cC_skill).bind (fun r6 => fX11_ways_b44 iC_size cC_skill iguess_cells cguess_amount r6.1 r1.2 r6.2.1 r6.2.2.1 r6.2.2.2.1 r6.2.2.2.2 r3.1))))))
set_option maxHeartbeats 400000 in
set_option maxRecDepth 100000 in
theorem kX11_ways (l : Launch) (D : va_G) (Y : Nat → ClassId) (ao atext atold aL aC alaw aotherLaw anow atrial ahistory aguess acrewPlan amoatPlan achance : Nat → Nat) (io_wind : Int32) (io_spadeLimit : Int32) (iC_size : Int32) (cC_skill : Nat → Int32) (iguess_cells : Int32) (cguess_amount : Nat → Int32) (cguess_open : Nat → Int32) (cguess_sums : Nat → Int32) (cguess_ways : Nat → Int32) (cguess_nextWays : Nat → Int32) (itold_size : Int32) (ctold_numbers : Nat → Int64) (res : Int32 × (Nat → Int32) × (Nat → Int32) × (Nat → Int32) × (Nat → Int32) × Int32 × (Nat → Int64)) (hf : fX11_ways iC_size cC_skill iguess_cells cguess_amount cguess_open cguess_sums cguess_ways cguess_nextWays itold_size ctold_numbers = some res) : am l D Y yX11_ways wsX11_ways rmX11_ways [.ref (ao 0)] [oX11 ao atext atold aL aC alaw aotherLaw anow atrial ahistory aguess acrewPlan amoatPlan achance io_wind io_spadeLimit, oX2 aC iC_size, rI Y (aC 2) 8 cC_skill, oX3 aguess aC iguess_cells, rI Y (aguess 1) 12 cguess_amount, rI Y (aguess 2) 12 cguess_open, rI Y (aguess 3) 256 cguess_sums, rI Y (aguess 4) 256 cguess_ways, rI Y (aguess 5) 256 cguess_nextWays, oX8 atold itold_size, rJ Y (atold 1) 12 ctold_numbers] 0 0 (fun r9 w9 => r9 = (some (.int res.1)) ∧ ∃ aguess_ : Nat → Nat, aguess_ 0 = aguess 0 ∧ w9 = [oX11 ao atext atold aL aC alaw aotherLaw anow atrial ahistory aguess_ acrewPlan amoatPlan achance io_wind io_spadeLimit, oX2 aC iC_size, rI Y (aC 2) 8 cC_skill, oX3 aguess_ aC iguess_cells, rI Y (aguess_ 1) 12 cguess_amount, rI Y (aguess_ 2) 12 res.2.1, rI Y (aguess_ 3) 256 res.2.2.1, rI Y (aguess_ 4) 256 res.2.2.2.1, rI Y (aguess_ 5) 256 res.2.2.2.2.1, oX8 atold res.2.2.2.2.2.1, rJ Y (atold 1) 12 res.2.2.2.2.2.2]) := by
  refine am.of (cc := cX11_ways) (maxL := 2) (rt := (some .int)) (by decide) rfl RX11 rfl (Nat.le_of_ble_eq_true rfl) [some (.ref (ao 0)), none] rfl ?_
  intro X C hQ
  have hq0 : aguess 0 = aguess 0 := rfl
  unfold fX11_ways at hf
  refine a_aload_n C dX11_ways_0 rfl ?_
  refine a_get C (eB_X11_83 _) dX11_ways_1 0 rfl rfl ?_
  obtain ⟨r1, h1, hf⟩ := fx_bind hf
  refine a_fV C (kX3_begin l D Y aguess aC iguess_cells cguess_amount cguess_open cguess_sums iC_size cC_skill r1 h1) (gB_X11_340 _) rfl dvX3_begin ⟨⟨rfl, rfl⟩, ⟨Nat.le_of_ble_eq_true rfl, Nat.le_of_ble_eq_true rfl⟩, ⟨Nat.le_of_ble_eq_true rfl, Nat.le_of_ble_eq_true rfl⟩⟩ rfl (Nat.le_of_ble_eq_true rfl) dX11_ways_4 rfl rfl [3, 4, 5, 6, 1, 2] [0, 7, 8, 9, 10] ⟨rfl, rfl, rfl, rfl, rfl, rfl, trivial⟩ (by decide +kernel) rfl [oX11 ao atext atold aL aC alaw aotherLaw anow atrial ahistory aguess acrewPlan amoatPlan achance io_wind io_spadeLimit, oX2 aC iC_size, rI Y (aC 2) 8 cC_skill, oX3 aguess aC iguess_cells, rI Y (aguess 1) 12 cguess_amount, rI Y (aguess 2) 12 r1.1, rI Y (aguess 3) 256 r1.2, rI Y (aguess 4) 256 cguess_ways, rI Y (aguess 5) 256 cguess_nextWays, oX8 atold itold_size, rJ Y (atold 1) 12 ctold_numbers] ⟨rfl, rfl, rfl, rfl, rfl, rfl, trivial⟩ ⟨rfl, rfl, rfl, rfl, rfl, trivial⟩ 11 rfl (by decide +kernel) ?_
  refine a_aload_n C dX11_ways_7 rfl ?_
  refine a_get C (eB_X11_83 _) dX11_ways_8 0 rfl rfl ?_
  refine a_aload_n C dX11_ways_11 rfl ?_
  refine a_get C (eB_X11_33 _) dX11_ways_12 0 rfl rfl ?_
  obtain ⟨r2, h2, hf⟩ := fx_bind hf
  refine a_fV C (kX2_all l D Y aC iC_size r2 h2) (gB_X11_327 _) rfl dvX2_all ⟨⟨rfl, rfl⟩, ⟨Nat.le_of_ble_eq_true rfl, Nat.le_of_ble_eq_true rfl⟩, ⟨Nat.le_of_ble_eq_true rfl, Nat.le_of_ble_eq_true rfl⟩⟩ rfl (Nat.le_of_ble_eq_true rfl) dX11_ways_15 rfl rfl [1] [0, 2, 3, 4, 5, 6, 7, 8, 9, 10] ⟨rfl, trivial⟩ (by decide +kernel) rfl [oX11 ao atext atold aL aC alaw aotherLaw anow atrial ahistory aguess acrewPlan amoatPlan achance io_wind io_spadeLimit, oX2 aC iC_size, rI Y (aC 2) 8 cC_skill, oX3 aguess aC iguess_cells, rI Y (aguess 1) 12 cguess_amount, rI Y (aguess 2) 12 r1.1, rI Y (aguess 3) 256 r1.2, rI Y (aguess 4) 256 cguess_ways, rI Y (aguess 5) 256 cguess_nextWays, oX8 atold itold_size, rJ Y (atold 1) 12 ctold_numbers] ⟨rfl, trivial⟩ ⟨rfl, rfl, rfl, rfl, rfl, rfl, rfl, rfl, rfl, rfl, trivial⟩ 11 rfl (by decide +kernel) ?_
  obtain ⟨r3, h3, hf⟩ := fx_bind hf
  refine a_gV C (kX3_fitting l D Y aguess aC iguess_cells cguess_amount r1.1 r1.2 cguess_ways cguess_nextWays r2 r3 h3) (gB_X11_343 _) rfl dvX3_fitting ⟨⟨rfl, rfl⟩, ⟨Nat.le_of_ble_eq_true rfl, Nat.le_of_ble_eq_true rfl⟩, ⟨Nat.le_of_ble_eq_true rfl, Nat.le_of_ble_eq_true rfl⟩⟩ rfl (Nat.le_of_ble_eq_true rfl) dX11_ways_18 rfl rfl [3, 4, 5, 6, 7, 8] [0, 1, 2, 9, 10] ⟨rfl, rfl, rfl, rfl, rfl, rfl, trivial⟩ (by decide +kernel) [oX11 ao atext atold aL aC alaw aotherLaw anow atrial ahistory aguess acrewPlan amoatPlan achance io_wind io_spadeLimit, oX2 aC iC_size, rI Y (aC 2) 8 cC_skill, oX8 atold itold_size, rJ Y (atold 1) 12 ctold_numbers] ⟨rfl, rfl, rfl, rfl, rfl, trivial⟩ (by decide +kernel) (by decide +kernel) ?_
  rintro _ _ ⟨rfl, aguess, hA, rfl⟩
  unfold oX11
  rw [← hA]
  have hq0 := hA.trans hq0
  refine a_perm [0, 1, 2, 5, 6, 7, 8, 9, 10, 3, 4] [oX11 ao atext atold aL aC alaw aotherLaw anow atrial ahistory aguess acrewPlan amoatPlan achance io_wind io_spadeLimit, oX2 aC iC_size, rI Y (aC 2) 8 cC_skill, oX3 aguess aC iguess_cells, rI Y (aguess 1) 12 cguess_amount, rI Y (aguess 2) 12 r1.1, rI Y (aguess 3) 256 r1.2, rI Y (aguess 4) 256 r3.2.1, rI Y (aguess 5) 256 r3.2.2, oX8 atold itold_size, rJ Y (atold 1) 12 ctold_numbers] ⟨rfl, rfl, rfl, rfl, rfl, rfl, rfl, rfl, rfl, rfl, rfl, trivial⟩ (by decide +kernel) ?_
  refine a_istore_n C dX11_ways_21 (by decide) rfl ?_
  refine a_aload_n C dX11_ways_22 rfl ?_
  refine a_get C (eB_X11_19 _) dX11_ways_23 0 rfl rfl ?_
  obtain ⟨r4, h4, hf⟩ := fx_bind hf
  refine a_fV C (kX8_clear l D Y atold itold_size r4 h4) (gB_X11_305 _) rfl dvX8_clear ⟨⟨rfl, rfl⟩, ⟨Nat.le_of_ble_eq_true rfl, Nat.le_of_ble_eq_true rfl⟩, ⟨Nat.le_of_ble_eq_true rfl, Nat.le_of_ble_eq_true rfl⟩⟩ rfl (Nat.le_of_ble_eq_true rfl) dX11_ways_26 rfl rfl [9] [0, 1, 2, 3, 4, 5, 6, 7, 8, 10] ⟨rfl, trivial⟩ (by decide +kernel) rfl [oX11 ao atext atold aL aC alaw aotherLaw anow atrial ahistory aguess acrewPlan amoatPlan achance io_wind io_spadeLimit, oX2 aC iC_size, rI Y (aC 2) 8 cC_skill, oX3 aguess aC iguess_cells, rI Y (aguess 1) 12 cguess_amount, rI Y (aguess 2) 12 r1.1, rI Y (aguess 3) 256 r1.2, rI Y (aguess 4) 256 r3.2.1, rI Y (aguess 5) 256 r3.2.2, oX8 atold r4, rJ Y (atold 1) 12 ctold_numbers] ⟨rfl, trivial⟩ ⟨rfl, rfl, rfl, rfl, rfl, rfl, rfl, rfl, rfl, rfl, trivial⟩ 11 rfl (by decide +kernel) ?_
  refine a_iload_n C dX11_ways_29 rfl ?_
  refine a_if_le C 44 dX11_ways_30 (by decide) (fun h5 => ?_) (fun h5 => ?_)
  · have hf := fx_t h5 hf
    refine a_kill [0] ?_
    exact kX11_ways_b44 C hQ hq0 hf
  · have hf := fx_f h5 hf
    refine a_aload_n C dX11_ways_33 rfl ?_
    refine a_get C (eB_X11_83 _) dX11_ways_34 0 rfl rfl ?_
    refine a_aload_n C dX11_ways_37 rfl ?_
    refine a_get C (eB_X11_19 _) dX11_ways_38 0 rfl rfl ?_
    obtain ⟨r6, h6, hf⟩ := fx_bind hf
    refine a_gV C (kX3_tellLeast l D Y aguess aC atold iguess_cells cguess_amount r1.1 r1.2 r3.2.1 r3.2.2 r4 ctold_numbers iC_size cC_skill r6 h6) (gB_X11_346 _) rfl dvX3_tellLeast ⟨⟨rfl, rfl⟩, ⟨Nat.le_of_ble_eq_true rfl, Nat.le_of_ble_eq_true rfl⟩, ⟨Nat.le_of_ble_eq_true rfl, Nat.le_of_ble_eq_true rfl⟩⟩ rfl (Nat.le_of_ble_eq_true rfl) dX11_ways_41 rfl rfl [3, 4, 5, 6, 7, 8, 9, 10, 1, 2] [0] ⟨rfl, rfl, rfl, rfl, rfl, rfl, rfl, rfl, rfl, rfl, trivial⟩ (by decide +kernel) [oX11 ao atext atold aL aC alaw aotherLaw anow atrial ahistory aguess acrewPlan amoatPlan achance io_wind io_spadeLimit] ⟨rfl, trivial⟩ (by decide +kernel) (by decide +kernel) ?_
    rintro _ _ ⟨rfl, aguess, hA, rfl⟩
    unfold oX11
    rw [← hA]
    have hq0 := hA.trans hq0
    refine a_perm [0, 9, 10, 1, 2, 3, 4, 5, 6, 7, 8] [oX11 ao atext atold aL aC alaw aotherLaw anow atrial ahistory aguess acrewPlan amoatPlan achance io_wind io_spadeLimit, oX2 aC iC_size, rI Y (aC 2) 8 cC_skill, oX3 aguess aC iguess_cells, rI Y (aguess 1) 12 cguess_amount, rI Y (aguess 2) 12 r6.1, rI Y (aguess 3) 256 r1.2, rI Y (aguess 4) 256 r6.2.1, rI Y (aguess 5) 256 r6.2.2.1, oX8 atold r6.2.2.2.1, rJ Y (atold 1) 12 r6.2.2.2.2] ⟨rfl, rfl, rfl, rfl, rfl, rfl, rfl, rfl, rfl, rfl, rfl, trivial⟩ (by decide +kernel) ?_
    refine a_kill [0] ?_
    exact kX11_ways_b44 C hQ hq0 hf
-- X11_was
abbrev rmX11_was : Room := { frames := 5, cells := 0, slots := 0, locals := 119 }
theorem dvX11_was : yX11_was.cls = RX11 ∧ yX11_was.cls ≠ "java/lang/invoke/MethodHandle" ∧ yX11_was.cls ≠ "java/lang/invoke/VarHandle" ∧ (parseMethodDescriptor yX11_was.desc).map (fun d => d.parameters.length) = some 1 := by decide +kernel
def fX11_was_b50 (iC_size : Int32) (cC_skill : Nat → Int32) (iguess_cells : Int32) (cguess_amount : Nat → Int32) (cguess_open : Nat → Int32) (cguess_sums : Nat → Int32) (cguess_ways : Nat → Int32) (cguess_nextWays : Nat → Int32) (itold_size : Int32) (ctold_numbers : Nat → Int64) (x1 : Int32) (x2 : Int32) (s0 : Int32) : Option (Int32 × (Nat → Int32) × (Nat → Int32) × (Nat → Int32) × (Nat → Int32) × Int32 × (Nat → Int64)) :=
  (fX8_tell itold_size ctold_numbers (s0.toInt64)).bind (fun r1 => (fX3_cellsOf iguess_cells cguess_open cguess_sums cguess_ways cguess_nextWays cC_skill x1 x2).bind (fun r2 => some (r2.1, r2.2.1, cguess_sums, r2.2.2.1, r2.2.2.2, r1.1, r1.2)))
set_option maxHeartbeats 400000 in
set_option maxRecDepth 100000 in
theorem kX11_was_b50 {X : cxT} {l : Launch} {D : va_G} {Y : Nat → ClassId} {ao atext atold aL aC alaw aotherLaw anow atrial ahistory aguess acrewPlan amoatPlan achance : Nat → Nat} {io_wind : Int32} {io_spadeLimit : Int32} {iC_size : Int32} {cC_skill : Nat → Int32} {iguess_cells : Int32} {cguess_amount : Nat → Int32} {cguess_open : Nat → Int32} {cguess_sums : Nat → Int32} {cguess_ways : Nat → Int32} {cguess_nextWays : Nat → Int32} {itold_size : Int32} {ctold_numbers : Nat → Int64} {x1 : Int32} {x2 : Int32} {s0 : Int32} {res : Int32 × (Nat → Int32) × (Nat → Int32) × (Nat → Int32) × (Nat → Int32) × Int32 × (Nat → Int64)} (C : axC X l D Y cX11_was 4 RX11 wsX11_was rmX11_was (some .int)) {q0 : Nat} (hQ : axQ X 0 0 (fun r9 w9 => r9 = (some (.int res.1)) ∧ ∃ aguess_ : Nat → Nat, aguess_ 0 = q0 ∧ w9 = [oX11 ao atext atold aL aC alaw aotherLaw anow atrial ahistory aguess_ acrewPlan amoatPlan achance io_wind io_spadeLimit, oX2 aC iC_size, rI Y (aC 2) 8 cC_skill, oX3 aguess_ aC iguess_cells, rI Y (aguess_ 1) 12 cguess_amount, rI Y (aguess_ 2) 12 res.2.1, rI Y (aguess_ 3) 256 res.2.2.1, rI Y (aguess_ 4) 256 res.2.2.2.1, rI Y (aguess_ 5) 256 res.2.2.2.2.1, oX8 atold res.2.2.2.2.2.1, rJ Y (atold 1) 12 res.2.2.2.2.2.2])) (hq0 : aguess 0 = q0) (hf : fX11_was_b50 iC_size cC_skill iguess_cells cguess_amount cguess_open cguess_sums cguess_ways cguess_nextWays itold_size ctold_numbers x1 x2 s0 = some res) : ax X 0 0 50 [some (.ref (ao 0)), some (.int x1), some (.int x2), none] [oX11 ao atext atold aL aC alaw aotherLaw anow atrial ahistory aguess acrewPlan amoatPlan achance io_wind io_spadeLimit, oX2 aC iC_size, rI Y (aC 2) 8 cC_skill, oX3 aguess aC iguess_cells, rI Y (aguess 1) 12 cguess_amount, rI Y (aguess 2) 12 cguess_open, rI Y (aguess 3) 256 cguess_sums, rI Y (aguess 4) 256 cguess_ways, rI Y (aguess 5) 256 cguess_nextWays, oX8 atold itold_size, rJ Y (atold 1) 12 ctold_numbers] [.int s0] := by
  unfold fX11_was_b50 at hf
  refine a_istore_n C dX11_was_50 (by decide) rfl ?_
  refine a_aload_n C dX11_was_51 rfl ?_
  refine a_get C (eB_X11_19 _) dX11_was_52 0 rfl rfl ?_
  refine a_iload_n C dX11_was_55 rfl ?_
  refine a_i2l C dX11_was_56 ?_
  obtain ⟨r1, h1, hf⟩ := fx_bind hf
  refine a_fV C (kX8_tell l D Y atold itold_size ctold_numbers (s0.toInt64) r1 h1) (gB_X11_279 _) rfl dvX8_tell ⟨⟨rfl, rfl⟩, ⟨Nat.le_of_ble_eq_true rfl, Nat.le_of_ble_eq_true rfl⟩, ⟨Nat.le_of_ble_eq_true rfl, Nat.le_of_ble_eq_true rfl⟩⟩ rfl (Nat.le_of_ble_eq_true rfl) dX11_was_57 rfl rfl [9, 10] [0, 1, 2, 3, 4, 5, 6, 7, 8] ⟨rfl, rfl, trivial⟩ (by decide +kernel) rfl [oX11 ao atext atold aL aC alaw aotherLaw anow atrial ahistory aguess acrewPlan amoatPlan achance io_wind io_spadeLimit, oX2 aC iC_size, rI Y (aC 2) 8 cC_skill, oX3 aguess aC iguess_cells, rI Y (aguess 1) 12 cguess_amount, rI Y (aguess 2) 12 cguess_open, rI Y (aguess 3) 256 cguess_sums, rI Y (aguess 4) 256 cguess_ways, rI Y (aguess 5) 256 cguess_nextWays, oX8 atold r1.1, rJ Y (atold 1) 12 r1.2] ⟨rfl, rfl, trivial⟩ ⟨rfl, rfl, rfl, rfl, rfl, rfl, rfl, rfl, rfl, trivial⟩ 11 rfl (by decide +kernel) ?_
  refine a_aload_n C dX11_was_60 rfl ?_
  refine a_get C (eB_X11_83 _) dX11_was_61 0 rfl rfl ?_
  refine a_iload_n C dX11_was_64 rfl ?_
  refine a_iload_n C dX11_was_65 rfl ?_
  obtain ⟨r2, h2, hf⟩ := fx_bind hf
  refine a_gV C (kX3_cellsOf l D Y aguess aC iguess_cells cguess_amount cguess_open cguess_sums cguess_ways cguess_nextWays iC_size cC_skill x1 x2 r2 h2) (gB_X11_350 _) rfl dvX3_cellsOf ⟨⟨rfl, rfl⟩, ⟨Nat.le_of_ble_eq_true rfl, Nat.le_of_ble_eq_true rfl⟩, ⟨Nat.le_of_ble_eq_true rfl, Nat.le_of_ble_eq_true rfl⟩⟩ rfl (Nat.le_of_ble_eq_true rfl) dX11_was_66 rfl rfl [3, 4, 5, 6, 7, 8, 1, 2] [0, 9, 10] ⟨rfl, rfl, rfl, rfl, rfl, rfl, rfl, rfl, trivial⟩ (by decide +kernel) [oX11 ao atext atold aL aC alaw aotherLaw anow atrial ahistory aguess acrewPlan amoatPlan achance io_wind io_spadeLimit, oX8 atold r1.1, rJ Y (atold 1) 12 r1.2] ⟨rfl, rfl, rfl, trivial⟩ (by decide +kernel) (by decide +kernel) ?_
  rintro _ _ ⟨rfl, aguess, hA, rfl⟩
  unfold oX11
  rw [← hA]
  have hq0 := hA.trans hq0
  refine a_perm [0, 9, 10, 3, 4, 5, 6, 7, 8, 1, 2] [oX11 ao atext atold aL aC alaw aotherLaw anow atrial ahistory aguess acrewPlan amoatPlan achance io_wind io_spadeLimit, oX2 aC iC_size, rI Y (aC 2) 8 cC_skill, oX3 aguess aC iguess_cells, rI Y (aguess 1) 12 cguess_amount, rI Y (aguess 2) 12 r2.2.1, rI Y (aguess 3) 256 cguess_sums, rI Y (aguess 4) 256 r2.2.2.1, rI Y (aguess 5) 256 r2.2.2.2, oX8 atold r1.1, rJ Y (atold 1) 12 r1.2] ⟨rfl, rfl, rfl, rfl, rfl, rfl, rfl, rfl, rfl, rfl, rfl, trivial⟩ (by decide +kernel) ?_
  obtain rfl := fx_some hf
  exact a_iret C hQ dX11_was_69 ⟨rfl, aguess, hq0, rfl⟩
def fX11_was (iC_size : Int32) (cC_skill : Nat → Int32) (iguess_cells : Int32) (cguess_amount : Nat → Int32) (cguess_open : Nat → Int32) (cguess_sums : Nat → Int32) (cguess_ways : Nat → Int32) (cguess_nextWays : Nat → Int32) (itold_size : Int32) (ctold_numbers : Nat → Int64) (x1 : Int32) : Option (Int32 × (Nat → Int32) × (Nat → Int32) × (Nat → Int32) × (Nat → Int32) × Int32 × (Nat → Int64)) :=
  (fX2_has iC_size x1).bind (fun r3 => if r3 = (0 : Int32) then (some ((-1 : Int32), cguess_open, cguess_sums, cguess_ways, cguess_nextWays, itold_size, ctold_numbers)) else ((fX3_begin cguess_amount cguess_open cguess_sums iC_size cC_skill).bind (fun r5 => (fX2_all iC_size).bind (fun r6 => (fX3_fitting iguess_cells r5.1 r5.2 cguess_ways cguess_nextWays (r6 &&& ((jshl (1 : Int32) x1) ^^^ (-1 : Int32)))).bind (fun r7 => if r7.1 ≤ (0 : Int32) then (fX11_was_b50 iC_size cC_skill iguess_cells cguess_amount r5.1 r5.2 r7.2.1 r7.2.2 itold_size ctold_numbers x1 (r6 &&& ((jshl (1 : Int32) x1) ^^^ (-1 : Int32))) (0 : Int32)) else (fX11_was_b50 iC_size cC_skill iguess_cells cguess_amount r5.1 r5.2 r7.2.1 r7.2.2 itold_size ctold_numbers x1 (r6 &&& ((jshl (1 : Int32) x1) ^^^ (-1 : Int32))) (1 : Int32)))))))
set_option maxHeartbeats 400000 in
set_option maxRecDepth 100000 in
theorem kX11_was (l : Launch) (D : va_G) (Y : Nat → ClassId) (ao atext atold aL aC alaw aotherLaw anow atrial ahistory aguess acrewPlan amoatPlan achance : Nat → Nat) (io_wind : Int32) (io_spadeLimit : Int32) (iC_size : Int32) (cC_skill : Nat → Int32) (iguess_cells : Int32) (cguess_amount : Nat → Int32) (cguess_open : Nat → Int32) (cguess_sums : Nat → Int32) (cguess_ways : Nat → Int32) (cguess_nextWays : Nat → Int32) (itold_size : Int32) (ctold_numbers : Nat → Int64) (x1 : Int32) (res : Int32 × (Nat → Int32) × (Nat → Int32) × (Nat → Int32) × (Nat → Int32) × Int32 × (Nat → Int64)) (hf : fX11_was iC_size cC_skill iguess_cells cguess_amount cguess_open cguess_sums cguess_ways cguess_nextWays itold_size ctold_numbers x1 = some res) : am l D Y yX11_was wsX11_was rmX11_was [.ref (ao 0), .int x1] [oX11 ao atext atold aL aC alaw aotherLaw anow atrial ahistory aguess acrewPlan amoatPlan achance io_wind io_spadeLimit, oX2 aC iC_size, rI Y (aC 2) 8 cC_skill, oX3 aguess aC iguess_cells, rI Y (aguess 1) 12 cguess_amount, rI Y (aguess 2) 12 cguess_open, rI Y (aguess 3) 256 cguess_sums, rI Y (aguess 4) 256 cguess_ways, rI Y (aguess 5) 256 cguess_nextWays, oX8 atold itold_size, rJ Y (atold 1) 12 ctold_numbers] 0 0 (fun r9 w9 => r9 = (some (.int res.1)) ∧ ∃ aguess_ : Nat → Nat, aguess_ 0 = aguess 0 ∧ w9 = [oX11 ao atext atold aL aC alaw aotherLaw anow atrial ahistory aguess_ acrewPlan amoatPlan achance io_wind io_spadeLimit, oX2 aC iC_size, rI Y (aC 2) 8 cC_skill, oX3 aguess_ aC iguess_cells, rI Y (aguess_ 1) 12 cguess_amount, rI Y (aguess_ 2) 12 res.2.1, rI Y (aguess_ 3) 256 res.2.2.1, rI Y (aguess_ 4) 256 res.2.2.2.1, rI Y (aguess_ 5) 256 res.2.2.2.2.1, oX8 atold res.2.2.2.2.2.1, rJ Y (atold 1) 12 res.2.2.2.2.2.2]) := by
  refine am.of (cc := cX11_was) (maxL := 4) (rt := (some .int)) (by decide) rfl RX11 rfl (Nat.le_of_ble_eq_true rfl) [some (.ref (ao 0)), some (.int x1), none, none] rfl ?_
  intro X C hQ
  have hq0 : aguess 0 = aguess 0 := rfl
  unfold fX11_was at hf
  refine a_aload_n C dX11_was_0 rfl ?_
  refine a_get C (eB_X11_33 _) dX11_was_1 0 rfl rfl ?_
  refine a_iload_n C dX11_was_4 rfl ?_
  obtain ⟨r3, h3, hf⟩ := fx_bind hf
  refine a_fV C (kX2_has l D Y aC iC_size x1 r3 h3) (gB_X11_177 _) rfl dvX2_has ⟨⟨rfl, rfl⟩, ⟨Nat.le_of_ble_eq_true rfl, Nat.le_of_ble_eq_true rfl⟩, ⟨Nat.le_of_ble_eq_true rfl, Nat.le_of_ble_eq_true rfl⟩⟩ rfl (Nat.le_of_ble_eq_true rfl) dX11_was_5 rfl rfl [1] [0, 2, 3, 4, 5, 6, 7, 8, 9, 10] ⟨rfl, trivial⟩ (by decide +kernel) rfl [oX11 ao atext atold aL aC alaw aotherLaw anow atrial ahistory aguess acrewPlan amoatPlan achance io_wind io_spadeLimit, oX2 aC iC_size, rI Y (aC 2) 8 cC_skill, oX3 aguess aC iguess_cells, rI Y (aguess 1) 12 cguess_amount, rI Y (aguess 2) 12 cguess_open, rI Y (aguess 3) 256 cguess_sums, rI Y (aguess 4) 256 cguess_ways, rI Y (aguess 5) 256 cguess_nextWays, oX8 atold itold_size, rJ Y (atold 1) 12 ctold_numbers] ⟨rfl, trivial⟩ ⟨rfl, rfl, rfl, rfl, rfl, rfl, rfl, rfl, rfl, rfl, trivial⟩ 11 rfl (by decide +kernel) ?_
  refine a_if_ne C 13 dX11_was_8 (by decide) (fun h4 => ?_) (fun h4 => ?_)
  · have hf := fx_f h4 hf
    refine a_aload_n C dX11_was_13 rfl ?_
    refine a_get C (eB_X11_83 _) dX11_was_14 0 rfl rfl ?_
    obtain ⟨r5, h5, hf⟩ := fx_bind hf
    refine a_fV C (kX3_begin l D Y aguess aC iguess_cells cguess_amount cguess_open cguess_sums iC_size cC_skill r5 h5) (gB_X11_340 _) rfl dvX3_begin ⟨⟨rfl, rfl⟩, ⟨Nat.le_of_ble_eq_true rfl, Nat.le_of_ble_eq_true rfl⟩, ⟨Nat.le_of_ble_eq_true rfl, Nat.le_of_ble_eq_true rfl⟩⟩ rfl (Nat.le_of_ble_eq_true rfl) dX11_was_17 rfl rfl [3, 4, 5, 6, 1, 2] [0, 7, 8, 9, 10] ⟨rfl, rfl, rfl, rfl, rfl, rfl, trivial⟩ (by decide +kernel) rfl [oX11 ao atext atold aL aC alaw aotherLaw anow atrial ahistory aguess acrewPlan amoatPlan achance io_wind io_spadeLimit, oX2 aC iC_size, rI Y (aC 2) 8 cC_skill, oX3 aguess aC iguess_cells, rI Y (aguess 1) 12 cguess_amount, rI Y (aguess 2) 12 r5.1, rI Y (aguess 3) 256 r5.2, rI Y (aguess 4) 256 cguess_ways, rI Y (aguess 5) 256 cguess_nextWays, oX8 atold itold_size, rJ Y (atold 1) 12 ctold_numbers] ⟨rfl, rfl, rfl, rfl, rfl, rfl, trivial⟩ ⟨rfl, rfl, rfl, rfl, rfl, trivial⟩ 11 rfl (by decide +kernel) ?_
    refine a_aload_n C dX11_was_20 rfl ?_
    refine a_get C (eB_X11_33 _) dX11_was_21 0 rfl rfl ?_
    obtain ⟨r6, h6, hf⟩ := fx_bind hf
    refine a_fV C (kX2_all l D Y aC iC_size r6 h6) (gB_X11_327 _) rfl dvX2_all ⟨⟨rfl, rfl⟩, ⟨Nat.le_of_ble_eq_true rfl, Nat.le_of_ble_eq_true rfl⟩, ⟨Nat.le_of_ble_eq_true rfl, Nat.le_of_ble_eq_true rfl⟩⟩ rfl (Nat.le_of_ble_eq_true rfl) dX11_was_24 rfl rfl [1] [0, 2, 3, 4, 5, 6, 7, 8, 9, 10] ⟨rfl, trivial⟩ (by decide +kernel) rfl [oX11 ao atext atold aL aC alaw aotherLaw anow atrial ahistory aguess acrewPlan amoatPlan achance io_wind io_spadeLimit, oX2 aC iC_size, rI Y (aC 2) 8 cC_skill, oX3 aguess aC iguess_cells, rI Y (aguess 1) 12 cguess_amount, rI Y (aguess 2) 12 r5.1, rI Y (aguess 3) 256 r5.2, rI Y (aguess 4) 256 cguess_ways, rI Y (aguess 5) 256 cguess_nextWays, oX8 atold itold_size, rJ Y (atold 1) 12 ctold_numbers] ⟨rfl, trivial⟩ ⟨rfl, rfl, rfl, rfl, rfl, rfl, rfl, rfl, rfl, rfl, trivial⟩ 11 rfl (by decide +kernel) ?_
    refine a_iconst C (1 : Int32) dX11_was_27 (by decide) ?_
    refine a_iload_n C dX11_was_28 rfl ?_
    refine a_ishl C dX11_was_29 ?_
    refine a_iconst C (-1 : Int32) dX11_was_30 (by decide) ?_
    refine a_ixor C dX11_was_31 ?_
    refine a_iand C dX11_was_32 ?_
    refine a_istore_n C dX11_was_33 (by decide) rfl ?_
    refine a_aload_n C dX11_was_34 rfl ?_
    refine a_get C (eB_X11_83 _) dX11_was_35 0 rfl rfl ?_
    refine a_iload_n C dX11_was_38 rfl ?_
    obtain ⟨r7, h7, hf⟩ := fx_bind hf
    refine a_gV C (kX3_fitting l D Y aguess aC iguess_cells cguess_amount r5.1 r5.2 cguess_ways cguess_nextWays (r6 &&& ((jshl (1 : Int32) x1) ^^^ (-1 : Int32))) r7 h7) (gB_X11_343 _) rfl dvX3_fitting ⟨⟨rfl, rfl⟩, ⟨Nat.le_of_ble_eq_true rfl, Nat.le_of_ble_eq_true rfl⟩, ⟨Nat.le_of_ble_eq_true rfl, Nat.le_of_ble_eq_true rfl⟩⟩ rfl (Nat.le_of_ble_eq_true rfl) dX11_was_39 rfl rfl [3, 4, 5, 6, 7, 8] [0, 1, 2, 9, 10] ⟨rfl, rfl, rfl, rfl, rfl, rfl, trivial⟩ (by decide +kernel) [oX11 ao atext atold aL aC alaw aotherLaw anow atrial ahistory aguess acrewPlan amoatPlan achance io_wind io_spadeLimit, oX2 aC iC_size, rI Y (aC 2) 8 cC_skill, oX8 atold itold_size, rJ Y (atold 1) 12 ctold_numbers] ⟨rfl, rfl, rfl, rfl, rfl, trivial⟩ (by decide +kernel) (by decide +kernel) ?_
    rintro _ _ ⟨rfl, aguess, hA, rfl⟩
    unfold oX11
    rw [← hA]
    have hq0 := hA.trans hq0
    refine a_perm [0, 1, 2, 5, 6, 7, 8, 9, 10, 3, 4] [oX11 ao atext atold aL aC alaw aotherLaw anow atrial ahistory aguess acrewPlan amoatPlan achance io_wind io_spadeLimit, oX2 aC iC_size, rI Y (aC 2) 8 cC_skill, oX3 aguess aC iguess_cells, rI Y (aguess 1) 12 cguess_amount, rI Y (aguess 2) 12 r5.1, rI Y (aguess 3) 256 r5.2, rI Y (aguess 4) 256 r7.2.1, rI Y (aguess 5) 256 r7.2.2, oX8 atold itold_size, rJ Y (atold 1) 12 ctold_numbers] ⟨rfl, rfl, rfl, rfl, rfl, rfl, rfl, rfl, rfl, rfl, rfl, trivial⟩ (by decide +kernel) ?_
    refine a_if_le C 49 dX11_was_42 (by decide) (fun h8 => ?_) (fun h8 => ?_)
    · have hf := fx_t h8 hf
      refine a_iconst C (0 : Int32) dX11_was_49 (by decide) ?_
      exact kX11_was_b50 C hQ hq0 hf
    · have hf := fx_f h8 hf
      refine a_iconst C (1 : Int32) dX11_was_45 (by decide) ?_
      refine a_goto C 50 dX11_was_46 (by decide) ?_
      exact kX11_was_b50 C hQ hq0 hf
  · have hf := fx_t h4 hf
    refine a_iconst C (-1 : Int32) dX11_was_11 (by decide) ?_
    obtain rfl := fx_some hf
    exact a_iret C hQ dX11_was_12 ⟨rfl, aguess, hq0, rfl⟩
