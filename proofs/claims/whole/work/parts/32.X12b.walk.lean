-- X12_readsChild
abbrev rmX12_readsChild : Room := { frames := 4, cells := 0, slots := 0, locals := 92 }
theorem dvX12_readsChild : yX12_readsChild.cls = RX12 ∧ yX12_readsChild.cls ≠ "java/lang/invoke/MethodHandle" ∧ yX12_readsChild.cls ≠ "java/lang/invoke/VarHandle" ∧ (parseMethodDescriptor yX12_readsChild.desc).map (fun d => d.parameters.length) = some 0 := by decide +kernel
def fX12_readsChild_b55 (io_children : Int32) (io_at : Int32) (io_to : Int32) (io_readMany : Int32) (co_tape : Nat → Int32) (co_read : Nat → Int32) : Option (Int32 × Int32 × Int32 × (Nat → Int32)) :=
  some ((0 : Int32), io_at, io_readMany, co_read)
set_option maxHeartbeats 400000 in
set_option maxRecDepth 100000 in
theorem kX12_readsChild_b55 {X : cxT} {l : Launch} {D : va_G} {Y : Nat → ClassId} {ao : Nat → Nat} {io_thrown : Int32} {io_rows : Int32} {io_cells : Int32} {io_children : Int32} {io_changes : Int32} {io_taped : Int32} {io_at : Int32} {io_to : Int32} {io_nest : Int32} {io_readMany : Int32} {io_codeLong : Int32} {io_readLong : Int32} {io_undos : Int32} {io_wentHome : Int32} {io_tideLevel : Int32} {io_acts : Int32} {io_firstBreaks : Int32} {io_bestCrew : Int32} {io_sights : Int32} {io_wayMany : Int32} {io_random : Int32} {co_tape : Nat → Int32} {co_read : Nat → Int32} {res : Int32 × Int32 × Int32 × (Nat → Int32)} (C : axC X l D Y cX12_readsChild 3 RX12 wsX12_readsChild rmX12_readsChild (some .boolean)) (hQ : axQ X 0 0 (fun r9 w9 => r9 = (some (.int res.1)) ∧ w9 = [oX12 ao io_thrown io_rows io_cells io_children io_changes io_taped res.2.1 io_to io_nest res.2.2.1 io_codeLong io_readLong io_undos io_wentHome io_tideLevel io_acts io_firstBreaks io_bestCrew io_sights io_wayMany io_random, rI Y (ao 10) 80 co_tape, rI Y (ao 11) 36 res.2.2.2])) (hf : fX12_readsChild_b55 io_children io_at io_to io_readMany co_tape co_read = some res) : ax X 0 0 55 [none, none, none] [oX12 ao io_thrown io_rows io_cells io_children io_changes io_taped io_at io_to io_nest io_readMany io_codeLong io_readLong io_undos io_wentHome io_tideLevel io_acts io_firstBreaks io_bestCrew io_sights io_wayMany io_random, rI Y (ao 10) 80 co_tape, rI Y (ao 11) 36 co_read] [] := by
  unfold fX12_readsChild_b55 at hf
  refine a_iconst C (0 : Int32) dX12_readsChild_55 (by decide) ?_
  obtain rfl := fx_some hf
  exact a_zret C hQ (Or.inl rfl) dX12_readsChild_56 ⟨rfl, rfl⟩
def fX12_readsChild_b158 (io_children : Int32) (io_at : Int32) (io_to : Int32) (io_readMany : Int32) (co_tape : Nat → Int32) (co_read : Nat → Int32) (s0 : Int32) : Option (Int32 × Int32 × Int32 × (Nat → Int32)) :=
  if s0 = 0 ∨ s0 = 1 then some (s0, io_at, io_readMany, co_read) else none
set_option maxHeartbeats 400000 in
set_option maxRecDepth 100000 in
theorem kX12_readsChild_b158 {X : cxT} {l : Launch} {D : va_G} {Y : Nat → ClassId} {ao : Nat → Nat} {io_thrown : Int32} {io_rows : Int32} {io_cells : Int32} {io_children : Int32} {io_changes : Int32} {io_taped : Int32} {io_at : Int32} {io_to : Int32} {io_nest : Int32} {io_readMany : Int32} {io_codeLong : Int32} {io_readLong : Int32} {io_undos : Int32} {io_wentHome : Int32} {io_tideLevel : Int32} {io_acts : Int32} {io_firstBreaks : Int32} {io_bestCrew : Int32} {io_sights : Int32} {io_wayMany : Int32} {io_random : Int32} {co_tape : Nat → Int32} {co_read : Nat → Int32} {s0 : Int32} {res : Int32 × Int32 × Int32 × (Nat → Int32)} (C : axC X l D Y cX12_readsChild 3 RX12 wsX12_readsChild rmX12_readsChild (some .boolean)) (hQ : axQ X 0 0 (fun r9 w9 => r9 = (some (.int res.1)) ∧ w9 = [oX12 ao io_thrown io_rows io_cells io_children io_changes io_taped res.2.1 io_to io_nest res.2.2.1 io_codeLong io_readLong io_undos io_wentHome io_tideLevel io_acts io_firstBreaks io_bestCrew io_sights io_wayMany io_random, rI Y (ao 10) 80 co_tape, rI Y (ao 11) 36 res.2.2.2])) (hf : fX12_readsChild_b158 io_children io_at io_to io_readMany co_tape co_read s0 = some res) : ax X 0 0 158 [none, none, none] [oX12 ao io_thrown io_rows io_cells io_children io_changes io_taped io_at io_to io_nest io_readMany io_codeLong io_readLong io_undos io_wentHome io_tideLevel io_acts io_firstBreaks io_bestCrew io_sights io_wayMany io_random, rI Y (ao 10) 80 co_tape, rI Y (ao 11) 36 co_read] [.int s0] := by
  unfold fX12_readsChild_b158 at hf
  obtain ⟨h1, hf⟩ := fx_ite hf
  obtain rfl := fx_some hf
  exact a_zret C hQ h1 dX12_readsChild_158 ⟨rfl, rfl⟩
def fX12_readsChild_b153 (io_children : Int32) (io_at : Int32) (io_to : Int32) (io_readMany : Int32) (co_tape : Nat → Int32) (co_read : Nat → Int32) : Option (Int32 × Int32 × Int32 × (Nat → Int32)) :=
  fX12_readsChild_b158 io_children io_at io_to io_readMany co_tape co_read (1 : Int32)
set_option maxHeartbeats 400000 in
set_option maxRecDepth 100000 in
theorem kX12_readsChild_b153 {X : cxT} {l : Launch} {D : va_G} {Y : Nat → ClassId} {ao : Nat → Nat} {io_thrown : Int32} {io_rows : Int32} {io_cells : Int32} {io_children : Int32} {io_changes : Int32} {io_taped : Int32} {io_at : Int32} {io_to : Int32} {io_nest : Int32} {io_readMany : Int32} {io_codeLong : Int32} {io_readLong : Int32} {io_undos : Int32} {io_wentHome : Int32} {io_tideLevel : Int32} {io_acts : Int32} {io_firstBreaks : Int32} {io_bestCrew : Int32} {io_sights : Int32} {io_wayMany : Int32} {io_random : Int32} {co_tape : Nat → Int32} {co_read : Nat → Int32} {res : Int32 × Int32 × Int32 × (Nat → Int32)} (C : axC X l D Y cX12_readsChild 3 RX12 wsX12_readsChild rmX12_readsChild (some .boolean)) (hQ : axQ X 0 0 (fun r9 w9 => r9 = (some (.int res.1)) ∧ w9 = [oX12 ao io_thrown io_rows io_cells io_children io_changes io_taped res.2.1 io_to io_nest res.2.2.1 io_codeLong io_readLong io_undos io_wentHome io_tideLevel io_acts io_firstBreaks io_bestCrew io_sights io_wayMany io_random, rI Y (ao 10) 80 co_tape, rI Y (ao 11) 36 res.2.2.2])) (hf : fX12_readsChild_b153 io_children io_at io_to io_readMany co_tape co_read = some res) : ax X 0 0 153 [none, none, none] [oX12 ao io_thrown io_rows io_cells io_children io_changes io_taped io_at io_to io_nest io_readMany io_codeLong io_readLong io_undos io_wentHome io_tideLevel io_acts io_firstBreaks io_bestCrew io_sights io_wayMany io_random, rI Y (ao 10) 80 co_tape, rI Y (ao 11) 36 co_read] [] := by
  unfold fX12_readsChild_b153 at hf
  refine a_iconst C (1 : Int32) dX12_readsChild_153 (by decide) ?_
  refine a_goto C 158 dX12_readsChild_154 (by decide) ?_
  exact kX12_readsChild_b158 C hQ hf
def fX12_readsChild_b127 (io_children : Int32) (io_at : Int32) (io_to : Int32) (io_readMany : Int32) (co_tape : Nat → Int32) (co_read : Nat → Int32) (x1 : Int32) (x2 : Int32) (s1 : Int32) (s2 : Int32) : Option (Int32 × Int32 × Int32 × (Nat → Int32)) :=
  if inb s1 36 then if x2 = (0 : Int32) then (if inb (x1 + (2 : Int32)) 36 then if ((upd co_read (Int32.toNatClampNeg s1) s2) (Int32.toNatClampNeg (x1 + (2 : Int32)))) < (0 : Int32) then (fX12_readsChild_b158 io_children io_at io_to (io_readMany + (1 : Int32)) co_tape (upd co_read (Int32.toNatClampNeg s1) s2) (0 : Int32)) else (fX12_readsChild_b153 io_children io_at io_to (io_readMany + (1 : Int32)) co_tape (upd co_read (Int32.toNatClampNeg s1) s2)) else none) else (fX12_readsChild_b153 io_children io_at io_to (io_readMany + (1 : Int32)) co_tape (upd co_read (Int32.toNatClampNeg s1) s2)) else none
set_option maxHeartbeats 400000 in
set_option maxRecDepth 100000 in
theorem kX12_readsChild_b127 {X : cxT} {l : Launch} {D : va_G} {Y : Nat → ClassId} {ao : Nat → Nat} {io_thrown : Int32} {io_rows : Int32} {io_cells : Int32} {io_children : Int32} {io_changes : Int32} {io_taped : Int32} {io_at : Int32} {io_to : Int32} {io_nest : Int32} {io_readMany : Int32} {io_codeLong : Int32} {io_readLong : Int32} {io_undos : Int32} {io_wentHome : Int32} {io_tideLevel : Int32} {io_acts : Int32} {io_firstBreaks : Int32} {io_bestCrew : Int32} {io_sights : Int32} {io_wayMany : Int32} {io_random : Int32} {co_tape : Nat → Int32} {co_read : Nat → Int32} {x1 : Int32} {x2 : Int32} {s1 : Int32} {s2 : Int32} {res : Int32 × Int32 × Int32 × (Nat → Int32)} (C : axC X l D Y cX12_readsChild 3 RX12 wsX12_readsChild rmX12_readsChild (some .boolean)) (hQ : axQ X 0 0 (fun r9 w9 => r9 = (some (.int res.1)) ∧ w9 = [oX12 ao io_thrown io_rows io_cells io_children io_changes io_taped res.2.1 io_to io_nest res.2.2.1 io_codeLong io_readLong io_undos io_wentHome io_tideLevel io_acts io_firstBreaks io_bestCrew io_sights io_wayMany io_random, rI Y (ao 10) 80 co_tape, rI Y (ao 11) 36 res.2.2.2])) (hf : fX12_readsChild_b127 io_children io_at io_to io_readMany co_tape co_read x1 x2 s1 s2 = some res) : ax X 0 0 127 [some (.ref (ao 0)), some (.int x1), some (.int x2)] [oX12 ao io_thrown io_rows io_cells io_children io_changes io_taped io_at io_to io_nest io_readMany io_codeLong io_readLong io_undos io_wentHome io_tideLevel io_acts io_firstBreaks io_bestCrew io_sights io_wayMany io_random, rI Y (ao 10) 80 co_tape, rI Y (ao 11) 36 co_read] [.int s2, .int s1, .ref (ao 11)] := by
  unfold fX12_readsChild_b127 at hf
  obtain ⟨h2, hf⟩ := fx_ite hf
  refine a_iast C dX12_readsChild_127 2 rfl h2 ?_
  refine a_aload_n C dX12_readsChild_128 rfl ?_
  refine a_dup C dX12_readsChild_129 rfl ?_
  refine a_get C (eB_X12_197 _) dX12_readsChild_130 0 rfl rfl ?_
  refine a_iconst C (1 : Int32) dX12_readsChild_133 (by decide) ?_
  refine a_iadd C dX12_readsChild_134 ?_
  refine a_put C (eB_X12_197 _) tfX12_20 dX12_readsChild_135 0 rfl rfl rfl (Nat.le_of_ble_eq_true rfl) ?_
  refine a_iload_n C dX12_readsChild_138 rfl ?_
  refine a_if_ne C 153 dX12_readsChild_139 (by decide) (fun h3 => ?_) (fun h3 => ?_)
  · have hf := fx_f h3 hf
    refine a_kill [0, 1, 2] ?_
    exact kX12_readsChild_b153 C hQ hf
  · have hf := fx_t h3 hf
    refine a_aload_n C dX12_readsChild_142 rfl ?_
    refine a_get C (eB_X12_45 _) dX12_readsChild_143 0 rfl rfl ?_
    refine a_iload_n C dX12_readsChild_146 rfl ?_
    refine a_iconst C (2 : Int32) dX12_readsChild_147 (by decide) ?_
    refine a_iadd C dX12_readsChild_148 ?_
    obtain ⟨h4, hf⟩ := fx_ite hf
    refine a_iald C dX12_readsChild_149 2 rfl h4 ?_
    refine a_if_lt C 157 dX12_readsChild_150 (by decide) (fun h5 => ?_) (fun h5 => ?_)
    · have hf := fx_t h5 hf
      refine a_iconst C (0 : Int32) dX12_readsChild_157 (by decide) ?_
      refine a_kill [0, 1, 2] ?_
      exact kX12_readsChild_b158 C hQ hf
    · have hf := fx_f h5 hf
      refine a_kill [0, 1, 2] ?_
      exact kX12_readsChild_b153 C hQ hf
def fX12_readsChild (io_children : Int32) (io_at : Int32) (io_to : Int32) (io_readMany : Int32) (co_tape : Nat → Int32) (co_read : Nat → Int32) : Option (Int32 × Int32 × Int32 × (Nat → Int32)) :=
  if (io_children + io_readMany) = (8 : Int32) then (some ((0 : Int32), io_at, io_readMany, co_read)) else ((fX12_numberIn io_at io_to co_tape (2 : Int32) (4 : Int32) (13 : Int32)).bind (fun r7 => if inb ((3 : Int32) * io_readMany) 36 then if ((upd co_read (Int32.toNatClampNeg ((3 : Int32) * io_readMany)) r7.1) (Int32.toNatClampNeg ((3 : Int32) * io_readMany))) < (0 : Int32) then (fX12_readsChild_b55 io_children r7.2 io_to io_readMany co_tape (upd co_read (Int32.toNatClampNeg ((3 : Int32) * io_readMany)) r7.1)) else ((fX12_takes r7.2 io_to co_tape (44 : Int32)).bind (fun r10 => if r10.1 = (0 : Int32) then (fX12_readsChild_b55 io_children r10.2 io_to io_readMany co_tape (upd co_read (Int32.toNatClampNeg ((3 : Int32) * io_readMany)) r7.1)) else ((fX12_signIn r10.2 io_to co_tape (48 : Int32) (1 : Int32) (9 : Int32)).bind (fun r12 => if inb (((3 : Int32) * io_readMany) + (1 : Int32)) 36 then if (0 : Int32) ≤ ((upd (upd co_read (Int32.toNatClampNeg ((3 : Int32) * io_readMany)) r7.1) (Int32.toNatClampNeg (((3 : Int32) * io_readMany) + (1 : Int32))) r12.1) (Int32.toNatClampNeg (((3 : Int32) * io_readMany) + (1 : Int32)))) then ((fX12_takes r12.2 io_to co_tape (45 : Int32)).bind (fun r15 => if r15.1 = (0 : Int32) then ((fX12_signIn r15.2 io_to co_tape (97 : Int32) (0 : Int32) ((io_children + io_readMany) - (1 : Int32))).bind (fun r17 => fX12_readsChild_b127 io_children r17.2 io_to io_readMany co_tape (upd (upd co_read (Int32.toNatClampNeg ((3 : Int32) * io_readMany)) r7.1) (Int32.toNatClampNeg (((3 : Int32) * io_readMany) + (1 : Int32))) r12.1) ((3 : Int32) * io_readMany) r15.1 (((3 : Int32) * io_readMany) + (2 : Int32)) r17.1)) else (fX12_readsChild_b127 io_children r15.2 io_to io_readMany co_tape (upd (upd co_read (Int32.toNatClampNeg ((3 : Int32) * io_readMany)) r7.1) (Int32.toNatClampNeg (((3 : Int32) * io_readMany) + (1 : Int32))) r12.1) ((3 : Int32) * io_readMany) r15.1 (((3 : Int32) * io_readMany) + (2 : Int32)) (-1 : Int32)))) else (some ((0 : Int32), r12.2, io_readMany, (upd (upd co_read (Int32.toNatClampNeg ((3 : Int32) * io_readMany)) r7.1) (Int32.toNatClampNeg (((3 : Int32) * io_readMany) + (1 : Int32))) r12.1))) else none)))) else none))
set_option maxHeartbeats 400000 in
set_option maxRecDepth 100000 in
theorem kX12_readsChild (l : Launch) (D : va_G) (Y : Nat → ClassId) (ao : Nat → Nat) (io_thrown : Int32) (io_rows : Int32) (io_cells : Int32) (io_children : Int32) (io_changes : Int32) (io_taped : Int32) (io_at : Int32) (io_to : Int32) (io_nest : Int32) (io_readMany : Int32) (io_codeLong : Int32) (io_readLong : Int32) (io_undos : Int32) (io_wentHome : Int32) (io_tideLevel : Int32) (io_acts : Int32) (io_firstBreaks : Int32) (io_bestCrew : Int32) (io_sights : Int32) (io_wayMany : Int32) (io_random : Int32) (co_tape : Nat → Int32) (co_read : Nat → Int32) (res : Int32 × Int32 × Int32 × (Nat → Int32)) (hf : fX12_readsChild io_children io_at io_to io_readMany co_tape co_read = some res) : amf l D Y yX12_readsChild wsX12_readsChild rmX12_readsChild [.ref (ao 0)] [oX12 ao io_thrown io_rows io_cells io_children io_changes io_taped io_at io_to io_nest io_readMany io_codeLong io_readLong io_undos io_wentHome io_tideLevel io_acts io_firstBreaks io_bestCrew io_sights io_wayMany io_random, rI Y (ao 10) 80 co_tape, rI Y (ao 11) 36 co_read] (some (.int res.1)) [oX12 ao io_thrown io_rows io_cells io_children io_changes io_taped res.2.1 io_to io_nest res.2.2.1 io_codeLong io_readLong io_undos io_wentHome io_tideLevel io_acts io_firstBreaks io_bestCrew io_sights io_wayMany io_random, rI Y (ao 10) 80 co_tape, rI Y (ao 11) 36 res.2.2.2] := by
  refine amf.of (cc := cX12_readsChild) (maxL := 3) (rt := (some .boolean)) (by decide) rfl RX12 rfl (Nat.le_of_ble_eq_true rfl) [some (.ref (ao 0)), none, none] rfl ?_
  intro X C hQ
  unfold fX12_readsChild at hf
  refine a_aload_n C dX12_readsChild_0 rfl ?_
  refine a_get C (eB_X12_126 _) dX12_readsChild_1 0 rfl rfl ?_
  refine a_aload_n C dX12_readsChild_4 rfl ?_
  refine a_get C (eB_X12_197 _) dX12_readsChild_5 0 rfl rfl ?_
  refine a_iadd C dX12_readsChild_8 ?_
  refine a_bipush C (8 : Int32) dX12_readsChild_9 (by decide) ?_
  refine a_icmp_ne C 16 dX12_readsChild_11 (by decide) (fun h6 => ?_) (fun h6 => ?_)
  · have hf := fx_f h6 hf
    refine a_iconst C (3 : Int32) dX12_readsChild_16 (by decide) ?_
    refine a_aload_n C dX12_readsChild_17 rfl ?_
    refine a_get C (eB_X12_197 _) dX12_readsChild_18 0 rfl rfl ?_
    refine a_imul C dX12_readsChild_21 ?_
    refine a_istore_n C dX12_readsChild_22 (by decide) rfl ?_
    refine a_aload_n C dX12_readsChild_23 rfl ?_
    refine a_get C (eB_X12_45 _) dX12_readsChild_24 0 rfl rfl ?_
    refine a_iload_n C dX12_readsChild_27 rfl ?_
    refine a_aload_n C dX12_readsChild_28 rfl ?_
    refine a_iconst C (2 : Int32) dX12_readsChild_29 (by decide) ?_
    refine a_iconst C (4 : Int32) dX12_readsChild_30 (by decide) ?_
    refine a_bipush C (13 : Int32) dX12_readsChild_31 (by decide) ?_
    obtain ⟨r7, h7, hf⟩ := fx_bind hf
    refine a_fV C (kX12_numberIn l D Y ao io_thrown io_rows io_cells io_children io_changes io_taped io_at io_to io_nest io_readMany io_codeLong io_readLong io_undos io_wentHome io_tideLevel io_acts io_firstBreaks io_bestCrew io_sights io_wayMany io_random co_tape (2 : Int32) (4 : Int32) (13 : Int32) r7 h7) (gB_X12_200 _) rfl dvX12_numberIn ⟨⟨rfl, rfl⟩, ⟨Nat.le_of_ble_eq_true rfl, Nat.le_of_ble_eq_true rfl⟩, ⟨Nat.le_of_ble_eq_true rfl, Nat.le_of_ble_eq_true rfl⟩⟩ rfl (Nat.le_of_ble_eq_true rfl) dX12_readsChild_33 rfl rfl [0, 1] [2] ⟨rfl, rfl, trivial⟩ (by decide +kernel) rfl [oX12 ao io_thrown io_rows io_cells io_children io_changes io_taped r7.2 io_to io_nest io_readMany io_codeLong io_readLong io_undos io_wentHome io_tideLevel io_acts io_firstBreaks io_bestCrew io_sights io_wayMany io_random, rI Y (ao 10) 80 co_tape, rI Y (ao 11) 36 co_read] ⟨rfl, rfl, trivial⟩ ⟨rfl, trivial⟩ 3 rfl (by decide +kernel) ?_
    obtain ⟨h8, hf⟩ := fx_ite hf
    refine a_iast C dX12_readsChild_36 2 rfl h8 ?_
    refine a_aload_n C dX12_readsChild_37 rfl ?_
    refine a_get C (eB_X12_45 _) dX12_readsChild_38 0 rfl rfl ?_
    refine a_iload_n C dX12_readsChild_41 rfl ?_
    refine a_iald C dX12_readsChild_42 2 rfl h8 ?_
    refine a_if_lt C 55 dX12_readsChild_43 (by decide) (fun h9 => ?_) (fun h9 => ?_)
    · have hf := fx_t h9 hf
      refine a_kill [0, 1] ?_
      exact kX12_readsChild_b55 C hQ hf
    · have hf := fx_f h9 hf
      refine a_aload_n C dX12_readsChild_46 rfl ?_
      refine a_bipush C (44 : Int32) dX12_readsChild_47 (by decide) ?_
      obtain ⟨r10, h10, hf⟩ := fx_bind hf
      refine a_fV C (kX12_takes l D Y ao io_thrown io_rows io_cells io_children io_changes io_taped r7.2 io_to io_nest io_readMany io_codeLong io_readLong io_undos io_wentHome io_tideLevel io_acts io_firstBreaks io_bestCrew io_sights io_wayMany io_random co_tape (44 : Int32) r10 h10) (gB_X12_184 _) rfl dvX12_takes ⟨⟨rfl, rfl⟩, ⟨Nat.le_of_ble_eq_true rfl, Nat.le_of_ble_eq_true rfl⟩, ⟨Nat.le_of_ble_eq_true rfl, Nat.le_of_ble_eq_true rfl⟩⟩ rfl (Nat.le_of_ble_eq_true rfl) dX12_readsChild_49 rfl rfl [0, 1] [2] ⟨rfl, rfl, trivial⟩ (by decide +kernel) rfl [oX12 ao io_thrown io_rows io_cells io_children io_changes io_taped r10.2 io_to io_nest io_readMany io_codeLong io_readLong io_undos io_wentHome io_tideLevel io_acts io_firstBreaks io_bestCrew io_sights io_wayMany io_random, rI Y (ao 10) 80 co_tape, rI Y (ao 11) 36 (upd co_read (Int32.toNatClampNeg ((3 : Int32) * io_readMany)) r7.1)] ⟨rfl, rfl, trivial⟩ ⟨rfl, trivial⟩ 3 rfl (by decide +kernel) ?_
      refine a_if_ne C 57 dX12_readsChild_52 (by decide) (fun h11 => ?_) (fun h11 => ?_)
      · have hf := fx_f h11 hf
        refine a_aload_n C dX12_readsChild_57 rfl ?_
        refine a_get C (eB_X12_45 _) dX12_readsChild_58 0 rfl rfl ?_
        refine a_iload_n C dX12_readsChild_61 rfl ?_
        refine a_iconst C (1 : Int32) dX12_readsChild_62 (by decide) ?_
        refine a_iadd C dX12_readsChild_63 ?_
        refine a_aload_n C dX12_readsChild_64 rfl ?_
        refine a_bipush C (48 : Int32) dX12_readsChild_65 (by decide) ?_
        refine a_iconst C (1 : Int32) dX12_readsChild_67 (by decide) ?_
        refine a_bipush C (9 : Int32) dX12_readsChild_68 (by decide) ?_
        obtain ⟨r12, h12, hf⟩ := fx_bind hf
        refine a_fV C (kX12_signIn l D Y ao io_thrown io_rows io_cells io_children io_changes io_taped r10.2 io_to io_nest io_readMany io_codeLong io_readLong io_undos io_wentHome io_tideLevel io_acts io_firstBreaks io_bestCrew io_sights io_wayMany io_random co_tape (48 : Int32) (1 : Int32) (9 : Int32) r12 h12) (gB_X12_204 _) rfl dvX12_signIn ⟨⟨rfl, rfl⟩, ⟨Nat.le_of_ble_eq_true rfl, Nat.le_of_ble_eq_true rfl⟩, ⟨Nat.le_of_ble_eq_true rfl, Nat.le_of_ble_eq_true rfl⟩⟩ rfl (Nat.le_of_ble_eq_true rfl) dX12_readsChild_70 rfl rfl [0, 1] [2] ⟨rfl, rfl, trivial⟩ (by decide +kernel) rfl [oX12 ao io_thrown io_rows io_cells io_children io_changes io_taped r12.2 io_to io_nest io_readMany io_codeLong io_readLong io_undos io_wentHome io_tideLevel io_acts io_firstBreaks io_bestCrew io_sights io_wayMany io_random, rI Y (ao 10) 80 co_tape, rI Y (ao 11) 36 (upd co_read (Int32.toNatClampNeg ((3 : Int32) * io_readMany)) r7.1)] ⟨rfl, rfl, trivial⟩ ⟨rfl, trivial⟩ 3 rfl (by decide +kernel) ?_
        obtain ⟨h13, hf⟩ := fx_ite hf
        refine a_iast C dX12_readsChild_73 2 rfl h13 ?_
        refine a_aload_n C dX12_readsChild_74 rfl ?_
        refine a_get C (eB_X12_45 _) dX12_readsChild_75 0 rfl rfl ?_
        refine a_iload_n C dX12_readsChild_78 rfl ?_
        refine a_iconst C (1 : Int32) dX12_readsChild_79 (by decide) ?_
        refine a_iadd C dX12_readsChild_80 ?_
        refine a_iald C dX12_readsChild_81 2 rfl h13 ?_
        refine a_if_ge C 87 dX12_readsChild_82 (by decide) (fun h14 => ?_) (fun h14 => ?_)
        · have hf := fx_t h14 hf
          refine a_aload_n C dX12_readsChild_87 rfl ?_
          refine a_bipush C (45 : Int32) dX12_readsChild_88 (by decide) ?_
          obtain ⟨r15, h15, hf⟩ := fx_bind hf
          refine a_fV C (kX12_takes l D Y ao io_thrown io_rows io_cells io_children io_changes io_taped r12.2 io_to io_nest io_readMany io_codeLong io_readLong io_undos io_wentHome io_tideLevel io_acts io_firstBreaks io_bestCrew io_sights io_wayMany io_random co_tape (45 : Int32) r15 h15) (gB_X12_184 _) rfl dvX12_takes ⟨⟨rfl, rfl⟩, ⟨Nat.le_of_ble_eq_true rfl, Nat.le_of_ble_eq_true rfl⟩, ⟨Nat.le_of_ble_eq_true rfl, Nat.le_of_ble_eq_true rfl⟩⟩ rfl (Nat.le_of_ble_eq_true rfl) dX12_readsChild_90 rfl rfl [0, 1] [2] ⟨rfl, rfl, trivial⟩ (by decide +kernel) rfl [oX12 ao io_thrown io_rows io_cells io_children io_changes io_taped r15.2 io_to io_nest io_readMany io_codeLong io_readLong io_undos io_wentHome io_tideLevel io_acts io_firstBreaks io_bestCrew io_sights io_wayMany io_random, rI Y (ao 10) 80 co_tape, rI Y (ao 11) 36 (upd (upd co_read (Int32.toNatClampNeg ((3 : Int32) * io_readMany)) r7.1) (Int32.toNatClampNeg (((3 : Int32) * io_readMany) + (1 : Int32))) r12.1)] ⟨rfl, rfl, trivial⟩ ⟨rfl, trivial⟩ 3 rfl (by decide +kernel) ?_
          refine a_istore_n C dX12_readsChild_93 (by decide) rfl ?_
          refine a_aload_n C dX12_readsChild_94 rfl ?_
          refine a_get C (eB_X12_45 _) dX12_readsChild_95 0 rfl rfl ?_
          refine a_iload_n C dX12_readsChild_98 rfl ?_
          refine a_iconst C (2 : Int32) dX12_readsChild_99 (by decide) ?_
          refine a_iadd C dX12_readsChild_100 ?_
          refine a_iload_n C dX12_readsChild_101 rfl ?_
          refine a_if_eq C 109 dX12_readsChild_102 (by decide) (fun h16 => ?_) (fun h16 => ?_)
          · have hf := fx_t h16 hf
            refine a_aload_n C dX12_readsChild_109 rfl ?_
            refine a_bipush C (97 : Int32) dX12_readsChild_110 (by decide) ?_
            refine a_iconst C (0 : Int32) dX12_readsChild_112 (by decide) ?_
            refine a_aload_n C dX12_readsChild_113 rfl ?_
            refine a_get C (eB_X12_126 _) dX12_readsChild_114 0 rfl rfl ?_
            refine a_aload_n C dX12_readsChild_117 rfl ?_
            refine a_get C (eB_X12_197 _) dX12_readsChild_118 0 rfl rfl ?_
            refine a_iadd C dX12_readsChild_121 ?_
            refine a_iconst C (1 : Int32) dX12_readsChild_122 (by decide) ?_
            refine a_isub C dX12_readsChild_123 ?_
            obtain ⟨r17, h17, hf⟩ := fx_bind hf
            refine a_fV C (kX12_signIn l D Y ao io_thrown io_rows io_cells io_children io_changes io_taped r15.2 io_to io_nest io_readMany io_codeLong io_readLong io_undos io_wentHome io_tideLevel io_acts io_firstBreaks io_bestCrew io_sights io_wayMany io_random co_tape (97 : Int32) (0 : Int32) ((io_children + io_readMany) - (1 : Int32)) r17 h17) (gB_X12_204 _) rfl dvX12_signIn ⟨⟨rfl, rfl⟩, ⟨Nat.le_of_ble_eq_true rfl, Nat.le_of_ble_eq_true rfl⟩, ⟨Nat.le_of_ble_eq_true rfl, Nat.le_of_ble_eq_true rfl⟩⟩ rfl (Nat.le_of_ble_eq_true rfl) dX12_readsChild_124 rfl rfl [0, 1] [2] ⟨rfl, rfl, trivial⟩ (by decide +kernel) rfl [oX12 ao io_thrown io_rows io_cells io_children io_changes io_taped r17.2 io_to io_nest io_readMany io_codeLong io_readLong io_undos io_wentHome io_tideLevel io_acts io_firstBreaks io_bestCrew io_sights io_wayMany io_random, rI Y (ao 10) 80 co_tape, rI Y (ao 11) 36 (upd (upd co_read (Int32.toNatClampNeg ((3 : Int32) * io_readMany)) r7.1) (Int32.toNatClampNeg (((3 : Int32) * io_readMany) + (1 : Int32))) r12.1)] ⟨rfl, rfl, trivial⟩ ⟨rfl, trivial⟩ 3 rfl (by decide +kernel) ?_
            exact kX12_readsChild_b127 C hQ hf
          · have hf := fx_f h16 hf
            refine a_iconst C (-1 : Int32) dX12_readsChild_105 (by decide) ?_
            refine a_goto C 127 dX12_readsChild_106 (by decide) ?_
            exact kX12_readsChild_b127 C hQ hf
        · have hf := fx_f h14 hf
          refine a_iconst C (0 : Int32) dX12_readsChild_85 (by decide) ?_
          obtain rfl := fx_some hf
          exact a_zret C hQ (Or.inl rfl) dX12_readsChild_86 ⟨rfl, rfl⟩
      · have hf := fx_t h11 hf
        refine a_kill [0, 1] ?_
        exact kX12_readsChild_b55 C hQ hf
  · have hf := fx_t h6 hf
    refine a_iconst C (0 : Int32) dX12_readsChild_14 (by decide) ?_
    obtain rfl := fx_some hf
    exact a_zret C hQ (Or.inl rfl) dX12_readsChild_15 ⟨rfl, rfl⟩
-- X12_children
abbrev rmX12_children : Room := { frames := 5, cells := 0, slots := 0, locals := 114 }
theorem dvX12_children : yX12_children.cls = RX12 ∧ yX12_children.cls ≠ "java/lang/invoke/MethodHandle" ∧ yX12_children.cls ≠ "java/lang/invoke/VarHandle" ∧ (parseMethodDescriptor yX12_children.desc).map (fun d => d.parameters.length) = some 0 := by decide +kernel
def fX12_children_b220 (io_thrown : Int32) (io_children : Int32) (io_changes : Int32) (io_taped : Int32) (io_at : Int32) (io_to : Int32) (io_nest : Int32) (io_readMany : Int32) (io_undos : Int32) (co_age : Nat → Int32) (co_skill : Nat → Int32) (co_friend : Nat → Int32) (co_now : Nat → Int32) (co_tape : Nat → Int32) (co_read : Nat → Int32) : Option (Int32 × Int32 × Int32 × Int32 × Int32 × Int32 × Int32 × Int32 × Int32 × Int32 × (Nat → Int32) × (Nat → Int32) × (Nat → Int32) × (Nat → Int32) × (Nat → Int32)) :=
  some (io_readMany, io_thrown, io_children, io_changes, io_taped, io_at, io_to, io_nest, io_readMany, io_undos, co_age, co_skill, co_friend, co_now, co_read)
set_option maxHeartbeats 400000 in
set_option maxRecDepth 100000 in
theorem kX12_children_b220 {X : cxT} {l : Launch} {D : va_G} {Y : Nat → ClassId} {ao : Nat → Nat} {io_thrown : Int32} {io_rows : Int32} {io_cells : Int32} {io_children : Int32} {io_changes : Int32} {io_taped : Int32} {io_at : Int32} {io_to : Int32} {io_nest : Int32} {io_readMany : Int32} {io_codeLong : Int32} {io_readLong : Int32} {io_undos : Int32} {io_wentHome : Int32} {io_tideLevel : Int32} {io_acts : Int32} {io_firstBreaks : Int32} {io_bestCrew : Int32} {io_sights : Int32} {io_wayMany : Int32} {io_random : Int32} {co_age : Nat → Int32} {co_skill : Nat → Int32} {co_friend : Nat → Int32} {co_now : Nat → Int32} {co_tape : Nat → Int32} {co_read : Nat → Int32} {res : Int32 × Int32 × Int32 × Int32 × Int32 × Int32 × Int32 × Int32 × Int32 × Int32 × (Nat → Int32) × (Nat → Int32) × (Nat → Int32) × (Nat → Int32) × (Nat → Int32)} (C : axC X l D Y cX12_children 6 RX12 wsX12_children rmX12_children (some .int)) (hQ : axQ X 0 0 (fun r9 w9 => r9 = (some (.int res.1)) ∧ w9 = [oX12 ao res.2.1 io_rows io_cells res.2.2.1 res.2.2.2.1 res.2.2.2.2.1 res.2.2.2.2.2.1 res.2.2.2.2.2.2.1 res.2.2.2.2.2.2.2.1 res.2.2.2.2.2.2.2.2.1 io_codeLong io_readLong res.2.2.2.2.2.2.2.2.2.1 io_wentHome io_tideLevel io_acts io_firstBreaks io_bestCrew io_sights io_wayMany io_random, rI Y (ao 4) 8 res.2.2.2.2.2.2.2.2.2.2.1, rI Y (ao 5) 8 res.2.2.2.2.2.2.2.2.2.2.2.1, rI Y (ao 6) 8 res.2.2.2.2.2.2.2.2.2.2.2.2.1, rI Y (ao 8) 43 res.2.2.2.2.2.2.2.2.2.2.2.2.2.1, rI Y (ao 10) 80 co_tape, rI Y (ao 11) 36 res.2.2.2.2.2.2.2.2.2.2.2.2.2.2])) (hf : fX12_children_b220 io_thrown io_children io_changes io_taped io_at io_to io_nest io_readMany io_undos co_age co_skill co_friend co_now co_tape co_read = some res) : ax X 0 0 220 [some (.ref (ao 0)), none, none, none, none, none] [oX12 ao io_thrown io_rows io_cells io_children io_changes io_taped io_at io_to io_nest io_readMany io_codeLong io_readLong io_undos io_wentHome io_tideLevel io_acts io_firstBreaks io_bestCrew io_sights io_wayMany io_random, rI Y (ao 4) 8 co_age, rI Y (ao 5) 8 co_skill, rI Y (ao 6) 8 co_friend, rI Y (ao 8) 43 co_now, rI Y (ao 10) 80 co_tape, rI Y (ao 11) 36 co_read] [] := by
  unfold fX12_children_b220 at hf
  refine a_aload_n C dX12_children_220 rfl ?_
  refine a_get C (eB_X12_197 _) dX12_children_221 0 rfl rfl ?_
  obtain rfl := fx_some hf
  exact a_iret C hQ dX12_children_224 ⟨rfl, rfl⟩
def fX12_children_b198 (io_thrown : Int32) (io_children : Int32) (io_changes : Int32) (io_taped : Int32) (io_at : Int32) (io_to : Int32) (io_nest : Int32) (io_readMany : Int32) (io_undos : Int32) (co_age : Nat → Int32) (co_skill : Nat → Int32) (co_friend : Nat → Int32) (co_now : Nat → Int32) (co_tape : Nat → Int32) (co_read : Nat → Int32) : Option (Int32 × Int32 × Int32 × Int32 × Int32 × Int32 × Int32 × Int32 × Int32 × Int32 × (Nat → Int32) × (Nat → Int32) × (Nat → Int32) × (Nat → Int32) × (Nat → Int32)) :=
  if io_readMany ≤ (0 : Int32) then (fX12_children_b220 io_thrown io_children io_changes io_taped io_at io_to io_nest io_readMany io_undos co_age co_skill co_friend co_now co_tape co_read) else (fX12_children_b220 io_thrown io_children (io_changes + (1 : Int32)) io_taped io_at io_to io_nest io_readMany (0 : Int32) co_age co_skill co_friend co_now co_tape co_read)
set_option maxHeartbeats 400000 in
set_option maxRecDepth 100000 in
theorem kX12_children_b198 {X : cxT} {l : Launch} {D : va_G} {Y : Nat → ClassId} {ao : Nat → Nat} {io_thrown : Int32} {io_rows : Int32} {io_cells : Int32} {io_children : Int32} {io_changes : Int32} {io_taped : Int32} {io_at : Int32} {io_to : Int32} {io_nest : Int32} {io_readMany : Int32} {io_codeLong : Int32} {io_readLong : Int32} {io_undos : Int32} {io_wentHome : Int32} {io_tideLevel : Int32} {io_acts : Int32} {io_firstBreaks : Int32} {io_bestCrew : Int32} {io_sights : Int32} {io_wayMany : Int32} {io_random : Int32} {co_age : Nat → Int32} {co_skill : Nat → Int32} {co_friend : Nat → Int32} {co_now : Nat → Int32} {co_tape : Nat → Int32} {co_read : Nat → Int32} {res : Int32 × Int32 × Int32 × Int32 × Int32 × Int32 × Int32 × Int32 × Int32 × Int32 × (Nat → Int32) × (Nat → Int32) × (Nat → Int32) × (Nat → Int32) × (Nat → Int32)} (C : axC X l D Y cX12_children 6 RX12 wsX12_children rmX12_children (some .int)) (hQ : axQ X 0 0 (fun r9 w9 => r9 = (some (.int res.1)) ∧ w9 = [oX12 ao res.2.1 io_rows io_cells res.2.2.1 res.2.2.2.1 res.2.2.2.2.1 res.2.2.2.2.2.1 res.2.2.2.2.2.2.1 res.2.2.2.2.2.2.2.1 res.2.2.2.2.2.2.2.2.1 io_codeLong io_readLong res.2.2.2.2.2.2.2.2.2.1 io_wentHome io_tideLevel io_acts io_firstBreaks io_bestCrew io_sights io_wayMany io_random, rI Y (ao 4) 8 res.2.2.2.2.2.2.2.2.2.2.1, rI Y (ao 5) 8 res.2.2.2.2.2.2.2.2.2.2.2.1, rI Y (ao 6) 8 res.2.2.2.2.2.2.2.2.2.2.2.2.1, rI Y (ao 8) 43 res.2.2.2.2.2.2.2.2.2.2.2.2.2.1, rI Y (ao 10) 80 co_tape, rI Y (ao 11) 36 res.2.2.2.2.2.2.2.2.2.2.2.2.2.2])) (hf : fX12_children_b198 io_thrown io_children io_changes io_taped io_at io_to io_nest io_readMany io_undos co_age co_skill co_friend co_now co_tape co_read = some res) : ax X 0 0 198 [some (.ref (ao 0)), none, none, none, none, none] [oX12 ao io_thrown io_rows io_cells io_children io_changes io_taped io_at io_to io_nest io_readMany io_codeLong io_readLong io_undos io_wentHome io_tideLevel io_acts io_firstBreaks io_bestCrew io_sights io_wayMany io_random, rI Y (ao 4) 8 co_age, rI Y (ao 5) 8 co_skill, rI Y (ao 6) 8 co_friend, rI Y (ao 8) 43 co_now, rI Y (ao 10) 80 co_tape, rI Y (ao 11) 36 co_read] [] := by
  unfold fX12_children_b198 at hf
  refine a_aload_n C dX12_children_198 rfl ?_
  refine a_get C (eB_X12_197 _) dX12_children_199 0 rfl rfl ?_
  refine a_if_le C 220 dX12_children_202 (by decide) (fun h1 => ?_) (fun h1 => ?_)
  · have hf := fx_t h1 hf
    exact kX12_children_b220 C hQ hf
  · have hf := fx_f h1 hf
    refine a_aload_n C dX12_children_205 rfl ?_
    refine a_iconst C (0 : Int32) dX12_children_206 (by decide) ?_
    refine a_put C (eB_X12_191 _) tfX12_27 dX12_children_207 0 rfl rfl rfl (Nat.le_of_ble_eq_true rfl) ?_
    refine a_aload_n C dX12_children_210 rfl ?_
    refine a_dup C dX12_children_211 rfl ?_
    refine a_get C (eB_X12_194 _) dX12_children_212 0 rfl rfl ?_
    refine a_iconst C (1 : Int32) dX12_children_215 (by decide) ?_
    refine a_iadd C dX12_children_216 ?_
    refine a_put C (eB_X12_194 _) tfX12_5 dX12_children_217 0 rfl rfl rfl (Nat.le_of_ble_eq_true rfl) ?_
    exact kX12_children_b220 C hQ hf
def fX12_children_l81 (io_thrown : Int32) (io_changes : Int32) (io_taped : Int32) (io_at : Int32) (io_to : Int32) (io_nest : Int32) (io_readMany : Int32) (io_undos : Int32) (co_tape : Nat → Int32) (co_read : Nat → Int32) (k81 : Int32 × (Nat → Int32) × (Nat → Int32) × (Nat → Int32) × (Nat → Int32) × Int32 → Option (Int32 × Int32 × Int32 × Int32 × Int32 × Int32 × Int32 × Int32 × Int32 × Int32 × (Nat → Int32) × (Nat → Int32) × (Nat → Int32) × (Nat → Int32) × (Nat → Int32))) (io_children : Int32) (co_age : Nat → Int32) (co_skill : Nat → Int32) (co_friend : Nat → Int32) (co_now : Nat → Int32) (x5 : Int32) : Option (Int32 × Int32 × Int32 × Int32 × Int32 × Int32 × Int32 × Int32 × Int32 × Int32 × (Nat → Int32) × (Nat → Int32) × (Nat → Int32) × (Nat → Int32) × (Nat → Int32)) :=
  if io_readMany ≤ x5 then (fX12_children_b198 io_thrown io_children io_changes io_taped io_at io_to io_nest io_readMany io_undos co_age co_skill co_friend co_now co_tape co_read) else (if inb ((3 : Int32) * x5) 36 then if inb io_children 8 then if inb (((3 : Int32) * x5) + (1 : Int32)) 36 then if inb (((3 : Int32) * x5) + (2 : Int32)) 36 then if inb (((25 : Int32) + ((2 : Int32) * io_children)) + (0 : Int32)) 43 then if inb (((25 : Int32) + ((2 : Int32) * io_children)) + (1 : Int32)) 43 then k81 ((io_children + (1 : Int32)), (upd co_age (Int32.toNatClampNeg io_children) (co_read (Int32.toNatClampNeg ((3 : Int32) * x5)))), (upd co_skill (Int32.toNatClampNeg io_children) (co_read (Int32.toNatClampNeg (((3 : Int32) * x5) + (1 : Int32))))), (upd co_friend (Int32.toNatClampNeg io_children) (co_read (Int32.toNatClampNeg (((3 : Int32) * x5) + (2 : Int32))))), (upd (upd co_now (Int32.toNatClampNeg (((25 : Int32) + ((2 : Int32) * io_children)) + (0 : Int32))) (-1 : Int32)) (Int32.toNatClampNeg (((25 : Int32) + ((2 : Int32) * io_children)) + (1 : Int32))) (5 : Int32)), (x5 + (1 : Int32))) else none else none else none else none else none else none)
def fX12_children_b81 (io_thrown : Int32) (io_children : Int32) (io_changes : Int32) (io_taped : Int32) (io_at : Int32) (io_to : Int32) (io_nest : Int32) (io_readMany : Int32) (io_undos : Int32) (co_age : Nat → Int32) (co_skill : Nat → Int32) (co_friend : Nat → Int32) (co_now : Nat → Int32) (co_tape : Nat → Int32) (co_read : Nat → Int32) (x5 : Int32) : Option (Int32 × Int32 × Int32 × Int32 × Int32 × Int32 × Int32 × Int32 × Int32 × Int32 × (Nat → Int32) × (Nat → Int32) × (Nat → Int32) × (Nat → Int32) × (Nat → Int32)) :=
  loopN (fun (s : Int32 × (Nat → Int32) × (Nat → Int32) × (Nat → Int32) × (Nat → Int32) × Int32) k81 => fX12_children_l81 io_thrown io_changes io_taped io_at io_to io_nest io_readMany io_undos co_tape co_read k81 s.1 s.2.1 s.2.2.1 s.2.2.2.1 s.2.2.2.2.1 s.2.2.2.2.2) FUEL (io_children, co_age, co_skill, co_friend, co_now, x5)
set_option maxHeartbeats 400000 in
set_option maxRecDepth 100000 in
theorem kX12_children_l81 {X : cxT} {l : Launch} {D : va_G} {Y : Nat → ClassId} {ao : Nat → Nat} {io_thrown : Int32} {io_rows : Int32} {io_cells : Int32} {io_children : Int32} {io_changes : Int32} {io_taped : Int32} {io_at : Int32} {io_to : Int32} {io_nest : Int32} {io_readMany : Int32} {io_codeLong : Int32} {io_readLong : Int32} {io_undos : Int32} {io_wentHome : Int32} {io_tideLevel : Int32} {io_acts : Int32} {io_firstBreaks : Int32} {io_bestCrew : Int32} {io_sights : Int32} {io_wayMany : Int32} {io_random : Int32} {co_age : Nat → Int32} {co_skill : Nat → Int32} {co_friend : Nat → Int32} {co_now : Nat → Int32} {co_tape : Nat → Int32} {co_read : Nat → Int32} {x5 : Int32} {res : Int32 × Int32 × Int32 × Int32 × Int32 × Int32 × Int32 × Int32 × Int32 × Int32 × (Nat → Int32) × (Nat → Int32) × (Nat → Int32) × (Nat → Int32) × (Nat → Int32)} (C : axC X l D Y cX12_children 6 RX12 wsX12_children rmX12_children (some .int)) (hQ : axQ X 0 0 (fun r9 w9 => r9 = (some (.int res.1)) ∧ w9 = [oX12 ao res.2.1 io_rows io_cells res.2.2.1 res.2.2.2.1 res.2.2.2.2.1 res.2.2.2.2.2.1 res.2.2.2.2.2.2.1 res.2.2.2.2.2.2.2.1 res.2.2.2.2.2.2.2.2.1 io_codeLong io_readLong res.2.2.2.2.2.2.2.2.2.1 io_wentHome io_tideLevel io_acts io_firstBreaks io_bestCrew io_sights io_wayMany io_random, rI Y (ao 4) 8 res.2.2.2.2.2.2.2.2.2.2.1, rI Y (ao 5) 8 res.2.2.2.2.2.2.2.2.2.2.2.1, rI Y (ao 6) 8 res.2.2.2.2.2.2.2.2.2.2.2.2.1, rI Y (ao 8) 43 res.2.2.2.2.2.2.2.2.2.2.2.2.2.1, rI Y (ao 10) 80 co_tape, rI Y (ao 11) 36 res.2.2.2.2.2.2.2.2.2.2.2.2.2.2])) {k81 : Int32 × (Nat → Int32) × (Nat → Int32) × (Nat → Int32) × (Nat → Int32) × Int32 → Option (Int32 × Int32 × Int32 × Int32 × Int32 × Int32 × Int32 × Int32 × Int32 × Int32 × (Nat → Int32) × (Nat → Int32) × (Nat → Int32) × (Nat → Int32) × (Nat → Int32))} (hk81 : ∀ s : Int32 × (Nat → Int32) × (Nat → Int32) × (Nat → Int32) × (Nat → Int32) × Int32, k81 s = some res → ax X 0 0 81 [some (.ref (ao 0)), none, none, none, none, some (.int s.2.2.2.2.2)] [oX12 ao io_thrown io_rows io_cells s.1 io_changes io_taped io_at io_to io_nest io_readMany io_codeLong io_readLong io_undos io_wentHome io_tideLevel io_acts io_firstBreaks io_bestCrew io_sights io_wayMany io_random, rI Y (ao 4) 8 s.2.1, rI Y (ao 5) 8 s.2.2.1, rI Y (ao 6) 8 s.2.2.2.1, rI Y (ao 8) 43 s.2.2.2.2.1, rI Y (ao 10) 80 co_tape, rI Y (ao 11) 36 co_read] []) (hf : fX12_children_l81 io_thrown io_changes io_taped io_at io_to io_nest io_readMany io_undos co_tape co_read k81 io_children co_age co_skill co_friend co_now x5 = some res) : ax X 0 0 81 [some (.ref (ao 0)), none, none, none, none, some (.int x5)] [oX12 ao io_thrown io_rows io_cells io_children io_changes io_taped io_at io_to io_nest io_readMany io_codeLong io_readLong io_undos io_wentHome io_tideLevel io_acts io_firstBreaks io_bestCrew io_sights io_wayMany io_random, rI Y (ao 4) 8 co_age, rI Y (ao 5) 8 co_skill, rI Y (ao 6) 8 co_friend, rI Y (ao 8) 43 co_now, rI Y (ao 10) 80 co_tape, rI Y (ao 11) 36 co_read] [] := by
  unfold fX12_children_l81 at hf
  refine a_iload C dX12_children_81 rfl ?_
  refine a_aload_n C dX12_children_83 rfl ?_
  refine a_get C (eB_X12_197 _) dX12_children_84 0 rfl rfl ?_
  refine a_icmp_ge C 198 dX12_children_87 (by decide) (fun h2 => ?_) (fun h2 => ?_)
  · have hf := fx_t h2 hf
    refine a_kill [5] ?_
    exact kX12_children_b198 C hQ hf
  · have hf := fx_f h2 hf
    refine a_aload_n C dX12_children_90 rfl ?_
    refine a_get C (eB_X12_24 _) dX12_children_91 0 rfl rfl ?_
    refine a_aload_n C dX12_children_94 rfl ?_
    refine a_get C (eB_X12_126 _) dX12_children_95 0 rfl rfl ?_
    refine a_aload_n C dX12_children_98 rfl ?_
    refine a_get C (eB_X12_45 _) dX12_children_99 0 rfl rfl ?_
    refine a_iconst C (3 : Int32) dX12_children_102 (by decide) ?_
    refine a_iload C dX12_children_103 rfl ?_
    refine a_imul C dX12_children_105 ?_
    obtain ⟨h3, hf⟩ := fx_ite hf
    refine a_iald C dX12_children_106 6 rfl h3 ?_
    obtain ⟨h4, hf⟩ := fx_ite hf
    refine a_iast C dX12_children_107 1 rfl h4 ?_
    refine a_aload_n C dX12_children_108 rfl ?_
    refine a_get C (eB_X12_27 _) dX12_children_109 0 rfl rfl ?_
    refine a_aload_n C dX12_children_112 rfl ?_
    refine a_get C (eB_X12_126 _) dX12_children_113 0 rfl rfl ?_
    refine a_aload_n C dX12_children_116 rfl ?_
    refine a_get C (eB_X12_45 _) dX12_children_117 0 rfl rfl ?_
    refine a_iconst C (3 : Int32) dX12_children_120 (by decide) ?_
    refine a_iload C dX12_children_121 rfl ?_
    refine a_imul C dX12_children_123 ?_
    refine a_iconst C (1 : Int32) dX12_children_124 (by decide) ?_
    refine a_iadd C dX12_children_125 ?_
    obtain ⟨h5, hf⟩ := fx_ite hf
    refine a_iald C dX12_children_126 6 rfl h5 ?_
    refine a_iast C dX12_children_127 2 rfl h4 ?_
    refine a_aload_n C dX12_children_128 rfl ?_
    refine a_get C (eB_X12_30 _) dX12_children_129 0 rfl rfl ?_
    refine a_aload_n C dX12_children_132 rfl ?_
    refine a_get C (eB_X12_126 _) dX12_children_133 0 rfl rfl ?_
    refine a_aload_n C dX12_children_136 rfl ?_
    refine a_get C (eB_X12_45 _) dX12_children_137 0 rfl rfl ?_
    refine a_iconst C (3 : Int32) dX12_children_140 (by decide) ?_
    refine a_iload C dX12_children_141 rfl ?_
    refine a_imul C dX12_children_143 ?_
    refine a_iconst C (2 : Int32) dX12_children_144 (by decide) ?_
    refine a_iadd C dX12_children_145 ?_
    obtain ⟨h6, hf⟩ := fx_ite hf
    refine a_iald C dX12_children_146 6 rfl h6 ?_
    refine a_iast C dX12_children_147 3 rfl h4 ?_
    refine a_aload_n C dX12_children_148 rfl ?_
    refine a_get C (eB_X12_36 _) dX12_children_149 0 rfl rfl ?_
    refine a_bipush C (25 : Int32) dX12_children_152 (by decide) ?_
    refine a_iconst C (2 : Int32) dX12_children_154 (by decide) ?_
    refine a_aload_n C dX12_children_155 rfl ?_
    refine a_get C (eB_X12_126 _) dX12_children_156 0 rfl rfl ?_
    refine a_imul C dX12_children_159 ?_
    refine a_iadd C dX12_children_160 ?_
    refine a_iconst C (0 : Int32) dX12_children_161 (by decide) ?_
    refine a_iadd C dX12_children_162 ?_
    refine a_iconst C (-1 : Int32) dX12_children_163 (by decide) ?_
    obtain ⟨h7, hf⟩ := fx_ite hf
    refine a_iast C dX12_children_164 4 rfl h7 ?_
    refine a_aload_n C dX12_children_165 rfl ?_
    refine a_get C (eB_X12_36 _) dX12_children_166 0 rfl rfl ?_
    refine a_bipush C (25 : Int32) dX12_children_169 (by decide) ?_
    refine a_iconst C (2 : Int32) dX12_children_171 (by decide) ?_
    refine a_aload_n C dX12_children_172 rfl ?_
    refine a_get C (eB_X12_126 _) dX12_children_173 0 rfl rfl ?_
    refine a_imul C dX12_children_176 ?_
    refine a_iadd C dX12_children_177 ?_
    refine a_iconst C (1 : Int32) dX12_children_178 (by decide) ?_
    refine a_iadd C dX12_children_179 ?_
    refine a_iconst C (5 : Int32) dX12_children_180 (by decide) ?_
    obtain ⟨h8, hf⟩ := fx_ite hf
    refine a_iast C dX12_children_181 4 rfl h8 ?_
    refine a_aload_n C dX12_children_182 rfl ?_
    refine a_dup C dX12_children_183 rfl ?_
    refine a_get C (eB_X12_126 _) dX12_children_184 0 rfl rfl ?_
    refine a_iconst C (1 : Int32) dX12_children_187 (by decide) ?_
    refine a_iadd C dX12_children_188 ?_
    refine a_put C (eB_X12_126 _) tfX12_4 dX12_children_189 0 rfl rfl rfl (Nat.le_of_ble_eq_true rfl) ?_
    refine a_iinc C (1 : Int32) dX12_children_192 (by decide) rfl (by decide) rfl ?_
    refine a_goto C 81 dX12_children_195 (by decide) ?_
    exact hk81 ((io_children + (1 : Int32)), (upd co_age (Int32.toNatClampNeg io_children) (co_read (Int32.toNatClampNeg ((3 : Int32) * x5)))), (upd co_skill (Int32.toNatClampNeg io_children) (co_read (Int32.toNatClampNeg (((3 : Int32) * x5) + (1 : Int32))))), (upd co_friend (Int32.toNatClampNeg io_children) (co_read (Int32.toNatClampNeg (((3 : Int32) * x5) + (2 : Int32))))), (upd (upd co_now (Int32.toNatClampNeg (((25 : Int32) + ((2 : Int32) * io_children)) + (0 : Int32))) (-1 : Int32)) (Int32.toNatClampNeg (((25 : Int32) + ((2 : Int32) * io_children)) + (1 : Int32))) (5 : Int32)), (x5 + (1 : Int32))) hf
set_option maxHeartbeats 400000 in
set_option maxRecDepth 100000 in
theorem kX12_children_b81 {X : cxT} {l : Launch} {D : va_G} {Y : Nat → ClassId} {ao : Nat → Nat} {io_thrown : Int32} {io_rows : Int32} {io_cells : Int32} {io_children : Int32} {io_changes : Int32} {io_taped : Int32} {io_at : Int32} {io_to : Int32} {io_nest : Int32} {io_readMany : Int32} {io_codeLong : Int32} {io_readLong : Int32} {io_undos : Int32} {io_wentHome : Int32} {io_tideLevel : Int32} {io_acts : Int32} {io_firstBreaks : Int32} {io_bestCrew : Int32} {io_sights : Int32} {io_wayMany : Int32} {io_random : Int32} {co_age : Nat → Int32} {co_skill : Nat → Int32} {co_friend : Nat → Int32} {co_now : Nat → Int32} {co_tape : Nat → Int32} {co_read : Nat → Int32} {x5 : Int32} {res : Int32 × Int32 × Int32 × Int32 × Int32 × Int32 × Int32 × Int32 × Int32 × Int32 × (Nat → Int32) × (Nat → Int32) × (Nat → Int32) × (Nat → Int32) × (Nat → Int32)} (C : axC X l D Y cX12_children 6 RX12 wsX12_children rmX12_children (some .int)) (hQ : axQ X 0 0 (fun r9 w9 => r9 = (some (.int res.1)) ∧ w9 = [oX12 ao res.2.1 io_rows io_cells res.2.2.1 res.2.2.2.1 res.2.2.2.2.1 res.2.2.2.2.2.1 res.2.2.2.2.2.2.1 res.2.2.2.2.2.2.2.1 res.2.2.2.2.2.2.2.2.1 io_codeLong io_readLong res.2.2.2.2.2.2.2.2.2.1 io_wentHome io_tideLevel io_acts io_firstBreaks io_bestCrew io_sights io_wayMany io_random, rI Y (ao 4) 8 res.2.2.2.2.2.2.2.2.2.2.1, rI Y (ao 5) 8 res.2.2.2.2.2.2.2.2.2.2.2.1, rI Y (ao 6) 8 res.2.2.2.2.2.2.2.2.2.2.2.2.1, rI Y (ao 8) 43 res.2.2.2.2.2.2.2.2.2.2.2.2.2.1, rI Y (ao 10) 80 co_tape, rI Y (ao 11) 36 res.2.2.2.2.2.2.2.2.2.2.2.2.2.2])) (hf : fX12_children_b81 io_thrown io_children io_changes io_taped io_at io_to io_nest io_readMany io_undos co_age co_skill co_friend co_now co_tape co_read x5 = some res) : ax X 0 0 81 [some (.ref (ao 0)), none, none, none, none, some (.int x5)] [oX12 ao io_thrown io_rows io_cells io_children io_changes io_taped io_at io_to io_nest io_readMany io_codeLong io_readLong io_undos io_wentHome io_tideLevel io_acts io_firstBreaks io_bestCrew io_sights io_wayMany io_random, rI Y (ao 4) 8 co_age, rI Y (ao 5) 8 co_skill, rI Y (ao 6) 8 co_friend, rI Y (ao 8) 43 co_now, rI Y (ao 10) 80 co_tape, rI Y (ao 11) 36 co_read] [] := by
  unfold fX12_children_b81 at hf
  exact fx_loop (P := fun s : Int32 × (Nat → Int32) × (Nat → Int32) × (Nat → Int32) × (Nat → Int32) × Int32 => ax X 0 0 81 [some (.ref (ao 0)), none, none, none, none, some (.int s.2.2.2.2.2)] [oX12 ao io_thrown io_rows io_cells s.1 io_changes io_taped io_at io_to io_nest io_readMany io_codeLong io_readLong io_undos io_wentHome io_tideLevel io_acts io_firstBreaks io_bestCrew io_sights io_wayMany io_random, rI Y (ao 4) 8 s.2.1, rI Y (ao 5) 8 s.2.2.1, rI Y (ao 6) 8 s.2.2.2.1, rI Y (ao 8) 43 s.2.2.2.2.1, rI Y (ao 10) 80 co_tape, rI Y (ao 11) 36 co_read] []) (fun s k81 hk81 h => kX12_children_l81 C hQ hk81 h) FUEL (io_children, co_age, co_skill, co_friend, co_now, x5) hf
def fX12_children_b60 (io_thrown : Int32) (io_children : Int32) (io_changes : Int32) (io_taped : Int32) (io_at : Int32) (io_to : Int32) (io_nest : Int32) (io_readMany : Int32) (io_undos : Int32) (co_age : Nat → Int32) (co_skill : Nat → Int32) (co_friend : Nat → Int32) (co_now : Nat → Int32) (co_tape : Nat → Int32) (co_read : Nat → Int32) (x1 : Int32) (x2 : Int32) : Option (Int32 × Int32 × Int32 × Int32 × Int32 × Int32 × Int32 × Int32 × Int32 × Int32 × (Nat → Int32) × (Nat → Int32) × (Nat → Int32) × (Nat → Int32) × (Nat → Int32)) :=
  (fX12_faultOf io_at io_to x1 (47 : Int32) x2).bind (fun r9 => if (0 : Int32) ≤ r9 then (fX12_children_b81 io_thrown io_children io_changes io_taped io_at io_to io_nest io_readMany io_undos co_age co_skill co_friend co_now co_tape co_read (0 : Int32)) else (some (r9, io_thrown, io_children, io_changes, io_taped, io_at, io_to, io_nest, io_readMany, io_undos, co_age, co_skill, co_friend, co_now, co_read)))
set_option maxHeartbeats 400000 in
set_option maxRecDepth 100000 in
theorem kX12_children_b60 {X : cxT} {l : Launch} {D : va_G} {Y : Nat → ClassId} {ao : Nat → Nat} {io_thrown : Int32} {io_rows : Int32} {io_cells : Int32} {io_children : Int32} {io_changes : Int32} {io_taped : Int32} {io_at : Int32} {io_to : Int32} {io_nest : Int32} {io_readMany : Int32} {io_codeLong : Int32} {io_readLong : Int32} {io_undos : Int32} {io_wentHome : Int32} {io_tideLevel : Int32} {io_acts : Int32} {io_firstBreaks : Int32} {io_bestCrew : Int32} {io_sights : Int32} {io_wayMany : Int32} {io_random : Int32} {co_age : Nat → Int32} {co_skill : Nat → Int32} {co_friend : Nat → Int32} {co_now : Nat → Int32} {co_tape : Nat → Int32} {co_read : Nat → Int32} {x1 : Int32} {x2 : Int32} {res : Int32 × Int32 × Int32 × Int32 × Int32 × Int32 × Int32 × Int32 × Int32 × Int32 × (Nat → Int32) × (Nat → Int32) × (Nat → Int32) × (Nat → Int32) × (Nat → Int32)} (C : axC X l D Y cX12_children 6 RX12 wsX12_children rmX12_children (some .int)) (hQ : axQ X 0 0 (fun r9 w9 => r9 = (some (.int res.1)) ∧ w9 = [oX12 ao res.2.1 io_rows io_cells res.2.2.1 res.2.2.2.1 res.2.2.2.2.1 res.2.2.2.2.2.1 res.2.2.2.2.2.2.1 res.2.2.2.2.2.2.2.1 res.2.2.2.2.2.2.2.2.1 io_codeLong io_readLong res.2.2.2.2.2.2.2.2.2.1 io_wentHome io_tideLevel io_acts io_firstBreaks io_bestCrew io_sights io_wayMany io_random, rI Y (ao 4) 8 res.2.2.2.2.2.2.2.2.2.2.1, rI Y (ao 5) 8 res.2.2.2.2.2.2.2.2.2.2.2.1, rI Y (ao 6) 8 res.2.2.2.2.2.2.2.2.2.2.2.2.1, rI Y (ao 8) 43 res.2.2.2.2.2.2.2.2.2.2.2.2.2.1, rI Y (ao 10) 80 co_tape, rI Y (ao 11) 36 res.2.2.2.2.2.2.2.2.2.2.2.2.2.2])) (hf : fX12_children_b60 io_thrown io_children io_changes io_taped io_at io_to io_nest io_readMany io_undos co_age co_skill co_friend co_now co_tape co_read x1 x2 = some res) : ax X 0 0 60 [some (.ref (ao 0)), some (.int x1), some (.int x2), none, none, none] [oX12 ao io_thrown io_rows io_cells io_children io_changes io_taped io_at io_to io_nest io_readMany io_codeLong io_readLong io_undos io_wentHome io_tideLevel io_acts io_firstBreaks io_bestCrew io_sights io_wayMany io_random, rI Y (ao 4) 8 co_age, rI Y (ao 5) 8 co_skill, rI Y (ao 6) 8 co_friend, rI Y (ao 8) 43 co_now, rI Y (ao 10) 80 co_tape, rI Y (ao 11) 36 co_read] [] := by
  unfold fX12_children_b60 at hf
  refine a_aload_n C dX12_children_60 rfl ?_
  refine a_iload_n C dX12_children_61 rfl ?_
  refine a_bipush C (47 : Int32) dX12_children_62 (by decide) ?_
  refine a_iload_n C dX12_children_64 rfl ?_
  obtain ⟨r9, h9, hf⟩ := fx_bind hf
  refine a_fV C (kX12_faultOf l D Y ao io_thrown io_rows io_cells io_children io_changes io_taped io_at io_to io_nest io_readMany io_codeLong io_readLong io_undos io_wentHome io_tideLevel io_acts io_firstBreaks io_bestCrew io_sights io_wayMany io_random x1 (47 : Int32) x2 r9 h9) (gB_X12_210 _) rfl dvX12_faultOf ⟨⟨rfl, rfl⟩, ⟨Nat.le_of_ble_eq_true rfl, Nat.le_of_ble_eq_true rfl⟩, ⟨Nat.le_of_ble_eq_true rfl, Nat.le_of_ble_eq_true rfl⟩⟩ rfl (Nat.le_of_ble_eq_true rfl) dX12_children_65 rfl rfl [0] [1, 2, 3, 4, 5, 6] ⟨rfl, trivial⟩ (by decide +kernel) rfl [oX12 ao io_thrown io_rows io_cells io_children io_changes io_taped io_at io_to io_nest io_readMany io_codeLong io_readLong io_undos io_wentHome io_tideLevel io_acts io_firstBreaks io_bestCrew io_sights io_wayMany io_random, rI Y (ao 4) 8 co_age, rI Y (ao 5) 8 co_skill, rI Y (ao 6) 8 co_friend, rI Y (ao 8) 43 co_now, rI Y (ao 10) 80 co_tape, rI Y (ao 11) 36 co_read] ⟨rfl, trivial⟩ ⟨rfl, rfl, rfl, rfl, rfl, rfl, trivial⟩ 7 rfl (by decide +kernel) ?_
  refine a_istore C dX12_children_68 (by decide) rfl ?_
  refine a_iload C dX12_children_70 rfl ?_
  refine a_if_ge C 78 dX12_children_72 (by decide) (fun h10 => ?_) (fun h10 => ?_)
  · have hf := fx_t h10 hf
    refine a_iconst C (0 : Int32) dX12_children_78 (by decide) ?_
    refine a_istore C dX12_children_79 (by decide) rfl ?_
    refine a_kill [1, 2, 4] ?_
    exact kX12_children_b81 C hQ hf
  · have hf := fx_f h10 hf
    refine a_iload C dX12_children_75 rfl ?_
    obtain rfl := fx_some hf
    exact a_iret C hQ dX12_children_77 ⟨rfl, rfl⟩
def fX12_children_b56 (io_thrown : Int32) (io_children : Int32) (io_changes : Int32) (io_taped : Int32) (io_at : Int32) (io_to : Int32) (io_nest : Int32) (io_readMany : Int32) (io_undos : Int32) (co_age : Nat → Int32) (co_skill : Nat → Int32) (co_friend : Nat → Int32) (co_now : Nat → Int32) (co_tape : Nat → Int32) (co_read : Nat → Int32) (x1 : Int32) (x2 : Int32) (s0 : Int32) (k29 : Int32 × Int32 × (Nat → Int32) × Int32 × Int32 → Option (Int32 × Int32 × Int32 × Int32 × Int32 × Int32 × Int32 × Int32 × Int32 × Int32 × (Nat → Int32) × (Nat → Int32) × (Nat → Int32) × (Nat → Int32) × (Nat → Int32))) : Option (Int32 × Int32 × Int32 × Int32 × Int32 × Int32 × Int32 × Int32 × Int32 × Int32 × (Nat → Int32) × (Nat → Int32) × (Nat → Int32) × (Nat → Int32) × (Nat → Int32)) :=
  k29 (io_at, io_readMany, co_read, x2, s0)
set_option maxHeartbeats 400000 in
set_option maxRecDepth 100000 in
theorem kX12_children_b56 {X : cxT} {l : Launch} {D : va_G} {Y : Nat → ClassId} {ao : Nat → Nat} {io_thrown : Int32} {io_rows : Int32} {io_cells : Int32} {io_children : Int32} {io_changes : Int32} {io_taped : Int32} {io_at : Int32} {io_to : Int32} {io_nest : Int32} {io_readMany : Int32} {io_codeLong : Int32} {io_readLong : Int32} {io_undos : Int32} {io_wentHome : Int32} {io_tideLevel : Int32} {io_acts : Int32} {io_firstBreaks : Int32} {io_bestCrew : Int32} {io_sights : Int32} {io_wayMany : Int32} {io_random : Int32} {co_age : Nat → Int32} {co_skill : Nat → Int32} {co_friend : Nat → Int32} {co_now : Nat → Int32} {co_tape : Nat → Int32} {co_read : Nat → Int32} {x1 : Int32} {x2 : Int32} {s0 : Int32} {res : Int32 × Int32 × Int32 × Int32 × Int32 × Int32 × Int32 × Int32 × Int32 × Int32 × (Nat → Int32) × (Nat → Int32) × (Nat → Int32) × (Nat → Int32) × (Nat → Int32)} (C : axC X l D Y cX12_children 6 RX12 wsX12_children rmX12_children (some .int)) (hQ : axQ X 0 0 (fun r9 w9 => r9 = (some (.int res.1)) ∧ w9 = [oX12 ao res.2.1 io_rows io_cells res.2.2.1 res.2.2.2.1 res.2.2.2.2.1 res.2.2.2.2.2.1 res.2.2.2.2.2.2.1 res.2.2.2.2.2.2.2.1 res.2.2.2.2.2.2.2.2.1 io_codeLong io_readLong res.2.2.2.2.2.2.2.2.2.1 io_wentHome io_tideLevel io_acts io_firstBreaks io_bestCrew io_sights io_wayMany io_random, rI Y (ao 4) 8 res.2.2.2.2.2.2.2.2.2.2.1, rI Y (ao 5) 8 res.2.2.2.2.2.2.2.2.2.2.2.1, rI Y (ao 6) 8 res.2.2.2.2.2.2.2.2.2.2.2.2.1, rI Y (ao 8) 43 res.2.2.2.2.2.2.2.2.2.2.2.2.2.1, rI Y (ao 10) 80 co_tape, rI Y (ao 11) 36 res.2.2.2.2.2.2.2.2.2.2.2.2.2.2])) {k29 : Int32 × Int32 × (Nat → Int32) × Int32 × Int32 → Option (Int32 × Int32 × Int32 × Int32 × Int32 × Int32 × Int32 × Int32 × Int32 × Int32 × (Nat → Int32) × (Nat → Int32) × (Nat → Int32) × (Nat → Int32) × (Nat → Int32))} (hk29 : ∀ s : Int32 × Int32 × (Nat → Int32) × Int32 × Int32, k29 s = some res → ax X 0 0 29 [some (.ref (ao 0)), some (.int x1), some (.int s.2.2.2.1), some (.int s.2.2.2.2), none, none] [oX12 ao io_thrown io_rows io_cells io_children io_changes io_taped s.1 io_to io_nest s.2.1 io_codeLong io_readLong io_undos io_wentHome io_tideLevel io_acts io_firstBreaks io_bestCrew io_sights io_wayMany io_random, rI Y (ao 4) 8 co_age, rI Y (ao 5) 8 co_skill, rI Y (ao 6) 8 co_friend, rI Y (ao 8) 43 co_now, rI Y (ao 10) 80 co_tape, rI Y (ao 11) 36 s.2.2.1] []) (hf : fX12_children_b56 io_thrown io_children io_changes io_taped io_at io_to io_nest io_readMany io_undos co_age co_skill co_friend co_now co_tape co_read x1 x2 s0 k29 = some res) : ax X 0 0 56 [some (.ref (ao 0)), some (.int x1), some (.int x2), none, none, none] [oX12 ao io_thrown io_rows io_cells io_children io_changes io_taped io_at io_to io_nest io_readMany io_codeLong io_readLong io_undos io_wentHome io_tideLevel io_acts io_firstBreaks io_bestCrew io_sights io_wayMany io_random, rI Y (ao 4) 8 co_age, rI Y (ao 5) 8 co_skill, rI Y (ao 6) 8 co_friend, rI Y (ao 8) 43 co_now, rI Y (ao 10) 80 co_tape, rI Y (ao 11) 36 co_read] [.int s0] := by
  unfold fX12_children_b56 at hf
  refine a_istore_n C dX12_children_56 (by decide) rfl ?_
  refine a_goto C 29 dX12_children_57 (by decide) ?_
  exact hk29 (io_at, io_readMany, co_read, x2, s0) hf
def fX12_children_b55 (io_thrown : Int32) (io_children : Int32) (io_changes : Int32) (io_taped : Int32) (io_at : Int32) (io_to : Int32) (io_nest : Int32) (io_readMany : Int32) (io_undos : Int32) (co_age : Nat → Int32) (co_skill : Nat → Int32) (co_friend : Nat → Int32) (co_now : Nat → Int32) (co_tape : Nat → Int32) (co_read : Nat → Int32) (x1 : Int32) (x2 : Int32) (k29 : Int32 × Int32 × (Nat → Int32) × Int32 × Int32 → Option (Int32 × Int32 × Int32 × Int32 × Int32 × Int32 × Int32 × Int32 × Int32 × Int32 × (Nat → Int32) × (Nat → Int32) × (Nat → Int32) × (Nat → Int32) × (Nat → Int32))) : Option (Int32 × Int32 × Int32 × Int32 × Int32 × Int32 × Int32 × Int32 × Int32 × Int32 × (Nat → Int32) × (Nat → Int32) × (Nat → Int32) × (Nat → Int32) × (Nat → Int32)) :=
  fX12_children_b56 io_thrown io_children io_changes io_taped io_at io_to io_nest io_readMany io_undos co_age co_skill co_friend co_now co_tape co_read x1 x2 (0 : Int32) k29
set_option maxHeartbeats 400000 in
set_option maxRecDepth 100000 in
theorem kX12_children_b55 {X : cxT} {l : Launch} {D : va_G} {Y : Nat → ClassId} {ao : Nat → Nat} {io_thrown : Int32} {io_rows : Int32} {io_cells : Int32} {io_children : Int32} {io_changes : Int32} {io_taped : Int32} {io_at : Int32} {io_to : Int32} {io_nest : Int32} {io_readMany : Int32} {io_codeLong : Int32} {io_readLong : Int32} {io_undos : Int32} {io_wentHome : Int32} {io_tideLevel : Int32} {io_acts : Int32} {io_firstBreaks : Int32} {io_bestCrew : Int32} {io_sights : Int32} {io_wayMany : Int32} {io_random : Int32} {co_age : Nat → Int32} {co_skill : Nat → Int32} {co_friend : Nat → Int32} {co_now : Nat → Int32} {co_tape : Nat → Int32} {co_read : Nat → Int32} {x1 : Int32} {x2 : Int32} {res : Int32 × Int32 × Int32 × Int32 × Int32 × Int32 × Int32 × Int32 × Int32 × Int32 × (Nat → Int32) × (Nat → Int32) × (Nat → Int32) × (Nat → Int32) × (Nat → Int32)} (C : axC X l D Y cX12_children 6 RX12 wsX12_children rmX12_children (some .int)) (hQ : axQ X 0 0 (fun r9 w9 => r9 = (some (.int res.1)) ∧ w9 = [oX12 ao res.2.1 io_rows io_cells res.2.2.1 res.2.2.2.1 res.2.2.2.2.1 res.2.2.2.2.2.1 res.2.2.2.2.2.2.1 res.2.2.2.2.2.2.2.1 res.2.2.2.2.2.2.2.2.1 io_codeLong io_readLong res.2.2.2.2.2.2.2.2.2.1 io_wentHome io_tideLevel io_acts io_firstBreaks io_bestCrew io_sights io_wayMany io_random, rI Y (ao 4) 8 res.2.2.2.2.2.2.2.2.2.2.1, rI Y (ao 5) 8 res.2.2.2.2.2.2.2.2.2.2.2.1, rI Y (ao 6) 8 res.2.2.2.2.2.2.2.2.2.2.2.2.1, rI Y (ao 8) 43 res.2.2.2.2.2.2.2.2.2.2.2.2.2.1, rI Y (ao 10) 80 co_tape, rI Y (ao 11) 36 res.2.2.2.2.2.2.2.2.2.2.2.2.2.2])) {k29 : Int32 × Int32 × (Nat → Int32) × Int32 × Int32 → Option (Int32 × Int32 × Int32 × Int32 × Int32 × Int32 × Int32 × Int32 × Int32 × Int32 × (Nat → Int32) × (Nat → Int32) × (Nat → Int32) × (Nat → Int32) × (Nat → Int32))} (hk29 : ∀ s : Int32 × Int32 × (Nat → Int32) × Int32 × Int32, k29 s = some res → ax X 0 0 29 [some (.ref (ao 0)), some (.int x1), some (.int s.2.2.2.1), some (.int s.2.2.2.2), none, none] [oX12 ao io_thrown io_rows io_cells io_children io_changes io_taped s.1 io_to io_nest s.2.1 io_codeLong io_readLong io_undos io_wentHome io_tideLevel io_acts io_firstBreaks io_bestCrew io_sights io_wayMany io_random, rI Y (ao 4) 8 co_age, rI Y (ao 5) 8 co_skill, rI Y (ao 6) 8 co_friend, rI Y (ao 8) 43 co_now, rI Y (ao 10) 80 co_tape, rI Y (ao 11) 36 s.2.2.1] []) (hf : fX12_children_b55 io_thrown io_children io_changes io_taped io_at io_to io_nest io_readMany io_undos co_age co_skill co_friend co_now co_tape co_read x1 x2 k29 = some res) : ax X 0 0 55 [some (.ref (ao 0)), some (.int x1), some (.int x2), none, none, none] [oX12 ao io_thrown io_rows io_cells io_children io_changes io_taped io_at io_to io_nest io_readMany io_codeLong io_readLong io_undos io_wentHome io_tideLevel io_acts io_firstBreaks io_bestCrew io_sights io_wayMany io_random, rI Y (ao 4) 8 co_age, rI Y (ao 5) 8 co_skill, rI Y (ao 6) 8 co_friend, rI Y (ao 8) 43 co_now, rI Y (ao 10) 80 co_tape, rI Y (ao 11) 36 co_read] [] := by
  unfold fX12_children_b55 at hf
  refine a_iconst C (0 : Int32) dX12_children_55 (by decide) ?_
  exact kX12_children_b56 C hQ hk29 hf
def fX12_children_l29 (io_thrown : Int32) (io_children : Int32) (io_changes : Int32) (io_taped : Int32) (io_to : Int32) (io_nest : Int32) (io_undos : Int32) (co_age : Nat → Int32) (co_skill : Nat → Int32) (co_friend : Nat → Int32) (co_now : Nat → Int32) (co_tape : Nat → Int32) (x1 : Int32) (k29 : Int32 × Int32 × (Nat → Int32) × Int32 × Int32 → Option (Int32 × Int32 × Int32 × Int32 × Int32 × Int32 × Int32 × Int32 × Int32 × Int32 × (Nat → Int32) × (Nat → Int32) × (Nat → Int32) × (Nat → Int32) × (Nat → Int32))) (io_at : Int32) (io_readMany : Int32) (co_read : Nat → Int32) (x2 : Int32) (x3 : Int32) : Option (Int32 × Int32 × Int32 × Int32 × Int32 × Int32 × Int32 × Int32 × Int32 × Int32 × (Nat → Int32) × (Nat → Int32) × (Nat → Int32) × (Nat → Int32) × (Nat → Int32)) :=
  if x3 = (0 : Int32) then (fX12_children_b60 io_thrown io_children io_changes io_taped io_at io_to io_nest io_readMany io_undos co_age co_skill co_friend co_now co_tape co_read x1 x2) else ((fX12_readsChild io_children io_at io_to io_readMany co_tape co_read).bind (fun r12 => if r12.1 = (0 : Int32) then (fX12_children_b55 io_thrown io_children io_changes io_taped r12.2.1 io_to io_nest r12.2.2.1 io_undos co_age co_skill co_friend co_now co_tape r12.2.2.2 x1 r12.1 k29) else ((fX12_takes r12.2.1 io_to co_tape (59 : Int32)).bind (fun r14 => if r14.1 = (0 : Int32) then (fX12_children_b55 io_thrown io_children io_changes io_taped r14.2 io_to io_nest r12.2.2.1 io_undos co_age co_skill co_friend co_now co_tape r12.2.2.2 x1 r12.1 k29) else (fX12_children_b56 io_thrown io_children io_changes io_taped r14.2 io_to io_nest r12.2.2.1 io_undos co_age co_skill co_friend co_now co_tape r12.2.2.2 x1 r12.1 (1 : Int32) k29)))))
def fX12_children_b29 (io_thrown : Int32) (io_children : Int32) (io_changes : Int32) (io_taped : Int32) (io_at : Int32) (io_to : Int32) (io_nest : Int32) (io_readMany : Int32) (io_undos : Int32) (co_age : Nat → Int32) (co_skill : Nat → Int32) (co_friend : Nat → Int32) (co_now : Nat → Int32) (co_tape : Nat → Int32) (co_read : Nat → Int32) (x1 : Int32) (x2 : Int32) (x3 : Int32) : Option (Int32 × Int32 × Int32 × Int32 × Int32 × Int32 × Int32 × Int32 × Int32 × Int32 × (Nat → Int32) × (Nat → Int32) × (Nat → Int32) × (Nat → Int32) × (Nat → Int32)) :=
  loopN (fun (s : Int32 × Int32 × (Nat → Int32) × Int32 × Int32) k29 => fX12_children_l29 io_thrown io_children io_changes io_taped io_to io_nest io_undos co_age co_skill co_friend co_now co_tape x1 k29 s.1 s.2.1 s.2.2.1 s.2.2.2.1 s.2.2.2.2) FUEL (io_at, io_readMany, co_read, x2, x3)
set_option maxHeartbeats 400000 in
set_option maxRecDepth 100000 in
theorem kX12_children_l29 {X : cxT} {l : Launch} {D : va_G} {Y : Nat → ClassId} {ao : Nat → Nat} {io_thrown : Int32} {io_rows : Int32} {io_cells : Int32} {io_children : Int32} {io_changes : Int32} {io_taped : Int32} {io_at : Int32} {io_to : Int32} {io_nest : Int32} {io_readMany : Int32} {io_codeLong : Int32} {io_readLong : Int32} {io_undos : Int32} {io_wentHome : Int32} {io_tideLevel : Int32} {io_acts : Int32} {io_firstBreaks : Int32} {io_bestCrew : Int32} {io_sights : Int32} {io_wayMany : Int32} {io_random : Int32} {co_age : Nat → Int32} {co_skill : Nat → Int32} {co_friend : Nat → Int32} {co_now : Nat → Int32} {co_tape : Nat → Int32} {co_read : Nat → Int32} {x1 : Int32} {x2 : Int32} {x3 : Int32} {res : Int32 × Int32 × Int32 × Int32 × Int32 × Int32 × Int32 × Int32 × Int32 × Int32 × (Nat → Int32) × (Nat → Int32) × (Nat → Int32) × (Nat → Int32) × (Nat → Int32)} (C : axC X l D Y cX12_children 6 RX12 wsX12_children rmX12_children (some .int)) (hQ : axQ X 0 0 (fun r9 w9 => r9 = (some (.int res.1)) ∧ w9 = [oX12 ao res.2.1 io_rows io_cells res.2.2.1 res.2.2.2.1 res.2.2.2.2.1 res.2.2.2.2.2.1 res.2.2.2.2.2.2.1 res.2.2.2.2.2.2.2.1 res.2.2.2.2.2.2.2.2.1 io_codeLong io_readLong res.2.2.2.2.2.2.2.2.2.1 io_wentHome io_tideLevel io_acts io_firstBreaks io_bestCrew io_sights io_wayMany io_random, rI Y (ao 4) 8 res.2.2.2.2.2.2.2.2.2.2.1, rI Y (ao 5) 8 res.2.2.2.2.2.2.2.2.2.2.2.1, rI Y (ao 6) 8 res.2.2.2.2.2.2.2.2.2.2.2.2.1, rI Y (ao 8) 43 res.2.2.2.2.2.2.2.2.2.2.2.2.2.1, rI Y (ao 10) 80 co_tape, rI Y (ao 11) 36 res.2.2.2.2.2.2.2.2.2.2.2.2.2.2])) {k29 : Int32 × Int32 × (Nat → Int32) × Int32 × Int32 → Option (Int32 × Int32 × Int32 × Int32 × Int32 × Int32 × Int32 × Int32 × Int32 × Int32 × (Nat → Int32) × (Nat → Int32) × (Nat → Int32) × (Nat → Int32) × (Nat → Int32))} (hk29 : ∀ s : Int32 × Int32 × (Nat → Int32) × Int32 × Int32, k29 s = some res → ax X 0 0 29 [some (.ref (ao 0)), some (.int x1), some (.int s.2.2.2.1), some (.int s.2.2.2.2), none, none] [oX12 ao io_thrown io_rows io_cells io_children io_changes io_taped s.1 io_to io_nest s.2.1 io_codeLong io_readLong io_undos io_wentHome io_tideLevel io_acts io_firstBreaks io_bestCrew io_sights io_wayMany io_random, rI Y (ao 4) 8 co_age, rI Y (ao 5) 8 co_skill, rI Y (ao 6) 8 co_friend, rI Y (ao 8) 43 co_now, rI Y (ao 10) 80 co_tape, rI Y (ao 11) 36 s.2.2.1] []) (hf : fX12_children_l29 io_thrown io_children io_changes io_taped io_to io_nest io_undos co_age co_skill co_friend co_now co_tape x1 k29 io_at io_readMany co_read x2 x3 = some res) : ax X 0 0 29 [some (.ref (ao 0)), some (.int x1), some (.int x2), some (.int x3), none, none] [oX12 ao io_thrown io_rows io_cells io_children io_changes io_taped io_at io_to io_nest io_readMany io_codeLong io_readLong io_undos io_wentHome io_tideLevel io_acts io_firstBreaks io_bestCrew io_sights io_wayMany io_random, rI Y (ao 4) 8 co_age, rI Y (ao 5) 8 co_skill, rI Y (ao 6) 8 co_friend, rI Y (ao 8) 43 co_now, rI Y (ao 10) 80 co_tape, rI Y (ao 11) 36 co_read] [] := by
  unfold fX12_children_l29 at hf
  refine a_iload_n C dX12_children_29 rfl ?_
  refine a_if_eq C 60 dX12_children_30 (by decide) (fun h11 => ?_) (fun h11 => ?_)
  · have hf := fx_t h11 hf
    refine a_kill [3] ?_
    exact kX12_children_b60 C hQ hf
  · have hf := fx_f h11 hf
    refine a_aload_n C dX12_children_33 rfl ?_
    obtain ⟨r12, h12, hf⟩ := fx_bind hf
    refine a_fV C (kX12_readsChild l D Y ao io_thrown io_rows io_cells io_children io_changes io_taped io_at io_to io_nest io_readMany io_codeLong io_readLong io_undos io_wentHome io_tideLevel io_acts io_firstBreaks io_bestCrew io_sights io_wayMany io_random co_tape co_read r12 h12) (gB_X12_207 _) rfl dvX12_readsChild ⟨⟨rfl, rfl⟩, ⟨Nat.le_of_ble_eq_true rfl, Nat.le_of_ble_eq_true rfl⟩, ⟨Nat.le_of_ble_eq_true rfl, Nat.le_of_ble_eq_true rfl⟩⟩ rfl (Nat.le_of_ble_eq_true rfl) dX12_children_34 rfl rfl [0, 5, 6] [1, 2, 3, 4] ⟨rfl, rfl, rfl, trivial⟩ (by decide +kernel) rfl [oX12 ao io_thrown io_rows io_cells io_children io_changes io_taped r12.2.1 io_to io_nest r12.2.2.1 io_codeLong io_readLong io_undos io_wentHome io_tideLevel io_acts io_firstBreaks io_bestCrew io_sights io_wayMany io_random, rI Y (ao 4) 8 co_age, rI Y (ao 5) 8 co_skill, rI Y (ao 6) 8 co_friend, rI Y (ao 8) 43 co_now, rI Y (ao 10) 80 co_tape, rI Y (ao 11) 36 r12.2.2.2] ⟨rfl, rfl, rfl, trivial⟩ ⟨rfl, rfl, rfl, rfl, trivial⟩ 7 rfl (by decide +kernel) ?_
    refine a_istore_n C dX12_children_37 (by decide) rfl ?_
    refine a_iload_n C dX12_children_38 rfl ?_
    refine a_if_eq C 55 dX12_children_39 (by decide) (fun h13 => ?_) (fun h13 => ?_)
    · have hf := fx_t h13 hf
      refine a_kill [3] ?_
      exact kX12_children_b55 C hQ hk29 hf
    · have hf := fx_f h13 hf
      refine a_aload_n C dX12_children_42 rfl ?_
      refine a_bipush C (59 : Int32) dX12_children_43 (by decide) ?_
      obtain ⟨r14, h14, hf⟩ := fx_bind hf
      refine a_fV C (kX12_takes l D Y ao io_thrown io_rows io_cells io_children io_changes io_taped r12.2.1 io_to io_nest r12.2.2.1 io_codeLong io_readLong io_undos io_wentHome io_tideLevel io_acts io_firstBreaks io_bestCrew io_sights io_wayMany io_random co_tape (59 : Int32) r14 h14) (gB_X12_184 _) rfl dvX12_takes ⟨⟨rfl, rfl⟩, ⟨Nat.le_of_ble_eq_true rfl, Nat.le_of_ble_eq_true rfl⟩, ⟨Nat.le_of_ble_eq_true rfl, Nat.le_of_ble_eq_true rfl⟩⟩ rfl (Nat.le_of_ble_eq_true rfl) dX12_children_45 rfl rfl [0, 5] [1, 2, 3, 4, 6] ⟨rfl, rfl, trivial⟩ (by decide +kernel) rfl [oX12 ao io_thrown io_rows io_cells io_children io_changes io_taped r14.2 io_to io_nest r12.2.2.1 io_codeLong io_readLong io_undos io_wentHome io_tideLevel io_acts io_firstBreaks io_bestCrew io_sights io_wayMany io_random, rI Y (ao 4) 8 co_age, rI Y (ao 5) 8 co_skill, rI Y (ao 6) 8 co_friend, rI Y (ao 8) 43 co_now, rI Y (ao 10) 80 co_tape, rI Y (ao 11) 36 r12.2.2.2] ⟨rfl, rfl, trivial⟩ ⟨rfl, rfl, rfl, rfl, rfl, trivial⟩ 7 rfl (by decide +kernel) ?_
      refine a_if_eq C 55 dX12_children_48 (by decide) (fun h15 => ?_) (fun h15 => ?_)
      · have hf := fx_t h15 hf
        refine a_kill [3] ?_
        exact kX12_children_b55 C hQ hk29 hf
      · have hf := fx_f h15 hf
        refine a_iconst C (1 : Int32) dX12_children_51 (by decide) ?_
        refine a_goto C 56 dX12_children_52 (by decide) ?_
        refine a_kill [3] ?_
        exact kX12_children_b56 C hQ hk29 hf
set_option maxHeartbeats 400000 in
set_option maxRecDepth 100000 in
theorem kX12_children_b29 {X : cxT} {l : Launch} {D : va_G} {Y : Nat → ClassId} {ao : Nat → Nat} {io_thrown : Int32} {io_rows : Int32} {io_cells : Int32} {io_children : Int32} {io_changes : Int32} {io_taped : Int32} {io_at : Int32} {io_to : Int32} {io_nest : Int32} {io_readMany : Int32} {io_codeLong : Int32} {io_readLong : Int32} {io_undos : Int32} {io_wentHome : Int32} {io_tideLevel : Int32} {io_acts : Int32} {io_firstBreaks : Int32} {io_bestCrew : Int32} {io_sights : Int32} {io_wayMany : Int32} {io_random : Int32} {co_age : Nat → Int32} {co_skill : Nat → Int32} {co_friend : Nat → Int32} {co_now : Nat → Int32} {co_tape : Nat → Int32} {co_read : Nat → Int32} {x1 : Int32} {x2 : Int32} {x3 : Int32} {res : Int32 × Int32 × Int32 × Int32 × Int32 × Int32 × Int32 × Int32 × Int32 × Int32 × (Nat → Int32) × (Nat → Int32) × (Nat → Int32) × (Nat → Int32) × (Nat → Int32)} (C : axC X l D Y cX12_children 6 RX12 wsX12_children rmX12_children (some .int)) (hQ : axQ X 0 0 (fun r9 w9 => r9 = (some (.int res.1)) ∧ w9 = [oX12 ao res.2.1 io_rows io_cells res.2.2.1 res.2.2.2.1 res.2.2.2.2.1 res.2.2.2.2.2.1 res.2.2.2.2.2.2.1 res.2.2.2.2.2.2.2.1 res.2.2.2.2.2.2.2.2.1 io_codeLong io_readLong res.2.2.2.2.2.2.2.2.2.1 io_wentHome io_tideLevel io_acts io_firstBreaks io_bestCrew io_sights io_wayMany io_random, rI Y (ao 4) 8 res.2.2.2.2.2.2.2.2.2.2.1, rI Y (ao 5) 8 res.2.2.2.2.2.2.2.2.2.2.2.1, rI Y (ao 6) 8 res.2.2.2.2.2.2.2.2.2.2.2.2.1, rI Y (ao 8) 43 res.2.2.2.2.2.2.2.2.2.2.2.2.2.1, rI Y (ao 10) 80 co_tape, rI Y (ao 11) 36 res.2.2.2.2.2.2.2.2.2.2.2.2.2.2])) (hf : fX12_children_b29 io_thrown io_children io_changes io_taped io_at io_to io_nest io_readMany io_undos co_age co_skill co_friend co_now co_tape co_read x1 x2 x3 = some res) : ax X 0 0 29 [some (.ref (ao 0)), some (.int x1), some (.int x2), some (.int x3), none, none] [oX12 ao io_thrown io_rows io_cells io_children io_changes io_taped io_at io_to io_nest io_readMany io_codeLong io_readLong io_undos io_wentHome io_tideLevel io_acts io_firstBreaks io_bestCrew io_sights io_wayMany io_random, rI Y (ao 4) 8 co_age, rI Y (ao 5) 8 co_skill, rI Y (ao 6) 8 co_friend, rI Y (ao 8) 43 co_now, rI Y (ao 10) 80 co_tape, rI Y (ao 11) 36 co_read] [] := by
  unfold fX12_children_b29 at hf
  exact fx_loop (P := fun s : Int32 × Int32 × (Nat → Int32) × Int32 × Int32 => ax X 0 0 29 [some (.ref (ao 0)), some (.int x1), some (.int s.2.2.2.1), some (.int s.2.2.2.2), none, none] [oX12 ao io_thrown io_rows io_cells io_children io_changes io_taped s.1 io_to io_nest s.2.1 io_codeLong io_readLong io_undos io_wentHome io_tideLevel io_acts io_firstBreaks io_bestCrew io_sights io_wayMany io_random, rI Y (ao 4) 8 co_age, rI Y (ao 5) 8 co_skill, rI Y (ao 6) 8 co_friend, rI Y (ao 8) 43 co_now, rI Y (ao 10) 80 co_tape, rI Y (ao 11) 36 s.2.2.1] []) (fun s k29 hk29 h => kX12_children_l29 C hQ hk29 h) FUEL (io_at, io_readMany, co_read, x2, x3) hf
def fX12_children_b28 (io_thrown : Int32) (io_children : Int32) (io_changes : Int32) (io_taped : Int32) (io_at : Int32) (io_to : Int32) (io_nest : Int32) (io_readMany : Int32) (io_undos : Int32) (co_age : Nat → Int32) (co_skill : Nat → Int32) (co_friend : Nat → Int32) (co_now : Nat → Int32) (co_tape : Nat → Int32) (co_read : Nat → Int32) (x1 : Int32) (x2 : Int32) (s0 : Int32) : Option (Int32 × Int32 × Int32 × Int32 × Int32 × Int32 × Int32 × Int32 × Int32 × Int32 × (Nat → Int32) × (Nat → Int32) × (Nat → Int32) × (Nat → Int32) × (Nat → Int32)) :=
  fX12_children_b29 io_thrown io_children io_changes io_taped io_at io_to io_nest io_readMany io_undos co_age co_skill co_friend co_now co_tape co_read x1 x2 s0
set_option maxHeartbeats 400000 in
set_option maxRecDepth 100000 in
theorem kX12_children_b28 {X : cxT} {l : Launch} {D : va_G} {Y : Nat → ClassId} {ao : Nat → Nat} {io_thrown : Int32} {io_rows : Int32} {io_cells : Int32} {io_children : Int32} {io_changes : Int32} {io_taped : Int32} {io_at : Int32} {io_to : Int32} {io_nest : Int32} {io_readMany : Int32} {io_codeLong : Int32} {io_readLong : Int32} {io_undos : Int32} {io_wentHome : Int32} {io_tideLevel : Int32} {io_acts : Int32} {io_firstBreaks : Int32} {io_bestCrew : Int32} {io_sights : Int32} {io_wayMany : Int32} {io_random : Int32} {co_age : Nat → Int32} {co_skill : Nat → Int32} {co_friend : Nat → Int32} {co_now : Nat → Int32} {co_tape : Nat → Int32} {co_read : Nat → Int32} {x1 : Int32} {x2 : Int32} {s0 : Int32} {res : Int32 × Int32 × Int32 × Int32 × Int32 × Int32 × Int32 × Int32 × Int32 × Int32 × (Nat → Int32) × (Nat → Int32) × (Nat → Int32) × (Nat → Int32) × (Nat → Int32)} (C : axC X l D Y cX12_children 6 RX12 wsX12_children rmX12_children (some .int)) (hQ : axQ X 0 0 (fun r9 w9 => r9 = (some (.int res.1)) ∧ w9 = [oX12 ao res.2.1 io_rows io_cells res.2.2.1 res.2.2.2.1 res.2.2.2.2.1 res.2.2.2.2.2.1 res.2.2.2.2.2.2.1 res.2.2.2.2.2.2.2.1 res.2.2.2.2.2.2.2.2.1 io_codeLong io_readLong res.2.2.2.2.2.2.2.2.2.1 io_wentHome io_tideLevel io_acts io_firstBreaks io_bestCrew io_sights io_wayMany io_random, rI Y (ao 4) 8 res.2.2.2.2.2.2.2.2.2.2.1, rI Y (ao 5) 8 res.2.2.2.2.2.2.2.2.2.2.2.1, rI Y (ao 6) 8 res.2.2.2.2.2.2.2.2.2.2.2.2.1, rI Y (ao 8) 43 res.2.2.2.2.2.2.2.2.2.2.2.2.2.1, rI Y (ao 10) 80 co_tape, rI Y (ao 11) 36 res.2.2.2.2.2.2.2.2.2.2.2.2.2.2])) (hf : fX12_children_b28 io_thrown io_children io_changes io_taped io_at io_to io_nest io_readMany io_undos co_age co_skill co_friend co_now co_tape co_read x1 x2 s0 = some res) : ax X 0 0 28 [some (.ref (ao 0)), some (.int x1), some (.int x2), none, none, none] [oX12 ao io_thrown io_rows io_cells io_children io_changes io_taped io_at io_to io_nest io_readMany io_codeLong io_readLong io_undos io_wentHome io_tideLevel io_acts io_firstBreaks io_bestCrew io_sights io_wayMany io_random, rI Y (ao 4) 8 co_age, rI Y (ao 5) 8 co_skill, rI Y (ao 6) 8 co_friend, rI Y (ao 8) 43 co_now, rI Y (ao 10) 80 co_tape, rI Y (ao 11) 36 co_read] [.int s0] := by
  unfold fX12_children_b28 at hf
  refine a_istore_n C dX12_children_28 (by decide) rfl ?_
  exact kX12_children_b29 C hQ hf
def fX12_children (io_thrown : Int32) (io_children : Int32) (io_changes : Int32) (io_taped : Int32) (io_at : Int32) (io_to : Int32) (io_nest : Int32) (io_readMany : Int32) (io_undos : Int32) (co_age : Nat → Int32) (co_skill : Nat → Int32) (co_friend : Nat → Int32) (co_now : Nat → Int32) (co_tape : Nat → Int32) (co_read : Nat → Int32) : Option (Int32 × Int32 × Int32 × Int32 × Int32 × Int32 × Int32 × Int32 × Int32 × Int32 × (Nat → Int32) × (Nat → Int32) × (Nat → Int32) × (Nat → Int32) × (Nat → Int32)) :=
  (fX12_begins io_taped io_at io_to io_nest (47 : Int32)).bind (fun r16 => if r16.1 ≤ (0 : Int32) then (fX12_children_b28 (0 : Int32) io_children io_changes r16.2.1 r16.2.2.1 r16.2.2.2.1 r16.2.2.2.2 (0 : Int32) io_undos co_age co_skill co_friend co_now co_tape co_read r16.1 (1 : Int32) (0 : Int32)) else (fX12_children_b28 (0 : Int32) io_children io_changes r16.2.1 r16.2.2.1 r16.2.2.2.1 r16.2.2.2.2 (0 : Int32) io_undos co_age co_skill co_friend co_now co_tape co_read r16.1 (1 : Int32) (1 : Int32)))
set_option maxHeartbeats 400000 in
set_option maxRecDepth 100000 in
theorem kX12_children (l : Launch) (D : va_G) (Y : Nat → ClassId) (ao : Nat → Nat) (io_thrown : Int32) (io_rows : Int32) (io_cells : Int32) (io_children : Int32) (io_changes : Int32) (io_taped : Int32) (io_at : Int32) (io_to : Int32) (io_nest : Int32) (io_readMany : Int32) (io_codeLong : Int32) (io_readLong : Int32) (io_undos : Int32) (io_wentHome : Int32) (io_tideLevel : Int32) (io_acts : Int32) (io_firstBreaks : Int32) (io_bestCrew : Int32) (io_sights : Int32) (io_wayMany : Int32) (io_random : Int32) (co_age : Nat → Int32) (co_skill : Nat → Int32) (co_friend : Nat → Int32) (co_now : Nat → Int32) (co_tape : Nat → Int32) (co_read : Nat → Int32) (res : Int32 × Int32 × Int32 × Int32 × Int32 × Int32 × Int32 × Int32 × Int32 × Int32 × (Nat → Int32) × (Nat → Int32) × (Nat → Int32) × (Nat → Int32) × (Nat → Int32)) (hf : fX12_children io_thrown io_children io_changes io_taped io_at io_to io_nest io_readMany io_undos co_age co_skill co_friend co_now co_tape co_read = some res) : amf l D Y yX12_children wsX12_children rmX12_children [.ref (ao 0)] [oX12 ao io_thrown io_rows io_cells io_children io_changes io_taped io_at io_to io_nest io_readMany io_codeLong io_readLong io_undos io_wentHome io_tideLevel io_acts io_firstBreaks io_bestCrew io_sights io_wayMany io_random, rI Y (ao 4) 8 co_age, rI Y (ao 5) 8 co_skill, rI Y (ao 6) 8 co_friend, rI Y (ao 8) 43 co_now, rI Y (ao 10) 80 co_tape, rI Y (ao 11) 36 co_read] (some (.int res.1)) [oX12 ao res.2.1 io_rows io_cells res.2.2.1 res.2.2.2.1 res.2.2.2.2.1 res.2.2.2.2.2.1 res.2.2.2.2.2.2.1 res.2.2.2.2.2.2.2.1 res.2.2.2.2.2.2.2.2.1 io_codeLong io_readLong res.2.2.2.2.2.2.2.2.2.1 io_wentHome io_tideLevel io_acts io_firstBreaks io_bestCrew io_sights io_wayMany io_random, rI Y (ao 4) 8 res.2.2.2.2.2.2.2.2.2.2.1, rI Y (ao 5) 8 res.2.2.2.2.2.2.2.2.2.2.2.1, rI Y (ao 6) 8 res.2.2.2.2.2.2.2.2.2.2.2.2.1, rI Y (ao 8) 43 res.2.2.2.2.2.2.2.2.2.2.2.2.2.1, rI Y (ao 10) 80 co_tape, rI Y (ao 11) 36 res.2.2.2.2.2.2.2.2.2.2.2.2.2.2] := by
  refine amf.of (cc := cX12_children) (maxL := 6) (rt := (some .int)) (by decide) rfl RX12 rfl (Nat.le_of_ble_eq_true rfl) [some (.ref (ao 0)), none, none, none, none, none] rfl ?_
  intro X C hQ
  unfold fX12_children at hf
  refine a_aload_n C dX12_children_0 rfl ?_
  refine a_iconst C (0 : Int32) dX12_children_1 (by decide) ?_
  refine a_put C (eB_X12_112 _) tfX12_0 dX12_children_2 0 rfl rfl rfl (Nat.le_of_ble_eq_true rfl) ?_
  refine a_aload_n C dX12_children_5 rfl ?_
  refine a_bipush C (47 : Int32) dX12_children_6 (by decide) ?_
  obtain ⟨r16, h16, hf⟩ := fx_bind hf
  refine a_fV C (kX12_begins l D Y ao (0 : Int32) io_rows io_cells io_children io_changes io_taped io_at io_to io_nest io_readMany io_codeLong io_readLong io_undos io_wentHome io_tideLevel io_acts io_firstBreaks io_bestCrew io_sights io_wayMany io_random (47 : Int32) r16 h16) (gB_X12_181 _) rfl dvX12_begins ⟨⟨rfl, rfl⟩, ⟨Nat.le_of_ble_eq_true rfl, Nat.le_of_ble_eq_true rfl⟩, ⟨Nat.le_of_ble_eq_true rfl, Nat.le_of_ble_eq_true rfl⟩⟩ rfl (Nat.le_of_ble_eq_true rfl) dX12_children_8 rfl rfl [0] [1, 2, 3, 4, 5, 6] ⟨rfl, trivial⟩ (by decide +kernel) rfl [oX12 ao (0 : Int32) io_rows io_cells io_children io_changes r16.2.1 r16.2.2.1 r16.2.2.2.1 r16.2.2.2.2 io_readMany io_codeLong io_readLong io_undos io_wentHome io_tideLevel io_acts io_firstBreaks io_bestCrew io_sights io_wayMany io_random, rI Y (ao 4) 8 co_age, rI Y (ao 5) 8 co_skill, rI Y (ao 6) 8 co_friend, rI Y (ao 8) 43 co_now, rI Y (ao 10) 80 co_tape, rI Y (ao 11) 36 co_read] ⟨rfl, trivial⟩ ⟨rfl, rfl, rfl, rfl, rfl, rfl, trivial⟩ 7 rfl (by decide +kernel) ?_
  refine a_istore_n C dX12_children_11 (by decide) rfl ?_
  refine a_aload_n C dX12_children_12 rfl ?_
  refine a_iconst C (0 : Int32) dX12_children_13 (by decide) ?_
  refine a_put C (eB_X12_197 _) tfX12_20 dX12_children_14 0 rfl rfl rfl (Nat.le_of_ble_eq_true rfl) ?_
  refine a_iconst C (1 : Int32) dX12_children_17 (by decide) ?_
  refine a_istore_n C dX12_children_18 (by decide) rfl ?_
  refine a_iload_n C dX12_children_19 rfl ?_
  refine a_if_le C 27 dX12_children_20 (by decide) (fun h17 => ?_) (fun h17 => ?_)
  · have hf := fx_t h17 hf
    refine a_iconst C (0 : Int32) dX12_children_27 (by decide) ?_
    exact kX12_children_b28 C hQ hf
  · have hf := fx_f h17 hf
    refine a_iconst C (1 : Int32) dX12_children_23 (by decide) ?_
    refine a_goto C 28 dX12_children_24 (by decide) ?_
    exact kX12_children_b28 C hQ hf
-- X12_codes
abbrev rmX12_codes : Room := { frames := 0, cells := 0, slots := 0, locals := 0 }
theorem dvX12_codes : yX12_codes.cls = RX12 ∧ yX12_codes.cls ≠ "java/lang/invoke/MethodHandle" ∧ yX12_codes.cls ≠ "java/lang/invoke/VarHandle" ∧ (parseMethodDescriptor yX12_codes.desc).map (fun d => d.parameters.length) = some 1 := by decide +kernel
def fX12_codes (io_readLong : Int32) (co_readCode : Nat → Int32) (x1 : Int32) : Option (Int32 × (Nat → Int32)) :=
  if inb io_readLong 80 then some ((io_readLong + (1 : Int32)), (upd co_readCode (Int32.toNatClampNeg io_readLong) x1)) else none
set_option maxHeartbeats 400000 in
set_option maxRecDepth 100000 in
theorem kX12_codes (l : Launch) (D : va_G) (Y : Nat → ClassId) (ao : Nat → Nat) (io_thrown : Int32) (io_rows : Int32) (io_cells : Int32) (io_children : Int32) (io_changes : Int32) (io_taped : Int32) (io_at : Int32) (io_to : Int32) (io_nest : Int32) (io_readMany : Int32) (io_codeLong : Int32) (io_readLong : Int32) (io_undos : Int32) (io_wentHome : Int32) (io_tideLevel : Int32) (io_acts : Int32) (io_firstBreaks : Int32) (io_bestCrew : Int32) (io_sights : Int32) (io_wayMany : Int32) (io_random : Int32) (co_readCode : Nat → Int32) (x1 : Int32) (res : Int32 × (Nat → Int32)) (hf : fX12_codes io_readLong co_readCode x1 = some res) : amf l D Y yX12_codes wsX12_codes rmX12_codes [.ref (ao 0), .int x1] [oX12 ao io_thrown io_rows io_cells io_children io_changes io_taped io_at io_to io_nest io_readMany io_codeLong io_readLong io_undos io_wentHome io_tideLevel io_acts io_firstBreaks io_bestCrew io_sights io_wayMany io_random, rI Y (ao 13) 80 co_readCode] none [oX12 ao io_thrown io_rows io_cells io_children io_changes io_taped io_at io_to io_nest io_readMany io_codeLong res.1 io_undos io_wentHome io_tideLevel io_acts io_firstBreaks io_bestCrew io_sights io_wayMany io_random, rI Y (ao 13) 80 res.2] := by
  refine amf.of (cc := cX12_codes) (maxL := 2) (rt := none) (by decide) rfl RX12 rfl (Nat.le_of_ble_eq_true rfl) [some (.ref (ao 0)), some (.int x1)] rfl ?_
  intro X C hQ
  unfold fX12_codes at hf
  refine a_aload_n C dX12_codes_0 rfl ?_
  refine a_get C (eB_X12_51 _) dX12_codes_1 0 rfl rfl ?_
  refine a_aload_n C dX12_codes_4 rfl ?_
  refine a_get C (eB_X12_214 _) dX12_codes_5 0 rfl rfl ?_
  refine a_iload_n C dX12_codes_8 rfl ?_
  obtain ⟨h1, hf⟩ := fx_ite hf
  refine a_iast C dX12_codes_9 1 rfl h1 ?_
  refine a_aload_n C dX12_codes_10 rfl ?_
  refine a_dup C dX12_codes_11 rfl ?_
  refine a_get C (eB_X12_214 _) dX12_codes_12 0 rfl rfl ?_
  refine a_iconst C (1 : Int32) dX12_codes_15 (by decide) ?_
  refine a_iadd C dX12_codes_16 ?_
  refine a_put C (eB_X12_214 _) tfX12_24 dX12_codes_17 0 rfl rfl rfl (Nat.le_of_ble_eq_true rfl) ?_
  obtain rfl := fx_some hf
  exact a_vret C hQ dX12_codes_20 ⟨rfl, rfl⟩
-- X12_readsThing
theorem dvX12_readsThing : yX12_readsThing.cls = RX12 ∧ yX12_readsThing.cls ≠ "java/lang/invoke/MethodHandle" ∧ yX12_readsThing.cls ≠ "java/lang/invoke/VarHandle" ∧ (parseMethodDescriptor yX12_readsThing.desc).map (fun d => d.parameters.length) = some 0 := by decide +kernel
theorem dvX12_readsRank : yX12_readsRank.cls = RX12 ∧ yX12_readsRank.cls ≠ "java/lang/invoke/MethodHandle" ∧ yX12_readsRank.cls ≠ "java/lang/invoke/VarHandle" ∧ (parseMethodDescriptor yX12_readsRank.desc).map (fun d => d.parameters.length) = some 1 := by decide +kernel
def HX12_readsThing (l : Launch) (D : va_G) (Y : Nat → ClassId) (rm : Room) (fn : Int32 → Int32 → Int32 → Int32 → (Nat → Int32) → (Nat → Int32) → Option (Int32 × Int32 × Int32 × Int32 × (Nat → Int32))) : Prop := ∀ (ao : Nat → Nat) (io_thrown : Int32) (io_rows : Int32) (io_cells : Int32) (io_children : Int32) (io_changes : Int32) (io_taped : Int32) (io_at : Int32) (io_to : Int32) (io_nest : Int32) (io_readMany : Int32) (io_codeLong : Int32) (io_readLong : Int32) (io_undos : Int32) (io_wentHome : Int32) (io_tideLevel : Int32) (io_acts : Int32) (io_firstBreaks : Int32) (io_bestCrew : Int32) (io_sights : Int32) (io_wayMany : Int32) (io_random : Int32) (co_tape : Nat → Int32) (co_readCode : Nat → Int32) (res : Int32 × Int32 × Int32 × Int32 × (Nat → Int32)), fn io_at io_to io_nest io_readLong co_tape co_readCode = some res → amf l D Y yX12_readsThing wsX12_readsThing rm [.ref (ao 0)] [oX12 ao io_thrown io_rows io_cells io_children io_changes io_taped io_at io_to io_nest io_readMany io_codeLong io_readLong io_undos io_wentHome io_tideLevel io_acts io_firstBreaks io_bestCrew io_sights io_wayMany io_random, rI Y (ao 10) 80 co_tape, rI Y (ao 13) 80 co_readCode] (some (.int res.1)) [oX12 ao io_thrown io_rows io_cells io_children io_changes io_taped res.2.1 io_to res.2.2.1 io_readMany io_codeLong res.2.2.2.1 io_undos io_wentHome io_tideLevel io_acts io_firstBreaks io_bestCrew io_sights io_wayMany io_random, rI Y (ao 10) 80 co_tape, rI Y (ao 13) 80 res.2.2.2.2]
def HX12_readsRank (l : Launch) (D : va_G) (Y : Nat → ClassId) (rm : Room) (fn : Int32 → Int32 → Int32 → Int32 → (Nat → Int32) → (Nat → Int32) → Int32 → Option (Int32 × Int32 × Int32 × Int32 × (Nat → Int32))) : Prop := ∀ (ao : Nat → Nat) (io_thrown : Int32) (io_rows : Int32) (io_cells : Int32) (io_children : Int32) (io_changes : Int32) (io_taped : Int32) (io_at : Int32) (io_to : Int32) (io_nest : Int32) (io_readMany : Int32) (io_codeLong : Int32) (io_readLong : Int32) (io_undos : Int32) (io_wentHome : Int32) (io_tideLevel : Int32) (io_acts : Int32) (io_firstBreaks : Int32) (io_bestCrew : Int32) (io_sights : Int32) (io_wayMany : Int32) (io_random : Int32) (co_tape : Nat → Int32) (co_readCode : Nat → Int32) (x1 : Int32) (res : Int32 × Int32 × Int32 × Int32 × (Nat → Int32)), fn io_at io_to io_nest io_readLong co_tape co_readCode x1 = some res → amf l D Y yX12_readsRank wsX12_readsRank rm [.ref (ao 0), .int x1] [oX12 ao io_thrown io_rows io_cells io_children io_changes io_taped io_at io_to io_nest io_readMany io_codeLong io_readLong io_undos io_wentHome io_tideLevel io_acts io_firstBreaks io_bestCrew io_sights io_wayMany io_random, rI Y (ao 10) 80 co_tape, rI Y (ao 13) 80 co_readCode] (some (.int res.1)) [oX12 ao io_thrown io_rows io_cells io_children io_changes io_taped res.2.1 io_to res.2.2.1 io_readMany io_codeLong res.2.2.2.1 io_undos io_wentHome io_tideLevel io_acts io_firstBreaks io_bestCrew io_sights io_wayMany io_random, rI Y (ao 10) 80 co_tape, rI Y (ao 13) 80 res.2.2.2.2]
abbrev rmX12_readsThing (f9 l9 : Nat) : Room := { frames := f9 + 6, cells := 0, slots := 0, locals := l9 + 129 }
def fX12_readsThing_b80 (rec_X12_readsThing : Int32 → Int32 → Int32 → Int32 → (Nat → Int32) → (Nat → Int32) → Option (Int32 × Int32 × Int32 × Int32 × (Nat → Int32))) (rec_X12_readsRank : Int32 → Int32 → Int32 → Int32 → (Nat → Int32) → (Nat → Int32) → Int32 → Option (Int32 × Int32 × Int32 × Int32 × (Nat → Int32))) (io_at : Int32) (io_to : Int32) (io_nest : Int32) (io_readLong : Int32) (co_tape : Nat → Int32) (co_readCode : Nat → Int32) : Option (Int32 × Int32 × Int32 × Int32 × (Nat → Int32)) :=
  some ((0 : Int32), io_at, io_nest, io_readLong, co_readCode)
set_option maxHeartbeats 400000 in
set_option maxRecDepth 100000 in
theorem kX12_readsThing_b80 {X : cxT} {l : Launch} {D : va_G} {Y : Nat → ClassId} {ao : Nat → Nat} {io_thrown : Int32} {io_rows : Int32} {io_cells : Int32} {io_children : Int32} {io_changes : Int32} {io_taped : Int32} {io_at : Int32} {io_to : Int32} {io_nest : Int32} {io_readMany : Int32} {io_codeLong : Int32} {io_readLong : Int32} {io_undos : Int32} {io_wentHome : Int32} {io_tideLevel : Int32} {io_acts : Int32} {io_firstBreaks : Int32} {io_bestCrew : Int32} {io_sights : Int32} {io_wayMany : Int32} {io_random : Int32} {co_tape : Nat → Int32} {co_readCode : Nat → Int32} {res : Int32 × Int32 × Int32 × Int32 × (Nat → Int32)} {f9 l9 : Nat} {rec_X12_readsThing : Int32 → Int32 → Int32 → Int32 → (Nat → Int32) → (Nat → Int32) → Option (Int32 × Int32 × Int32 × Int32 × (Nat → Int32))} (hrec_X12_readsThing : HX12_readsThing l D Y { frames := f9, cells := 0, slots := 0, locals := l9 } rec_X12_readsThing) {rec_X12_readsRank : Int32 → Int32 → Int32 → Int32 → (Nat → Int32) → (Nat → Int32) → Int32 → Option (Int32 × Int32 × Int32 × Int32 × (Nat → Int32))} (hrec_X12_readsRank : HX12_readsRank l D Y { frames := f9, cells := 0, slots := 0, locals := l9 } rec_X12_readsRank) (C : axC X l D Y cX12_readsThing 2 RX12 wsX12_readsThing (rmX12_readsThing f9 l9) (some .boolean)) (hQ : axQ X 0 0 (fun r9 w9 => r9 = (some (.int res.1)) ∧ w9 = [oX12 ao io_thrown io_rows io_cells io_children io_changes io_taped res.2.1 io_to res.2.2.1 io_readMany io_codeLong res.2.2.2.1 io_undos io_wentHome io_tideLevel io_acts io_firstBreaks io_bestCrew io_sights io_wayMany io_random, rI Y (ao 10) 80 co_tape, rI Y (ao 13) 80 res.2.2.2.2])) (hf : fX12_readsThing_b80 rec_X12_readsThing rec_X12_readsRank io_at io_to io_nest io_readLong co_tape co_readCode = some res) : ax X 0 0 80 [none, none] [oX12 ao io_thrown io_rows io_cells io_children io_changes io_taped io_at io_to io_nest io_readMany io_codeLong io_readLong io_undos io_wentHome io_tideLevel io_acts io_firstBreaks io_bestCrew io_sights io_wayMany io_random, rI Y (ao 10) 80 co_tape, rI Y (ao 13) 80 co_readCode] [] := by
  unfold fX12_readsThing_b80 at hf
  refine a_iconst C (0 : Int32) dX12_readsThing_80 (by decide) ?_
  obtain rfl := fx_some hf
  exact a_zret C hQ (Or.inl rfl) dX12_readsThing_81 ⟨rfl, rfl⟩
def fX12_readsThing_b109 (rec_X12_readsThing : Int32 → Int32 → Int32 → Int32 → (Nat → Int32) → (Nat → Int32) → Option (Int32 × Int32 × Int32 × Int32 × (Nat → Int32))) (rec_X12_readsRank : Int32 → Int32 → Int32 → Int32 → (Nat → Int32) → (Nat → Int32) → Int32 → Option (Int32 × Int32 × Int32 × Int32 × (Nat → Int32))) (io_at : Int32) (io_to : Int32) (io_nest : Int32) (io_readLong : Int32) (co_tape : Nat → Int32) (co_readCode : Nat → Int32) : Option (Int32 × Int32 × Int32 × Int32 × (Nat → Int32)) :=
  some ((0 : Int32), io_at, io_nest, io_readLong, co_readCode)
set_option maxHeartbeats 400000 in
set_option maxRecDepth 100000 in
theorem kX12_readsThing_b109 {X : cxT} {l : Launch} {D : va_G} {Y : Nat → ClassId} {ao : Nat → Nat} {io_thrown : Int32} {io_rows : Int32} {io_cells : Int32} {io_children : Int32} {io_changes : Int32} {io_taped : Int32} {io_at : Int32} {io_to : Int32} {io_nest : Int32} {io_readMany : Int32} {io_codeLong : Int32} {io_readLong : Int32} {io_undos : Int32} {io_wentHome : Int32} {io_tideLevel : Int32} {io_acts : Int32} {io_firstBreaks : Int32} {io_bestCrew : Int32} {io_sights : Int32} {io_wayMany : Int32} {io_random : Int32} {co_tape : Nat → Int32} {co_readCode : Nat → Int32} {res : Int32 × Int32 × Int32 × Int32 × (Nat → Int32)} {f9 l9 : Nat} {rec_X12_readsThing : Int32 → Int32 → Int32 → Int32 → (Nat → Int32) → (Nat → Int32) → Option (Int32 × Int32 × Int32 × Int32 × (Nat → Int32))} (hrec_X12_readsThing : HX12_readsThing l D Y { frames := f9, cells := 0, slots := 0, locals := l9 } rec_X12_readsThing) {rec_X12_readsRank : Int32 → Int32 → Int32 → Int32 → (Nat → Int32) → (Nat → Int32) → Int32 → Option (Int32 × Int32 × Int32 × Int32 × (Nat → Int32))} (hrec_X12_readsRank : HX12_readsRank l D Y { frames := f9, cells := 0, slots := 0, locals := l9 } rec_X12_readsRank) (C : axC X l D Y cX12_readsThing 2 RX12 wsX12_readsThing (rmX12_readsThing f9 l9) (some .boolean)) (hQ : axQ X 0 0 (fun r9 w9 => r9 = (some (.int res.1)) ∧ w9 = [oX12 ao io_thrown io_rows io_cells io_children io_changes io_taped res.2.1 io_to res.2.2.1 io_readMany io_codeLong res.2.2.2.1 io_undos io_wentHome io_tideLevel io_acts io_firstBreaks io_bestCrew io_sights io_wayMany io_random, rI Y (ao 10) 80 co_tape, rI Y (ao 13) 80 res.2.2.2.2])) (hf : fX12_readsThing_b109 rec_X12_readsThing rec_X12_readsRank io_at io_to io_nest io_readLong co_tape co_readCode = some res) : ax X 0 0 109 [none, none] [oX12 ao io_thrown io_rows io_cells io_children io_changes io_taped io_at io_to io_nest io_readMany io_codeLong io_readLong io_undos io_wentHome io_tideLevel io_acts io_firstBreaks io_bestCrew io_sights io_wayMany io_random, rI Y (ao 10) 80 co_tape, rI Y (ao 13) 80 co_readCode] [] := by
  unfold fX12_readsThing_b109 at hf
  refine a_iconst C (0 : Int32) dX12_readsThing_109 (by decide) ?_
  obtain rfl := fx_some hf
  exact a_zret C hQ (Or.inl rfl) dX12_readsThing_110 ⟨rfl, rfl⟩
def fX12_readsThing_s (rec_X12_readsThing : Int32 → Int32 → Int32 → Int32 → (Nat → Int32) → (Nat → Int32) → Option (Int32 × Int32 × Int32 × Int32 × (Nat → Int32))) (rec_X12_readsRank : Int32 → Int32 → Int32 → Int32 → (Nat → Int32) → (Nat → Int32) → Int32 → Option (Int32 × Int32 × Int32 × Int32 × (Nat → Int32))) (io_at : Int32) (io_to : Int32) (io_nest : Int32) (io_readLong : Int32) (co_tape : Nat → Int32) (co_readCode : Nat → Int32) : Option (Int32 × Int32 × Int32 × Int32 × (Nat → Int32)) :=
  (fX12_takes io_at io_to co_tape (45 : Int32)).bind (fun r1 => if r1.1 = (0 : Int32) then ((fX12_isDigit r1.2 io_to co_tape).bind (fun r3 => if r3 = (0 : Int32) then ((fX12_takesOf r1.2 io_to co_tape 0).bind (fun r5 => if r5.1 < (0 : Int32) then (if io_nest = (4 : Int32) then (fX12_readsThing_b80 rec_X12_readsThing rec_X12_readsRank r5.2 io_to io_nest io_readLong co_tape co_readCode) else ((fX12_takes r5.2 io_to co_tape (40 : Int32)).bind (fun r8 => if r8.1 = (0 : Int32) then (fX12_readsThing_b80 rec_X12_readsThing rec_X12_readsRank r8.2 io_to io_nest io_readLong co_tape co_readCode) else ((rec_X12_readsRank r8.2 io_to (io_nest + (1 : Int32)) io_readLong co_tape co_readCode (0 : Int32)).bind (fun r10 => if r10.1 = (0 : Int32) then (fX12_readsThing_b109 rec_X12_readsThing rec_X12_readsRank r10.2.1 io_to r10.2.2.1 r10.2.2.2.1 co_tape r10.2.2.2.2) else ((fX12_takes r10.2.1 io_to co_tape (41 : Int32)).bind (fun r12 => if r12.1 = (0 : Int32) then (fX12_readsThing_b109 rec_X12_readsThing rec_X12_readsRank r12.2 io_to r10.2.2.1 r10.2.2.2.1 co_tape r10.2.2.2.2) else (some ((1 : Int32), r12.2, (r10.2.2.1 - (1 : Int32)), r10.2.2.2.1, r10.2.2.2.2))))))))) else ((fX12_codes io_readLong co_readCode ((1000 : Int32) + r5.1)).bind (fun r14 => some ((1 : Int32), r5.2, io_nest, r14.1, r14.2))))) else ((fX12_number r1.2 io_to co_tape (3 : Int32)).bind (fun r15 => (fX12_codes io_readLong co_readCode r15.1).bind (fun r16 => some ((1 : Int32), r15.2, io_nest, r16.1, r16.2)))))) else ((rec_X12_readsThing r1.2 io_to io_nest io_readLong co_tape co_readCode).bind (fun r17 => (fX12_codes r17.2.2.2.1 r17.2.2.2.2 (3000 : Int32)).bind (fun r18 => if r17.1 = 0 ∨ r17.1 = 1 then some (r17.1, r17.2.1, r17.2.2.1, r18.1, r18.2) else none))))
set_option maxHeartbeats 400000 in
set_option maxRecDepth 100000 in
theorem kX12_readsThing_s (l : Launch) (D : va_G) (Y : Nat → ClassId) (f9 l9 : Nat) (rec_X12_readsThing : Int32 → Int32 → Int32 → Int32 → (Nat → Int32) → (Nat → Int32) → Option (Int32 × Int32 × Int32 × Int32 × (Nat → Int32))) (hrec_X12_readsThing : HX12_readsThing l D Y { frames := f9, cells := 0, slots := 0, locals := l9 } rec_X12_readsThing) (rec_X12_readsRank : Int32 → Int32 → Int32 → Int32 → (Nat → Int32) → (Nat → Int32) → Int32 → Option (Int32 × Int32 × Int32 × Int32 × (Nat → Int32))) (hrec_X12_readsRank : HX12_readsRank l D Y { frames := f9, cells := 0, slots := 0, locals := l9 } rec_X12_readsRank) (ao : Nat → Nat) (io_thrown : Int32) (io_rows : Int32) (io_cells : Int32) (io_children : Int32) (io_changes : Int32) (io_taped : Int32) (io_at : Int32) (io_to : Int32) (io_nest : Int32) (io_readMany : Int32) (io_codeLong : Int32) (io_readLong : Int32) (io_undos : Int32) (io_wentHome : Int32) (io_tideLevel : Int32) (io_acts : Int32) (io_firstBreaks : Int32) (io_bestCrew : Int32) (io_sights : Int32) (io_wayMany : Int32) (io_random : Int32) (co_tape : Nat → Int32) (co_readCode : Nat → Int32) (res : Int32 × Int32 × Int32 × Int32 × (Nat → Int32)) (hf : fX12_readsThing_s rec_X12_readsThing rec_X12_readsRank io_at io_to io_nest io_readLong co_tape co_readCode = some res) : amf l D Y yX12_readsThing wsX12_readsThing (rmX12_readsThing f9 l9) [.ref (ao 0)] [oX12 ao io_thrown io_rows io_cells io_children io_changes io_taped io_at io_to io_nest io_readMany io_codeLong io_readLong io_undos io_wentHome io_tideLevel io_acts io_firstBreaks io_bestCrew io_sights io_wayMany io_random, rI Y (ao 10) 80 co_tape, rI Y (ao 13) 80 co_readCode] (some (.int res.1)) [oX12 ao io_thrown io_rows io_cells io_children io_changes io_taped res.2.1 io_to res.2.2.1 io_readMany io_codeLong res.2.2.2.1 io_undos io_wentHome io_tideLevel io_acts io_firstBreaks io_bestCrew io_sights io_wayMany io_random, rI Y (ao 10) 80 co_tape, rI Y (ao 13) 80 res.2.2.2.2] := by
  refine amf.of (cc := cX12_readsThing) (maxL := 2) (rt := (some .boolean)) (by decide) rfl RX12 rfl (Nat.le_of_ble_eq_true rfl) [some (.ref (ao 0)), none] rfl ?_
  intro X C hQ
  unfold fX12_readsThing_s at hf
  refine a_aload_n C dX12_readsThing_0 rfl ?_
  refine a_bipush C (45 : Int32) dX12_readsThing_1 (by decide) ?_
  obtain ⟨r1, h1, hf⟩ := fx_bind hf
  refine a_fV C (kX12_takes l D Y ao io_thrown io_rows io_cells io_children io_changes io_taped io_at io_to io_nest io_readMany io_codeLong io_readLong io_undos io_wentHome io_tideLevel io_acts io_firstBreaks io_bestCrew io_sights io_wayMany io_random co_tape (45 : Int32) r1 h1) (gB_X12_184 _) rfl dvX12_takes ⟨⟨rfl, rfl⟩, ⟨by dsimp only; omega, by dsimp only; omega⟩, ⟨Nat.le_of_ble_eq_true rfl, Nat.le_of_ble_eq_true rfl⟩⟩ rfl (Nat.le_of_ble_eq_true rfl) dX12_readsThing_3 rfl rfl [0, 1] [2] ⟨rfl, rfl, trivial⟩ (by decide +kernel) rfl [oX12 ao io_thrown io_rows io_cells io_children io_changes io_taped r1.2 io_to io_nest io_readMany io_codeLong io_readLong io_undos io_wentHome io_tideLevel io_acts io_firstBreaks io_bestCrew io_sights io_wayMany io_random, rI Y (ao 10) 80 co_tape, rI Y (ao 13) 80 co_readCode] ⟨rfl, rfl, trivial⟩ ⟨rfl, trivial⟩ 3 rfl (by decide +kernel) ?_
  refine a_if_eq C 23 dX12_readsThing_6 (by decide) (fun h2 => ?_) (fun h2 => ?_)
  · have hf := fx_t h2 hf
    refine a_aload_n C dX12_readsThing_23 rfl ?_
    obtain ⟨r3, h3, hf⟩ := fx_bind hf
    refine a_fV C (kX12_isDigit l D Y ao io_thrown io_rows io_cells io_children io_changes io_taped r1.2 io_to io_nest io_readMany io_codeLong io_readLong io_undos io_wentHome io_tideLevel io_acts io_firstBreaks io_bestCrew io_sights io_wayMany io_random co_tape r3 h3) (gB_X12_173 _) rfl dvX12_isDigit ⟨⟨rfl, rfl⟩, ⟨by dsimp only; omega, by dsimp only; omega⟩, ⟨Nat.le_of_ble_eq_true rfl, Nat.le_of_ble_eq_true rfl⟩⟩ rfl (Nat.le_of_ble_eq_true rfl) dX12_readsThing_24 rfl rfl [0, 1] [2] ⟨rfl, rfl, trivial⟩ (by decide +kernel) rfl [oX12 ao io_thrown io_rows io_cells io_children io_changes io_taped r1.2 io_to io_nest io_readMany io_codeLong io_readLong io_undos io_wentHome io_tideLevel io_acts io_firstBreaks io_bestCrew io_sights io_wayMany io_random, rI Y (ao 10) 80 co_tape, rI Y (ao 13) 80 co_readCode] ⟨rfl, rfl, trivial⟩ ⟨rfl, trivial⟩ 3 rfl (by decide +kernel) ?_
    refine a_if_eq C 41 dX12_readsThing_27 (by decide) (fun h4 => ?_) (fun h4 => ?_)
    · have hf := fx_t h4 hf
      refine a_aload_n C dX12_readsThing_41 rfl ?_
      refine a_ldcS C 5 dX12_readsThing_42 rfl ?_
      obtain ⟨r5, h5, hf⟩ := fx_bind hf
      refine a_fV C (kX12_takesOf l D Y ao io_thrown io_rows io_cells io_children io_changes io_taped r1.2 io_to io_nest io_readMany io_codeLong io_readLong io_undos io_wentHome io_tideLevel io_acts io_firstBreaks io_bestCrew io_sights io_wayMany io_random co_tape 0 r5 h5) (gB_X12_226 _) rfl dvX12_takesOf ⟨⟨rfl, rfl⟩, ⟨by dsimp only; omega, by dsimp only; omega⟩, ⟨Nat.le_of_ble_eq_true rfl, Nat.le_of_ble_eq_true rfl⟩⟩ rfl (Nat.le_of_ble_eq_true rfl) dX12_readsThing_44 rfl rfl [0, 1] [2] ⟨rfl, rfl, trivial⟩ (by decide +kernel) rfl [oX12 ao io_thrown io_rows io_cells io_children io_changes io_taped r5.2 io_to io_nest io_readMany io_codeLong io_readLong io_undos io_wentHome io_tideLevel io_acts io_firstBreaks io_bestCrew io_sights io_wayMany io_random, rI Y (ao 10) 80 co_tape, rI Y (ao 13) 80 co_readCode] ⟨rfl, rfl, trivial⟩ ⟨rfl, trivial⟩ 3 rfl (by decide +kernel) ?_
      refine a_istore_n C dX12_readsThing_47 (by decide) rfl ?_
      refine a_iload_n C dX12_readsThing_48 rfl ?_
      refine a_if_lt C 63 dX12_readsThing_49 (by decide) (fun h6 => ?_) (fun h6 => ?_)
      · have hf := fx_t h6 hf
        refine a_aload_n C dX12_readsThing_63 rfl ?_
        refine a_get C (eB_X12_139 _) dX12_readsThing_64 0 rfl rfl ?_
        refine a_iconst C (4 : Int32) dX12_readsThing_67 (by decide) ?_
        refine a_icmp_eq C 80 dX12_readsThing_68 (by decide) (fun h7 => ?_) (fun h7 => ?_)
        · have hf := fx_t h7 hf
          refine a_kill [0, 1] ?_
          exact kX12_readsThing_b80 hrec_X12_readsThing hrec_X12_readsRank C hQ hf
        · have hf := fx_f h7 hf
          refine a_aload_n C dX12_readsThing_71 rfl ?_
          refine a_bipush C (40 : Int32) dX12_readsThing_72 (by decide) ?_
          obtain ⟨r8, h8, hf⟩ := fx_bind hf
          refine a_fV C (kX12_takes l D Y ao io_thrown io_rows io_cells io_children io_changes io_taped r5.2 io_to io_nest io_readMany io_codeLong io_readLong io_undos io_wentHome io_tideLevel io_acts io_firstBreaks io_bestCrew io_sights io_wayMany io_random co_tape (40 : Int32) r8 h8) (gB_X12_184 _) rfl dvX12_takes ⟨⟨rfl, rfl⟩, ⟨by dsimp only; omega, by dsimp only; omega⟩, ⟨Nat.le_of_ble_eq_true rfl, Nat.le_of_ble_eq_true rfl⟩⟩ rfl (Nat.le_of_ble_eq_true rfl) dX12_readsThing_74 rfl rfl [0, 1] [2] ⟨rfl, rfl, trivial⟩ (by decide +kernel) rfl [oX12 ao io_thrown io_rows io_cells io_children io_changes io_taped r8.2 io_to io_nest io_readMany io_codeLong io_readLong io_undos io_wentHome io_tideLevel io_acts io_firstBreaks io_bestCrew io_sights io_wayMany io_random, rI Y (ao 10) 80 co_tape, rI Y (ao 13) 80 co_readCode] ⟨rfl, rfl, trivial⟩ ⟨rfl, trivial⟩ 3 rfl (by decide +kernel) ?_
          refine a_if_ne C 82 dX12_readsThing_77 (by decide) (fun h9 => ?_) (fun h9 => ?_)
          · have hf := fx_f h9 hf
            refine a_aload_n C dX12_readsThing_82 rfl ?_
            refine a_dup C dX12_readsThing_83 rfl ?_
            refine a_get C (eB_X12_139 _) dX12_readsThing_84 0 rfl rfl ?_
            refine a_iconst C (1 : Int32) dX12_readsThing_87 (by decide) ?_
            refine a_iadd C dX12_readsThing_88 ?_
            refine a_put C (eB_X12_139 _) tfX12_18 dX12_readsThing_89 0 rfl rfl rfl (Nat.le_of_ble_eq_true rfl) ?_
            refine a_aload_n C dX12_readsThing_92 rfl ?_
            refine a_iconst C (0 : Int32) dX12_readsThing_93 (by decide) ?_
            obtain ⟨r10, h10, hf⟩ := fx_bind hf
            refine a_fV C (hrec_X12_readsRank ao io_thrown io_rows io_cells io_children io_changes io_taped r8.2 io_to (io_nest + (1 : Int32)) io_readMany io_codeLong io_readLong io_undos io_wentHome io_tideLevel io_acts io_firstBreaks io_bestCrew io_sights io_wayMany io_random co_tape co_readCode (0 : Int32) r10 h10) (gB_X12_229 _) rfl dvX12_readsRank ⟨⟨rfl, rfl⟩, ⟨by dsimp only; omega, by dsimp only; omega⟩, ⟨Nat.le_of_ble_eq_true rfl, Nat.le_of_ble_eq_true rfl⟩⟩ rfl (Nat.le_of_ble_eq_true rfl) dX12_readsThing_94 rfl rfl [0, 1, 2] [] ⟨rfl, rfl, rfl, trivial⟩ (by decide +kernel) rfl [oX12 ao io_thrown io_rows io_cells io_children io_changes io_taped r10.2.1 io_to r10.2.2.1 io_readMany io_codeLong r10.2.2.2.1 io_undos io_wentHome io_tideLevel io_acts io_firstBreaks io_bestCrew io_sights io_wayMany io_random, rI Y (ao 10) 80 co_tape, rI Y (ao 13) 80 r10.2.2.2.2] ⟨rfl, rfl, rfl, trivial⟩ trivial 3 rfl (by decide +kernel) ?_
            refine a_if_eq C 109 dX12_readsThing_97 (by decide) (fun h11 => ?_) (fun h11 => ?_)
            · have hf := fx_t h11 hf
              refine a_kill [0, 1] ?_
              exact kX12_readsThing_b109 hrec_X12_readsThing hrec_X12_readsRank C hQ hf
            · have hf := fx_f h11 hf
              refine a_aload_n C dX12_readsThing_100 rfl ?_
              refine a_bipush C (41 : Int32) dX12_readsThing_101 (by decide) ?_
              obtain ⟨r12, h12, hf⟩ := fx_bind hf
              refine a_fV C (kX12_takes l D Y ao io_thrown io_rows io_cells io_children io_changes io_taped r10.2.1 io_to r10.2.2.1 io_readMany io_codeLong r10.2.2.2.1 io_undos io_wentHome io_tideLevel io_acts io_firstBreaks io_bestCrew io_sights io_wayMany io_random co_tape (41 : Int32) r12 h12) (gB_X12_184 _) rfl dvX12_takes ⟨⟨rfl, rfl⟩, ⟨by dsimp only; omega, by dsimp only; omega⟩, ⟨Nat.le_of_ble_eq_true rfl, Nat.le_of_ble_eq_true rfl⟩⟩ rfl (Nat.le_of_ble_eq_true rfl) dX12_readsThing_103 rfl rfl [0, 1] [2] ⟨rfl, rfl, trivial⟩ (by decide +kernel) rfl [oX12 ao io_thrown io_rows io_cells io_children io_changes io_taped r12.2 io_to r10.2.2.1 io_readMany io_codeLong r10.2.2.2.1 io_undos io_wentHome io_tideLevel io_acts io_firstBreaks io_bestCrew io_sights io_wayMany io_random, rI Y (ao 10) 80 co_tape, rI Y (ao 13) 80 r10.2.2.2.2] ⟨rfl, rfl, trivial⟩ ⟨rfl, trivial⟩ 3 rfl (by decide +kernel) ?_
              refine a_if_ne C 111 dX12_readsThing_106 (by decide) (fun h13 => ?_) (fun h13 => ?_)
              · have hf := fx_f h13 hf
                refine a_aload_n C dX12_readsThing_111 rfl ?_
                refine a_dup C dX12_readsThing_112 rfl ?_
                refine a_get C (eB_X12_139 _) dX12_readsThing_113 0 rfl rfl ?_
                refine a_iconst C (1 : Int32) dX12_readsThing_116 (by decide) ?_
                refine a_isub C dX12_readsThing_117 ?_
                refine a_put C (eB_X12_139 _) tfX12_18 dX12_readsThing_118 0 rfl rfl rfl (Nat.le_of_ble_eq_true rfl) ?_
                refine a_iconst C (1 : Int32) dX12_readsThing_121 (by decide) ?_
                obtain rfl := fx_some hf
                exact a_zret C hQ (Or.inr rfl) dX12_readsThing_122 ⟨rfl, rfl⟩
              · have hf := fx_t h13 hf
                refine a_kill [0, 1] ?_
                exact kX12_readsThing_b109 hrec_X12_readsThing hrec_X12_readsRank C hQ hf
          · have hf := fx_t h9 hf
            refine a_kill [0, 1] ?_
            exact kX12_readsThing_b80 hrec_X12_readsThing hrec_X12_readsRank C hQ hf
      · have hf := fx_f h6 hf
        refine a_aload_n C dX12_readsThing_52 rfl ?_
        refine a_sipush C (1000 : Int32) dX12_readsThing_53 (by decide) ?_
        refine a_iload_n C dX12_readsThing_56 rfl ?_
        refine a_iadd C dX12_readsThing_57 ?_
        obtain ⟨r14, h14, hf⟩ := fx_bind hf
        refine a_fV C (kX12_codes l D Y ao io_thrown io_rows io_cells io_children io_changes io_taped r5.2 io_to io_nest io_readMany io_codeLong io_readLong io_undos io_wentHome io_tideLevel io_acts io_firstBreaks io_bestCrew io_sights io_wayMany io_random co_readCode ((1000 : Int32) + r5.1) r14 h14) (gB_X12_220 _) rfl dvX12_codes ⟨⟨rfl, rfl⟩, ⟨by dsimp only; omega, by dsimp only; omega⟩, ⟨Nat.le_of_ble_eq_true rfl, Nat.le_of_ble_eq_true rfl⟩⟩ rfl (Nat.le_of_ble_eq_true rfl) dX12_readsThing_58 rfl rfl [0, 2] [1] ⟨rfl, rfl, trivial⟩ (by decide +kernel) rfl [oX12 ao io_thrown io_rows io_cells io_children io_changes io_taped r5.2 io_to io_nest io_readMany io_codeLong r14.1 io_undos io_wentHome io_tideLevel io_acts io_firstBreaks io_bestCrew io_sights io_wayMany io_random, rI Y (ao 10) 80 co_tape, rI Y (ao 13) 80 r14.2] ⟨rfl, rfl, trivial⟩ ⟨rfl, trivial⟩ 3 rfl (by decide +kernel) ?_
        refine a_iconst C (1 : Int32) dX12_readsThing_61 (by decide) ?_
        obtain rfl := fx_some hf
        exact a_zret C hQ (Or.inr rfl) dX12_readsThing_62 ⟨rfl, rfl⟩
    · have hf := fx_f h4 hf
      refine a_aload_n C dX12_readsThing_30 rfl ?_
      refine a_aload_n C dX12_readsThing_31 rfl ?_
      refine a_iconst C (3 : Int32) dX12_readsThing_32 (by decide) ?_
      obtain ⟨r15, h15, hf⟩ := fx_bind hf
      refine a_fV C (kX12_number l D Y ao io_thrown io_rows io_cells io_children io_changes io_taped r1.2 io_to io_nest io_readMany io_codeLong io_readLong io_undos io_wentHome io_tideLevel io_acts io_firstBreaks io_bestCrew io_sights io_wayMany io_random co_tape (3 : Int32) r15 h15) (gB_X12_177 _) rfl dvX12_number ⟨⟨rfl, rfl⟩, ⟨by dsimp only; omega, by dsimp only; omega⟩, ⟨Nat.le_of_ble_eq_true rfl, Nat.le_of_ble_eq_true rfl⟩⟩ rfl (Nat.le_of_ble_eq_true rfl) dX12_readsThing_33 rfl rfl [0, 1] [2] ⟨rfl, rfl, trivial⟩ (by decide +kernel) rfl [oX12 ao io_thrown io_rows io_cells io_children io_changes io_taped r15.2 io_to io_nest io_readMany io_codeLong io_readLong io_undos io_wentHome io_tideLevel io_acts io_firstBreaks io_bestCrew io_sights io_wayMany io_random, rI Y (ao 10) 80 co_tape, rI Y (ao 13) 80 co_readCode] ⟨rfl, rfl, trivial⟩ ⟨rfl, trivial⟩ 3 rfl (by decide +kernel) ?_
      obtain ⟨r16, h16, hf⟩ := fx_bind hf
      refine a_fV C (kX12_codes l D Y ao io_thrown io_rows io_cells io_children io_changes io_taped r15.2 io_to io_nest io_readMany io_codeLong io_readLong io_undos io_wentHome io_tideLevel io_acts io_firstBreaks io_bestCrew io_sights io_wayMany io_random co_readCode r15.1 r16 h16) (gB_X12_220 _) rfl dvX12_codes ⟨⟨rfl, rfl⟩, ⟨by dsimp only; omega, by dsimp only; omega⟩, ⟨Nat.le_of_ble_eq_true rfl, Nat.le_of_ble_eq_true rfl⟩⟩ rfl (Nat.le_of_ble_eq_true rfl) dX12_readsThing_36 rfl rfl [0, 2] [1] ⟨rfl, rfl, trivial⟩ (by decide +kernel) rfl [oX12 ao io_thrown io_rows io_cells io_children io_changes io_taped r15.2 io_to io_nest io_readMany io_codeLong r16.1 io_undos io_wentHome io_tideLevel io_acts io_firstBreaks io_bestCrew io_sights io_wayMany io_random, rI Y (ao 10) 80 co_tape, rI Y (ao 13) 80 r16.2] ⟨rfl, rfl, trivial⟩ ⟨rfl, trivial⟩ 3 rfl (by decide +kernel) ?_
      refine a_iconst C (1 : Int32) dX12_readsThing_39 (by decide) ?_
      obtain rfl := fx_some hf
      exact a_zret C hQ (Or.inr rfl) dX12_readsThing_40 ⟨rfl, rfl⟩
  · have hf := fx_f h2 hf
    refine a_aload_n C dX12_readsThing_9 rfl ?_
    obtain ⟨r17, h17, hf⟩ := fx_bind hf
    refine a_fV C (hrec_X12_readsThing ao io_thrown io_rows io_cells io_children io_changes io_taped r1.2 io_to io_nest io_readMany io_codeLong io_readLong io_undos io_wentHome io_tideLevel io_acts io_firstBreaks io_bestCrew io_sights io_wayMany io_random co_tape co_readCode r17 h17) (gB_X12_217 _) rfl dvX12_readsThing ⟨⟨rfl, rfl⟩, ⟨by dsimp only; omega, by dsimp only; omega⟩, ⟨Nat.le_of_ble_eq_true rfl, Nat.le_of_ble_eq_true rfl⟩⟩ rfl (Nat.le_of_ble_eq_true rfl) dX12_readsThing_10 rfl rfl [0, 1, 2] [] ⟨rfl, rfl, rfl, trivial⟩ (by decide +kernel) rfl [oX12 ao io_thrown io_rows io_cells io_children io_changes io_taped r17.2.1 io_to r17.2.2.1 io_readMany io_codeLong r17.2.2.2.1 io_undos io_wentHome io_tideLevel io_acts io_firstBreaks io_bestCrew io_sights io_wayMany io_random, rI Y (ao 10) 80 co_tape, rI Y (ao 13) 80 r17.2.2.2.2] ⟨rfl, rfl, rfl, trivial⟩ trivial 3 rfl (by decide +kernel) ?_
    refine a_istore_n C dX12_readsThing_13 (by decide) rfl ?_
    refine a_aload_n C dX12_readsThing_14 rfl ?_
    refine a_sipush C (3000 : Int32) dX12_readsThing_15 (by decide) ?_
    obtain ⟨r18, h18, hf⟩ := fx_bind hf
    refine a_fV C (kX12_codes l D Y ao io_thrown io_rows io_cells io_children io_changes io_taped r17.2.1 io_to r17.2.2.1 io_readMany io_codeLong r17.2.2.2.1 io_undos io_wentHome io_tideLevel io_acts io_firstBreaks io_bestCrew io_sights io_wayMany io_random r17.2.2.2.2 (3000 : Int32) r18 h18) (gB_X12_220 _) rfl dvX12_codes ⟨⟨rfl, rfl⟩, ⟨by dsimp only; omega, by dsimp only; omega⟩, ⟨Nat.le_of_ble_eq_true rfl, Nat.le_of_ble_eq_true rfl⟩⟩ rfl (Nat.le_of_ble_eq_true rfl) dX12_readsThing_18 rfl rfl [0, 2] [1] ⟨rfl, rfl, trivial⟩ (by decide +kernel) rfl [oX12 ao io_thrown io_rows io_cells io_children io_changes io_taped r17.2.1 io_to r17.2.2.1 io_readMany io_codeLong r18.1 io_undos io_wentHome io_tideLevel io_acts io_firstBreaks io_bestCrew io_sights io_wayMany io_random, rI Y (ao 10) 80 co_tape, rI Y (ao 13) 80 r18.2] ⟨rfl, rfl, trivial⟩ ⟨rfl, trivial⟩ 3 rfl (by decide +kernel) ?_
    refine a_iload_n C dX12_readsThing_21 rfl ?_
    obtain ⟨h19, hf⟩ := fx_ite hf
    obtain rfl := fx_some hf
    exact a_zret C hQ h19 dX12_readsThing_22 ⟨rfl, rfl⟩
abbrev rmX12_readsRank (f9 l9 : Nat) : Room := { frames := f9 + 6, cells := 0, slots := 0, locals := l9 + 129 }
def fX12_readsRank_b113 (rec_X12_readsThing : Int32 → Int32 → Int32 → Int32 → (Nat → Int32) → (Nat → Int32) → Option (Int32 × Int32 × Int32 × Int32 × (Nat → Int32))) (rec_X12_readsRank : Int32 → Int32 → Int32 → Int32 → (Nat → Int32) → (Nat → Int32) → Int32 → Option (Int32 × Int32 × Int32 × Int32 × (Nat → Int32))) (io_at : Int32) (io_to : Int32) (io_nest : Int32) (io_readLong : Int32) (co_tape : Nat → Int32) (co_readCode : Nat → Int32) : Option (Int32 × Int32 × Int32 × Int32 × (Nat → Int32)) :=
  some ((1 : Int32), io_at, io_nest, io_readLong, co_readCode)
set_option maxHeartbeats 400000 in
set_option maxRecDepth 100000 in
theorem kX12_readsRank_b113 {X : cxT} {l : Launch} {D : va_G} {Y : Nat → ClassId} {ao : Nat → Nat} {io_thrown : Int32} {io_rows : Int32} {io_cells : Int32} {io_children : Int32} {io_changes : Int32} {io_taped : Int32} {io_at : Int32} {io_to : Int32} {io_nest : Int32} {io_readMany : Int32} {io_codeLong : Int32} {io_readLong : Int32} {io_undos : Int32} {io_wentHome : Int32} {io_tideLevel : Int32} {io_acts : Int32} {io_firstBreaks : Int32} {io_bestCrew : Int32} {io_sights : Int32} {io_wayMany : Int32} {io_random : Int32} {co_tape : Nat → Int32} {co_readCode : Nat → Int32} {res : Int32 × Int32 × Int32 × Int32 × (Nat → Int32)} {f9 l9 : Nat} {rec_X12_readsThing : Int32 → Int32 → Int32 → Int32 → (Nat → Int32) → (Nat → Int32) → Option (Int32 × Int32 × Int32 × Int32 × (Nat → Int32))} (hrec_X12_readsThing : HX12_readsThing l D Y { frames := f9, cells := 0, slots := 0, locals := l9 } rec_X12_readsThing) {rec_X12_readsRank : Int32 → Int32 → Int32 → Int32 → (Nat → Int32) → (Nat → Int32) → Int32 → Option (Int32 × Int32 × Int32 × Int32 × (Nat → Int32))} (hrec_X12_readsRank : HX12_readsRank l D Y { frames := f9, cells := 0, slots := 0, locals := l9 } rec_X12_readsRank) (C : axC X l D Y cX12_readsRank 4 RX12 wsX12_readsRank (rmX12_readsRank f9 l9) (some .boolean)) (hQ : axQ X 0 0 (fun r9 w9 => r9 = (some (.int res.1)) ∧ w9 = [oX12 ao io_thrown io_rows io_cells io_children io_changes io_taped res.2.1 io_to res.2.2.1 io_readMany io_codeLong res.2.2.2.1 io_undos io_wentHome io_tideLevel io_acts io_firstBreaks io_bestCrew io_sights io_wayMany io_random, rI Y (ao 10) 80 co_tape, rI Y (ao 13) 80 res.2.2.2.2])) (hf : fX12_readsRank_b113 rec_X12_readsThing rec_X12_readsRank io_at io_to io_nest io_readLong co_tape co_readCode = some res) : ax X 0 0 113 [none, none, none, none] [oX12 ao io_thrown io_rows io_cells io_children io_changes io_taped io_at io_to io_nest io_readMany io_codeLong io_readLong io_undos io_wentHome io_tideLevel io_acts io_firstBreaks io_bestCrew io_sights io_wayMany io_random, rI Y (ao 10) 80 co_tape, rI Y (ao 13) 80 co_readCode] [] := by
  unfold fX12_readsRank_b113 at hf
  refine a_iconst C (1 : Int32) dX12_readsRank_113 (by decide) ?_
  obtain rfl := fx_some hf
  exact a_zret C hQ (Or.inr rfl) dX12_readsRank_114 ⟨rfl, rfl⟩
def fX12_readsRank_b58 (rec_X12_readsThing : Int32 → Int32 → Int32 → Int32 → (Nat → Int32) → (Nat → Int32) → Option (Int32 × Int32 × Int32 × Int32 × (Nat → Int32))) (rec_X12_readsRank : Int32 → Int32 → Int32 → Int32 → (Nat → Int32) → (Nat → Int32) → Int32 → Option (Int32 × Int32 × Int32 × Int32 × (Nat → Int32))) (io_at : Int32) (io_to : Int32) (io_nest : Int32) (io_readLong : Int32) (co_tape : Nat → Int32) (co_readCode : Nat → Int32) : Option (Int32 × Int32 × Int32 × Int32 × (Nat → Int32)) :=
  some ((1 : Int32), io_at, io_nest, io_readLong, co_readCode)
set_option maxHeartbeats 400000 in
set_option maxRecDepth 100000 in
theorem kX12_readsRank_b58 {X : cxT} {l : Launch} {D : va_G} {Y : Nat → ClassId} {ao : Nat → Nat} {io_thrown : Int32} {io_rows : Int32} {io_cells : Int32} {io_children : Int32} {io_changes : Int32} {io_taped : Int32} {io_at : Int32} {io_to : Int32} {io_nest : Int32} {io_readMany : Int32} {io_codeLong : Int32} {io_readLong : Int32} {io_undos : Int32} {io_wentHome : Int32} {io_tideLevel : Int32} {io_acts : Int32} {io_firstBreaks : Int32} {io_bestCrew : Int32} {io_sights : Int32} {io_wayMany : Int32} {io_random : Int32} {co_tape : Nat → Int32} {co_readCode : Nat → Int32} {res : Int32 × Int32 × Int32 × Int32 × (Nat → Int32)} {f9 l9 : Nat} {rec_X12_readsThing : Int32 → Int32 → Int32 → Int32 → (Nat → Int32) → (Nat → Int32) → Option (Int32 × Int32 × Int32 × Int32 × (Nat → Int32))} (hrec_X12_readsThing : HX12_readsThing l D Y { frames := f9, cells := 0, slots := 0, locals := l9 } rec_X12_readsThing) {rec_X12_readsRank : Int32 → Int32 → Int32 → Int32 → (Nat → Int32) → (Nat → Int32) → Int32 → Option (Int32 × Int32 × Int32 × Int32 × (Nat → Int32))} (hrec_X12_readsRank : HX12_readsRank l D Y { frames := f9, cells := 0, slots := 0, locals := l9 } rec_X12_readsRank) (C : axC X l D Y cX12_readsRank 4 RX12 wsX12_readsRank (rmX12_readsRank f9 l9) (some .boolean)) (hQ : axQ X 0 0 (fun r9 w9 => r9 = (some (.int res.1)) ∧ w9 = [oX12 ao io_thrown io_rows io_cells io_children io_changes io_taped res.2.1 io_to res.2.2.1 io_readMany io_codeLong res.2.2.2.1 io_undos io_wentHome io_tideLevel io_acts io_firstBreaks io_bestCrew io_sights io_wayMany io_random, rI Y (ao 10) 80 co_tape, rI Y (ao 13) 80 res.2.2.2.2])) (hf : fX12_readsRank_b58 rec_X12_readsThing rec_X12_readsRank io_at io_to io_nest io_readLong co_tape co_readCode = some res) : ax X 0 0 58 [none, none, none, none] [oX12 ao io_thrown io_rows io_cells io_children io_changes io_taped io_at io_to io_nest io_readMany io_codeLong io_readLong io_undos io_wentHome io_tideLevel io_acts io_firstBreaks io_bestCrew io_sights io_wayMany io_random, rI Y (ao 10) 80 co_tape, rI Y (ao 13) 80 co_readCode] [] := by
  unfold fX12_readsRank_b58 at hf
  refine a_iconst C (1 : Int32) dX12_readsRank_58 (by decide) ?_
  obtain rfl := fx_some hf
  exact a_zret C hQ (Or.inr rfl) dX12_readsRank_59 ⟨rfl, rfl⟩
def fX12_readsRank_b70 (rec_X12_readsThing : Int32 → Int32 → Int32 → Int32 → (Nat → Int32) → (Nat → Int32) → Option (Int32 × Int32 × Int32 × Int32 × (Nat → Int32))) (rec_X12_readsRank : Int32 → Int32 → Int32 → Int32 → (Nat → Int32) → (Nat → Int32) → Int32 → Option (Int32 × Int32 × Int32 × Int32 × (Nat → Int32))) (io_at : Int32) (io_to : Int32) (io_nest : Int32) (io_readLong : Int32) (co_tape : Nat → Int32) (co_readCode : Nat → Int32) : Option (Int32 × Int32 × Int32 × Int32 × (Nat → Int32)) :=
  some ((0 : Int32), io_at, io_nest, io_readLong, co_readCode)
set_option maxHeartbeats 400000 in
set_option maxRecDepth 100000 in
theorem kX12_readsRank_b70 {X : cxT} {l : Launch} {D : va_G} {Y : Nat → ClassId} {ao : Nat → Nat} {io_thrown : Int32} {io_rows : Int32} {io_cells : Int32} {io_children : Int32} {io_changes : Int32} {io_taped : Int32} {io_at : Int32} {io_to : Int32} {io_nest : Int32} {io_readMany : Int32} {io_codeLong : Int32} {io_readLong : Int32} {io_undos : Int32} {io_wentHome : Int32} {io_tideLevel : Int32} {io_acts : Int32} {io_firstBreaks : Int32} {io_bestCrew : Int32} {io_sights : Int32} {io_wayMany : Int32} {io_random : Int32} {co_tape : Nat → Int32} {co_readCode : Nat → Int32} {res : Int32 × Int32 × Int32 × Int32 × (Nat → Int32)} {f9 l9 : Nat} {rec_X12_readsThing : Int32 → Int32 → Int32 → Int32 → (Nat → Int32) → (Nat → Int32) → Option (Int32 × Int32 × Int32 × Int32 × (Nat → Int32))} (hrec_X12_readsThing : HX12_readsThing l D Y { frames := f9, cells := 0, slots := 0, locals := l9 } rec_X12_readsThing) {rec_X12_readsRank : Int32 → Int32 → Int32 → Int32 → (Nat → Int32) → (Nat → Int32) → Int32 → Option (Int32 × Int32 × Int32 × Int32 × (Nat → Int32))} (hrec_X12_readsRank : HX12_readsRank l D Y { frames := f9, cells := 0, slots := 0, locals := l9 } rec_X12_readsRank) (C : axC X l D Y cX12_readsRank 4 RX12 wsX12_readsRank (rmX12_readsRank f9 l9) (some .boolean)) (hQ : axQ X 0 0 (fun r9 w9 => r9 = (some (.int res.1)) ∧ w9 = [oX12 ao io_thrown io_rows io_cells io_children io_changes io_taped res.2.1 io_to res.2.2.1 io_readMany io_codeLong res.2.2.2.1 io_undos io_wentHome io_tideLevel io_acts io_firstBreaks io_bestCrew io_sights io_wayMany io_random, rI Y (ao 10) 80 co_tape, rI Y (ao 13) 80 res.2.2.2.2])) (hf : fX12_readsRank_b70 rec_X12_readsThing rec_X12_readsRank io_at io_to io_nest io_readLong co_tape co_readCode = some res) : ax X 0 0 70 [none, none, none, none] [oX12 ao io_thrown io_rows io_cells io_children io_changes io_taped io_at io_to io_nest io_readMany io_codeLong io_readLong io_undos io_wentHome io_tideLevel io_acts io_firstBreaks io_bestCrew io_sights io_wayMany io_random, rI Y (ao 10) 80 co_tape, rI Y (ao 13) 80 co_readCode] [] := by
  unfold fX12_readsRank_b70 at hf
  refine a_iconst C (0 : Int32) dX12_readsRank_70 (by decide) ?_
  obtain rfl := fx_some hf
  exact a_zret C hQ (Or.inl rfl) dX12_readsRank_71 ⟨rfl, rfl⟩
def fX12_readsRank_b109 (rec_X12_readsThing : Int32 → Int32 → Int32 → Int32 → (Nat → Int32) → (Nat → Int32) → Option (Int32 × Int32 × Int32 × Int32 × (Nat → Int32))) (rec_X12_readsRank : Int32 → Int32 → Int32 → Int32 → (Nat → Int32) → (Nat → Int32) → Int32 → Option (Int32 × Int32 × Int32 × Int32 × (Nat → Int32))) (io_at : Int32) (io_to : Int32) (io_nest : Int32) (io_readLong : Int32) (co_tape : Nat → Int32) (co_readCode : Nat → Int32) (x1 : Int32) (s0 : Int32) (k24 : Int32 × Int32 × Int32 × (Nat → Int32) × Int32 → Option (Int32 × Int32 × Int32 × Int32 × (Nat → Int32))) : Option (Int32 × Int32 × Int32 × Int32 × (Nat → Int32)) :=
  k24 (io_at, io_nest, io_readLong, co_readCode, s0)
set_option maxHeartbeats 400000 in
set_option maxRecDepth 100000 in
theorem kX12_readsRank_b109 {X : cxT} {l : Launch} {D : va_G} {Y : Nat → ClassId} {ao : Nat → Nat} {io_thrown : Int32} {io_rows : Int32} {io_cells : Int32} {io_children : Int32} {io_changes : Int32} {io_taped : Int32} {io_at : Int32} {io_to : Int32} {io_nest : Int32} {io_readMany : Int32} {io_codeLong : Int32} {io_readLong : Int32} {io_undos : Int32} {io_wentHome : Int32} {io_tideLevel : Int32} {io_acts : Int32} {io_firstBreaks : Int32} {io_bestCrew : Int32} {io_sights : Int32} {io_wayMany : Int32} {io_random : Int32} {co_tape : Nat → Int32} {co_readCode : Nat → Int32} {x1 : Int32} {s0 : Int32} {res : Int32 × Int32 × Int32 × Int32 × (Nat → Int32)} {f9 l9 : Nat} {rec_X12_readsThing : Int32 → Int32 → Int32 → Int32 → (Nat → Int32) → (Nat → Int32) → Option (Int32 × Int32 × Int32 × Int32 × (Nat → Int32))} (hrec_X12_readsThing : HX12_readsThing l D Y { frames := f9, cells := 0, slots := 0, locals := l9 } rec_X12_readsThing) {rec_X12_readsRank : Int32 → Int32 → Int32 → Int32 → (Nat → Int32) → (Nat → Int32) → Int32 → Option (Int32 × Int32 × Int32 × Int32 × (Nat → Int32))} (hrec_X12_readsRank : HX12_readsRank l D Y { frames := f9, cells := 0, slots := 0, locals := l9 } rec_X12_readsRank) (C : axC X l D Y cX12_readsRank 4 RX12 wsX12_readsRank (rmX12_readsRank f9 l9) (some .boolean)) (hQ : axQ X 0 0 (fun r9 w9 => r9 = (some (.int res.1)) ∧ w9 = [oX12 ao io_thrown io_rows io_cells io_children io_changes io_taped res.2.1 io_to res.2.2.1 io_readMany io_codeLong res.2.2.2.1 io_undos io_wentHome io_tideLevel io_acts io_firstBreaks io_bestCrew io_sights io_wayMany io_random, rI Y (ao 10) 80 co_tape, rI Y (ao 13) 80 res.2.2.2.2])) {k24 : Int32 × Int32 × Int32 × (Nat → Int32) × Int32 → Option (Int32 × Int32 × Int32 × Int32 × (Nat → Int32))} (hk24 : ∀ s : Int32 × Int32 × Int32 × (Nat → Int32) × Int32, k24 s = some res → ax X 0 0 24 [some (.ref (ao 0)), some (.int x1), some (.int s.2.2.2.2), none] [oX12 ao io_thrown io_rows io_cells io_children io_changes io_taped s.1 io_to s.2.1 io_readMany io_codeLong s.2.2.1 io_undos io_wentHome io_tideLevel io_acts io_firstBreaks io_bestCrew io_sights io_wayMany io_random, rI Y (ao 10) 80 co_tape, rI Y (ao 13) 80 s.2.2.2.1] []) (hf : fX12_readsRank_b109 rec_X12_readsThing rec_X12_readsRank io_at io_to io_nest io_readLong co_tape co_readCode x1 s0 k24 = some res) : ax X 0 0 109 [some (.ref (ao 0)), some (.int x1), none, none] [oX12 ao io_thrown io_rows io_cells io_children io_changes io_taped io_at io_to io_nest io_readMany io_codeLong io_readLong io_undos io_wentHome io_tideLevel io_acts io_firstBreaks io_bestCrew io_sights io_wayMany io_random, rI Y (ao 10) 80 co_tape, rI Y (ao 13) 80 co_readCode] [.int s0] := by
  unfold fX12_readsRank_b109 at hf
  refine a_istore_n C dX12_readsRank_109 (by decide) rfl ?_
  refine a_goto C 24 dX12_readsRank_110 (by decide) ?_
  exact hk24 (io_at, io_nest, io_readLong, co_readCode, s0) hf
def fX12_readsRank_b96 (rec_X12_readsThing : Int32 → Int32 → Int32 → Int32 → (Nat → Int32) → (Nat → Int32) → Option (Int32 × Int32 × Int32 × Int32 × (Nat → Int32))) (rec_X12_readsRank : Int32 → Int32 → Int32 → Int32 → (Nat → Int32) → (Nat → Int32) → Int32 → Option (Int32 × Int32 × Int32 × Int32 × (Nat → Int32))) (io_at : Int32) (io_to : Int32) (io_nest : Int32) (io_readLong : Int32) (co_tape : Nat → Int32) (co_readCode : Nat → Int32) (x1 : Int32) (s1 : Int32) (s2 : Int32) (k24 : Int32 × Int32 × Int32 × (Nat → Int32) × Int32 → Option (Int32 × Int32 × Int32 × Int32 × (Nat → Int32))) : Option (Int32 × Int32 × Int32 × Int32 × (Nat → Int32)) :=
  (fX12_codes io_readLong co_readCode (s1 + s2)).bind (fun r1 => if x1 ≤ (0 : Int32) then (fX12_readsRank_b109 rec_X12_readsThing rec_X12_readsRank io_at io_to io_nest r1.1 co_tape r1.2 x1 (0 : Int32) k24) else (fX12_readsRank_b109 rec_X12_readsThing rec_X12_readsRank io_at io_to io_nest r1.1 co_tape r1.2 x1 (1 : Int32) k24))
set_option maxHeartbeats 400000 in
set_option maxRecDepth 100000 in
theorem kX12_readsRank_b96 {X : cxT} {l : Launch} {D : va_G} {Y : Nat → ClassId} {ao : Nat → Nat} {io_thrown : Int32} {io_rows : Int32} {io_cells : Int32} {io_children : Int32} {io_changes : Int32} {io_taped : Int32} {io_at : Int32} {io_to : Int32} {io_nest : Int32} {io_readMany : Int32} {io_codeLong : Int32} {io_readLong : Int32} {io_undos : Int32} {io_wentHome : Int32} {io_tideLevel : Int32} {io_acts : Int32} {io_firstBreaks : Int32} {io_bestCrew : Int32} {io_sights : Int32} {io_wayMany : Int32} {io_random : Int32} {co_tape : Nat → Int32} {co_readCode : Nat → Int32} {x1 : Int32} {s1 : Int32} {s2 : Int32} {res : Int32 × Int32 × Int32 × Int32 × (Nat → Int32)} {f9 l9 : Nat} {rec_X12_readsThing : Int32 → Int32 → Int32 → Int32 → (Nat → Int32) → (Nat → Int32) → Option (Int32 × Int32 × Int32 × Int32 × (Nat → Int32))} (hrec_X12_readsThing : HX12_readsThing l D Y { frames := f9, cells := 0, slots := 0, locals := l9 } rec_X12_readsThing) {rec_X12_readsRank : Int32 → Int32 → Int32 → Int32 → (Nat → Int32) → (Nat → Int32) → Int32 → Option (Int32 × Int32 × Int32 × Int32 × (Nat → Int32))} (hrec_X12_readsRank : HX12_readsRank l D Y { frames := f9, cells := 0, slots := 0, locals := l9 } rec_X12_readsRank) (C : axC X l D Y cX12_readsRank 4 RX12 wsX12_readsRank (rmX12_readsRank f9 l9) (some .boolean)) (hQ : axQ X 0 0 (fun r9 w9 => r9 = (some (.int res.1)) ∧ w9 = [oX12 ao io_thrown io_rows io_cells io_children io_changes io_taped res.2.1 io_to res.2.2.1 io_readMany io_codeLong res.2.2.2.1 io_undos io_wentHome io_tideLevel io_acts io_firstBreaks io_bestCrew io_sights io_wayMany io_random, rI Y (ao 10) 80 co_tape, rI Y (ao 13) 80 res.2.2.2.2])) {k24 : Int32 × Int32 × Int32 × (Nat → Int32) × Int32 → Option (Int32 × Int32 × Int32 × Int32 × (Nat → Int32))} (hk24 : ∀ s : Int32 × Int32 × Int32 × (Nat → Int32) × Int32, k24 s = some res → ax X 0 0 24 [some (.ref (ao 0)), some (.int x1), some (.int s.2.2.2.2), none] [oX12 ao io_thrown io_rows io_cells io_children io_changes io_taped s.1 io_to s.2.1 io_readMany io_codeLong s.2.2.1 io_undos io_wentHome io_tideLevel io_acts io_firstBreaks io_bestCrew io_sights io_wayMany io_random, rI Y (ao 10) 80 co_tape, rI Y (ao 13) 80 s.2.2.2.1] []) (hf : fX12_readsRank_b96 rec_X12_readsThing rec_X12_readsRank io_at io_to io_nest io_readLong co_tape co_readCode x1 s1 s2 k24 = some res) : ax X 0 0 96 [some (.ref (ao 0)), some (.int x1), none, none] [oX12 ao io_thrown io_rows io_cells io_children io_changes io_taped io_at io_to io_nest io_readMany io_codeLong io_readLong io_undos io_wentHome io_tideLevel io_acts io_firstBreaks io_bestCrew io_sights io_wayMany io_random, rI Y (ao 10) 80 co_tape, rI Y (ao 13) 80 co_readCode] [.int s2, .int s1, .ref (ao 0)] := by
  unfold fX12_readsRank_b96 at hf
  refine a_iadd C dX12_readsRank_96 ?_
  obtain ⟨r1, h1, hf⟩ := fx_bind hf
  refine a_fV C (kX12_codes l D Y ao io_thrown io_rows io_cells io_children io_changes io_taped io_at io_to io_nest io_readMany io_codeLong io_readLong io_undos io_wentHome io_tideLevel io_acts io_firstBreaks io_bestCrew io_sights io_wayMany io_random co_readCode (s1 + s2) r1 h1) (gB_X12_220 _) rfl dvX12_codes ⟨⟨rfl, rfl⟩, ⟨by dsimp only; omega, by dsimp only; omega⟩, ⟨Nat.le_of_ble_eq_true rfl, Nat.le_of_ble_eq_true rfl⟩⟩ rfl (Nat.le_of_ble_eq_true rfl) dX12_readsRank_97 rfl rfl [0, 2] [1] ⟨rfl, rfl, trivial⟩ (by decide +kernel) rfl [oX12 ao io_thrown io_rows io_cells io_children io_changes io_taped io_at io_to io_nest io_readMany io_codeLong r1.1 io_undos io_wentHome io_tideLevel io_acts io_firstBreaks io_bestCrew io_sights io_wayMany io_random, rI Y (ao 10) 80 co_tape, rI Y (ao 13) 80 r1.2] ⟨rfl, rfl, trivial⟩ ⟨rfl, trivial⟩ 3 rfl (by decide +kernel) ?_
  refine a_iload_n C dX12_readsRank_100 rfl ?_
  refine a_if_le C 108 dX12_readsRank_101 (by decide) (fun h2 => ?_) (fun h2 => ?_)
  · have hf := fx_t h2 hf
    refine a_iconst C (0 : Int32) dX12_readsRank_108 (by decide) ?_
    exact kX12_readsRank_b109 hrec_X12_readsThing hrec_X12_readsRank C hQ hk24 hf
  · have hf := fx_f h2 hf
    refine a_iconst C (1 : Int32) dX12_readsRank_104 (by decide) ?_
    refine a_goto C 109 dX12_readsRank_105 (by decide) ?_
    exact kX12_readsRank_b109 hrec_X12_readsThing hrec_X12_readsRank C hQ hk24 hf
def fX12_readsRank_b50 (rec_X12_readsThing : Int32 → Int32 → Int32 → Int32 → (Nat → Int32) → (Nat → Int32) → Option (Int32 × Int32 × Int32 × Int32 × (Nat → Int32))) (rec_X12_readsRank : Int32 → Int32 → Int32 → Int32 → (Nat → Int32) → (Nat → Int32) → Int32 → Option (Int32 × Int32 × Int32 × Int32 × (Nat → Int32))) (io_at : Int32) (io_to : Int32) (io_nest : Int32) (io_readLong : Int32) (co_tape : Nat → Int32) (co_readCode : Nat → Int32) (x1 : Int32) (s1 : Nat) (k24 : Int32 × Int32 × Int32 × (Nat → Int32) × Int32 → Option (Int32 × Int32 × Int32 × Int32 × (Nat → Int32))) : Option (Int32 × Int32 × Int32 × Int32 × (Nat → Int32)) :=
  (fX12_takesOf io_at io_to co_tape s1).bind (fun r3 => if (0 : Int32) ≤ r3.1 then ((rec_X12_readsRank r3.2 io_to io_nest io_readLong co_tape co_readCode (x1 + (1 : Int32))).bind (fun r5 => if r5.1 = (0 : Int32) then (fX12_readsRank_b70 rec_X12_readsThing rec_X12_readsRank r5.2.1 io_to r5.2.2.1 r5.2.2.2.1 co_tape r5.2.2.2.2) else (if x1 = (0 : Int32) then (fX12_readsRank_b96 rec_X12_readsThing rec_X12_readsRank r5.2.1 io_to r5.2.2.1 r5.2.2.2.1 co_tape r5.2.2.2.2 x1 ((2000 : Int32) + r3.1) (0 : Int32) k24) else (if x1 = (1 : Int32) then (fX12_readsRank_b96 rec_X12_readsThing rec_X12_readsRank r5.2.1 io_to r5.2.2.1 r5.2.2.2.1 co_tape r5.2.2.2.2 x1 ((2000 : Int32) + r3.1) (3 : Int32) k24) else (fX12_readsRank_b96 rec_X12_readsThing rec_X12_readsRank r5.2.1 io_to r5.2.2.1 r5.2.2.2.1 co_tape r5.2.2.2.2 x1 ((2000 : Int32) + r3.1) (5 : Int32) k24))))) else (fX12_readsRank_b58 rec_X12_readsThing rec_X12_readsRank r3.2 io_to io_nest io_readLong co_tape co_readCode))
set_option maxHeartbeats 400000 in
set_option maxRecDepth 100000 in
theorem kX12_readsRank_b50 {X : cxT} {l : Launch} {D : va_G} {Y : Nat → ClassId} {ao : Nat → Nat} {io_thrown : Int32} {io_rows : Int32} {io_cells : Int32} {io_children : Int32} {io_changes : Int32} {io_taped : Int32} {io_at : Int32} {io_to : Int32} {io_nest : Int32} {io_readMany : Int32} {io_codeLong : Int32} {io_readLong : Int32} {io_undos : Int32} {io_wentHome : Int32} {io_tideLevel : Int32} {io_acts : Int32} {io_firstBreaks : Int32} {io_bestCrew : Int32} {io_sights : Int32} {io_wayMany : Int32} {io_random : Int32} {co_tape : Nat → Int32} {co_readCode : Nat → Int32} {x1 : Int32} {s1 : Nat} {res : Int32 × Int32 × Int32 × Int32 × (Nat → Int32)} {f9 l9 : Nat} {rec_X12_readsThing : Int32 → Int32 → Int32 → Int32 → (Nat → Int32) → (Nat → Int32) → Option (Int32 × Int32 × Int32 × Int32 × (Nat → Int32))} (hrec_X12_readsThing : HX12_readsThing l D Y { frames := f9, cells := 0, slots := 0, locals := l9 } rec_X12_readsThing) {rec_X12_readsRank : Int32 → Int32 → Int32 → Int32 → (Nat → Int32) → (Nat → Int32) → Int32 → Option (Int32 × Int32 × Int32 × Int32 × (Nat → Int32))} (hrec_X12_readsRank : HX12_readsRank l D Y { frames := f9, cells := 0, slots := 0, locals := l9 } rec_X12_readsRank) (C : axC X l D Y cX12_readsRank 4 RX12 wsX12_readsRank (rmX12_readsRank f9 l9) (some .boolean)) (hQ : axQ X 0 0 (fun r9 w9 => r9 = (some (.int res.1)) ∧ w9 = [oX12 ao io_thrown io_rows io_cells io_children io_changes io_taped res.2.1 io_to res.2.2.1 io_readMany io_codeLong res.2.2.2.1 io_undos io_wentHome io_tideLevel io_acts io_firstBreaks io_bestCrew io_sights io_wayMany io_random, rI Y (ao 10) 80 co_tape, rI Y (ao 13) 80 res.2.2.2.2])) {k24 : Int32 × Int32 × Int32 × (Nat → Int32) × Int32 → Option (Int32 × Int32 × Int32 × Int32 × (Nat → Int32))} (hk24 : ∀ s : Int32 × Int32 × Int32 × (Nat → Int32) × Int32, k24 s = some res → ax X 0 0 24 [some (.ref (ao 0)), some (.int x1), some (.int s.2.2.2.2), none] [oX12 ao io_thrown io_rows io_cells io_children io_changes io_taped s.1 io_to s.2.1 io_readMany io_codeLong s.2.2.1 io_undos io_wentHome io_tideLevel io_acts io_firstBreaks io_bestCrew io_sights io_wayMany io_random, rI Y (ao 10) 80 co_tape, rI Y (ao 13) 80 s.2.2.2.1] []) (hf : fX12_readsRank_b50 rec_X12_readsThing rec_X12_readsRank io_at io_to io_nest io_readLong co_tape co_readCode x1 s1 k24 = some res) : ax X 0 0 50 [some (.ref (ao 0)), some (.int x1), none, none] [oX12 ao io_thrown io_rows io_cells io_children io_changes io_taped io_at io_to io_nest io_readMany io_codeLong io_readLong io_undos io_wentHome io_tideLevel io_acts io_firstBreaks io_bestCrew io_sights io_wayMany io_random, rI Y (ao 10) 80 co_tape, rI Y (ao 13) 80 co_readCode] [.ref (Y (25 + s1)), .ref (ao 0)] := by
  unfold fX12_readsRank_b50 at hf
  obtain ⟨r3, h3, hf⟩ := fx_bind hf
  refine a_fV C (kX12_takesOf l D Y ao io_thrown io_rows io_cells io_children io_changes io_taped io_at io_to io_nest io_readMany io_codeLong io_readLong io_undos io_wentHome io_tideLevel io_acts io_firstBreaks io_bestCrew io_sights io_wayMany io_random co_tape s1 r3 h3) (gB_X12_226 _) rfl dvX12_takesOf ⟨⟨rfl, rfl⟩, ⟨by dsimp only; omega, by dsimp only; omega⟩, ⟨Nat.le_of_ble_eq_true rfl, Nat.le_of_ble_eq_true rfl⟩⟩ rfl (Nat.le_of_ble_eq_true rfl) dX12_readsRank_50 rfl rfl [0, 1] [2] ⟨rfl, rfl, trivial⟩ (by decide +kernel) rfl [oX12 ao io_thrown io_rows io_cells io_children io_changes io_taped r3.2 io_to io_nest io_readMany io_codeLong io_readLong io_undos io_wentHome io_tideLevel io_acts io_firstBreaks io_bestCrew io_sights io_wayMany io_random, rI Y (ao 10) 80 co_tape, rI Y (ao 13) 80 co_readCode] ⟨rfl, rfl, trivial⟩ ⟨rfl, trivial⟩ 3 rfl (by decide +kernel) ?_
  refine a_istore_n C dX12_readsRank_53 (by decide) rfl ?_
  refine a_iload_n C dX12_readsRank_54 rfl ?_
  refine a_if_ge C 60 dX12_readsRank_55 (by decide) (fun h4 => ?_) (fun h4 => ?_)
  · have hf := fx_t h4 hf
    refine a_aload_n C dX12_readsRank_60 rfl ?_
    refine a_iload_n C dX12_readsRank_61 rfl ?_
    refine a_iconst C (1 : Int32) dX12_readsRank_62 (by decide) ?_
    refine a_iadd C dX12_readsRank_63 ?_
    obtain ⟨r5, h5, hf⟩ := fx_bind hf
    refine a_fV C (hrec_X12_readsRank ao io_thrown io_rows io_cells io_children io_changes io_taped r3.2 io_to io_nest io_readMany io_codeLong io_readLong io_undos io_wentHome io_tideLevel io_acts io_firstBreaks io_bestCrew io_sights io_wayMany io_random co_tape co_readCode (x1 + (1 : Int32)) r5 h5) (gB_X12_229 _) rfl dvX12_readsRank ⟨⟨rfl, rfl⟩, ⟨by dsimp only; omega, by dsimp only; omega⟩, ⟨Nat.le_of_ble_eq_true rfl, Nat.le_of_ble_eq_true rfl⟩⟩ rfl (Nat.le_of_ble_eq_true rfl) dX12_readsRank_64 rfl rfl [0, 1, 2] [] ⟨rfl, rfl, rfl, trivial⟩ (by decide +kernel) rfl [oX12 ao io_thrown io_rows io_cells io_children io_changes io_taped r5.2.1 io_to r5.2.2.1 io_readMany io_codeLong r5.2.2.2.1 io_undos io_wentHome io_tideLevel io_acts io_firstBreaks io_bestCrew io_sights io_wayMany io_random, rI Y (ao 10) 80 co_tape, rI Y (ao 13) 80 r5.2.2.2.2] ⟨rfl, rfl, rfl, trivial⟩ trivial 3 rfl (by decide +kernel) ?_
    refine a_if_ne C 72 dX12_readsRank_67 (by decide) (fun h6 => ?_) (fun h6 => ?_)
    · have hf := fx_f h6 hf
      refine a_aload_n C dX12_readsRank_72 rfl ?_
      refine a_sipush C (2000 : Int32) dX12_readsRank_73 (by decide) ?_
      refine a_iload_n C dX12_readsRank_76 rfl ?_
      refine a_iadd C dX12_readsRank_77 ?_
      refine a_iload_n C dX12_readsRank_78 rfl ?_
      refine a_if_ne C 86 dX12_readsRank_79 (by decide) (fun h7 => ?_) (fun h7 => ?_)
      · have hf := fx_f h7 hf
        refine a_iload_n C dX12_readsRank_86 rfl ?_
        refine a_iconst C (1 : Int32) dX12_readsRank_87 (by decide) ?_
        refine a_icmp_ne C 95 dX12_readsRank_88 (by decide) (fun h8 => ?_) (fun h8 => ?_)
        · have hf := fx_f h8 hf
          refine a_iconst C (5 : Int32) dX12_readsRank_95 (by decide) ?_
          refine a_kill [3] ?_
          exact kX12_readsRank_b96 hrec_X12_readsThing hrec_X12_readsRank C hQ hk24 hf
        · have hf := fx_t h8 hf
          refine a_iconst C (3 : Int32) dX12_readsRank_91 (by decide) ?_
          refine a_goto C 96 dX12_readsRank_92 (by decide) ?_
          refine a_kill [3] ?_
          exact kX12_readsRank_b96 hrec_X12_readsThing hrec_X12_readsRank C hQ hk24 hf
      · have hf := fx_t h7 hf
        refine a_iconst C (0 : Int32) dX12_readsRank_82 (by decide) ?_
        refine a_goto C 96 dX12_readsRank_83 (by decide) ?_
        refine a_kill [3] ?_
        exact kX12_readsRank_b96 hrec_X12_readsThing hrec_X12_readsRank C hQ hk24 hf
    · have hf := fx_t h6 hf
      refine a_kill [0, 1, 3] ?_
      exact kX12_readsRank_b70 hrec_X12_readsThing hrec_X12_readsRank C hQ hf
  · have hf := fx_f h4 hf
    refine a_kill [0, 1, 3] ?_
    exact kX12_readsRank_b58 hrec_X12_readsThing hrec_X12_readsRank C hQ hf
def fX12_readsRank_l24 (rec_X12_readsThing : Int32 → Int32 → Int32 → Int32 → (Nat → Int32) → (Nat → Int32) → Option (Int32 × Int32 × Int32 × Int32 × (Nat → Int32))) (rec_X12_readsRank : Int32 → Int32 → Int32 → Int32 → (Nat → Int32) → (Nat → Int32) → Int32 → Option (Int32 × Int32 × Int32 × Int32 × (Nat → Int32))) (io_to : Int32) (co_tape : Nat → Int32) (x1 : Int32) (k24 : Int32 × Int32 × Int32 × (Nat → Int32) × Int32 → Option (Int32 × Int32 × Int32 × Int32 × (Nat → Int32))) (io_at : Int32) (io_nest : Int32) (io_readLong : Int32) (co_readCode : Nat → Int32) (x2 : Int32) : Option (Int32 × Int32 × Int32 × Int32 × (Nat → Int32)) :=
  if x2 = (0 : Int32) then (fX12_readsRank_b113 rec_X12_readsThing rec_X12_readsRank io_at io_to io_nest io_readLong co_tape co_readCode) else (if x1 = (0 : Int32) then (fX12_readsRank_b50 rec_X12_readsThing rec_X12_readsRank io_at io_to io_nest io_readLong co_tape co_readCode x1 1 k24) else (if x1 = (1 : Int32) then (fX12_readsRank_b50 rec_X12_readsThing rec_X12_readsRank io_at io_to io_nest io_readLong co_tape co_readCode x1 2 k24) else (fX12_readsRank_b50 rec_X12_readsThing rec_X12_readsRank io_at io_to io_nest io_readLong co_tape co_readCode x1 3 k24)))
def fX12_readsRank_b24 (rec_X12_readsThing : Int32 → Int32 → Int32 → Int32 → (Nat → Int32) → (Nat → Int32) → Option (Int32 × Int32 × Int32 × Int32 × (Nat → Int32))) (rec_X12_readsRank : Int32 → Int32 → Int32 → Int32 → (Nat → Int32) → (Nat → Int32) → Int32 → Option (Int32 × Int32 × Int32 × Int32 × (Nat → Int32))) (io_at : Int32) (io_to : Int32) (io_nest : Int32) (io_readLong : Int32) (co_tape : Nat → Int32) (co_readCode : Nat → Int32) (x1 : Int32) (x2 : Int32) : Option (Int32 × Int32 × Int32 × Int32 × (Nat → Int32)) :=
  loopN (fun (s : Int32 × Int32 × Int32 × (Nat → Int32) × Int32) k24 => fX12_readsRank_l24 rec_X12_readsThing rec_X12_readsRank io_to co_tape x1 k24 s.1 s.2.1 s.2.2.1 s.2.2.2.1 s.2.2.2.2) FUEL (io_at, io_nest, io_readLong, co_readCode, x2)
set_option maxHeartbeats 400000 in
set_option maxRecDepth 100000 in
theorem kX12_readsRank_l24 {X : cxT} {l : Launch} {D : va_G} {Y : Nat → ClassId} {ao : Nat → Nat} {io_thrown : Int32} {io_rows : Int32} {io_cells : Int32} {io_children : Int32} {io_changes : Int32} {io_taped : Int32} {io_at : Int32} {io_to : Int32} {io_nest : Int32} {io_readMany : Int32} {io_codeLong : Int32} {io_readLong : Int32} {io_undos : Int32} {io_wentHome : Int32} {io_tideLevel : Int32} {io_acts : Int32} {io_firstBreaks : Int32} {io_bestCrew : Int32} {io_sights : Int32} {io_wayMany : Int32} {io_random : Int32} {co_tape : Nat → Int32} {co_readCode : Nat → Int32} {x1 : Int32} {x2 : Int32} {res : Int32 × Int32 × Int32 × Int32 × (Nat → Int32)} {f9 l9 : Nat} {rec_X12_readsThing : Int32 → Int32 → Int32 → Int32 → (Nat → Int32) → (Nat → Int32) → Option (Int32 × Int32 × Int32 × Int32 × (Nat → Int32))} (hrec_X12_readsThing : HX12_readsThing l D Y { frames := f9, cells := 0, slots := 0, locals := l9 } rec_X12_readsThing) {rec_X12_readsRank : Int32 → Int32 → Int32 → Int32 → (Nat → Int32) → (Nat → Int32) → Int32 → Option (Int32 × Int32 × Int32 × Int32 × (Nat → Int32))} (hrec_X12_readsRank : HX12_readsRank l D Y { frames := f9, cells := 0, slots := 0, locals := l9 } rec_X12_readsRank) (C : axC X l D Y cX12_readsRank 4 RX12 wsX12_readsRank (rmX12_readsRank f9 l9) (some .boolean)) (hQ : axQ X 0 0 (fun r9 w9 => r9 = (some (.int res.1)) ∧ w9 = [oX12 ao io_thrown io_rows io_cells io_children io_changes io_taped res.2.1 io_to res.2.2.1 io_readMany io_codeLong res.2.2.2.1 io_undos io_wentHome io_tideLevel io_acts io_firstBreaks io_bestCrew io_sights io_wayMany io_random, rI Y (ao 10) 80 co_tape, rI Y (ao 13) 80 res.2.2.2.2])) {k24 : Int32 × Int32 × Int32 × (Nat → Int32) × Int32 → Option (Int32 × Int32 × Int32 × Int32 × (Nat → Int32))} (hk24 : ∀ s : Int32 × Int32 × Int32 × (Nat → Int32) × Int32, k24 s = some res → ax X 0 0 24 [some (.ref (ao 0)), some (.int x1), some (.int s.2.2.2.2), none] [oX12 ao io_thrown io_rows io_cells io_children io_changes io_taped s.1 io_to s.2.1 io_readMany io_codeLong s.2.2.1 io_undos io_wentHome io_tideLevel io_acts io_firstBreaks io_bestCrew io_sights io_wayMany io_random, rI Y (ao 10) 80 co_tape, rI Y (ao 13) 80 s.2.2.2.1] []) (hf : fX12_readsRank_l24 rec_X12_readsThing rec_X12_readsRank io_to co_tape x1 k24 io_at io_nest io_readLong co_readCode x2 = some res) : ax X 0 0 24 [some (.ref (ao 0)), some (.int x1), some (.int x2), none] [oX12 ao io_thrown io_rows io_cells io_children io_changes io_taped io_at io_to io_nest io_readMany io_codeLong io_readLong io_undos io_wentHome io_tideLevel io_acts io_firstBreaks io_bestCrew io_sights io_wayMany io_random, rI Y (ao 10) 80 co_tape, rI Y (ao 13) 80 co_readCode] [] := by
  unfold fX12_readsRank_l24 at hf
  refine a_iload_n C dX12_readsRank_24 rfl ?_
  refine a_if_eq C 113 dX12_readsRank_25 (by decide) (fun h9 => ?_) (fun h9 => ?_)
  · have hf := fx_t h9 hf
    refine a_kill [0, 1, 2] ?_
    exact kX12_readsRank_b113 hrec_X12_readsThing hrec_X12_readsRank C hQ hf
  · have hf := fx_f h9 hf
    refine a_aload_n C dX12_readsRank_28 rfl ?_
    refine a_iload_n C dX12_readsRank_29 rfl ?_
    refine a_if_ne C 38 dX12_readsRank_30 (by decide) (fun h10 => ?_) (fun h10 => ?_)
    · have hf := fx_f h10 hf
      refine a_iload_n C dX12_readsRank_38 rfl ?_
      refine a_iconst C (1 : Int32) dX12_readsRank_39 (by decide) ?_
      refine a_icmp_ne C 48 dX12_readsRank_40 (by decide) (fun h11 => ?_) (fun h11 => ?_)
      · have hf := fx_f h11 hf
        refine a_ldcS C 8 dX12_readsRank_48 rfl ?_
        refine a_kill [2] ?_
        exact kX12_readsRank_b50 hrec_X12_readsThing hrec_X12_readsRank C hQ hk24 hf
      · have hf := fx_t h11 hf
        refine a_ldcS C 7 dX12_readsRank_43 rfl ?_
        refine a_goto C 50 dX12_readsRank_45 (by decide) ?_
        refine a_kill [2] ?_
        exact kX12_readsRank_b50 hrec_X12_readsThing hrec_X12_readsRank C hQ hk24 hf
    · have hf := fx_t h10 hf
      refine a_ldcS C 6 dX12_readsRank_33 rfl ?_
      refine a_goto C 50 dX12_readsRank_35 (by decide) ?_
      refine a_kill [2] ?_
      exact kX12_readsRank_b50 hrec_X12_readsThing hrec_X12_readsRank C hQ hk24 hf
set_option maxHeartbeats 400000 in
set_option maxRecDepth 100000 in
theorem kX12_readsRank_b24 {X : cxT} {l : Launch} {D : va_G} {Y : Nat → ClassId} {ao : Nat → Nat} {io_thrown : Int32} {io_rows : Int32} {io_cells : Int32} {io_children : Int32} {io_changes : Int32} {io_taped : Int32} {io_at : Int32} {io_to : Int32} {io_nest : Int32} {io_readMany : Int32} {io_codeLong : Int32} {io_readLong : Int32} {io_undos : Int32} {io_wentHome : Int32} {io_tideLevel : Int32} {io_acts : Int32} {io_firstBreaks : Int32} {io_bestCrew : Int32} {io_sights : Int32} {io_wayMany : Int32} {io_random : Int32} {co_tape : Nat → Int32} {co_readCode : Nat → Int32} {x1 : Int32} {x2 : Int32} {res : Int32 × Int32 × Int32 × Int32 × (Nat → Int32)} {f9 l9 : Nat} {rec_X12_readsThing : Int32 → Int32 → Int32 → Int32 → (Nat → Int32) → (Nat → Int32) → Option (Int32 × Int32 × Int32 × Int32 × (Nat → Int32))} (hrec_X12_readsThing : HX12_readsThing l D Y { frames := f9, cells := 0, slots := 0, locals := l9 } rec_X12_readsThing) {rec_X12_readsRank : Int32 → Int32 → Int32 → Int32 → (Nat → Int32) → (Nat → Int32) → Int32 → Option (Int32 × Int32 × Int32 × Int32 × (Nat → Int32))} (hrec_X12_readsRank : HX12_readsRank l D Y { frames := f9, cells := 0, slots := 0, locals := l9 } rec_X12_readsRank) (C : axC X l D Y cX12_readsRank 4 RX12 wsX12_readsRank (rmX12_readsRank f9 l9) (some .boolean)) (hQ : axQ X 0 0 (fun r9 w9 => r9 = (some (.int res.1)) ∧ w9 = [oX12 ao io_thrown io_rows io_cells io_children io_changes io_taped res.2.1 io_to res.2.2.1 io_readMany io_codeLong res.2.2.2.1 io_undos io_wentHome io_tideLevel io_acts io_firstBreaks io_bestCrew io_sights io_wayMany io_random, rI Y (ao 10) 80 co_tape, rI Y (ao 13) 80 res.2.2.2.2])) (hf : fX12_readsRank_b24 rec_X12_readsThing rec_X12_readsRank io_at io_to io_nest io_readLong co_tape co_readCode x1 x2 = some res) : ax X 0 0 24 [some (.ref (ao 0)), some (.int x1), some (.int x2), none] [oX12 ao io_thrown io_rows io_cells io_children io_changes io_taped io_at io_to io_nest io_readMany io_codeLong io_readLong io_undos io_wentHome io_tideLevel io_acts io_firstBreaks io_bestCrew io_sights io_wayMany io_random, rI Y (ao 10) 80 co_tape, rI Y (ao 13) 80 co_readCode] [] := by
  unfold fX12_readsRank_b24 at hf
  exact fx_loop (P := fun s : Int32 × Int32 × Int32 × (Nat → Int32) × Int32 => ax X 0 0 24 [some (.ref (ao 0)), some (.int x1), some (.int s.2.2.2.2), none] [oX12 ao io_thrown io_rows io_cells io_children io_changes io_taped s.1 io_to s.2.1 io_readMany io_codeLong s.2.2.1 io_undos io_wentHome io_tideLevel io_acts io_firstBreaks io_bestCrew io_sights io_wayMany io_random, rI Y (ao 10) 80 co_tape, rI Y (ao 13) 80 s.2.2.2.1] []) (fun s k24 hk24 h => kX12_readsRank_l24 hrec_X12_readsThing hrec_X12_readsRank C hQ hk24 h) FUEL (io_at, io_nest, io_readLong, co_readCode, x2) hf
def fX12_readsRank_s (rec_X12_readsThing : Int32 → Int32 → Int32 → Int32 → (Nat → Int32) → (Nat → Int32) → Option (Int32 × Int32 × Int32 × Int32 × (Nat → Int32))) (rec_X12_readsRank : Int32 → Int32 → Int32 → Int32 → (Nat → Int32) → (Nat → Int32) → Int32 → Option (Int32 × Int32 × Int32 × Int32 × (Nat → Int32))) (io_at : Int32) (io_to : Int32) (io_nest : Int32) (io_readLong : Int32) (co_tape : Nat → Int32) (co_readCode : Nat → Int32) (x1 : Int32) : Option (Int32 × Int32 × Int32 × Int32 × (Nat → Int32)) :=
  if x1 = (3 : Int32) then ((rec_X12_readsThing io_at io_to io_nest io_readLong co_tape co_readCode).bind (fun r15 => if r15.1 = 0 ∨ r15.1 = 1 then some (r15.1, r15.2.1, r15.2.2.1, r15.2.2.2.1, r15.2.2.2.2) else none)) else ((rec_X12_readsRank io_at io_to io_nest io_readLong co_tape co_readCode (x1 + (1 : Int32))).bind (fun r13 => if r13.1 = (0 : Int32) then (some ((0 : Int32), r13.2.1, r13.2.2.1, r13.2.2.2.1, r13.2.2.2.2)) else (fX12_readsRank_b24 rec_X12_readsThing rec_X12_readsRank r13.2.1 io_to r13.2.2.1 r13.2.2.2.1 co_tape r13.2.2.2.2 x1 (1 : Int32))))
set_option maxHeartbeats 400000 in
set_option maxRecDepth 100000 in
theorem kX12_readsRank_s (l : Launch) (D : va_G) (Y : Nat → ClassId) (f9 l9 : Nat) (rec_X12_readsThing : Int32 → Int32 → Int32 → Int32 → (Nat → Int32) → (Nat → Int32) → Option (Int32 × Int32 × Int32 × Int32 × (Nat → Int32))) (hrec_X12_readsThing : HX12_readsThing l D Y { frames := f9, cells := 0, slots := 0, locals := l9 } rec_X12_readsThing) (rec_X12_readsRank : Int32 → Int32 → Int32 → Int32 → (Nat → Int32) → (Nat → Int32) → Int32 → Option (Int32 × Int32 × Int32 × Int32 × (Nat → Int32))) (hrec_X12_readsRank : HX12_readsRank l D Y { frames := f9, cells := 0, slots := 0, locals := l9 } rec_X12_readsRank) (ao : Nat → Nat) (io_thrown : Int32) (io_rows : Int32) (io_cells : Int32) (io_children : Int32) (io_changes : Int32) (io_taped : Int32) (io_at : Int32) (io_to : Int32) (io_nest : Int32) (io_readMany : Int32) (io_codeLong : Int32) (io_readLong : Int32) (io_undos : Int32) (io_wentHome : Int32) (io_tideLevel : Int32) (io_acts : Int32) (io_firstBreaks : Int32) (io_bestCrew : Int32) (io_sights : Int32) (io_wayMany : Int32) (io_random : Int32) (co_tape : Nat → Int32) (co_readCode : Nat → Int32) (x1 : Int32) (res : Int32 × Int32 × Int32 × Int32 × (Nat → Int32)) (hf : fX12_readsRank_s rec_X12_readsThing rec_X12_readsRank io_at io_to io_nest io_readLong co_tape co_readCode x1 = some res) : amf l D Y yX12_readsRank wsX12_readsRank (rmX12_readsRank f9 l9) [.ref (ao 0), .int x1] [oX12 ao io_thrown io_rows io_cells io_children io_changes io_taped io_at io_to io_nest io_readMany io_codeLong io_readLong io_undos io_wentHome io_tideLevel io_acts io_firstBreaks io_bestCrew io_sights io_wayMany io_random, rI Y (ao 10) 80 co_tape, rI Y (ao 13) 80 co_readCode] (some (.int res.1)) [oX12 ao io_thrown io_rows io_cells io_children io_changes io_taped res.2.1 io_to res.2.2.1 io_readMany io_codeLong res.2.2.2.1 io_undos io_wentHome io_tideLevel io_acts io_firstBreaks io_bestCrew io_sights io_wayMany io_random, rI Y (ao 10) 80 co_tape, rI Y (ao 13) 80 res.2.2.2.2] := by
  refine amf.of (cc := cX12_readsRank) (maxL := 4) (rt := (some .boolean)) (by decide) rfl RX12 rfl (Nat.le_of_ble_eq_true rfl) [some (.ref (ao 0)), some (.int x1), none, none] rfl ?_
  intro X C hQ
  unfold fX12_readsRank_s at hf
  refine a_iload_n C dX12_readsRank_0 rfl ?_
  refine a_iconst C (3 : Int32) dX12_readsRank_1 (by decide) ?_
  refine a_icmp_ne C 10 dX12_readsRank_2 (by decide) (fun h12 => ?_) (fun h12 => ?_)
  · have hf := fx_f h12 hf
    refine a_aload_n C dX12_readsRank_10 rfl ?_
    refine a_iload_n C dX12_readsRank_11 rfl ?_
    refine a_iconst C (1 : Int32) dX12_readsRank_12 (by decide) ?_
    refine a_iadd C dX12_readsRank_13 ?_
    obtain ⟨r13, h13, hf⟩ := fx_bind hf
    refine a_fV C (hrec_X12_readsRank ao io_thrown io_rows io_cells io_children io_changes io_taped io_at io_to io_nest io_readMany io_codeLong io_readLong io_undos io_wentHome io_tideLevel io_acts io_firstBreaks io_bestCrew io_sights io_wayMany io_random co_tape co_readCode (x1 + (1 : Int32)) r13 h13) (gB_X12_229 _) rfl dvX12_readsRank ⟨⟨rfl, rfl⟩, ⟨by dsimp only; omega, by dsimp only; omega⟩, ⟨Nat.le_of_ble_eq_true rfl, Nat.le_of_ble_eq_true rfl⟩⟩ rfl (Nat.le_of_ble_eq_true rfl) dX12_readsRank_14 rfl rfl [0, 1, 2] [] ⟨rfl, rfl, rfl, trivial⟩ (by decide +kernel) rfl [oX12 ao io_thrown io_rows io_cells io_children io_changes io_taped r13.2.1 io_to r13.2.2.1 io_readMany io_codeLong r13.2.2.2.1 io_undos io_wentHome io_tideLevel io_acts io_firstBreaks io_bestCrew io_sights io_wayMany io_random, rI Y (ao 10) 80 co_tape, rI Y (ao 13) 80 r13.2.2.2.2] ⟨rfl, rfl, rfl, trivial⟩ trivial 3 rfl (by decide +kernel) ?_
    refine a_if_ne C 22 dX12_readsRank_17 (by decide) (fun h14 => ?_) (fun h14 => ?_)
    · have hf := fx_f h14 hf
      refine a_iconst C (1 : Int32) dX12_readsRank_22 (by decide) ?_
      refine a_istore_n C dX12_readsRank_23 (by decide) rfl ?_
      exact kX12_readsRank_b24 hrec_X12_readsThing hrec_X12_readsRank C hQ hf
    · have hf := fx_t h14 hf
      refine a_iconst C (0 : Int32) dX12_readsRank_20 (by decide) ?_
      obtain rfl := fx_some hf
      exact a_zret C hQ (Or.inl rfl) dX12_readsRank_21 ⟨rfl, rfl⟩
  · have hf := fx_t h12 hf
    refine a_aload_n C dX12_readsRank_5 rfl ?_
    obtain ⟨r15, h15, hf⟩ := fx_bind hf
    refine a_fV C (hrec_X12_readsThing ao io_thrown io_rows io_cells io_children io_changes io_taped io_at io_to io_nest io_readMany io_codeLong io_readLong io_undos io_wentHome io_tideLevel io_acts io_firstBreaks io_bestCrew io_sights io_wayMany io_random co_tape co_readCode r15 h15) (gB_X12_217 _) rfl dvX12_readsThing ⟨⟨rfl, rfl⟩, ⟨by dsimp only; omega, by dsimp only; omega⟩, ⟨Nat.le_of_ble_eq_true rfl, Nat.le_of_ble_eq_true rfl⟩⟩ rfl (Nat.le_of_ble_eq_true rfl) dX12_readsRank_6 rfl rfl [0, 1, 2] [] ⟨rfl, rfl, rfl, trivial⟩ (by decide +kernel) rfl [oX12 ao io_thrown io_rows io_cells io_children io_changes io_taped r15.2.1 io_to r15.2.2.1 io_readMany io_codeLong r15.2.2.2.1 io_undos io_wentHome io_tideLevel io_acts io_firstBreaks io_bestCrew io_sights io_wayMany io_random, rI Y (ao 10) 80 co_tape, rI Y (ao 13) 80 r15.2.2.2.2] ⟨rfl, rfl, rfl, trivial⟩ trivial 3 rfl (by decide +kernel) ?_
    obtain ⟨h16, hf⟩ := fx_ite hf
    obtain rfl := fx_some hf
    exact a_zret C hQ h16 dX12_readsRank_9 ⟨rfl, rfl⟩
abbrev RMX12_readsThing (d : Nat) : Room := { frames := 6 * d, cells := 0, slots := 0, locals := 129 * d }
def fGX12_readsThing : Nat → (Int32 → Int32 → Int32 → Int32 → (Nat → Int32) → (Nat → Int32) → Option (Int32 × Int32 × Int32 × Int32 × (Nat → Int32))) × (Int32 → Int32 → Int32 → Int32 → (Nat → Int32) → (Nat → Int32) → Int32 → Option (Int32 × Int32 × Int32 × Int32 × (Nat → Int32)))
  | 0 => (fun _ _ _ _ _ _ => none, fun _ _ _ _ _ _ _ => none)
  | d + 1 => (fX12_readsThing_s (fGX12_readsThing d).1 (fGX12_readsThing d).2, fX12_readsRank_s (fGX12_readsThing d).1 (fGX12_readsThing d).2)
theorem hGX12_readsThing (l : Launch) (D : va_G) (Y : Nat → ClassId) : ∀ d : Nat, HX12_readsThing l D Y (RMX12_readsThing d) (fGX12_readsThing d).1 ∧ HX12_readsRank l D Y (RMX12_readsThing d) (fGX12_readsThing d).2
  | 0 => ⟨(fun _ _ _ _ _ _ _ _ _ _ _ _ _ _ _ _ _ _ _ _ _ _ _ _ _ h => by cases h), (fun _ _ _ _ _ _ _ _ _ _ _ _ _ _ _ _ _ _ _ _ _ _ _ _ _ _ h => by cases h)⟩
  | d + 1 => ⟨fun ao io_thrown io_rows io_cells io_children io_changes io_taped io_at io_to io_nest io_readMany io_codeLong io_readLong io_undos io_wentHome io_tideLevel io_acts io_firstBreaks io_bestCrew io_sights io_wayMany io_random co_tape co_readCode res h => kX12_readsThing_s l D Y (6 * d) (129 * d) (fGX12_readsThing d).1 (hGX12_readsThing l D Y d).1 (fGX12_readsThing d).2 (hGX12_readsThing l D Y d).2 ao io_thrown io_rows io_cells io_children io_changes io_taped io_at io_to io_nest io_readMany io_codeLong io_readLong io_undos io_wentHome io_tideLevel io_acts io_firstBreaks io_bestCrew io_sights io_wayMany io_random co_tape co_readCode res h, fun ao io_thrown io_rows io_cells io_children io_changes io_taped io_at io_to io_nest io_readMany io_codeLong io_readLong io_undos io_wentHome io_tideLevel io_acts io_firstBreaks io_bestCrew io_sights io_wayMany io_random co_tape co_readCode x1 res h => kX12_readsRank_s l D Y (6 * d) (129 * d) (fGX12_readsThing d).1 (hGX12_readsThing l D Y d).1 (fGX12_readsThing d).2 (hGX12_readsThing l D Y d).2 ao io_thrown io_rows io_cells io_children io_changes io_taped io_at io_to io_nest io_readMany io_codeLong io_readLong io_undos io_wentHome io_tideLevel io_acts io_firstBreaks io_bestCrew io_sights io_wayMany io_random co_tape co_readCode x1 res h⟩
def fX12_readsThing (d : Nat) : Int32 → Int32 → Int32 → Int32 → (Nat → Int32) → (Nat → Int32) → Option (Int32 × Int32 × Int32 × Int32 × (Nat → Int32)) := (fGX12_readsThing d).1
theorem hX12_readsThing (l : Launch) (D : va_G) (Y : Nat → ClassId) (d : Nat) : HX12_readsThing l D Y (RMX12_readsThing d) (fX12_readsThing d) := (hGX12_readsThing l D Y d).1
def fX12_readsRank (d : Nat) : Int32 → Int32 → Int32 → Int32 → (Nat → Int32) → (Nat → Int32) → Int32 → Option (Int32 × Int32 × Int32 × Int32 × (Nat → Int32)) := (fGX12_readsThing d).2
theorem hX12_readsRank (l : Launch) (D : va_G) (Y : Nat → ClassId) (d : Nat) : HX12_readsRank l D Y (RMX12_readsThing d) (fX12_readsRank d) := (hGX12_readsThing l D Y d).2
abbrev rmX12_readsThing_120 : Room := RMX12_readsThing 120
theorem kX12_readsThing (l : Launch) (D : va_G) (Y : Nat → ClassId) (d : Nat) : HX12_readsThing l D Y (RMX12_readsThing d) (fX12_readsThing d) := hX12_readsThing l D Y d
abbrev rmX12_readsRank_120 : Room := RMX12_readsThing 120
theorem kX12_readsRank (l : Launch) (D : va_G) (Y : Nat → ClassId) (d : Nat) : HX12_readsRank l D Y (RMX12_readsThing d) (fX12_readsRank d) := hX12_readsRank l D Y d
-- X12_readsRule
abbrev rmX12_readsRule : Room := { frames := 721, cells := 0, slots := 0, locals := 15503 }
theorem dvX12_readsRule : yX12_readsRule.cls = RX12 ∧ yX12_readsRule.cls ≠ "java/lang/invoke/MethodHandle" ∧ yX12_readsRule.cls ≠ "java/lang/invoke/VarHandle" ∧ (parseMethodDescriptor yX12_readsRule.desc).map (fun d => d.parameters.length) = some 0 := by decide +kernel
def fX12_readsRule_b29 (io_taped : Int32) (io_at : Int32) (io_to : Int32) (io_nest : Int32) (io_readLong : Int32) (co_tape : Nat → Int32) (co_readCode : Nat → Int32) (x1 : Int32) (s0 : Int32) : Option (Int32 × Int32 × Int32 × Int32 × Int32 × Int32 × (Nat → Int32)) :=
  (fX12_faultOf io_at io_to x1 (40 : Int32) s0).bind (fun r1 => some (r1, io_taped, io_at, io_to, io_nest, io_readLong, co_readCode))
set_option maxHeartbeats 400000 in
set_option maxRecDepth 100000 in
theorem kX12_readsRule_b29 {X : cxT} {l : Launch} {D : va_G} {Y : Nat → ClassId} {ao : Nat → Nat} {io_thrown : Int32} {io_rows : Int32} {io_cells : Int32} {io_children : Int32} {io_changes : Int32} {io_taped : Int32} {io_at : Int32} {io_to : Int32} {io_nest : Int32} {io_readMany : Int32} {io_codeLong : Int32} {io_readLong : Int32} {io_undos : Int32} {io_wentHome : Int32} {io_tideLevel : Int32} {io_acts : Int32} {io_firstBreaks : Int32} {io_bestCrew : Int32} {io_sights : Int32} {io_wayMany : Int32} {io_random : Int32} {co_tape : Nat → Int32} {co_readCode : Nat → Int32} {x1 : Int32} {s0 : Int32} {res : Int32 × Int32 × Int32 × Int32 × Int32 × Int32 × (Nat → Int32)} (C : axC X l D Y cX12_readsRule 3 RX12 wsX12_readsRule rmX12_readsRule (some .int)) (hQ : axQ X 0 0 (fun r9 w9 => r9 = (some (.int res.1)) ∧ w9 = [oX12 ao io_thrown io_rows io_cells io_children io_changes res.2.1 res.2.2.1 res.2.2.2.1 res.2.2.2.2.1 io_readMany io_codeLong res.2.2.2.2.2.1 io_undos io_wentHome io_tideLevel io_acts io_firstBreaks io_bestCrew io_sights io_wayMany io_random, rI Y (ao 10) 80 co_tape, rI Y (ao 13) 80 res.2.2.2.2.2.2])) (hf : fX12_readsRule_b29 io_taped io_at io_to io_nest io_readLong co_tape co_readCode x1 s0 = some res) : ax X 0 0 29 [some (.ref (ao 0)), some (.int x1), none] [oX12 ao io_thrown io_rows io_cells io_children io_changes io_taped io_at io_to io_nest io_readMany io_codeLong io_readLong io_undos io_wentHome io_tideLevel io_acts io_firstBreaks io_bestCrew io_sights io_wayMany io_random, rI Y (ao 10) 80 co_tape, rI Y (ao 13) 80 co_readCode] [.int s0] := by
  unfold fX12_readsRule_b29 at hf
  refine a_istore_n C dX12_readsRule_29 (by decide) rfl ?_
  refine a_aload_n C dX12_readsRule_30 rfl ?_
  refine a_iload_n C dX12_readsRule_31 rfl ?_
  refine a_bipush C (40 : Int32) dX12_readsRule_32 (by decide) ?_
  refine a_iload_n C dX12_readsRule_34 rfl ?_
  obtain ⟨r1, h1, hf⟩ := fx_bind hf
  refine a_fV C (kX12_faultOf l D Y ao io_thrown io_rows io_cells io_children io_changes io_taped io_at io_to io_nest io_readMany io_codeLong io_readLong io_undos io_wentHome io_tideLevel io_acts io_firstBreaks io_bestCrew io_sights io_wayMany io_random x1 (40 : Int32) s0 r1 h1) (gB_X12_210 _) rfl dvX12_faultOf ⟨⟨rfl, rfl⟩, ⟨Nat.le_of_ble_eq_true rfl, Nat.le_of_ble_eq_true rfl⟩, ⟨Nat.le_of_ble_eq_true rfl, Nat.le_of_ble_eq_true rfl⟩⟩ rfl (Nat.le_of_ble_eq_true rfl) dX12_readsRule_35 rfl rfl [0] [1, 2] ⟨rfl, trivial⟩ (by decide +kernel) rfl [oX12 ao io_thrown io_rows io_cells io_children io_changes io_taped io_at io_to io_nest io_readMany io_codeLong io_readLong io_undos io_wentHome io_tideLevel io_acts io_firstBreaks io_bestCrew io_sights io_wayMany io_random, rI Y (ao 10) 80 co_tape, rI Y (ao 13) 80 co_readCode] ⟨rfl, trivial⟩ ⟨rfl, rfl, trivial⟩ 3 rfl (by decide +kernel) ?_
  obtain rfl := fx_some hf
  exact a_iret C hQ dX12_readsRule_38 ⟨rfl, rfl⟩
def fX12_readsRule_b24 (io_taped : Int32) (io_at : Int32) (io_to : Int32) (io_nest : Int32) (io_readLong : Int32) (co_tape : Nat → Int32) (co_readCode : Nat → Int32) (x1 : Int32) : Option (Int32 × Int32 × Int32 × Int32 × Int32 × Int32 × (Nat → Int32)) :=
  fX12_readsRule_b29 io_taped io_at io_to io_nest io_readLong co_tape co_readCode x1 (1 : Int32)
set_option maxHeartbeats 400000 in
set_option maxRecDepth 100000 in
theorem kX12_readsRule_b24 {X : cxT} {l : Launch} {D : va_G} {Y : Nat → ClassId} {ao : Nat → Nat} {io_thrown : Int32} {io_rows : Int32} {io_cells : Int32} {io_children : Int32} {io_changes : Int32} {io_taped : Int32} {io_at : Int32} {io_to : Int32} {io_nest : Int32} {io_readMany : Int32} {io_codeLong : Int32} {io_readLong : Int32} {io_undos : Int32} {io_wentHome : Int32} {io_tideLevel : Int32} {io_acts : Int32} {io_firstBreaks : Int32} {io_bestCrew : Int32} {io_sights : Int32} {io_wayMany : Int32} {io_random : Int32} {co_tape : Nat → Int32} {co_readCode : Nat → Int32} {x1 : Int32} {res : Int32 × Int32 × Int32 × Int32 × Int32 × Int32 × (Nat → Int32)} (C : axC X l D Y cX12_readsRule 3 RX12 wsX12_readsRule rmX12_readsRule (some .int)) (hQ : axQ X 0 0 (fun r9 w9 => r9 = (some (.int res.1)) ∧ w9 = [oX12 ao io_thrown io_rows io_cells io_children io_changes res.2.1 res.2.2.1 res.2.2.2.1 res.2.2.2.2.1 io_readMany io_codeLong res.2.2.2.2.2.1 io_undos io_wentHome io_tideLevel io_acts io_firstBreaks io_bestCrew io_sights io_wayMany io_random, rI Y (ao 10) 80 co_tape, rI Y (ao 13) 80 res.2.2.2.2.2.2])) (hf : fX12_readsRule_b24 io_taped io_at io_to io_nest io_readLong co_tape co_readCode x1 = some res) : ax X 0 0 24 [some (.ref (ao 0)), some (.int x1), none] [oX12 ao io_thrown io_rows io_cells io_children io_changes io_taped io_at io_to io_nest io_readMany io_codeLong io_readLong io_undos io_wentHome io_tideLevel io_acts io_firstBreaks io_bestCrew io_sights io_wayMany io_random, rI Y (ao 10) 80 co_tape, rI Y (ao 13) 80 co_readCode] [] := by
  unfold fX12_readsRule_b24 at hf
  refine a_iconst C (1 : Int32) dX12_readsRule_24 (by decide) ?_
  refine a_goto C 29 dX12_readsRule_25 (by decide) ?_
  exact kX12_readsRule_b29 C hQ hf
def fX12_readsRule (io_taped : Int32) (io_at : Int32) (io_to : Int32) (io_nest : Int32) (io_readLong : Int32) (co_tape : Nat → Int32) (co_readCode : Nat → Int32) : Option (Int32 × Int32 × Int32 × Int32 × Int32 × Int32 × (Nat → Int32)) :=
  (fX12_begins io_taped io_at io_to io_nest (40 : Int32)).bind (fun r2 => if r2.1 = (0 : Int32) then (fX12_readsRule_b24 r2.2.1 r2.2.2.1 r2.2.2.2.1 r2.2.2.2.2 (0 : Int32) co_tape co_readCode r2.1) else ((fX12_readsRank 120 r2.2.2.1 r2.2.2.2.1 r2.2.2.2.2 (0 : Int32) co_tape co_readCode (0 : Int32)).bind (fun r4 => if r4.1 = (0 : Int32) then (fX12_readsRule_b29 r2.2.1 r4.2.1 r2.2.2.2.1 r4.2.2.1 r4.2.2.2.1 co_tape r4.2.2.2.2 r2.1 (0 : Int32)) else (fX12_readsRule_b24 r2.2.1 r4.2.1 r2.2.2.2.1 r4.2.2.1 r4.2.2.2.1 co_tape r4.2.2.2.2 r2.1))))
set_option maxHeartbeats 400000 in
set_option maxRecDepth 100000 in
theorem kX12_readsRule (l : Launch) (D : va_G) (Y : Nat → ClassId) (ao : Nat → Nat) (io_thrown : Int32) (io_rows : Int32) (io_cells : Int32) (io_children : Int32) (io_changes : Int32) (io_taped : Int32) (io_at : Int32) (io_to : Int32) (io_nest : Int32) (io_readMany : Int32) (io_codeLong : Int32) (io_readLong : Int32) (io_undos : Int32) (io_wentHome : Int32) (io_tideLevel : Int32) (io_acts : Int32) (io_firstBreaks : Int32) (io_bestCrew : Int32) (io_sights : Int32) (io_wayMany : Int32) (io_random : Int32) (co_tape : Nat → Int32) (co_readCode : Nat → Int32) (res : Int32 × Int32 × Int32 × Int32 × Int32 × Int32 × (Nat → Int32)) (hf : fX12_readsRule io_taped io_at io_to io_nest io_readLong co_tape co_readCode = some res) : amf l D Y yX12_readsRule wsX12_readsRule rmX12_readsRule [.ref (ao 0)] [oX12 ao io_thrown io_rows io_cells io_children io_changes io_taped io_at io_to io_nest io_readMany io_codeLong io_readLong io_undos io_wentHome io_tideLevel io_acts io_firstBreaks io_bestCrew io_sights io_wayMany io_random, rI Y (ao 10) 80 co_tape, rI Y (ao 13) 80 co_readCode] (some (.int res.1)) [oX12 ao io_thrown io_rows io_cells io_children io_changes res.2.1 res.2.2.1 res.2.2.2.1 res.2.2.2.2.1 io_readMany io_codeLong res.2.2.2.2.2.1 io_undos io_wentHome io_tideLevel io_acts io_firstBreaks io_bestCrew io_sights io_wayMany io_random, rI Y (ao 10) 80 co_tape, rI Y (ao 13) 80 res.2.2.2.2.2.2] := by
  refine amf.of (cc := cX12_readsRule) (maxL := 3) (rt := (some .int)) (by decide) rfl RX12 rfl (Nat.le_of_ble_eq_true rfl) [some (.ref (ao 0)), none, none] rfl ?_
  intro X C hQ
  unfold fX12_readsRule at hf
  refine a_aload_n C dX12_readsRule_0 rfl ?_
  refine a_bipush C (40 : Int32) dX12_readsRule_1 (by decide) ?_
  obtain ⟨r2, h2, hf⟩ := fx_bind hf
  refine a_fV C (kX12_begins l D Y ao io_thrown io_rows io_cells io_children io_changes io_taped io_at io_to io_nest io_readMany io_codeLong io_readLong io_undos io_wentHome io_tideLevel io_acts io_firstBreaks io_bestCrew io_sights io_wayMany io_random (40 : Int32) r2 h2) (gB_X12_181 _) rfl dvX12_begins ⟨⟨rfl, rfl⟩, ⟨Nat.le_of_ble_eq_true rfl, Nat.le_of_ble_eq_true rfl⟩, ⟨Nat.le_of_ble_eq_true rfl, Nat.le_of_ble_eq_true rfl⟩⟩ rfl (Nat.le_of_ble_eq_true rfl) dX12_readsRule_3 rfl rfl [0] [1, 2] ⟨rfl, trivial⟩ (by decide +kernel) rfl [oX12 ao io_thrown io_rows io_cells io_children io_changes r2.2.1 r2.2.2.1 r2.2.2.2.1 r2.2.2.2.2 io_readMany io_codeLong io_readLong io_undos io_wentHome io_tideLevel io_acts io_firstBreaks io_bestCrew io_sights io_wayMany io_random, rI Y (ao 10) 80 co_tape, rI Y (ao 13) 80 co_readCode] ⟨rfl, trivial⟩ ⟨rfl, rfl, trivial⟩ 3 rfl (by decide +kernel) ?_
  refine a_istore_n C dX12_readsRule_6 (by decide) rfl ?_
  refine a_aload_n C dX12_readsRule_7 rfl ?_
  refine a_iconst C (0 : Int32) dX12_readsRule_8 (by decide) ?_
  refine a_put C (eB_X12_214 _) tfX12_24 dX12_readsRule_9 0 rfl rfl rfl (Nat.le_of_ble_eq_true rfl) ?_
  refine a_iload_n C dX12_readsRule_12 rfl ?_
  refine a_if_eq C 24 dX12_readsRule_13 (by decide) (fun h3 => ?_) (fun h3 => ?_)
  · have hf := fx_t h3 hf
    exact kX12_readsRule_b24 C hQ hf
  · have hf := fx_f h3 hf
    refine a_aload_n C dX12_readsRule_16 rfl ?_
    refine a_iconst C (0 : Int32) dX12_readsRule_17 (by decide) ?_
    obtain ⟨r4, h4, hf⟩ := fx_bind hf
    refine a_fV C (kX12_readsRank l D Y 120 ao io_thrown io_rows io_cells io_children io_changes r2.2.1 r2.2.2.1 r2.2.2.2.1 r2.2.2.2.2 io_readMany io_codeLong (0 : Int32) io_undos io_wentHome io_tideLevel io_acts io_firstBreaks io_bestCrew io_sights io_wayMany io_random co_tape co_readCode (0 : Int32) r4 h4) (gB_X12_229 _) rfl dvX12_readsRank ⟨⟨rfl, rfl⟩, ⟨Nat.le_of_ble_eq_true rfl, Nat.le_of_ble_eq_true rfl⟩, ⟨Nat.le_of_ble_eq_true rfl, Nat.le_of_ble_eq_true rfl⟩⟩ rfl (Nat.le_of_ble_eq_true rfl) dX12_readsRule_18 rfl rfl [0, 1, 2] [] ⟨rfl, rfl, rfl, trivial⟩ (by decide +kernel) rfl [oX12 ao io_thrown io_rows io_cells io_children io_changes r2.2.1 r4.2.1 r2.2.2.2.1 r4.2.2.1 io_readMany io_codeLong r4.2.2.2.1 io_undos io_wentHome io_tideLevel io_acts io_firstBreaks io_bestCrew io_sights io_wayMany io_random, rI Y (ao 10) 80 co_tape, rI Y (ao 13) 80 r4.2.2.2.2] ⟨rfl, rfl, rfl, trivial⟩ trivial 3 rfl (by decide +kernel) ?_
    refine a_if_eq C 28 dX12_readsRule_21 (by decide) (fun h5 => ?_) (fun h5 => ?_)
    · have hf := fx_t h5 hf
      refine a_iconst C (0 : Int32) dX12_readsRule_28 (by decide) ?_
      exact kX12_readsRule_b29 C hQ hf
    · have hf := fx_f h5 hf
      exact kX12_readsRule_b24 C hQ hf
-- X12_laysCode
abbrev rmX12_laysCode : Room := { frames := 0, cells := 0, slots := 0, locals := 0 }
theorem dvX12_laysCode : yX12_laysCode.cls = RX12 ∧ yX12_laysCode.cls ≠ "java/lang/invoke/MethodHandle" ∧ yX12_laysCode.cls ≠ "java/lang/invoke/VarHandle" ∧ (parseMethodDescriptor yX12_laysCode.desc).map (fun d => d.parameters.length) = some 2 := by decide +kernel
def fX12_laysCode_b27 (io_codeLong : Int32) (co_code : Nat → Int32) (cp1 : Nat → Int32) : Option (Int32 × (Nat → Int32)) :=
  some (io_codeLong, co_code)
set_option maxHeartbeats 400000 in
set_option maxRecDepth 100000 in
theorem kX12_laysCode_b27 {X : cxT} {l : Launch} {D : va_G} {Y : Nat → ClassId} {ao : Nat → Nat} {qp1 : Nat} {io_thrown : Int32} {io_rows : Int32} {io_cells : Int32} {io_children : Int32} {io_changes : Int32} {io_taped : Int32} {io_at : Int32} {io_to : Int32} {io_nest : Int32} {io_readMany : Int32} {io_codeLong : Int32} {io_readLong : Int32} {io_undos : Int32} {io_wentHome : Int32} {io_tideLevel : Int32} {io_acts : Int32} {io_firstBreaks : Int32} {io_bestCrew : Int32} {io_sights : Int32} {io_wayMany : Int32} {io_random : Int32} {co_code : Nat → Int32} {cp1 : Nat → Int32} {res : Int32 × (Nat → Int32)} (C : axC X l D Y cX12_laysCode 4 RX12 wsX12_laysCode rmX12_laysCode none) (hQ : axQ X 0 0 (fun r9 w9 => r9 = none ∧ w9 = [oX12 ao io_thrown io_rows io_cells io_children io_changes io_taped io_at io_to io_nest io_readMany res.1 io_readLong io_undos io_wentHome io_tideLevel io_acts io_firstBreaks io_bestCrew io_sights io_wayMany io_random, rI Y (ao 12) 80 res.2, rI Y qp1 80 cp1])) (hf : fX12_laysCode_b27 io_codeLong co_code cp1 = some res) : ax X 0 0 27 [none, none, none, none] [oX12 ao io_thrown io_rows io_cells io_children io_changes io_taped io_at io_to io_nest io_readMany io_codeLong io_readLong io_undos io_wentHome io_tideLevel io_acts io_firstBreaks io_bestCrew io_sights io_wayMany io_random, rI Y (ao 12) 80 co_code, rI Y qp1 80 cp1] [] := by
  unfold fX12_laysCode_b27 at hf
  obtain rfl := fx_some hf
  exact a_vret C hQ dX12_laysCode_27 ⟨rfl, rfl⟩
def fX12_laysCode_l7 (io_codeLong : Int32) (cp1 : Nat → Int32) (x2 : Int32) (k7 : (Nat → Int32) × Int32 → Option (Int32 × (Nat → Int32))) (co_code : Nat → Int32) (x3 : Int32) : Option (Int32 × (Nat → Int32)) :=
  if x2 ≤ x3 then (fX12_laysCode_b27 io_codeLong co_code cp1) else (if inb x3 80 then k7 ((upd co_code (Int32.toNatClampNeg x3) (cp1 (Int32.toNatClampNeg x3))), (x3 + (1 : Int32))) else none)
def fX12_laysCode_b7 (io_codeLong : Int32) (co_code : Nat → Int32) (cp1 : Nat → Int32) (x2 : Int32) (x3 : Int32) : Option (Int32 × (Nat → Int32)) :=
  loopN (fun (s : (Nat → Int32) × Int32) k7 => fX12_laysCode_l7 io_codeLong cp1 x2 k7 s.1 s.2) FUEL (co_code, x3)
set_option maxHeartbeats 400000 in
set_option maxRecDepth 100000 in
theorem kX12_laysCode_l7 {X : cxT} {l : Launch} {D : va_G} {Y : Nat → ClassId} {ao : Nat → Nat} {qp1 : Nat} {io_thrown : Int32} {io_rows : Int32} {io_cells : Int32} {io_children : Int32} {io_changes : Int32} {io_taped : Int32} {io_at : Int32} {io_to : Int32} {io_nest : Int32} {io_readMany : Int32} {io_codeLong : Int32} {io_readLong : Int32} {io_undos : Int32} {io_wentHome : Int32} {io_tideLevel : Int32} {io_acts : Int32} {io_firstBreaks : Int32} {io_bestCrew : Int32} {io_sights : Int32} {io_wayMany : Int32} {io_random : Int32} {co_code : Nat → Int32} {cp1 : Nat → Int32} {x2 : Int32} {x3 : Int32} {res : Int32 × (Nat → Int32)} (C : axC X l D Y cX12_laysCode 4 RX12 wsX12_laysCode rmX12_laysCode none) (hQ : axQ X 0 0 (fun r9 w9 => r9 = none ∧ w9 = [oX12 ao io_thrown io_rows io_cells io_children io_changes io_taped io_at io_to io_nest io_readMany res.1 io_readLong io_undos io_wentHome io_tideLevel io_acts io_firstBreaks io_bestCrew io_sights io_wayMany io_random, rI Y (ao 12) 80 res.2, rI Y qp1 80 cp1])) {k7 : (Nat → Int32) × Int32 → Option (Int32 × (Nat → Int32))} (hk7 : ∀ s : (Nat → Int32) × Int32, k7 s = some res → ax X 0 0 7 [some (.ref (ao 0)), some (.ref qp1), some (.int x2), some (.int s.2)] [oX12 ao io_thrown io_rows io_cells io_children io_changes io_taped io_at io_to io_nest io_readMany io_codeLong io_readLong io_undos io_wentHome io_tideLevel io_acts io_firstBreaks io_bestCrew io_sights io_wayMany io_random, rI Y (ao 12) 80 s.1, rI Y qp1 80 cp1] []) (hf : fX12_laysCode_l7 io_codeLong cp1 x2 k7 co_code x3 = some res) : ax X 0 0 7 [some (.ref (ao 0)), some (.ref qp1), some (.int x2), some (.int x3)] [oX12 ao io_thrown io_rows io_cells io_children io_changes io_taped io_at io_to io_nest io_readMany io_codeLong io_readLong io_undos io_wentHome io_tideLevel io_acts io_firstBreaks io_bestCrew io_sights io_wayMany io_random, rI Y (ao 12) 80 co_code, rI Y qp1 80 cp1] [] := by
  unfold fX12_laysCode_l7 at hf
  refine a_iload_n C dX12_laysCode_7 rfl ?_
  refine a_iload_n C dX12_laysCode_8 rfl ?_
  refine a_icmp_ge C 27 dX12_laysCode_9 (by decide) (fun h1 => ?_) (fun h1 => ?_)
  · have hf := fx_t h1 hf
    refine a_kill [0, 1, 2, 3] ?_
    exact kX12_laysCode_b27 C hQ hf
  · have hf := fx_f h1 hf
    refine a_aload_n C dX12_laysCode_12 rfl ?_
    refine a_get C (eB_X12_48 _) dX12_laysCode_13 0 rfl rfl ?_
    refine a_iload_n C dX12_laysCode_16 rfl ?_
    refine a_aload_n C dX12_laysCode_17 rfl ?_
    refine a_iload_n C dX12_laysCode_18 rfl ?_
    obtain ⟨h2, hf⟩ := fx_ite hf
    refine a_iald C dX12_laysCode_19 2 rfl h2 ?_
    refine a_iast C dX12_laysCode_20 1 rfl h2 ?_
    refine a_iinc C (1 : Int32) dX12_laysCode_21 (by decide) rfl (by decide) rfl ?_
    refine a_goto C 7 dX12_laysCode_24 (by decide) ?_
    exact hk7 ((upd co_code (Int32.toNatClampNeg x3) (cp1 (Int32.toNatClampNeg x3))), (x3 + (1 : Int32))) hf
set_option maxHeartbeats 400000 in
set_option maxRecDepth 100000 in
theorem kX12_laysCode_b7 {X : cxT} {l : Launch} {D : va_G} {Y : Nat → ClassId} {ao : Nat → Nat} {qp1 : Nat} {io_thrown : Int32} {io_rows : Int32} {io_cells : Int32} {io_children : Int32} {io_changes : Int32} {io_taped : Int32} {io_at : Int32} {io_to : Int32} {io_nest : Int32} {io_readMany : Int32} {io_codeLong : Int32} {io_readLong : Int32} {io_undos : Int32} {io_wentHome : Int32} {io_tideLevel : Int32} {io_acts : Int32} {io_firstBreaks : Int32} {io_bestCrew : Int32} {io_sights : Int32} {io_wayMany : Int32} {io_random : Int32} {co_code : Nat → Int32} {cp1 : Nat → Int32} {x2 : Int32} {x3 : Int32} {res : Int32 × (Nat → Int32)} (C : axC X l D Y cX12_laysCode 4 RX12 wsX12_laysCode rmX12_laysCode none) (hQ : axQ X 0 0 (fun r9 w9 => r9 = none ∧ w9 = [oX12 ao io_thrown io_rows io_cells io_children io_changes io_taped io_at io_to io_nest io_readMany res.1 io_readLong io_undos io_wentHome io_tideLevel io_acts io_firstBreaks io_bestCrew io_sights io_wayMany io_random, rI Y (ao 12) 80 res.2, rI Y qp1 80 cp1])) (hf : fX12_laysCode_b7 io_codeLong co_code cp1 x2 x3 = some res) : ax X 0 0 7 [some (.ref (ao 0)), some (.ref qp1), some (.int x2), some (.int x3)] [oX12 ao io_thrown io_rows io_cells io_children io_changes io_taped io_at io_to io_nest io_readMany io_codeLong io_readLong io_undos io_wentHome io_tideLevel io_acts io_firstBreaks io_bestCrew io_sights io_wayMany io_random, rI Y (ao 12) 80 co_code, rI Y qp1 80 cp1] [] := by
  unfold fX12_laysCode_b7 at hf
  exact fx_loop (P := fun s : (Nat → Int32) × Int32 => ax X 0 0 7 [some (.ref (ao 0)), some (.ref qp1), some (.int x2), some (.int s.2)] [oX12 ao io_thrown io_rows io_cells io_children io_changes io_taped io_at io_to io_nest io_readMany io_codeLong io_readLong io_undos io_wentHome io_tideLevel io_acts io_firstBreaks io_bestCrew io_sights io_wayMany io_random, rI Y (ao 12) 80 s.1, rI Y qp1 80 cp1] []) (fun s k7 hk7 h => kX12_laysCode_l7 C hQ hk7 h) FUEL (co_code, x3) hf
def fX12_laysCode (io_codeLong : Int32) (co_code : Nat → Int32) (cp1 : Nat → Int32) (x2 : Int32) : Option (Int32 × (Nat → Int32)) :=
  fX12_laysCode_b7 x2 co_code cp1 x2 (0 : Int32)
set_option maxHeartbeats 400000 in
set_option maxRecDepth 100000 in
theorem kX12_laysCode (l : Launch) (D : va_G) (Y : Nat → ClassId) (ao : Nat → Nat) (qp1 : Nat) (io_thrown : Int32) (io_rows : Int32) (io_cells : Int32) (io_children : Int32) (io_changes : Int32) (io_taped : Int32) (io_at : Int32) (io_to : Int32) (io_nest : Int32) (io_readMany : Int32) (io_codeLong : Int32) (io_readLong : Int32) (io_undos : Int32) (io_wentHome : Int32) (io_tideLevel : Int32) (io_acts : Int32) (io_firstBreaks : Int32) (io_bestCrew : Int32) (io_sights : Int32) (io_wayMany : Int32) (io_random : Int32) (co_code : Nat → Int32) (cp1 : Nat → Int32) (x2 : Int32) (res : Int32 × (Nat → Int32)) (hf : fX12_laysCode io_codeLong co_code cp1 x2 = some res) : amf l D Y yX12_laysCode wsX12_laysCode rmX12_laysCode [.ref (ao 0), .ref qp1, .int x2] [oX12 ao io_thrown io_rows io_cells io_children io_changes io_taped io_at io_to io_nest io_readMany io_codeLong io_readLong io_undos io_wentHome io_tideLevel io_acts io_firstBreaks io_bestCrew io_sights io_wayMany io_random, rI Y (ao 12) 80 co_code, rI Y qp1 80 cp1] none [oX12 ao io_thrown io_rows io_cells io_children io_changes io_taped io_at io_to io_nest io_readMany res.1 io_readLong io_undos io_wentHome io_tideLevel io_acts io_firstBreaks io_bestCrew io_sights io_wayMany io_random, rI Y (ao 12) 80 res.2, rI Y qp1 80 cp1] := by
  refine amf.of (cc := cX12_laysCode) (maxL := 4) (rt := none) (by decide) rfl RX12 rfl (Nat.le_of_ble_eq_true rfl) [some (.ref (ao 0)), some (.ref qp1), some (.int x2), none] rfl ?_
  intro X C hQ
  unfold fX12_laysCode at hf
  refine a_aload_n C dX12_laysCode_0 rfl ?_
  refine a_iload_n C dX12_laysCode_1 rfl ?_
  refine a_put C (eB_X12_238 _) tfX12_23 dX12_laysCode_2 0 rfl rfl rfl (Nat.le_of_ble_eq_true rfl) ?_
  refine a_iconst C (0 : Int32) dX12_laysCode_5 (by decide) ?_
  refine a_istore_n C dX12_laysCode_6 (by decide) rfl ?_
  exact kX12_laysCode_b7 C hQ hf
-- X12_rule
abbrev rmX12_rule : Room := { frames := 722, cells := 0, slots := 0, locals := 15525 }
theorem dvX12_rule : yX12_rule.cls = RX12 ∧ yX12_rule.cls ≠ "java/lang/invoke/MethodHandle" ∧ yX12_rule.cls ≠ "java/lang/invoke/VarHandle" ∧ (parseMethodDescriptor yX12_rule.desc).map (fun d => d.parameters.length) = some 0 := by decide +kernel
def fX12_rule_b26 (io_thrown : Int32) (io_taped : Int32) (io_at : Int32) (io_to : Int32) (io_nest : Int32) (io_codeLong : Int32) (io_readLong : Int32) (co_tape : Nat → Int32) (co_code : Nat → Int32) (co_readCode : Nat → Int32) (x1 : Int32) : Option (Int32 × Int32 × Int32 × Int32 × Int32 × Int32 × Int32 × Int32 × (Nat → Int32) × (Nat → Int32)) :=
  some (x1, io_thrown, io_taped, io_at, io_to, io_nest, io_codeLong, io_readLong, co_code, co_readCode)
set_option maxHeartbeats 400000 in
set_option maxRecDepth 100000 in
theorem kX12_rule_b26 {X : cxT} {l : Launch} {D : va_G} {Y : Nat → ClassId} {ao : Nat → Nat} {io_thrown : Int32} {io_rows : Int32} {io_cells : Int32} {io_children : Int32} {io_changes : Int32} {io_taped : Int32} {io_at : Int32} {io_to : Int32} {io_nest : Int32} {io_readMany : Int32} {io_codeLong : Int32} {io_readLong : Int32} {io_undos : Int32} {io_wentHome : Int32} {io_tideLevel : Int32} {io_acts : Int32} {io_firstBreaks : Int32} {io_bestCrew : Int32} {io_sights : Int32} {io_wayMany : Int32} {io_random : Int32} {co_tape : Nat → Int32} {co_code : Nat → Int32} {co_readCode : Nat → Int32} {x1 : Int32} {res : Int32 × Int32 × Int32 × Int32 × Int32 × Int32 × Int32 × Int32 × (Nat → Int32) × (Nat → Int32)} (C : axC X l D Y cX12_rule 2 RX12 wsX12_rule rmX12_rule (some .int)) (hQ : axQ X 0 0 (fun r9 w9 => r9 = (some (.int res.1)) ∧ w9 = [oX12 ao res.2.1 io_rows io_cells io_children io_changes res.2.2.1 res.2.2.2.1 res.2.2.2.2.1 res.2.2.2.2.2.1 io_readMany res.2.2.2.2.2.2.1 res.2.2.2.2.2.2.2.1 io_undos io_wentHome io_tideLevel io_acts io_firstBreaks io_bestCrew io_sights io_wayMany io_random, rI Y (ao 10) 80 co_tape, rI Y (ao 12) 80 res.2.2.2.2.2.2.2.2.1, rI Y (ao 13) 80 res.2.2.2.2.2.2.2.2.2])) (hf : fX12_rule_b26 io_thrown io_taped io_at io_to io_nest io_codeLong io_readLong co_tape co_code co_readCode x1 = some res) : ax X 0 0 26 [none, some (.int x1)] [oX12 ao io_thrown io_rows io_cells io_children io_changes io_taped io_at io_to io_nest io_readMany io_codeLong io_readLong io_undos io_wentHome io_tideLevel io_acts io_firstBreaks io_bestCrew io_sights io_wayMany io_random, rI Y (ao 10) 80 co_tape, rI Y (ao 12) 80 co_code, rI Y (ao 13) 80 co_readCode] [] := by
  unfold fX12_rule_b26 at hf
  refine a_iload_n C dX12_rule_26 rfl ?_
  obtain rfl := fx_some hf
  exact a_iret C hQ dX12_rule_27 ⟨rfl, rfl⟩
def fX12_rule (io_thrown : Int32) (io_taped : Int32) (io_at : Int32) (io_to : Int32) (io_nest : Int32) (io_codeLong : Int32) (io_readLong : Int32) (co_tape : Nat → Int32) (co_code : Nat → Int32) (co_readCode : Nat → Int32) : Option (Int32 × Int32 × Int32 × Int32 × Int32 × Int32 × Int32 × Int32 × (Nat → Int32) × (Nat → Int32)) :=
  (fX12_readsRule io_taped io_at io_to io_nest io_readLong co_tape co_readCode).bind (fun r1 => if r1.1 = (0 : Int32) then ((fX12_laysCode io_codeLong co_code r1.2.2.2.2.2.2 r1.2.2.2.2.2.1).bind (fun r3 => fX12_rule_b26 (0 : Int32) r1.2.1 r1.2.2.1 r1.2.2.2.1 r1.2.2.2.2.1 r3.1 r1.2.2.2.2.2.1 co_tape r3.2 r1.2.2.2.2.2.2 r1.1)) else (fX12_rule_b26 (0 : Int32) r1.2.1 r1.2.2.1 r1.2.2.2.1 r1.2.2.2.2.1 io_codeLong r1.2.2.2.2.2.1 co_tape co_code r1.2.2.2.2.2.2 r1.1))
set_option maxHeartbeats 400000 in
set_option maxRecDepth 100000 in
theorem kX12_rule (l : Launch) (D : va_G) (Y : Nat → ClassId) (ao : Nat → Nat) (io_thrown : Int32) (io_rows : Int32) (io_cells : Int32) (io_children : Int32) (io_changes : Int32) (io_taped : Int32) (io_at : Int32) (io_to : Int32) (io_nest : Int32) (io_readMany : Int32) (io_codeLong : Int32) (io_readLong : Int32) (io_undos : Int32) (io_wentHome : Int32) (io_tideLevel : Int32) (io_acts : Int32) (io_firstBreaks : Int32) (io_bestCrew : Int32) (io_sights : Int32) (io_wayMany : Int32) (io_random : Int32) (co_tape : Nat → Int32) (co_code : Nat → Int32) (co_readCode : Nat → Int32) (res : Int32 × Int32 × Int32 × Int32 × Int32 × Int32 × Int32 × Int32 × (Nat → Int32) × (Nat → Int32)) (hf : fX12_rule io_thrown io_taped io_at io_to io_nest io_codeLong io_readLong co_tape co_code co_readCode = some res) : amf l D Y yX12_rule wsX12_rule rmX12_rule [.ref (ao 0)] [oX12 ao io_thrown io_rows io_cells io_children io_changes io_taped io_at io_to io_nest io_readMany io_codeLong io_readLong io_undos io_wentHome io_tideLevel io_acts io_firstBreaks io_bestCrew io_sights io_wayMany io_random, rI Y (ao 10) 80 co_tape, rI Y (ao 12) 80 co_code, rI Y (ao 13) 80 co_readCode] (some (.int res.1)) [oX12 ao res.2.1 io_rows io_cells io_children io_changes res.2.2.1 res.2.2.2.1 res.2.2.2.2.1 res.2.2.2.2.2.1 io_readMany res.2.2.2.2.2.2.1 res.2.2.2.2.2.2.2.1 io_undos io_wentHome io_tideLevel io_acts io_firstBreaks io_bestCrew io_sights io_wayMany io_random, rI Y (ao 10) 80 co_tape, rI Y (ao 12) 80 res.2.2.2.2.2.2.2.2.1, rI Y (ao 13) 80 res.2.2.2.2.2.2.2.2.2] := by
  refine amf.of (cc := cX12_rule) (maxL := 2) (rt := (some .int)) (by decide) rfl RX12 rfl (Nat.le_of_ble_eq_true rfl) [some (.ref (ao 0)), none] rfl ?_
  intro X C hQ
  unfold fX12_rule at hf
  refine a_aload_n C dX12_rule_0 rfl ?_
  refine a_iconst C (0 : Int32) dX12_rule_1 (by decide) ?_
  refine a_put C (eB_X12_112 _) tfX12_0 dX12_rule_2 0 rfl rfl rfl (Nat.le_of_ble_eq_true rfl) ?_
  refine a_aload_n C dX12_rule_5 rfl ?_
  obtain ⟨r1, h1, hf⟩ := fx_bind hf
  refine a_fV C (kX12_readsRule l D Y ao (0 : Int32) io_rows io_cells io_children io_changes io_taped io_at io_to io_nest io_readMany io_codeLong io_readLong io_undos io_wentHome io_tideLevel io_acts io_firstBreaks io_bestCrew io_sights io_wayMany io_random co_tape co_readCode r1 h1) (gB_X12_241 _) rfl dvX12_readsRule ⟨⟨rfl, rfl⟩, ⟨Nat.le_of_ble_eq_true rfl, Nat.le_of_ble_eq_true rfl⟩, ⟨Nat.le_of_ble_eq_true rfl, Nat.le_of_ble_eq_true rfl⟩⟩ rfl (Nat.le_of_ble_eq_true rfl) dX12_rule_6 rfl rfl [0, 1, 3] [2] ⟨rfl, rfl, rfl, trivial⟩ (by decide +kernel) rfl [oX12 ao (0 : Int32) io_rows io_cells io_children io_changes r1.2.1 r1.2.2.1 r1.2.2.2.1 r1.2.2.2.2.1 io_readMany io_codeLong r1.2.2.2.2.2.1 io_undos io_wentHome io_tideLevel io_acts io_firstBreaks io_bestCrew io_sights io_wayMany io_random, rI Y (ao 10) 80 co_tape, rI Y (ao 12) 80 co_code, rI Y (ao 13) 80 r1.2.2.2.2.2.2] ⟨rfl, rfl, rfl, trivial⟩ ⟨rfl, trivial⟩ 4 rfl (by decide +kernel) ?_
  refine a_istore_n C dX12_rule_9 (by decide) rfl ?_
  refine a_iload_n C dX12_rule_10 rfl ?_
  refine a_if_ne C 26 dX12_rule_11 (by decide) (fun h2 => ?_) (fun h2 => ?_)
  · have hf := fx_f h2 hf
    refine a_kill [0] ?_
    exact kX12_rule_b26 C hQ hf
  · have hf := fx_t h2 hf
    refine a_aload_n C dX12_rule_14 rfl ?_
    refine a_aload_n C dX12_rule_15 rfl ?_
    refine a_get C (eB_X12_51 _) dX12_rule_16 0 rfl rfl ?_
    refine a_aload_n C dX12_rule_19 rfl ?_
    refine a_get C (eB_X12_214 _) dX12_rule_20 0 rfl rfl ?_
    obtain ⟨r3, h3, hf⟩ := fx_bind hf
    refine a_fV C (kX12_laysCode l D Y ao (ao 13) (0 : Int32) io_rows io_cells io_children io_changes r1.2.1 r1.2.2.1 r1.2.2.2.1 r1.2.2.2.2.1 io_readMany io_codeLong r1.2.2.2.2.2.1 io_undos io_wentHome io_tideLevel io_acts io_firstBreaks io_bestCrew io_sights io_wayMany io_random co_code r1.2.2.2.2.2.2 r1.2.2.2.2.2.1 r3 h3) (gB_X12_244 _) rfl dvX12_laysCode ⟨⟨rfl, rfl⟩, ⟨Nat.le_of_ble_eq_true rfl, Nat.le_of_ble_eq_true rfl⟩, ⟨Nat.le_of_ble_eq_true rfl, Nat.le_of_ble_eq_true rfl⟩⟩ rfl (Nat.le_of_ble_eq_true rfl) dX12_rule_23 rfl rfl [0, 2, 3] [1] ⟨rfl, rfl, rfl, trivial⟩ (by decide +kernel) rfl [oX12 ao (0 : Int32) io_rows io_cells io_children io_changes r1.2.1 r1.2.2.1 r1.2.2.2.1 r1.2.2.2.2.1 io_readMany r3.1 r1.2.2.2.2.2.1 io_undos io_wentHome io_tideLevel io_acts io_firstBreaks io_bestCrew io_sights io_wayMany io_random, rI Y (ao 10) 80 co_tape, rI Y (ao 12) 80 r3.2, rI Y (ao 13) 80 r1.2.2.2.2.2.2] ⟨rfl, rfl, rfl, trivial⟩ ⟨rfl, trivial⟩ 4 rfl (by decide +kernel) ?_
    refine a_kill [0] ?_
    exact kX12_rule_b26 C hQ hf
-- X12_worked
abbrev rmX12_worked : Room := { frames := 1, cells := 0, slots := 0, locals := 20 }
theorem dvX12_worked : yX12_worked.cls ≠ "java/lang/invoke/MethodHandle" ∧ yX12_worked.cls ≠ "java/lang/invoke/VarHandle" ∧ (parseMethodDescriptor yX12_worked.desc).map (fun d => d.parameters.length) = some 3 := by decide +kernel
def fX12_worked_b105 (s0 : Int32) : Option (Int32) :=
  some s0
set_option maxHeartbeats 400000 in
set_option maxRecDepth 100000 in
theorem kX12_worked_b105 {X : cxT} {l : Launch} {D : va_G} {Y : Nat → ClassId} {s0 : Int32} {res : Int32} (C : axC X l D Y cX12_worked 3 RX12 wsX12_worked rmX12_worked (some .int)) (hQ : axQ X 0 0 (fun r9 w9 => r9 = (some (.int res)) ∧ w9 = [])) (hf : fX12_worked_b105 s0 = some res) : ax X 0 0 105 [none, none, none] [] [.int s0] := by
  unfold fX12_worked_b105 at hf
  obtain rfl := fx_some hf
  exact a_iret C hQ dX12_worked_105 ⟨rfl, rfl⟩
def fX12_worked_b78 (s0 : Int32) : Option (Int32) :=
  (fX12_flag s0).bind (fun r1 => some r1)
set_option maxHeartbeats 400000 in
set_option maxRecDepth 100000 in
theorem kX12_worked_b78 {X : cxT} {l : Launch} {D : va_G} {Y : Nat → ClassId} {s0 : Int32} {res : Int32} (C : axC X l D Y cX12_worked 3 RX12 wsX12_worked rmX12_worked (some .int)) (hQ : axQ X 0 0 (fun r9 w9 => r9 = (some (.int res)) ∧ w9 = [])) (hf : fX12_worked_b78 s0 = some res) : ax X 0 0 78 [none, none, none] [] [.int s0] := by
  unfold fX12_worked_b78 at hf
  obtain ⟨r1, h1, hf⟩ := fx_bind hf
  refine a_fS C (kX12_flag l D Y s0 r1 h1) (gB_X12_151 _) rfl dvX12_flag ⟨⟨rfl, rfl⟩, ⟨Nat.le_of_ble_eq_true rfl, Nat.le_of_ble_eq_true rfl⟩, ⟨Nat.le_of_ble_eq_true rfl, Nat.le_of_ble_eq_true rfl⟩⟩ rfl (Nat.le_of_ble_eq_true rfl) dX12_worked_78 [] [] trivial (by decide +kernel) rfl [] trivial trivial 0 rfl (by decide +kernel) ?_
  obtain rfl := fx_some hf
  exact a_iret C hQ dX12_worked_81 ⟨rfl, rfl⟩
def fX12_worked_b64 (s0 : Int32) : Option (Int32) :=
  (fX12_flag s0).bind (fun r2 => some r2)
set_option maxHeartbeats 400000 in
set_option maxRecDepth 100000 in
theorem kX12_worked_b64 {X : cxT} {l : Launch} {D : va_G} {Y : Nat → ClassId} {s0 : Int32} {res : Int32} (C : axC X l D Y cX12_worked 3 RX12 wsX12_worked rmX12_worked (some .int)) (hQ : axQ X 0 0 (fun r9 w9 => r9 = (some (.int res)) ∧ w9 = [])) (hf : fX12_worked_b64 s0 = some res) : ax X 0 0 64 [none, none, none] [] [.int s0] := by
  unfold fX12_worked_b64 at hf
  obtain ⟨r2, h2, hf⟩ := fx_bind hf
  refine a_fS C (kX12_flag l D Y s0 r2 h2) (gB_X12_151 _) rfl dvX12_flag ⟨⟨rfl, rfl⟩, ⟨Nat.le_of_ble_eq_true rfl, Nat.le_of_ble_eq_true rfl⟩, ⟨Nat.le_of_ble_eq_true rfl, Nat.le_of_ble_eq_true rfl⟩⟩ rfl (Nat.le_of_ble_eq_true rfl) dX12_worked_64 [] [] trivial (by decide +kernel) rfl [] trivial trivial 0 rfl (by decide +kernel) ?_
  obtain rfl := fx_some hf
  exact a_iret C hQ dX12_worked_67 ⟨rfl, rfl⟩
def fX12_worked_b50 (s0 : Int32) : Option (Int32) :=
  (fX12_flag s0).bind (fun r3 => some r3)
set_option maxHeartbeats 400000 in
set_option maxRecDepth 100000 in
theorem kX12_worked_b50 {X : cxT} {l : Launch} {D : va_G} {Y : Nat → ClassId} {s0 : Int32} {res : Int32} (C : axC X l D Y cX12_worked 3 RX12 wsX12_worked rmX12_worked (some .int)) (hQ : axQ X 0 0 (fun r9 w9 => r9 = (some (.int res)) ∧ w9 = [])) (hf : fX12_worked_b50 s0 = some res) : ax X 0 0 50 [none, none, none] [] [.int s0] := by
  unfold fX12_worked_b50 at hf
  obtain ⟨r3, h3, hf⟩ := fx_bind hf
  refine a_fS C (kX12_flag l D Y s0 r3 h3) (gB_X12_151 _) rfl dvX12_flag ⟨⟨rfl, rfl⟩, ⟨Nat.le_of_ble_eq_true rfl, Nat.le_of_ble_eq_true rfl⟩, ⟨Nat.le_of_ble_eq_true rfl, Nat.le_of_ble_eq_true rfl⟩⟩ rfl (Nat.le_of_ble_eq_true rfl) dX12_worked_50 [] [] trivial (by decide +kernel) rfl [] trivial trivial 0 rfl (by decide +kernel) ?_
  obtain rfl := fx_some hf
  exact a_iret C hQ dX12_worked_53 ⟨rfl, rfl⟩
def fX12_worked (x0 : Int32) (x1 : Int32) (x2 : Int32) : Option (Int32) :=
  if x0 = (0 : Int32) then (if x2 ≤ x1 then (fX12_worked_b50 (0 : Int32)) else (fX12_worked_b50 (1 : Int32))) else if x0 = (1 : Int32) then (if x1 ≤ x2 then (fX12_worked_b64 (0 : Int32)) else (fX12_worked_b64 (1 : Int32))) else if x0 = (2 : Int32) then (if x1 = x2 then (fX12_worked_b78 (1 : Int32)) else (fX12_worked_b78 (0 : Int32))) else if x0 = (3 : Int32) then (some (x1 + x2)) else if x0 = (4 : Int32) then (some (x1 - x2)) else if x0 = (5 : Int32) then (some (x1 * x2)) else (if x2 = (0 : Int32) then (fX12_worked_b105 (0 : Int32)) else (if ¬ x2 = 0 then fX12_worked_b105 (x1 / x2) else none))
set_option maxHeartbeats 400000 in
set_option maxRecDepth 100000 in
theorem kX12_worked (l : Launch) (D : va_G) (Y : Nat → ClassId) (x0 : Int32) (x1 : Int32) (x2 : Int32) (res : Int32) (hf : fX12_worked x0 x1 x2 = some res) : amf l D Y yX12_worked wsX12_worked rmX12_worked [.int x0, .int x1, .int x2] [] (some (.int res)) [] := by
  refine amf.of (cc := cX12_worked) (maxL := 3) (rt := (some .int)) (by decide) rfl RX12 rfl (Nat.le_of_ble_eq_true rfl) [some (.int x0), some (.int x1), some (.int x2)] rfl ?_
  intro X C hQ
  unfold fX12_worked at hf
  refine a_iload_n C dX12_worked_0 rfl ?_
  by_cases h4 : x0 = (0 : Int32)
  · have hf := fx_t h4 hf
    refine a_tableIn (off := 39) C 40 dX12_worked_1 (by rw [h4]; decide) (by rw [h4]; decide) (by rw [h4]; first | done | rfl | decide) (by decide) ?_
    refine a_iload_n C dX12_worked_40 rfl ?_
    refine a_iload_n C dX12_worked_41 rfl ?_
    refine a_icmp_ge C 49 dX12_worked_42 (by decide) (fun h5 => ?_) (fun h5 => ?_)
    · have hf := fx_t h5 hf
      refine a_iconst C (0 : Int32) dX12_worked_49 (by decide) ?_
      refine a_kill [0, 1, 2] ?_
      exact kX12_worked_b50 C hQ hf
    · have hf := fx_f h5 hf
      refine a_iconst C (1 : Int32) dX12_worked_45 (by decide) ?_
      refine a_goto C 50 dX12_worked_46 (by decide) ?_
      refine a_kill [0, 1, 2] ?_
      exact kX12_worked_b50 C hQ hf
  have hf := fx_f h4 hf
  by_cases h6 : x0 = (1 : Int32)
  · have hf := fx_t h6 hf
    refine a_tableIn (off := 53) C 54 dX12_worked_1 (by rw [h6]; decide) (by rw [h6]; decide) (by rw [h6]; first | done | rfl | decide) (by decide) ?_
    refine a_iload_n C dX12_worked_54 rfl ?_
    refine a_iload_n C dX12_worked_55 rfl ?_
    refine a_icmp_le C 63 dX12_worked_56 (by decide) (fun h7 => ?_) (fun h7 => ?_)
    · have hf := fx_t h7 hf
      refine a_iconst C (0 : Int32) dX12_worked_63 (by decide) ?_
      refine a_kill [0, 1, 2] ?_
      exact kX12_worked_b64 C hQ hf
    · have hf := fx_f h7 hf
      refine a_iconst C (1 : Int32) dX12_worked_59 (by decide) ?_
      refine a_goto C 64 dX12_worked_60 (by decide) ?_
      refine a_kill [0, 1, 2] ?_
      exact kX12_worked_b64 C hQ hf
  have hf := fx_f h6 hf
  by_cases h8 : x0 = (2 : Int32)
  · have hf := fx_t h8 hf
    refine a_tableIn (off := 67) C 68 dX12_worked_1 (by rw [h8]; decide) (by rw [h8]; decide) (by rw [h8]; first | done | rfl | decide) (by decide) ?_
    refine a_iload_n C dX12_worked_68 rfl ?_
    refine a_iload_n C dX12_worked_69 rfl ?_
    refine a_icmp_ne C 77 dX12_worked_70 (by decide) (fun h9 => ?_) (fun h9 => ?_)
    · have hf := fx_f h9 hf
      refine a_iconst C (0 : Int32) dX12_worked_77 (by decide) ?_
      refine a_kill [0, 1, 2] ?_
      exact kX12_worked_b78 C hQ hf
    · have hf := fx_t h9 hf
      refine a_iconst C (1 : Int32) dX12_worked_73 (by decide) ?_
      refine a_goto C 78 dX12_worked_74 (by decide) ?_
      refine a_kill [0, 1, 2] ?_
      exact kX12_worked_b78 C hQ hf
  have hf := fx_f h8 hf
  by_cases h10 : x0 = (3 : Int32)
  · have hf := fx_t h10 hf
    refine a_tableIn (off := 81) C 82 dX12_worked_1 (by rw [h10]; decide) (by rw [h10]; decide) (by rw [h10]; first | done | rfl | decide) (by decide) ?_
    refine a_iload_n C dX12_worked_82 rfl ?_
    refine a_iload_n C dX12_worked_83 rfl ?_
    refine a_iadd C dX12_worked_84 ?_
    obtain rfl := fx_some hf
    exact a_iret C hQ dX12_worked_85 ⟨rfl, rfl⟩
  have hf := fx_f h10 hf
  by_cases h11 : x0 = (4 : Int32)
  · have hf := fx_t h11 hf
    refine a_tableIn (off := 85) C 86 dX12_worked_1 (by rw [h11]; decide) (by rw [h11]; decide) (by rw [h11]; first | done | rfl | decide) (by decide) ?_
    refine a_iload_n C dX12_worked_86 rfl ?_
    refine a_iload_n C dX12_worked_87 rfl ?_
    refine a_isub C dX12_worked_88 ?_
    obtain rfl := fx_some hf
    exact a_iret C hQ dX12_worked_89 ⟨rfl, rfl⟩
  have hf := fx_f h11 hf
  by_cases h12 : x0 = (5 : Int32)
  · have hf := fx_t h12 hf
    refine a_tableIn (off := 89) C 90 dX12_worked_1 (by rw [h12]; decide) (by rw [h12]; decide) (by rw [h12]; first | done | rfl | decide) (by decide) ?_
    refine a_iload_n C dX12_worked_90 rfl ?_
    refine a_iload_n C dX12_worked_91 rfl ?_
    refine a_imul C dX12_worked_92 ?_
    obtain rfl := fx_some hf
    exact a_iret C hQ dX12_worked_93 ⟨rfl, rfl⟩
  have hf := fx_f h12 hf
  refine a_tableOut C 94 dX12_worked_1 (by have z0 := lv_neT (a := 0) h4 (by decide); have z1 := lv_neT (a := 1) h6 (by decide); have z2 := lv_neT (a := 2) h8 (by decide); have z3 := lv_neT (a := 3) h10 (by decide); have z4 := lv_neT (a := 4) h11 (by decide); have z5 := lv_neT (a := 5) h12 (by decide); omega) (by decide) ?_
  refine a_iload_n C dX12_worked_94 rfl ?_
  refine a_if_ne C 102 dX12_worked_95 (by decide) (fun h13 => ?_) (fun h13 => ?_)
  · have hf := fx_f h13 hf
    refine a_iload_n C dX12_worked_102 rfl ?_
    refine a_iload_n C dX12_worked_103 rfl ?_
    obtain ⟨h14, hf⟩ := fx_ite hf
    refine a_idiv C dX12_worked_104 h14 ?_
    refine a_kill [0, 1, 2] ?_
    exact kX12_worked_b105 C hQ hf
  · have hf := fx_t h13 hf
    refine a_iconst C (0 : Int32) dX12_worked_98 (by decide) ?_
    refine a_goto C 105 dX12_worked_99 (by decide) ?_
    refine a_kill [0, 1, 2] ?_
    exact kX12_worked_b105 C hQ hf
-- X12_ruled
abbrev rmX12_ruled : Room := { frames := 2, cells := 0, slots := 0, locals := 42 }
theorem dvX12_ruled : yX12_ruled.cls = RX12 ∧ yX12_ruled.cls ≠ "java/lang/invoke/MethodHandle" ∧ yX12_ruled.cls ≠ "java/lang/invoke/VarHandle" ∧ (parseMethodDescriptor yX12_ruled.desc).map (fun d => d.parameters.length) = some 0 := by decide +kernel
def fX12_ruled_b162 (io_codeLong : Int32) (co_code : Nat → Int32) (co_stack : Nat → Int32) (co_asked : Nat → Int32) (s0 : Int32) : Option (Int32 × (Nat → Int32)) :=
  some (s0, co_stack)
set_option maxHeartbeats 400000 in
set_option maxRecDepth 100000 in
theorem kX12_ruled_b162 {X : cxT} {l : Launch} {D : va_G} {Y : Nat → ClassId} {ao : Nat → Nat} {io_thrown : Int32} {io_rows : Int32} {io_cells : Int32} {io_children : Int32} {io_changes : Int32} {io_taped : Int32} {io_at : Int32} {io_to : Int32} {io_nest : Int32} {io_readMany : Int32} {io_codeLong : Int32} {io_readLong : Int32} {io_undos : Int32} {io_wentHome : Int32} {io_tideLevel : Int32} {io_acts : Int32} {io_firstBreaks : Int32} {io_bestCrew : Int32} {io_sights : Int32} {io_wayMany : Int32} {io_random : Int32} {co_code : Nat → Int32} {co_stack : Nat → Int32} {co_asked : Nat → Int32} {s0 : Int32} {res : Int32 × (Nat → Int32)} (C : axC X l D Y cX12_ruled 4 RX12 wsX12_ruled rmX12_ruled (some .int)) (hQ : axQ X 0 0 (fun r9 w9 => r9 = (some (.int res.1)) ∧ w9 = [oX12 ao io_thrown io_rows io_cells io_children io_changes io_taped io_at io_to io_nest io_readMany io_codeLong io_readLong io_undos io_wentHome io_tideLevel io_acts io_firstBreaks io_bestCrew io_sights io_wayMany io_random, rI Y (ao 12) 80 co_code, rI Y (ao 14) 80 res.2, rI Y (ao 15) 4 co_asked])) (hf : fX12_ruled_b162 io_codeLong co_code co_stack co_asked s0 = some res) : ax X 0 0 162 [none, none, none, none] [oX12 ao io_thrown io_rows io_cells io_children io_changes io_taped io_at io_to io_nest io_readMany io_codeLong io_readLong io_undos io_wentHome io_tideLevel io_acts io_firstBreaks io_bestCrew io_sights io_wayMany io_random, rI Y (ao 12) 80 co_code, rI Y (ao 14) 80 co_stack, rI Y (ao 15) 4 co_asked] [.int s0] := by
  unfold fX12_ruled_b162 at hf
  obtain rfl := fx_some hf
  exact a_iret C hQ dX12_ruled_162 ⟨rfl, rfl⟩
def fX12_ruled_b125 (io_codeLong : Int32) (co_code : Nat → Int32) (co_stack : Nat → Int32) (co_asked : Nat → Int32) : Option (Int32 × (Nat → Int32)) :=
  if io_codeLong = (0 : Int32) then (if inb (1 : Int32) 4 then if inb (0 : Int32) 4 then fX12_ruled_b162 io_codeLong co_code co_stack co_asked (((30 : Int32) + ((10 : Int32) * (co_asked (Int32.toNatClampNeg (1 : Int32))))) + ((5 : Int32) * (co_asked (Int32.toNatClampNeg (0 : Int32))))) else none else none) else (if inb (0 : Int32) 80 then fX12_ruled_b162 io_codeLong co_code co_stack co_asked (co_stack (Int32.toNatClampNeg (0 : Int32))) else none)
set_option maxHeartbeats 400000 in
set_option maxRecDepth 100000 in
theorem kX12_ruled_b125 {X : cxT} {l : Launch} {D : va_G} {Y : Nat → ClassId} {ao : Nat → Nat} {io_thrown : Int32} {io_rows : Int32} {io_cells : Int32} {io_children : Int32} {io_changes : Int32} {io_taped : Int32} {io_at : Int32} {io_to : Int32} {io_nest : Int32} {io_readMany : Int32} {io_codeLong : Int32} {io_readLong : Int32} {io_undos : Int32} {io_wentHome : Int32} {io_tideLevel : Int32} {io_acts : Int32} {io_firstBreaks : Int32} {io_bestCrew : Int32} {io_sights : Int32} {io_wayMany : Int32} {io_random : Int32} {co_code : Nat → Int32} {co_stack : Nat → Int32} {co_asked : Nat → Int32} {res : Int32 × (Nat → Int32)} (C : axC X l D Y cX12_ruled 4 RX12 wsX12_ruled rmX12_ruled (some .int)) (hQ : axQ X 0 0 (fun r9 w9 => r9 = (some (.int res.1)) ∧ w9 = [oX12 ao io_thrown io_rows io_cells io_children io_changes io_taped io_at io_to io_nest io_readMany io_codeLong io_readLong io_undos io_wentHome io_tideLevel io_acts io_firstBreaks io_bestCrew io_sights io_wayMany io_random, rI Y (ao 12) 80 co_code, rI Y (ao 14) 80 res.2, rI Y (ao 15) 4 co_asked])) (hf : fX12_ruled_b125 io_codeLong co_code co_stack co_asked = some res) : ax X 0 0 125 [some (.ref (ao 0)), none, none, none] [oX12 ao io_thrown io_rows io_cells io_children io_changes io_taped io_at io_to io_nest io_readMany io_codeLong io_readLong io_undos io_wentHome io_tideLevel io_acts io_firstBreaks io_bestCrew io_sights io_wayMany io_random, rI Y (ao 12) 80 co_code, rI Y (ao 14) 80 co_stack, rI Y (ao 15) 4 co_asked] [] := by
  unfold fX12_ruled_b125 at hf
  refine a_aload_n C dX12_ruled_125 rfl ?_
  refine a_get C (eB_X12_238 _) dX12_ruled_126 0 rfl rfl ?_
  refine a_if_ne C 156 dX12_ruled_129 (by decide) (fun h1 => ?_) (fun h1 => ?_)
  · have hf := fx_f h1 hf
    refine a_aload_n C dX12_ruled_156 rfl ?_
    refine a_get C (eB_X12_54 _) dX12_ruled_157 0 rfl rfl ?_
    refine a_iconst C (0 : Int32) dX12_ruled_160 (by decide) ?_
    obtain ⟨h2, hf⟩ := fx_ite hf
    refine a_iald C dX12_ruled_161 2 rfl h2 ?_
    refine a_kill [0] ?_
    exact kX12_ruled_b162 C hQ hf
  · have hf := fx_t h1 hf
    refine a_bipush C (30 : Int32) dX12_ruled_132 (by decide) ?_
    refine a_bipush C (10 : Int32) dX12_ruled_134 (by decide) ?_
    refine a_aload_n C dX12_ruled_136 rfl ?_
    refine a_get C (eB_X12_57 _) dX12_ruled_137 0 rfl rfl ?_
    refine a_iconst C (1 : Int32) dX12_ruled_140 (by decide) ?_
    obtain ⟨h3, hf⟩ := fx_ite hf
    refine a_iald C dX12_ruled_141 3 rfl h3 ?_
    refine a_imul C dX12_ruled_142 ?_
    refine a_iadd C dX12_ruled_143 ?_
    refine a_iconst C (5 : Int32) dX12_ruled_144 (by decide) ?_
    refine a_aload_n C dX12_ruled_145 rfl ?_
    refine a_get C (eB_X12_57 _) dX12_ruled_146 0 rfl rfl ?_
    refine a_iconst C (0 : Int32) dX12_ruled_149 (by decide) ?_
    obtain ⟨h4, hf⟩ := fx_ite hf
    refine a_iald C dX12_ruled_150 3 rfl h4 ?_
    refine a_imul C dX12_ruled_151 ?_
    refine a_iadd C dX12_ruled_152 ?_
    refine a_goto C 162 dX12_ruled_153 (by decide) ?_
    refine a_kill [0] ?_
    exact kX12_ruled_b162 C hQ hf
def fX12_ruled_b119 (io_codeLong : Int32) (co_code : Nat → Int32) (co_stack : Nat → Int32) (co_asked : Nat → Int32) (x1 : Int32) (x2 : Int32) (k4 : (Nat → Int32) × Int32 × Int32 → Option (Int32 × (Nat → Int32))) : Option (Int32 × (Nat → Int32)) :=
  k4 (co_stack, x1, (x2 + (1 : Int32)))
set_option maxHeartbeats 400000 in
set_option maxRecDepth 100000 in
theorem kX12_ruled_b119 {X : cxT} {l : Launch} {D : va_G} {Y : Nat → ClassId} {ao : Nat → Nat} {io_thrown : Int32} {io_rows : Int32} {io_cells : Int32} {io_children : Int32} {io_changes : Int32} {io_taped : Int32} {io_at : Int32} {io_to : Int32} {io_nest : Int32} {io_readMany : Int32} {io_codeLong : Int32} {io_readLong : Int32} {io_undos : Int32} {io_wentHome : Int32} {io_tideLevel : Int32} {io_acts : Int32} {io_firstBreaks : Int32} {io_bestCrew : Int32} {io_sights : Int32} {io_wayMany : Int32} {io_random : Int32} {co_code : Nat → Int32} {co_stack : Nat → Int32} {co_asked : Nat → Int32} {x1 : Int32} {x2 : Int32} {res : Int32 × (Nat → Int32)} (C : axC X l D Y cX12_ruled 4 RX12 wsX12_ruled rmX12_ruled (some .int)) (hQ : axQ X 0 0 (fun r9 w9 => r9 = (some (.int res.1)) ∧ w9 = [oX12 ao io_thrown io_rows io_cells io_children io_changes io_taped io_at io_to io_nest io_readMany io_codeLong io_readLong io_undos io_wentHome io_tideLevel io_acts io_firstBreaks io_bestCrew io_sights io_wayMany io_random, rI Y (ao 12) 80 co_code, rI Y (ao 14) 80 res.2, rI Y (ao 15) 4 co_asked])) {k4 : (Nat → Int32) × Int32 × Int32 → Option (Int32 × (Nat → Int32))} (hk4 : ∀ s : (Nat → Int32) × Int32 × Int32, k4 s = some res → ax X 0 0 4 [some (.ref (ao 0)), some (.int s.2.1), some (.int s.2.2), none] [oX12 ao io_thrown io_rows io_cells io_children io_changes io_taped io_at io_to io_nest io_readMany io_codeLong io_readLong io_undos io_wentHome io_tideLevel io_acts io_firstBreaks io_bestCrew io_sights io_wayMany io_random, rI Y (ao 12) 80 co_code, rI Y (ao 14) 80 s.1, rI Y (ao 15) 4 co_asked] []) (hf : fX12_ruled_b119 io_codeLong co_code co_stack co_asked x1 x2 k4 = some res) : ax X 0 0 119 [some (.ref (ao 0)), some (.int x1), some (.int x2), none] [oX12 ao io_thrown io_rows io_cells io_children io_changes io_taped io_at io_to io_nest io_readMany io_codeLong io_readLong io_undos io_wentHome io_tideLevel io_acts io_firstBreaks io_bestCrew io_sights io_wayMany io_random, rI Y (ao 12) 80 co_code, rI Y (ao 14) 80 co_stack, rI Y (ao 15) 4 co_asked] [] := by
  unfold fX12_ruled_b119 at hf
  refine a_iinc C (1 : Int32) dX12_ruled_119 (by decide) rfl (by decide) rfl ?_
  refine a_goto C 4 dX12_ruled_122 (by decide) ?_
  exact hk4 (co_stack, x1, (x2 + (1 : Int32))) hf
def fX12_ruled_b115 (io_codeLong : Int32) (co_code : Nat → Int32) (co_stack : Nat → Int32) (co_asked : Nat → Int32) (x1 : Int32) (x2 : Int32) (s1 : Int32) (s2 : Int32) (k4 : (Nat → Int32) × Int32 × Int32 → Option (Int32 × (Nat → Int32))) : Option (Int32 × (Nat → Int32)) :=
  if inb s1 80 then fX12_ruled_b119 io_codeLong co_code (upd co_stack (Int32.toNatClampNeg s1) s2) co_asked (x1 + (1 : Int32)) x2 k4 else none
set_option maxHeartbeats 400000 in
set_option maxRecDepth 100000 in
theorem kX12_ruled_b115 {X : cxT} {l : Launch} {D : va_G} {Y : Nat → ClassId} {ao : Nat → Nat} {io_thrown : Int32} {io_rows : Int32} {io_cells : Int32} {io_children : Int32} {io_changes : Int32} {io_taped : Int32} {io_at : Int32} {io_to : Int32} {io_nest : Int32} {io_readMany : Int32} {io_codeLong : Int32} {io_readLong : Int32} {io_undos : Int32} {io_wentHome : Int32} {io_tideLevel : Int32} {io_acts : Int32} {io_firstBreaks : Int32} {io_bestCrew : Int32} {io_sights : Int32} {io_wayMany : Int32} {io_random : Int32} {co_code : Nat → Int32} {co_stack : Nat → Int32} {co_asked : Nat → Int32} {x1 : Int32} {x2 : Int32} {s1 : Int32} {s2 : Int32} {res : Int32 × (Nat → Int32)} (C : axC X l D Y cX12_ruled 4 RX12 wsX12_ruled rmX12_ruled (some .int)) (hQ : axQ X 0 0 (fun r9 w9 => r9 = (some (.int res.1)) ∧ w9 = [oX12 ao io_thrown io_rows io_cells io_children io_changes io_taped io_at io_to io_nest io_readMany io_codeLong io_readLong io_undos io_wentHome io_tideLevel io_acts io_firstBreaks io_bestCrew io_sights io_wayMany io_random, rI Y (ao 12) 80 co_code, rI Y (ao 14) 80 res.2, rI Y (ao 15) 4 co_asked])) {k4 : (Nat → Int32) × Int32 × Int32 → Option (Int32 × (Nat → Int32))} (hk4 : ∀ s : (Nat → Int32) × Int32 × Int32, k4 s = some res → ax X 0 0 4 [some (.ref (ao 0)), some (.int s.2.1), some (.int s.2.2), none] [oX12 ao io_thrown io_rows io_cells io_children io_changes io_taped io_at io_to io_nest io_readMany io_codeLong io_readLong io_undos io_wentHome io_tideLevel io_acts io_firstBreaks io_bestCrew io_sights io_wayMany io_random, rI Y (ao 12) 80 co_code, rI Y (ao 14) 80 s.1, rI Y (ao 15) 4 co_asked] []) (hf : fX12_ruled_b115 io_codeLong co_code co_stack co_asked x1 x2 s1 s2 k4 = some res) : ax X 0 0 115 [some (.ref (ao 0)), some (.int x1), some (.int x2), none] [oX12 ao io_thrown io_rows io_cells io_children io_changes io_taped io_at io_to io_nest io_readMany io_codeLong io_readLong io_undos io_wentHome io_tideLevel io_acts io_firstBreaks io_bestCrew io_sights io_wayMany io_random, rI Y (ao 12) 80 co_code, rI Y (ao 14) 80 co_stack, rI Y (ao 15) 4 co_asked] [.int s2, .int s1, .ref (ao 14)] := by
  unfold fX12_ruled_b115 at hf
  obtain ⟨h5, hf⟩ := fx_ite hf
  refine a_iast C dX12_ruled_115 2 rfl h5 ?_
  refine a_iinc C (1 : Int32) dX12_ruled_116 (by decide) rfl (by decide) rfl ?_
  exact kX12_ruled_b119 C hQ hk4 hf
def fX12_ruled_l4 (io_codeLong : Int32) (co_code : Nat → Int32) (co_asked : Nat → Int32) (k4 : (Nat → Int32) × Int32 × Int32 → Option (Int32 × (Nat → Int32))) (co_stack : Nat → Int32) (x1 : Int32) (x2 : Int32) : Option (Int32 × (Nat → Int32)) :=
  if io_codeLong ≤ x2 then (fX12_ruled_b125 io_codeLong co_code co_stack co_asked) else (if inb x2 80 then if (co_code (Int32.toNatClampNeg x2)) = (3000 : Int32) then (if inb (x1 - (1 : Int32)) 80 then fX12_ruled_b119 io_codeLong co_code (upd co_stack (Int32.toNatClampNeg (x1 - (1 : Int32))) (-(co_stack (Int32.toNatClampNeg (x1 - (1 : Int32)))))) co_asked x1 x2 k4 else none) else (if (co_code (Int32.toNatClampNeg x2)) < (2000 : Int32) then (if (co_code (Int32.toNatClampNeg x2)) < (1000 : Int32) then (fX12_ruled_b115 io_codeLong co_code co_stack co_asked x1 x2 x1 (co_code (Int32.toNatClampNeg x2)) k4) else (if inb ((co_code (Int32.toNatClampNeg x2)) - (1000 : Int32)) 4 then fX12_ruled_b115 io_codeLong co_code co_stack co_asked x1 x2 x1 (co_asked (Int32.toNatClampNeg ((co_code (Int32.toNatClampNeg x2)) - (1000 : Int32)))) k4 else none)) else (if inb ((x1 + (-1 : Int32)) - (1 : Int32)) 80 then if inb (x1 + (-1 : Int32)) 80 then (fX12_worked ((co_code (Int32.toNatClampNeg x2)) - (2000 : Int32)) (co_stack (Int32.toNatClampNeg ((x1 + (-1 : Int32)) - (1 : Int32)))) (co_stack (Int32.toNatClampNeg (x1 + (-1 : Int32))))).bind (fun r14 => fX12_ruled_b119 io_codeLong co_code (upd co_stack (Int32.toNatClampNeg ((x1 + (-1 : Int32)) - (1 : Int32))) r14) co_asked (x1 + (-1 : Int32)) x2 k4) else none else none)) else none)
def fX12_ruled_b4 (io_codeLong : Int32) (co_code : Nat → Int32) (co_stack : Nat → Int32) (co_asked : Nat → Int32) (x1 : Int32) (x2 : Int32) : Option (Int32 × (Nat → Int32)) :=
  loopN (fun (s : (Nat → Int32) × Int32 × Int32) k4 => fX12_ruled_l4 io_codeLong co_code co_asked k4 s.1 s.2.1 s.2.2) FUEL (co_stack, x1, x2)
set_option maxHeartbeats 400000 in
set_option maxRecDepth 100000 in
theorem kX12_ruled_l4 {X : cxT} {l : Launch} {D : va_G} {Y : Nat → ClassId} {ao : Nat → Nat} {io_thrown : Int32} {io_rows : Int32} {io_cells : Int32} {io_children : Int32} {io_changes : Int32} {io_taped : Int32} {io_at : Int32} {io_to : Int32} {io_nest : Int32} {io_readMany : Int32} {io_codeLong : Int32} {io_readLong : Int32} {io_undos : Int32} {io_wentHome : Int32} {io_tideLevel : Int32} {io_acts : Int32} {io_firstBreaks : Int32} {io_bestCrew : Int32} {io_sights : Int32} {io_wayMany : Int32} {io_random : Int32} {co_code : Nat → Int32} {co_stack : Nat → Int32} {co_asked : Nat → Int32} {x1 : Int32} {x2 : Int32} {res : Int32 × (Nat → Int32)} (C : axC X l D Y cX12_ruled 4 RX12 wsX12_ruled rmX12_ruled (some .int)) (hQ : axQ X 0 0 (fun r9 w9 => r9 = (some (.int res.1)) ∧ w9 = [oX12 ao io_thrown io_rows io_cells io_children io_changes io_taped io_at io_to io_nest io_readMany io_codeLong io_readLong io_undos io_wentHome io_tideLevel io_acts io_firstBreaks io_bestCrew io_sights io_wayMany io_random, rI Y (ao 12) 80 co_code, rI Y (ao 14) 80 res.2, rI Y (ao 15) 4 co_asked])) {k4 : (Nat → Int32) × Int32 × Int32 → Option (Int32 × (Nat → Int32))} (hk4 : ∀ s : (Nat → Int32) × Int32 × Int32, k4 s = some res → ax X 0 0 4 [some (.ref (ao 0)), some (.int s.2.1), some (.int s.2.2), none] [oX12 ao io_thrown io_rows io_cells io_children io_changes io_taped io_at io_to io_nest io_readMany io_codeLong io_readLong io_undos io_wentHome io_tideLevel io_acts io_firstBreaks io_bestCrew io_sights io_wayMany io_random, rI Y (ao 12) 80 co_code, rI Y (ao 14) 80 s.1, rI Y (ao 15) 4 co_asked] []) (hf : fX12_ruled_l4 io_codeLong co_code co_asked k4 co_stack x1 x2 = some res) : ax X 0 0 4 [some (.ref (ao 0)), some (.int x1), some (.int x2), none] [oX12 ao io_thrown io_rows io_cells io_children io_changes io_taped io_at io_to io_nest io_readMany io_codeLong io_readLong io_undos io_wentHome io_tideLevel io_acts io_firstBreaks io_bestCrew io_sights io_wayMany io_random, rI Y (ao 12) 80 co_code, rI Y (ao 14) 80 co_stack, rI Y (ao 15) 4 co_asked] [] := by
  unfold fX12_ruled_l4 at hf
  refine a_iload_n C dX12_ruled_4 rfl ?_
  refine a_aload_n C dX12_ruled_5 rfl ?_
  refine a_get C (eB_X12_238 _) dX12_ruled_6 0 rfl rfl ?_
  refine a_icmp_ge C 125 dX12_ruled_9 (by decide) (fun h6 => ?_) (fun h6 => ?_)
  · have hf := fx_t h6 hf
    refine a_kill [1, 2] ?_
    exact kX12_ruled_b125 C hQ hf
  · have hf := fx_f h6 hf
    refine a_aload_n C dX12_ruled_12 rfl ?_
    refine a_get C (eB_X12_48 _) dX12_ruled_13 0 rfl rfl ?_
    refine a_iload_n C dX12_ruled_16 rfl ?_
    obtain ⟨h7, hf⟩ := fx_ite hf
    refine a_iald C dX12_ruled_17 1 rfl h7 ?_
    refine a_istore_n C dX12_ruled_18 (by decide) rfl ?_
    refine a_iload_n C dX12_ruled_19 rfl ?_
    refine a_sipush C (3000 : Int32) dX12_ruled_20 (by decide) ?_
    refine a_icmp_ne C 46 dX12_ruled_23 (by decide) (fun h8 => ?_) (fun h8 => ?_)
    · have hf := fx_f h8 hf
      refine a_iload_n C dX12_ruled_46 rfl ?_
      refine a_sipush C (2000 : Int32) dX12_ruled_47 (by decide) ?_
      refine a_icmp_lt C 89 dX12_ruled_50 (by decide) (fun h9 => ?_) (fun h9 => ?_)
      · have hf := fx_t h9 hf
        refine a_aload_n C dX12_ruled_89 rfl ?_
        refine a_get C (eB_X12_54 _) dX12_ruled_90 0 rfl rfl ?_
        refine a_iload_n C dX12_ruled_93 rfl ?_
        refine a_iload_n C dX12_ruled_94 rfl ?_
        refine a_sipush C (1000 : Int32) dX12_ruled_95 (by decide) ?_
        refine a_icmp_lt C 114 dX12_ruled_98 (by decide) (fun h10 => ?_) (fun h10 => ?_)
        · have hf := fx_t h10 hf
          refine a_iload_n C dX12_ruled_114 rfl ?_
          refine a_kill [3] ?_
          exact kX12_ruled_b115 C hQ hk4 hf
        · have hf := fx_f h10 hf
          refine a_aload_n C dX12_ruled_101 rfl ?_
          refine a_get C (eB_X12_57 _) dX12_ruled_102 0 rfl rfl ?_
          refine a_iload_n C dX12_ruled_105 rfl ?_
          refine a_sipush C (1000 : Int32) dX12_ruled_106 (by decide) ?_
          refine a_isub C dX12_ruled_109 ?_
          obtain ⟨h11, hf⟩ := fx_ite hf
          refine a_iald C dX12_ruled_110 3 rfl h11 ?_
          refine a_goto C 115 dX12_ruled_111 (by decide) ?_
          refine a_kill [3] ?_
          exact kX12_ruled_b115 C hQ hk4 hf
      · have hf := fx_f h9 hf
        refine a_iinc C (-1 : Int32) dX12_ruled_53 (by decide) rfl (by decide) rfl ?_
        refine a_aload_n C dX12_ruled_56 rfl ?_
        refine a_get C (eB_X12_54 _) dX12_ruled_57 0 rfl rfl ?_
        refine a_iload_n C dX12_ruled_60 rfl ?_
        refine a_iconst C (1 : Int32) dX12_ruled_61 (by decide) ?_
        refine a_isub C dX12_ruled_62 ?_
        refine a_iload_n C dX12_ruled_63 rfl ?_
        refine a_sipush C (2000 : Int32) dX12_ruled_64 (by decide) ?_
        refine a_isub C dX12_ruled_67 ?_
        refine a_aload_n C dX12_ruled_68 rfl ?_
        refine a_get C (eB_X12_54 _) dX12_ruled_69 0 rfl rfl ?_
        refine a_iload_n C dX12_ruled_72 rfl ?_
        refine a_iconst C (1 : Int32) dX12_ruled_73 (by decide) ?_
        refine a_isub C dX12_ruled_74 ?_
        obtain ⟨h12, hf⟩ := fx_ite hf
        refine a_iald C dX12_ruled_75 2 rfl h12 ?_
        refine a_aload_n C dX12_ruled_76 rfl ?_
        refine a_get C (eB_X12_54 _) dX12_ruled_77 0 rfl rfl ?_
        refine a_iload_n C dX12_ruled_80 rfl ?_
        obtain ⟨h13, hf⟩ := fx_ite hf
        refine a_iald C dX12_ruled_81 2 rfl h13 ?_
        obtain ⟨r14, h14, hf⟩ := fx_bind hf
        refine a_fS C (kX12_worked l D Y ((co_code (Int32.toNatClampNeg x2)) - (2000 : Int32)) (co_stack (Int32.toNatClampNeg ((x1 + (-1 : Int32)) - (1 : Int32)))) (co_stack (Int32.toNatClampNeg (x1 + (-1 : Int32)))) r14 h14) (gB_X12_248 _) rfl dvX12_worked ⟨⟨rfl, rfl⟩, ⟨Nat.le_of_ble_eq_true rfl, Nat.le_of_ble_eq_true rfl⟩, ⟨Nat.le_of_ble_eq_true rfl, Nat.le_of_ble_eq_true rfl⟩⟩ rfl (Nat.le_of_ble_eq_true rfl) dX12_ruled_82 [] [0, 1, 2, 3] trivial (by decide +kernel) rfl [oX12 ao io_thrown io_rows io_cells io_children io_changes io_taped io_at io_to io_nest io_readMany io_codeLong io_readLong io_undos io_wentHome io_tideLevel io_acts io_firstBreaks io_bestCrew io_sights io_wayMany io_random, rI Y (ao 12) 80 co_code, rI Y (ao 14) 80 co_stack, rI Y (ao 15) 4 co_asked] trivial ⟨rfl, rfl, rfl, rfl, trivial⟩ 4 rfl (by decide +kernel) ?_
        refine a_iast C dX12_ruled_85 2 rfl h12 ?_
        refine a_goto C 119 dX12_ruled_86 (by decide) ?_
        refine a_kill [3] ?_
        exact kX12_ruled_b119 C hQ hk4 hf
    · have hf := fx_t h8 hf
      refine a_aload_n C dX12_ruled_26 rfl ?_
      refine a_get C (eB_X12_54 _) dX12_ruled_27 0 rfl rfl ?_
      refine a_iload_n C dX12_ruled_30 rfl ?_
      refine a_iconst C (1 : Int32) dX12_ruled_31 (by decide) ?_
      refine a_isub C dX12_ruled_32 ?_
      refine a_aload_n C dX12_ruled_33 rfl ?_
      refine a_get C (eB_X12_54 _) dX12_ruled_34 0 rfl rfl ?_
      refine a_iload_n C dX12_ruled_37 rfl ?_
      refine a_iconst C (1 : Int32) dX12_ruled_38 (by decide) ?_
      refine a_isub C dX12_ruled_39 ?_
      obtain ⟨h15, hf⟩ := fx_ite hf
      refine a_iald C dX12_ruled_40 2 rfl h15 ?_
      refine a_ineg C dX12_ruled_41 ?_
      refine a_iast C dX12_ruled_42 2 rfl h15 ?_
      refine a_goto C 119 dX12_ruled_43 (by decide) ?_
      refine a_kill [3] ?_
      exact kX12_ruled_b119 C hQ hk4 hf
set_option maxHeartbeats 400000 in
set_option maxRecDepth 100000 in
theorem kX12_ruled_b4 {X : cxT} {l : Launch} {D : va_G} {Y : Nat → ClassId} {ao : Nat → Nat} {io_thrown : Int32} {io_rows : Int32} {io_cells : Int32} {io_children : Int32} {io_changes : Int32} {io_taped : Int32} {io_at : Int32} {io_to : Int32} {io_nest : Int32} {io_readMany : Int32} {io_codeLong : Int32} {io_readLong : Int32} {io_undos : Int32} {io_wentHome : Int32} {io_tideLevel : Int32} {io_acts : Int32} {io_firstBreaks : Int32} {io_bestCrew : Int32} {io_sights : Int32} {io_wayMany : Int32} {io_random : Int32} {co_code : Nat → Int32} {co_stack : Nat → Int32} {co_asked : Nat → Int32} {x1 : Int32} {x2 : Int32} {res : Int32 × (Nat → Int32)} (C : axC X l D Y cX12_ruled 4 RX12 wsX12_ruled rmX12_ruled (some .int)) (hQ : axQ X 0 0 (fun r9 w9 => r9 = (some (.int res.1)) ∧ w9 = [oX12 ao io_thrown io_rows io_cells io_children io_changes io_taped io_at io_to io_nest io_readMany io_codeLong io_readLong io_undos io_wentHome io_tideLevel io_acts io_firstBreaks io_bestCrew io_sights io_wayMany io_random, rI Y (ao 12) 80 co_code, rI Y (ao 14) 80 res.2, rI Y (ao 15) 4 co_asked])) (hf : fX12_ruled_b4 io_codeLong co_code co_stack co_asked x1 x2 = some res) : ax X 0 0 4 [some (.ref (ao 0)), some (.int x1), some (.int x2), none] [oX12 ao io_thrown io_rows io_cells io_children io_changes io_taped io_at io_to io_nest io_readMany io_codeLong io_readLong io_undos io_wentHome io_tideLevel io_acts io_firstBreaks io_bestCrew io_sights io_wayMany io_random, rI Y (ao 12) 80 co_code, rI Y (ao 14) 80 co_stack, rI Y (ao 15) 4 co_asked] [] := by
  unfold fX12_ruled_b4 at hf
  exact fx_loop (P := fun s : (Nat → Int32) × Int32 × Int32 => ax X 0 0 4 [some (.ref (ao 0)), some (.int s.2.1), some (.int s.2.2), none] [oX12 ao io_thrown io_rows io_cells io_children io_changes io_taped io_at io_to io_nest io_readMany io_codeLong io_readLong io_undos io_wentHome io_tideLevel io_acts io_firstBreaks io_bestCrew io_sights io_wayMany io_random, rI Y (ao 12) 80 co_code, rI Y (ao 14) 80 s.1, rI Y (ao 15) 4 co_asked] []) (fun s k4 hk4 h => kX12_ruled_l4 C hQ hk4 h) FUEL (co_stack, x1, x2) hf
def fX12_ruled (io_codeLong : Int32) (co_code : Nat → Int32) (co_stack : Nat → Int32) (co_asked : Nat → Int32) : Option (Int32 × (Nat → Int32)) :=
  fX12_ruled_b4 io_codeLong co_code co_stack co_asked (0 : Int32) (0 : Int32)
set_option maxHeartbeats 400000 in
set_option maxRecDepth 100000 in
theorem kX12_ruled (l : Launch) (D : va_G) (Y : Nat → ClassId) (ao : Nat → Nat) (io_thrown : Int32) (io_rows : Int32) (io_cells : Int32) (io_children : Int32) (io_changes : Int32) (io_taped : Int32) (io_at : Int32) (io_to : Int32) (io_nest : Int32) (io_readMany : Int32) (io_codeLong : Int32) (io_readLong : Int32) (io_undos : Int32) (io_wentHome : Int32) (io_tideLevel : Int32) (io_acts : Int32) (io_firstBreaks : Int32) (io_bestCrew : Int32) (io_sights : Int32) (io_wayMany : Int32) (io_random : Int32) (co_code : Nat → Int32) (co_stack : Nat → Int32) (co_asked : Nat → Int32) (res : Int32 × (Nat → Int32)) (hf : fX12_ruled io_codeLong co_code co_stack co_asked = some res) : amf l D Y yX12_ruled wsX12_ruled rmX12_ruled [.ref (ao 0)] [oX12 ao io_thrown io_rows io_cells io_children io_changes io_taped io_at io_to io_nest io_readMany io_codeLong io_readLong io_undos io_wentHome io_tideLevel io_acts io_firstBreaks io_bestCrew io_sights io_wayMany io_random, rI Y (ao 12) 80 co_code, rI Y (ao 14) 80 co_stack, rI Y (ao 15) 4 co_asked] (some (.int res.1)) [oX12 ao io_thrown io_rows io_cells io_children io_changes io_taped io_at io_to io_nest io_readMany io_codeLong io_readLong io_undos io_wentHome io_tideLevel io_acts io_firstBreaks io_bestCrew io_sights io_wayMany io_random, rI Y (ao 12) 80 co_code, rI Y (ao 14) 80 res.2, rI Y (ao 15) 4 co_asked] := by
  refine amf.of (cc := cX12_ruled) (maxL := 4) (rt := (some .int)) (by decide) rfl RX12 rfl (Nat.le_of_ble_eq_true rfl) [some (.ref (ao 0)), none, none, none] rfl ?_
  intro X C hQ
  unfold fX12_ruled at hf
  refine a_iconst C (0 : Int32) dX12_ruled_0 (by decide) ?_
  refine a_istore_n C dX12_ruled_1 (by decide) rfl ?_
  refine a_iconst C (0 : Int32) dX12_ruled_2 (by decide) ?_
  refine a_istore_n C dX12_ruled_3 (by decide) rfl ?_
  exact kX12_ruled_b4 C hQ hf
