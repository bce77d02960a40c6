-- X12_readsChild
abbrev rmX12_readsChild : Room := { frames := 4, cells := 0, slots := 0, locals := 92 }
theorem dvX12_readsChild : yX12_readsChild.cls = RX12 ∧ yX12_readsChild.cls ≠ "java/lang/invoke/MethodHandle" ∧ yX12_readsChild.cls ≠ "java/lang/invoke/VarHandle" ∧ (parseMethodDescriptor yX12_readsChild.desc).map (fun d => d.parameters.length) = some 0 := by decide +kernel
theorem eX12_readsChild_inX12 : ∀ w ∈ wsX120, w ∈ wsX12_readsChild := by decide +kernel
theorem eX12_readsChild_197 : aF wsX12_readsChild RX12 197 12 20 := ⟨RX12, TX12, 53, rfl, eX12_readsChild_inX12, by decide, by decide +kernel⟩
theorem eX12_readsChild_45 : aF wsX12_readsChild RX12 45 12 19 := ⟨RX12, TX12, 53, rfl, eX12_readsChild_inX12, by decide, by decide +kernel⟩
theorem eX12_readsChild_126 : aF wsX12_readsChild RX12 126 12 4 := ⟨RX12, TX12, 53, rfl, eX12_readsChild_inX12, by decide, by decide +kernel⟩
def fX12_readsChild_b55 (io_children : Int32) (io_at : Int32) (io_to : Int32) (io_readMany : Int32) (co_tape : Nat → Int32) (co_read : Nat → Int32) : Option (Int32 × Int32 × Int32 × (Nat → Int32)) :=
  some ((0 : Int32), io_at, io_readMany, co_read)
set_option maxHeartbeats 400000 in
set_option maxRecDepth 100000 in
theorem kX12_readsChild_b55 {X : cxT} {l : Launch} {D : va_G} {Y : Nat → ClassId} {ao : Nat → Nat} {io_thrown : Int32} {io_rows : Int32} {io_cells : Int32} {io_children : Int32} {io_changes : Int32} {io_taped : Int32} {io_at : Int32} {io_to : Int32} {io_nest : Int32} {io_readMany : Int32} {io_codeLong : Int32} {io_readLong : Int32} {io_undos : Int32} {io_wentHome : Int32} {io_tideLevel : Int32} {io_acts : Int32} {io_firstBreaks : Int32} {io_bestCrew : Int32} {io_sights : Int32} {io_wayMany : Int32} {io_random : Int32} {co_tape : Nat → Int32} {co_read : Nat → Int32} {res : Int32 × Int32 × Int32 × (Nat → Int32)} (C : axC X l D Y cX12_readsChild 3 RX12 wsX12_readsChild rmX12_readsChild (some .boolean)) (hQ : axQ X 0 0 (fun r9 w9 => r9 = (some (.int res.1)) ∧ w9 = [oX12 ao io_thrown io_rows io_cells io_children io_changes io_taped res.2.1 io_to io_nest res.2.2.1 io_codeLong io_readLong io_undos io_wentHome io_tideLevel io_acts io_firstBreaks io_bestCrew io_sights io_wayMany io_random, rI Y (ao 10) 80 co_tape, rI Y (ao 11) 36 res.2.2.2])) (hf : fX12_readsChild_b55 io_children io_at io_to io_readMany co_tape co_read = some res) : ax X 0 0 55 [none, none, none] [oX12 ao io_thrown io_rows io_cells io_children io_changes io_taped io_at io_to io_nest io_readMany io_codeLong io_readLong io_undos io_wentHome io_tideLevel io_acts io_firstBreaks io_bestCrew io_sights io_wayMany io_random, rI Y (ao 10) 80 co_tape, rI Y (ao 11) 36 co_read] [] := by
  unfold fX12_readsChild_b55 at hf
  refine a_iconst C (0 : Int32) dX12_readsChild_55 (by decide) ?_
  obtain rfl := fx_some hf
  exact a_zret C hQ (Or.inl rfl) dX12_readsChild_56 ⟨rfl, rfl⟩
def fX12_readsChild_b158 (io_children : Int32) (io_at : Int32) (io_to : Int32) (io_readMany : Int32) (co_tape : Nat → Int32) (co_read : Nat → Int32) (s0 : Int32) : Option (Int32 × Int32 × Int32 × (Nat → Int32)) :=
  if s0 = 0 ∨ s0 = 1 then some (s0, io_at, io_readMany, co_read) else none
set_option maxHeartbeats 400000 in
set_option maxRecDepth 100000 in
theorem kX12_readsChild_b158 {X : cxT} {l : Launch} {D : va_G} {Y : Nat → ClassId} {ao : Nat → Nat} {io_thrown : Int32} {io_rows : Int32} {io_cells : Int32} {io_children : Int32} {io_changes : Int32} {io_taped : Int32} {io_at : Int32} {io_to : Int32} {io_nest : Int32} {io_readMany : Int32} {io_codeLong : Int32} {io_readLong : Int32} {io_undos : Int32} {io_wentHome : Int32} {io_tideLevel : Int32} {io_acts : Int32} {io_firstBreaks : Int32} {io_bestCrew : Int32} {io_sights : Int32} {io_wayMany : Int32} {io_random : Int32} {co_tape : Nat → Int32} {co_read : Nat → Int32} {s0 : Int32} {res : Int32 × Int32 × Int32 × (Nat → Int32)} (C : axC X l D Y cX12_readsChild 3 RX12 wsX12_readsChild rmX12_readsChild (some .boolean)) (hQ : axQ X 0 0 (fun r9 w9 => r9 = (some (.int res.1)) ∧ w9 = [oX12 ao io_thrown io_rows io_cells io_children io_changes io_taped res.2.1 io_to io_nest res.2.2.1 io_codeLong io_readLong io_undos io_wentHome io_tideLevel io_acts io_firstBreaks io_bestCrew io_sights io_wayMany io_random, rI Y (ao 10) 80 co_tape, rI Y (ao 11) 36 res.2.2.2])) (hf : fX12_readsChild_b158 io_children io_at io_to io_readMany co_tape co_read s0 = some res) : ax X 0 0 158 [none, none, none] [oX12 ao io_thrown io_rows io_cells io_children io_changes io_taped io_at io_to io_nest io_readMany io_codeLong io_readLong io_undos io_wentHome io_tideLevel io_acts io_firstBreaks io_bestCrew io_sights io_wayMany io_random, rI Y (ao 10) 80 co_tape, rI Y (ao 11) 36 co_read] [.int s0] := by
  unfold fX12_readsChild_b158 at hf
  obtain ⟨h1, hf⟩ := fx_ite hf
  obtain rfl := fx_some hf
  exact a_zret C hQ h1 dX12_readsChild_158 ⟨rfl, rfl⟩
def fX12_readsChild_b153 (io_children : Int32) (io_at : Int32) (io_to : Int32) (io_readMany : Int32) (co_tape : Nat → Int32) (co_read : Nat → Int32) : Option (Int32 × Int32 × Int32 × (Nat → Int32)) :=
  fX12_readsChild_b158 io_children io_at io_to io_readMany co_tape co_read (1 : Int32)
set_option maxHeartbeats 400000 in
set_option maxRecDepth 100000 in
theorem kX12_readsChild_b153 {X : cxT} {l : Launch} {D : va_G} {Y : Nat → ClassId} {ao : Nat → Nat} {io_thrown : Int32} {io_rows : Int32} {io_cells : Int32} {io_children : Int32} {io_changes : Int32} {io_taped : Int32} {io_at : Int32} {io_to : Int32} {io_nest : Int32} {io_readMany : Int32} {io_codeLong : Int32} {io_readLong : Int32} {io_undos : Int32} {io_wentHome : Int32} {io_tideLevel : Int32} {io_acts : Int32} {io_firstBreaks : Int32} {io_bestCrew : Int32} {io_sights : Int32} {io_wayMany : Int32} {io_random : Int32} {co_tape : Nat → Int32} {co_read : Nat → Int32} {res : Int32 × Int32 × Int32 × (Nat → Int32)} (C : axC X l D Y cX12_readsChild 3 RX12 wsX12_readsChild rmX12_readsChild (some .boolean)) (hQ : axQ X 0 0 (fun r9 w9 => r9 = (some (.int res.1)) ∧ w9 = [oX12 ao io_thrown io_rows io_cells io_children io_changes io_taped res.2.1 io_to io_nest res.2.2.1 io_codeLong io_readLong io_undos io_wentHome io_tideLevel io_acts io_firstBreaks io_bestCrew io_sights io_wayMany io_random, rI Y (ao 10) 80 co_tape, rI Y (ao 11) 36 res.2.2.2])) (hf : fX12_readsChild_b153 io_children io_at io_to io_readMany co_tape co_read = some res) : ax X 0 0 153 [none, none, none] [oX12 ao io_thrown io_rows io_cells io_children io_changes io_taped io_at io_to io_nest io_readMany io_codeLong io_readLong io_undos io_wentHome io_tideLevel io_acts io_firstBreaks io_bestCrew io_sights io_wayMany io_random, rI Y (ao 10) 80 co_tape, rI Y (ao 11) 36 co_read] [] := by
  unfold fX12_readsChild_b153 at hf
  refine a_iconst C (1 : Int32) dX12_readsChild_153 (by decide) ?_
  refine a_goto C 158 dX12_readsChild_154 (by decide) ?_
  exact kX12_readsChild_b158 C hQ hf
def fX12_readsChild_b127 (io_children : Int32) (io_at : Int32) (io_to : Int32) (io_readMany : Int32) (co_tape : Nat → Int32) (co_read : Nat → Int32) (x1 : Int32) (x2 : Int32) (s1 : Int32) (s2 : Int32) : Option (Int32 × Int32 × Int32 × (Nat → Int32)) :=
  if inb s1 36 then if x2 = (0 : Int32) then (if inb (x1 + (2 : Int32)) 36 then if ((upd co_read (Int32.toNatClampNeg s1) s2) (Int32.toNatClampNeg (x1 + (2 : Int32)))) < (0 : Int32) then (fX12_readsChild_b158 io_children io_at io_to (io_readMany + (1 : Int32)) co_tape (upd co_read (Int32.toNatClampNeg s1) s2) (0 : Int32)) else (fX12_readsChild_b153 io_children io_at io_to (io_readMany + (1 : Int32)) co_tape (upd co_read (Int32.toNatClampNeg s1) s2)) else none) else (fX12_readsChild_b153 io_children io_at io_to (io_readMany + (1 : Int32)) co_tape (upd co_read (Int32.toNatClampNeg s1) s2)) else none
set_option maxHeartbeats 400000 in
set_option maxRecDepth 100000 in
theorem kX12_readsChild_b127 {X : cxT} {l : Launch} {D : va_G} {Y : Nat → ClassId} {ao : Nat → Nat} {io_thrown : Int32} {io_rows : Int32} {io_cells : Int32} {io_children : Int32} {io_changes : Int32} {io_taped : Int32} {io_at : Int32} {io_to : Int32} {io_nest : Int32} {io_readMany : Int32} {io_codeLong : Int32} {io_readLong : Int32} {io_undos : Int32} {io_wentHome : Int32} {io_tideLevel : Int32} {io_acts : Int32} {io_firstBreaks : Int32} {io_bestCrew : Int32} {io_sights : Int32} {io_wayMany : Int32} {io_random : Int32} {co_tape : Nat → Int32} {co_read : Nat → Int32} {x1 : Int32} {x2 : Int32} {s1 : Int32} {s2 : Int32} {res : Int32 × Int32 × Int32 × (Nat → Int32)} (C : axC X l D Y cX12_readsChild 3 RX12 wsX12_readsChild rmX12_readsChild (some .boolean)) (hQ : axQ X 0 0 (fun r9 w9 => r9 = (some (.int res.1)) ∧ w9 = [oX12 ao io_thrown io_rows io_cells io_children io_changes io_taped res.2.1 io_to io_nest res.2.2.1 io_codeLong io_readLong io_undos io_wentHome io_tideLevel io_acts io_firstBreaks io_bestCrew io_sights io_wayMany io_random, rI Y (ao 10) 80 co_tape, rI Y (ao 11) 36 res.2.2.2])) (hf : fX12_readsChild_b127 io_children io_at io_to io_readMany co_tape co_read x1 x2 s1 s2 = some res) : ax X 0 0 127 [some (.ref (ao 0)), some (.int x1), some (.int x2)] [oX12 ao io_thrown io_rows io_cells io_children io_changes io_taped io_at io_to io_nest io_readMany io_codeLong io_readLong io_undos io_wentHome io_tideLevel io_acts io_firstBreaks io_bestCrew io_sights io_wayMany io_random, rI Y (ao 10) 80 co_tape, rI Y (ao 11) 36 co_read] [.int s2, .int s1, .ref (ao 11)] := by
  unfold fX12_readsChild_b127 at hf
  obtain ⟨h2, hf⟩ := fx_ite hf
  refine a_iast C dX12_readsChild_127 2 rfl h2 ?_
  refine a_aload_n C dX12_readsChild_128 rfl ?_
  refine a_dup C dX12_readsChild_129 rfl ?_
  refine a_get C eX12_readsChild_197 dX12_readsChild_130 0 rfl rfl ?_
  refine a_iconst C (1 : Int32) dX12_readsChild_133 (by decide) ?_
  refine a_iadd C dX12_readsChild_134 ?_
  refine a_put C eX12_readsChild_197 tfX12_20 dX12_readsChild_135 0 rfl rfl rfl (Nat.le_of_ble_eq_true rfl) ?_
  refine a_iload_n C dX12_readsChild_138 rfl ?_
  refine a_if_ne C 153 dX12_readsChild_139 (by decide) (fun h3 => ?_) (fun h3 => ?_)
  · have hf := fx_f h3 hf
    refine a_kill [0, 1, 2] ?_
    exact kX12_readsChild_b153 C hQ hf
  · have hf := fx_t h3 hf
    refine a_aload_n C dX12_readsChild_142 rfl ?_
    refine a_get C eX12_readsChild_45 dX12_readsChild_143 0 rfl rfl ?_
    refine a_iload_n C dX12_readsChild_146 rfl ?_
    refine a_iconst C (2 : Int32) dX12_readsChild_147 (by decide) ?_
    refine a_iadd C dX12_readsChild_148 ?_
    obtain ⟨h4, hf⟩ := fx_ite hf
    refine a_iald C dX12_readsChild_149 2 rfl h4 ?_
    refine a_if_lt C 157 dX12_readsChild_150 (by decide) (fun h5 => ?_) (fun h5 => ?_)
    · have hf := fx_t h5 hf
      refine a_iconst C (0 : Int32) dX12_readsChild_157 (by decide) ?_
      refine a_kill [0, 1, 2] ?_
      exact kX12_readsChild_b158 C hQ hf
    · have hf := fx_f h5 hf
      refine a_kill [0, 1, 2] ?_
      exact kX12_readsChild_b153 C hQ hf
def fX12_readsChild (io_children : Int32) (io_at : Int32) (io_to : Int32) (io_readMany : Int32) (co_tape : Nat → Int32) (co_read : Nat → Int32) : Option (Int32 × Int32 × Int32 × (Nat → Int32)) :=
  if (io_children + io_readMany) = (8 : Int32) then (some ((0 : Int32), io_at, io_readMany, co_read)) else ((fX12_numberIn io_at io_to co_tape (2 : Int32) (4 : Int32) (13 : Int32)).bind (fun r7 => if inb ((3 : Int32) * io_readMany) 36 then if ((upd co_read (Int32.toNatClampNeg ((3 : Int32) * io_readMany)) r7.1) (Int32.toNatClampNeg ((3 : Int32) * io_readMany))) < (0 : Int32) then (fX12_readsChild_b55 io_children r7.2 io_to io_readMany co_tape (upd co_read (Int32.toNatClampNeg ((3 : Int32) * io_readMany)) r7.1)) else ((fX12_takes r7.2 io_to co_tape (44 : Int32)).bind (fun r10 => if r10.1 = (0 : Int32) then (fX12_readsChild_b55 io_children r10.2 io_to io_readMany co_tape (upd co_read (Int32.toNatClampNeg ((3 : Int32) * io_readMany)) r7.1)) else ((fX12_signIn r10.2 io_to co_tape (48 : Int32) (1 : Int32) (9 : Int32)).bind (fun r12 => if inb (((3 : Int32) * io_readMany) + (1 : Int32)) 36 then if (0 : Int32) ≤ ((upd (upd co_read (Int32.toNatClampNeg ((3 : Int32) * io_readMany)) r7.1) (Int32.toNatClampNeg (((3 : Int32) * io_readMany) + (1 : Int32))) r12.1) (Int32.toNatClampNeg (((3 : Int32) * io_readMany) + (1 : Int32)))) then ((fX12_takes r12.2 io_to co_tape (45 : Int32)).bind (fun r15 => if r15.1 = (0 : Int32) then ((fX12_signIn r15.2 io_to co_tape (97 : Int32) (0 : Int32) ((io_children + io_readMany) - (1 : Int32))).bind (fun r17 => fX12_readsChild_b127 io_children r17.2 io_to io_readMany co_tape (upd (upd co_read (Int32.toNatClampNeg ((3 : Int32) * io_readMany)) r7.1) (Int32.toNatClampNeg (((3 : Int32) * io_readMany) + (1 : Int32))) r12.1) ((3 : Int32) * io_readMany) r15.1 (((3 : Int32) * io_readMany) + (2 : Int32)) r17.1)) else (fX12_readsChild_b127 io_children r15.2 io_to io_readMany co_tape (upd (upd co_read (Int32.toNatClampNeg ((3 : Int32) * io_readMany)) r7.1) (Int32.toNatClampNeg (((3 : Int32) * io_readMany) + (1 : Int32))) r12.1) ((3 : Int32) * io_readMany) r15.1 (((3 : Int32) * io_readMany) + (2 : Int32)) (-1 : Int32)))) else (some ((0 : Int32), r12.2, io_readMany, (upd (upd co_read (Int32.toNatClampNeg ((3 : Int32) * io_readMany)) r7.1) (Int32.toNatClampNeg (((3 : Int32) * io_readMany) + (1 : Int32))) r12.1))) else none)))) else none))
set_option maxHeartbeats 400000 in
set_option maxRecDepth 100000 in
theorem kX12_readsChild (l : Launch) (D : va_G) (Y : Nat → ClassId) (ao : Nat → Nat) (io_thrown : Int32) (io_rows : Int32) (io_cells : Int32) (io_children : Int32) (io_changes : Int32) (io_taped : Int32) (io_at : Int32) (io_to : Int32) (io_nest : Int32) (io_readMany : Int32) (io_codeLong : Int32) (io_readLong : Int32) (io_undos : Int32) (io_wentHome : Int32) (io_tideLevel : Int32) (io_acts : Int32) (io_firstBreaks : Int32) (io_bestCrew : Int32) (io_sights : Int32) (io_wayMany : Int32) (io_random : Int32) (co_tape : Nat → Int32) (co_read : Nat → Int32) (res : Int32 × Int32 × Int32 × (Nat → Int32)) (hf : fX12_readsChild io_children io_at io_to io_readMany co_tape co_read = some res) : amf l D Y yX12_readsChild wsX12_readsChild rmX12_readsChild [.ref (ao 0)] [oX12 ao io_thrown io_rows io_cells io_children io_changes io_taped io_at io_to io_nest io_readMany io_codeLong io_readLong io_undos io_wentHome io_tideLevel io_acts io_firstBreaks io_bestCrew io_sights io_wayMany io_random, rI Y (ao 10) 80 co_tape, rI Y (ao 11) 36 co_read] (some (.int res.1)) [oX12 ao io_thrown io_rows io_cells io_children io_changes io_taped res.2.1 io_to io_nest res.2.2.1 io_codeLong io_readLong io_undos io_wentHome io_tideLevel io_acts io_firstBreaks io_bestCrew io_sights io_wayMany io_random, rI Y (ao 10) 80 co_tape, rI Y (ao 11) 36 res.2.2.2] := by
  refine amf.of (cc := cX12_readsChild) (maxL := 3) (rt := (some .boolean)) (by decide) rfl RX12 rfl (Nat.le_of_ble_eq_true rfl) [some (.ref (ao 0)), none, none] rfl ?_
  intro X C hQ
  unfold fX12_readsChild at hf
  refine a_aload_n C dX12_readsChild_0 rfl ?_
  refine a_get C eX12_readsChild_126 dX12_readsChild_1 0 rfl rfl ?_
  refine a_aload_n C dX12_readsChild_4 rfl ?_
  refine a_get C eX12_readsChild_197 dX12_readsChild_5 0 rfl rfl ?_
  refine a_iadd C dX12_readsChild_8 ?_
  refine a_bipush C (8 : Int32) dX12_readsChild_9 (by decide) ?_
  refine a_icmp_ne C 16 dX12_readsChild_11 (by decide) (fun h6 => ?_) (fun h6 => ?_)
  · have hf := fx_f h6 hf
    refine a_iconst C (3 : Int32) dX12_readsChild_16 (by decide) ?_
    refine a_aload_n C dX12_readsChild_17 rfl ?_
    refine a_get C eX12_readsChild_197 dX12_readsChild_18 0 rfl rfl ?_
    refine a_imul C dX12_readsChild_21 ?_
    refine a_istore_n C dX12_readsChild_22 (by decide) rfl ?_
    refine a_aload_n C dX12_readsChild_23 rfl ?_
    refine a_get C eX12_readsChild_45 dX12_readsChild_24 0 rfl rfl ?_
    refine a_iload_n C dX12_readsChild_27 rfl ?_
    refine a_aload_n C dX12_readsChild_28 rfl ?_
    refine a_iconst C (2 : Int32) dX12_readsChild_29 (by decide) ?_
    refine a_iconst C (4 : Int32) dX12_readsChild_30 (by decide) ?_
    refine a_bipush C (13 : Int32) dX12_readsChild_31 (by decide) ?_
    obtain ⟨r7, h7, hf⟩ := fx_bind hf
    refine a_fV C (kX12_numberIn l D Y ao io_thrown io_rows io_cells io_children io_changes io_taped io_at io_to io_nest io_readMany io_codeLong io_readLong io_undos io_wentHome io_tideLevel io_acts io_firstBreaks io_bestCrew io_sights io_wayMany io_random co_tape (2 : Int32) (4 : Int32) (13 : Int32) r7 h7) gX12_readsChild_X12_numberIn rfl dvX12_numberIn ⟨⟨rfl, rfl⟩, ⟨Nat.le_of_ble_eq_true rfl, Nat.le_of_ble_eq_true rfl⟩, ⟨Nat.le_of_ble_eq_true rfl, Nat.le_of_ble_eq_true rfl⟩⟩ rfl (Nat.le_of_ble_eq_true rfl) dX12_readsChild_33 rfl rfl [0, 1] [2] ⟨rfl, rfl, trivial⟩ rfl rfl [oX12 ao io_thrown io_rows io_cells io_children io_changes io_taped r7.2 io_to io_nest io_readMany io_codeLong io_readLong io_undos io_wentHome io_tideLevel io_acts io_firstBreaks io_bestCrew io_sights io_wayMany io_random, rI Y (ao 10) 80 co_tape, rI Y (ao 11) 36 co_read] ⟨rfl, rfl, trivial⟩ ⟨rfl, trivial⟩ rfl ?_
    obtain ⟨h8, hf⟩ := fx_ite hf
    refine a_iast C dX12_readsChild_36 2 rfl h8 ?_
    refine a_aload_n C dX12_readsChild_37 rfl ?_
    refine a_get C eX12_readsChild_45 dX12_readsChild_38 0 rfl rfl ?_
    refine a_iload_n C dX12_readsChild_41 rfl ?_
    refine a_iald C dX12_readsChild_42 2 rfl h8 ?_
    refine a_if_lt C 55 dX12_readsChild_43 (by decide) (fun h9 => ?_) (fun h9 => ?_)
    · have hf := fx_t h9 hf
      refine a_kill [0, 1] ?_
      exact kX12_readsChild_b55 C hQ hf
    · have hf := fx_f h9 hf
      refine a_aload_n C dX12_readsChild_46 rfl ?_
      refine a_bipush C (44 : Int32) dX12_readsChild_47 (by decide) ?_
      obtain ⟨r10, h10, hf⟩ := fx_bind hf
      refine a_fV C (kX12_takes l D Y ao io_thrown io_rows io_cells io_children io_changes io_taped r7.2 io_to io_nest io_readMany io_codeLong io_readLong io_undos io_wentHome io_tideLevel io_acts io_firstBreaks io_bestCrew io_sights io_wayMany io_random co_tape (44 : Int32) r10 h10) gX12_readsChild_X12_takes rfl dvX12_takes ⟨⟨rfl, rfl⟩, ⟨Nat.le_of_ble_eq_true rfl, Nat.le_of_ble_eq_true rfl⟩, ⟨Nat.le_of_ble_eq_true rfl, Nat.le_of_ble_eq_true rfl⟩⟩ rfl (Nat.le_of_ble_eq_true rfl) dX12_readsChild_49 rfl rfl [0, 1] [2] ⟨rfl, rfl, trivial⟩ rfl rfl [oX12 ao io_thrown io_rows io_cells io_children io_changes io_taped r10.2 io_to io_nest io_readMany io_codeLong io_readLong io_undos io_wentHome io_tideLevel io_acts io_firstBreaks io_bestCrew io_sights io_wayMany io_random, rI Y (ao 10) 80 co_tape, rI Y (ao 11) 36 (upd co_read (Int32.toNatClampNeg ((3 : Int32) * io_readMany)) r7.1)] ⟨rfl, rfl, trivial⟩ ⟨rfl, trivial⟩ rfl ?_
      refine a_if_ne C 57 dX12_readsChild_52 (by decide) (fun h11 => ?_) (fun h11 => ?_)
      · have hf := fx_f h11 hf
        refine a_aload_n C dX12_readsChild_57 rfl ?_
        refine a_get C eX12_readsChild_45 dX12_readsChild_58 0 rfl rfl ?_
        refine a_iload_n C dX12_readsChild_61 rfl ?_
        refine a_iconst C (1 : Int32) dX12_readsChild_62 (by decide) ?_
        refine a_iadd C dX12_readsChild_63 ?_
        refine a_aload_n C dX12_readsChild_64 rfl ?_
        refine a_bipush C (48 : Int32) dX12_readsChild_65 (by decide) ?_
        refine a_iconst C (1 : Int32) dX12_readsChild_67 (by decide) ?_
        refine a_bipush C (9 : Int32) dX12_readsChild_68 (by decide) ?_
        obtain ⟨r12, h12, hf⟩ := fx_bind hf
        refine a_fV C (kX12_signIn l D Y ao io_thrown io_rows io_cells io_children io_changes io_taped r10.2 io_to io_nest io_readMany io_codeLong io_readLong io_undos io_wentHome io_tideLevel io_acts io_firstBreaks io_bestCrew io_sights io_wayMany io_random co_tape (48 : Int32) (1 : Int32) (9 : Int32) r12 h12) gX12_readsChild_X12_signIn rfl dvX12_signIn ⟨⟨rfl, rfl⟩, ⟨Nat.le_of_ble_eq_true rfl, Nat.le_of_ble_eq_true rfl⟩, ⟨Nat.le_of_ble_eq_true rfl, Nat.le_of_ble_eq_true rfl⟩⟩ rfl (Nat.le_of_ble_eq_true rfl) dX12_readsChild_70 rfl rfl [0, 1] [2] ⟨rfl, rfl, trivial⟩ rfl rfl [oX12 ao io_thrown io_rows io_cells io_children io_changes io_taped r12.2 io_to io_nest io_readMany io_codeLong io_readLong io_undos io_wentHome io_tideLevel io_acts io_firstBreaks io_bestCrew io_sights io_wayMany io_random, rI Y (ao 10) 80 co_tape, rI Y (ao 11) 36 (upd co_read (Int32.toNatClampNeg ((3 : Int32) * io_readMany)) r7.1)] ⟨rfl, rfl, trivial⟩ ⟨rfl, trivial⟩ rfl ?_
        obtain ⟨h13, hf⟩ := fx_ite hf
        refine a_iast C dX12_readsChild_73 2 rfl h13 ?_
        refine a_aload_n C dX12_readsChild_74 rfl ?_
        refine a_get C eX12_readsChild_45 dX12_readsChild_75 0 rfl rfl ?_
        refine a_iload_n C dX12_readsChild_78 rfl ?_
        refine a_iconst C (1 : Int32) dX12_readsChild_79 (by decide) ?_
        refine a_iadd C dX12_readsChild_80 ?_
        refine a_iald C dX12_readsChild_81 2 rfl h13 ?_
        refine a_if_ge C 87 dX12_readsChild_82 (by decide) (fun h14 => ?_) (fun h14 => ?_)
        · have hf := fx_t h14 hf
          refine a_aload_n C dX12_readsChild_87 rfl ?_
          refine a_bipush C (45 : Int32) dX12_readsChild_88 (by decide) ?_
          obtain ⟨r15, h15, hf⟩ := fx_bind hf
          refine a_fV C (kX12_takes l D Y ao io_thrown io_rows io_cells io_children io_changes io_taped r12.2 io_to io_nest io_readMany io_codeLong io_readLong io_undos io_wentHome io_tideLevel io_acts io_firstBreaks io_bestCrew io_sights io_wayMany io_random co_tape (45 : Int32) r15 h15) gX12_readsChild_X12_takes rfl dvX12_takes ⟨⟨rfl, rfl⟩, ⟨Nat.le_of_ble_eq_true rfl, Nat.le_of_ble_eq_true rfl⟩, ⟨Nat.le_of_ble_eq_true rfl, Nat.le_of_ble_eq_true rfl⟩⟩ rfl (Nat.le_of_ble_eq_true rfl) dX12_readsChild_90 rfl rfl [0, 1] [2] ⟨rfl, rfl, trivial⟩ rfl rfl [oX12 ao io_thrown io_rows io_cells io_children io_changes io_taped r15.2 io_to io_nest io_readMany io_codeLong io_readLong io_undos io_wentHome io_tideLevel io_acts io_firstBreaks io_bestCrew io_sights io_wayMany io_random, rI Y (ao 10) 80 co_tape, rI Y (ao 11) 36 (upd (upd co_read (Int32.toNatClampNeg ((3 : Int32) * io_readMany)) r7.1) (Int32.toNatClampNeg (((3 : Int32) * io_readMany) + (1 : Int32))) r12.1)] ⟨rfl, rfl, trivial⟩ ⟨rfl, trivial⟩ rfl ?_
          refine a_istore_n C dX12_readsChild_93 (by decide) rfl ?_
          refine a_aload_n C dX12_readsChild_94 rfl ?_
          refine a_get C eX12_readsChild_45 dX12_readsChild_95 0 rfl rfl ?_
          refine a_iload_n C dX12_readsChild_98 rfl ?_
          refine a_iconst C (2 : Int32) dX12_readsChild_99 (by decide) ?_
          refine a_iadd C dX12_readsChild_100 ?_
          refine a_iload_n C dX12_readsChild_101 rfl ?_
          refine a_if_eq C 109 dX12_readsChild_102 (by decide) (fun h16 => ?_) (fun h16 => ?_)
          · have hf := fx_t h16 hf
            refine a_aload_n C dX12_readsChild_109 rfl ?_
            refine a_bipush C (97 : Int32) dX12_readsChild_110 (by decide) ?_
            refine a_iconst C (0 : Int32) dX12_readsChild_112 (by decide) ?_
            refine a_aload_n C dX12_readsChild_113 rfl ?_
            refine a_get C eX12_readsChild_126 dX12_readsChild_114 0 rfl rfl ?_
            refine a_aload_n C dX12_readsChild_117 rfl ?_
            refine a_get C eX12_readsChild_197 dX12_readsChild_118 0 rfl rfl ?_
            refine a_iadd C dX12_readsChild_121 ?_
            refine a_iconst C (1 : Int32) dX12_readsChild_122 (by decide) ?_
            refine a_isub C dX12_readsChild_123 ?_
            obtain ⟨r17, h17, hf⟩ := fx_bind hf
            refine a_fV C (kX12_signIn l D Y ao io_thrown io_rows io_cells io_children io_changes io_taped r15.2 io_to io_nest io_readMany io_codeLong io_readLong io_undos io_wentHome io_tideLevel io_acts io_firstBreaks io_bestCrew io_sights io_wayMany io_random co_tape (97 : Int32) (0 : Int32) ((io_children + io_readMany) - (1 : Int32)) r17 h17) gX12_readsChild_X12_signIn rfl dvX12_signIn ⟨⟨rfl, rfl⟩, ⟨Nat.le_of_ble_eq_true rfl, Nat.le_of_ble_eq_true rfl⟩, ⟨Nat.le_of_ble_eq_true rfl, Nat.le_of_ble_eq_true rfl⟩⟩ rfl (Nat.le_of_ble_eq_true rfl) dX12_readsChild_124 rfl rfl [0, 1] [2] ⟨rfl, rfl, trivial⟩ rfl rfl [oX12 ao io_thrown io_rows io_cells io_children io_changes io_taped r17.2 io_to io_nest io_readMany io_codeLong io_readLong io_undos io_wentHome io_tideLevel io_acts io_firstBreaks io_bestCrew io_sights io_wayMany io_random, rI Y (ao 10) 80 co_tape, rI Y (ao 11) 36 (upd (upd co_read (Int32.toNatClampNeg ((3 : Int32) * io_readMany)) r7.1) (Int32.toNatClampNeg (((3 : Int32) * io_readMany) + (1 : Int32))) r12.1)] ⟨rfl, rfl, trivial⟩ ⟨rfl, trivial⟩ rfl ?_
            exact kX12_readsChild_b127 C hQ hf
          · have hf := fx_f h16 hf
            refine a_iconst C (-1 : Int32) dX12_readsChild_105 (by decide) ?_
            refine a_goto C 127 dX12_readsChild_106 (by decide) ?_
            exact kX12_readsChild_b127 C hQ hf
        · have hf := fx_f h14 hf
          refine a_iconst C (0 : Int32) dX12_readsChild_85 (by decide) ?_
          obtain rfl := fx_some hf
          exact a_zret C hQ (Or.inl rfl) dX12_readsChild_86 ⟨rfl, rfl⟩
      · have hf := fx_t h11 hf
        refine a_kill [0, 1] ?_
        exact kX12_readsChild_b55 C hQ hf
  · have hf := fx_t h6 hf
    refine a_iconst C (0 : Int32) dX12_readsChild_14 (by decide) ?_
    obtain rfl := fx_some hf
    exact a_zret C hQ (Or.inl rfl) dX12_readsChild_15 ⟨rfl, rfl⟩
-- X12_children
abbrev rmX12_children : Room := { frames := 5, cells := 0, slots := 0, locals := 114 }
theorem dvX12_children : yX12_children.cls = RX12 ∧ yX12_children.cls ≠ "java/lang/invoke/MethodHandle" ∧ yX12_children.cls ≠ "java/lang/invoke/VarHandle" ∧ (parseMethodDescriptor yX12_children.desc).map (fun d => d.parameters.length) = some 0 := by decide +kernel
theorem eX12_children_inX12 : ∀ w ∈ wsX120, w ∈ wsX12_children := by decide +kernel
theorem eX12_children_197 : aF wsX12_children RX12 197 12 20 := ⟨RX12, TX12, 53, rfl, eX12_children_inX12, by decide, by decide +kernel⟩
theorem eX12_children_191 : aF wsX12_children RX12 191 12 27 := ⟨RX12, TX12, 53, rfl, eX12_children_inX12, by decide, by decide +kernel⟩
theorem eX12_children_194 : aF wsX12_children RX12 194 12 5 := ⟨RX12, TX12, 53, rfl, eX12_children_inX12, by decide, by decide +kernel⟩
theorem eX12_children_24 : aF wsX12_children RX12 24 12 8 := ⟨RX12, TX12, 53, rfl, eX12_children_inX12, by decide, by decide +kernel⟩
theorem eX12_children_126 : aF wsX12_children RX12 126 12 4 := ⟨RX12, TX12, 53, rfl, eX12_children_inX12, by decide, by decide +kernel⟩
theorem eX12_children_45 : aF wsX12_children RX12 45 12 19 := ⟨RX12, TX12, 53, rfl, eX12_children_inX12, by decide, by decide +kernel⟩
theorem eX12_children_27 : aF wsX12_children RX12 27 12 9 := ⟨RX12, TX12, 53, rfl, eX12_children_inX12, by decide, by decide +kernel⟩
theorem eX12_children_30 : aF wsX12_children RX12 30 12 10 := ⟨RX12, TX12, 53, rfl, eX12_children_inX12, by decide, by decide +kernel⟩
theorem eX12_children_36 : aF wsX12_children RX12 36 12 12 := ⟨RX12, TX12, 53, rfl, eX12_children_inX12, by decide, by decide +kernel⟩
theorem eX12_children_112 : aF wsX12_children RX12 112 12 0 := ⟨RX12, TX12, 53, rfl, eX12_children_inX12, by decide, by decide +kernel⟩
def fX12_children_b220 (io_thrown : Int32) (io_children : Int32) (io_changes : Int32) (io_taped : Int32) (io_at : Int32) (io_to : Int32) (io_nest : Int32) (io_readMany : Int32) (io_undos : Int32) (co_age : Nat → Int32) (co_skill : Nat → Int32) (co_friend : Nat → Int32) (co_now : Nat → Int32) (co_tape : Nat → Int32) (co_read : Nat → Int32) : Option (Int32 × Int32 × Int32 × Int32 × Int32 × Int32 × Int32 × Int32 × Int32 × Int32 × (Nat → Int32) × (Nat → Int32) × (Nat → Int32) × (Nat → Int32) × (Nat → Int32)) :=
  some (io_readMany, io_thrown, io_children, io_changes, io_taped, io_at, io_to, io_nest, io_readMany, io_undos, co_age, co_skill, co_friend, co_now, co_read)
set_option maxHeartbeats 400000 in
set_option maxRecDepth 100000 in
theorem kX12_children_b220 {X : cxT} {l : Launch} {D : va_G} {Y : Nat → ClassId} {ao : Nat → Nat} {io_thrown : Int32} {io_rows : Int32} {io_cells : Int32} {io_children : Int32} {io_changes : Int32} {io_taped : Int32} {io_at : Int32} {io_to : Int32} {io_nest : Int32} {io_readMany : Int32} {io_codeLong : Int32} {io_readLong : Int32} {io_undos : Int32} {io_wentHome : Int32} {io_tideLevel : Int32} {io_acts : Int32} {io_firstBreaks : Int32} {io_bestCrew : Int32} {io_sights : Int32} {io_wayMany : Int32} {io_random : Int32} {co_age : Nat → Int32} {co_skill : Nat → Int32} {co_friend : Nat → Int32} {co_now : Nat → Int32} {co_tape : Nat → Int32} {co_read : Nat → Int32} {res : Int32 × Int32 × Int32 × Int32 × Int32 × Int32 × Int32 × Int32 × Int32 × Int32 × (Nat → Int32) × (Nat → Int32) × (Nat → Int32) × (Nat → Int32) × (Nat → Int32)} (C : axC X l D Y cX12_children 6 RX12 wsX12_children rmX12_children (some .int)) (hQ : axQ X 0 0 (fun r9 w9 => r9 = (some (.int res.1)) ∧ w9 = [oX12 ao res.2.1 io_rows io_cells res.2.2.1 res.2.2.2.1 res.2.2.2.2.1 res.2.2.2.2.2.1 res.2.2.2.2.2.2.1 res.2.2.2.2.2.2.2.1 res.2.2.2.2.2.2.2.2.1 io_codeLong io_readLong res.2.2.2.2.2.2.2.2.2.1 io_wentHome io_tideLevel io_acts io_firstBreaks io_bestCrew io_sights io_wayMany io_random, rI Y (ao 4) 8 res.2.2.2.2.2.2.2.2.2.2.1, rI Y (ao 5) 8 res.2.2.2.2.2.2.2.2.2.2.2.1, rI Y (ao 6) 8 res.2.2.2.2.2.2.2.2.2.2.2.2.1, rI Y (ao 8) 43 res.2.2.2.2.2.2.2.2.2.2.2.2.2.1, rI Y (ao 10) 80 co_tape, rI Y (ao 11) 36 res.2.2.2.2.2.2.2.2.2.2.2.2.2.2])) (hf : fX12_children_b220 io_thrown io_children io_changes io_taped io_at io_to io_nest io_readMany io_undos co_age co_skill co_friend co_now co_tape co_read = some res) : ax X 0 0 220 [some (.ref (ao 0)), none, none, none, none, none] [oX12 ao io_thrown io_rows io_cells io_children io_changes io_taped io_at io_to io_nest io_readMany io_codeLong io_readLong io_undos io_wentHome io_tideLevel io_acts io_firstBreaks io_bestCrew io_sights io_wayMany io_random, rI Y (ao 4) 8 co_age, rI Y (ao 5) 8 co_skill, rI Y (ao 6) 8 co_friend, rI Y (ao 8) 43 co_now, rI Y (ao 10) 80 co_tape, rI Y (ao 11) 36 co_read] [] := by
  unfold fX12_children_b220 at hf
  refine a_aload_n C dX12_children_220 rfl ?_
  refine a_get C eX12_children_197 dX12_children_221 0 rfl rfl ?_
  obtain rfl := fx_some hf
  exact a_iret C hQ dX12_children_224 ⟨rfl, rfl⟩
def fX12_children_b198 (io_thrown : Int32) (io_children : Int32) (io_changes : Int32) (io_taped : Int32) (io_at : Int32) (io_to : Int32) (io_nest : Int32) (io_readMany : Int32) (io_undos : Int32) (co_age : Nat → Int32) (co_skill : Nat → Int32) (co_friend : Nat → Int32) (co_now : Nat → Int32) (co_tape : Nat → Int32) (co_read : Nat → Int32) : Option (Int32 × Int32 × Int32 × Int32 × Int32 × Int32 × Int32 × Int32 × Int32 × Int32 × (Nat → Int32) × (Nat → Int32) × (Nat → Int32) × (Nat → Int32) × (Nat → Int32)) :=
  if io_readMany ≤ (0 : Int32) then (fX12_children_b220 io_thrown io_children io_changes io_taped io_at io_to io_nest io_readMany io_undos co_age co_skill co_friend co_now co_tape co_read) else (fX12_children_b220 io_thrown io_children (io_changes + (1 : Int32)) io_taped io_at io_to io_nest io_readMany (0 : Int32) co_age co_skill co_friend co_now co_tape co_read)
set_option maxHeartbeats 400000 in
set_option maxRecDepth 100000 in
theorem kX12_children_b198 {X : cxT} {l : Launch} {D : va_G} {Y : Nat → ClassId} {ao : Nat → Nat} {io_thrown : Int32} {io_rows : Int32} {io_cells : Int32} {io_children : Int32} {io_changes : Int32} {io_taped : Int32} {io_at : Int32} {io_to : Int32} {io_nest : Int32} {io_readMany : Int32} {io_codeLong : Int32} {io_readLong : Int32} {io_undos : Int32} {io_wentHome : Int32} {io_tideLevel : Int32} {io_acts : Int32} {io_firstBreaks : Int32} {io_bestCrew : Int32} {io_sights : Int32} {io_wayMany : Int32} {io_random : Int32} {co_age : Nat → Int32} {co_skill : Nat → Int32} {co_friend : Nat → Int32} {co_now : Nat → Int32} {co_tape : Nat → Int32} {co_read : Nat → Int32} {res : Int32 × Int32 × Int32 × Int32 × Int32 × Int32 × Int32 × Int32 × Int32 × Int32 × (Nat → Int32) × (Nat → Int32) × (Nat → Int32) × (Nat → Int32) × (Nat → Int32)} (C : axC X l D Y cX12_children 6 RX12 wsX12_children rmX12_children (some .int)) (hQ : axQ X 0 0 (fun r9 w9 => r9 = (some (.int res.1)) ∧ w9 = [oX12 ao res.2.1 io_rows io_cells res.2.2.1 res.2.2.2.1 res.2.2.2.2.1 res.2.2.2.2.2.1 res.2.2.2.2.2.2.1 res.2.2.2.2.2.2.2.1 res.2.2.2.2.2.2.2.2.1 io_codeLong io_readLong res.2.2.2.2.2.2.2.2.2.1 io_wentHome io_tideLevel io_acts io_firstBreaks io_bestCrew io_sights io_wayMany io_random, rI Y (ao 4) 8 res.2.2.2.2.2.2.2.2.2.2.1, rI Y (ao 5) 8 res.2.2.2.2.2.2.2.2.2.2.2.1, rI Y (ao 6) 8 res.2.2.2.2.2.2.2.2.2.2.2.2.1, rI Y (ao 8) 43 res.2.2.2.2.2.2.2.2.2.2.2.2.2.1, rI Y (ao 10) 80 co_tape, rI Y (ao 11) 36 res.2.2.2.2.2.2.2.2.2.2.2.2.2.2])) (hf : fX12_children_b198 io_thrown io_children io_changes io_taped io_at io_to io_nest io_readMany io_undos co_age co_skill co_friend co_now co_tape co_read = some res) : ax X 0 0 198 [some (.ref (ao 0)), none, none, none, none, none] [oX12 ao io_thrown io_rows io_cells io_children io_changes io_taped io_at io_to io_nest io_readMany io_codeLong io_readLong io_undos io_wentHome io_tideLevel io_acts io_firstBreaks io_bestCrew io_sights io_wayMany io_random, rI Y (ao 4) 8 co_age, rI Y (ao 5) 8 co_skill, rI Y (ao 6) 8 co_friend, rI Y (ao 8) 43 co_now, rI Y (ao 10) 80 co_tape, rI Y (ao 11) 36 co_read] [] := by
  unfold fX12_children_b198 at hf
  refine a_aload_n C dX12_children_198 rfl ?_
  refine a_get C eX12_children_197 dX12_children_199 0 rfl rfl ?_
  refine a_if_le C 220 dX12_children_202 (by decide) (fun h1 => ?_) (fun h1 => ?_)
  · have hf := fx_t h1 hf
    exact kX12_children_b220 C hQ hf
  · have hf := fx_f h1 hf
    refine a_aload_n C dX12_children_205 rfl ?_
    refine a_iconst C (0 : Int32) dX12_children_206 (by decide) ?_
    refine a_put C eX12_children_191 tfX12_27 dX12_children_207 0 rfl rfl rfl (Nat.le_of_ble_eq_true rfl) ?_
    refine a_aload_n C dX12_children_210 rfl ?_
    refine a_dup C dX12_children_211 rfl ?_
    refine a_get C eX12_children_194 dX12_children_212 0 rfl rfl ?_
    refine a_iconst C (1 : Int32) dX12_children_215 (by decide) ?_
    refine a_iadd C dX12_children_216 ?_
    refine a_put C eX12_children_194 tfX12_5 dX12_children_217 0 rfl rfl rfl (Nat.le_of_ble_eq_true rfl) ?_
    exact kX12_children_b220 C hQ hf
def fX12_children_l81 (io_thrown : Int32) (io_changes : Int32) (io_taped : Int32) (io_at : Int32) (io_to : Int32) (io_nest : Int32) (io_readMany : Int32) (io_undos : Int32) (co_tape : Nat → Int32) (co_read : Nat → Int32) (k81 : Int32 × (Nat → Int32) × (Nat → Int32) × (Nat → Int32) × (Nat → Int32) × Int32 → Option (Int32 × Int32 × Int32 × Int32 × Int32 × Int32 × Int32 × Int32 × Int32 × Int32 × (Nat → Int32) × (Nat → Int32) × (Nat → Int32) × (Nat → Int32) × (Nat → Int32))) (io_children : Int32) (co_age : Nat → Int32) (co_skill : Nat → Int32) (co_friend : Nat → Int32) (co_now : Nat → Int32) (x5 : Int32) : Option (Int32 × Int32 × Int32 × Int32 × Int32 × Int32 × Int32 × Int32 × Int32 × Int32 × (Nat → Int32) × (Nat → Int32) × (Nat → Int32) × (Nat → Int32) × (Nat → Int32)) :=
  if io_readMany ≤ x5 then (fX12_children_b198 io_thrown io_children io_changes io_taped io_at io_to io_nest io_readMany io_undos co_age co_skill co_friend co_now co_tape co_read) else (if inb ((3 : Int32) * x5) 36 then if inb io_children 8 then if inb (((3 : Int32) * x5) + (1 : Int32)) 36 then if inb (((3 : Int32) * x5) + (2 : Int32)) 36 then if inb (((25 : Int32) + ((2 : Int32) * io_children)) + (0 : Int32)) 43 then if inb (((25 : Int32) + ((2 : Int32) * io_children)) + (1 : Int32)) 43 then k81 ((io_children + (1 : Int32)), (upd co_age (Int32.toNatClampNeg io_children) (co_read (Int32.toNatClampNeg ((3 : Int32) * x5)))), (upd co_skill (Int32.toNatClampNeg io_children) (co_read (Int32.toNatClampNeg (((3 : Int32) * x5) + (1 : Int32))))), (upd co_friend (Int32.toNatClampNeg io_children) (co_read (Int32.toNatClampNeg (((3 : Int32) * x5) + (2 : Int32))))), (upd (upd co_now (Int32.toNatClampNeg (((25 : Int32) + ((2 : Int32) * io_children)) + (0 : Int32))) (-1 : Int32)) (Int32.toNatClampNeg (((25 : Int32) + ((2 : Int32) * io_children)) + (1 : Int32))) (5 : Int32)), (x5 + (1 : Int32))) else none else none else none else none else none else none)
def fX12_children_b81 (io_thrown : Int32) (io_children : Int32) (io_changes : Int32) (io_taped : Int32) (io_at : Int32) (io_to : Int32) (io_nest : Int32) (io_readMany : Int32) (io_undos : Int32) (co_age : Nat → Int32) (co_skill : Nat → Int32) (co_friend : Nat → Int32) (co_now : Nat → Int32) (co_tape : Nat → Int32) (co_read : Nat → Int32) (x5 : Int32) : Option (Int32 × Int32 × Int32 × Int32 × Int32 × Int32 × Int32 × Int32 × Int32 × Int32 × (Nat → Int32) × (Nat → Int32) × (Nat → Int32) × (Nat → Int32) × (Nat → Int32)) :=
  loopN (fun (s : Int32 × (Nat → Int32) × (Nat → Int32) × (Nat → Int32) × (Nat → Int32) × Int32) k81 => fX12_children_l81 io_thrown io_changes io_taped io_at io_to io_nest io_readMany io_undos co_tape co_read k81 s.1 s.2.1 s.2.2.1 s.2.2.2.1 s.2.2.2.2.1 s.2.2.2.2.2) FUEL (io_children, co_age, co_skill, co_friend, co_now, x5)
set_option maxHeartbeats 400000 in
set_option maxRecDepth 100000 in
theorem kX12_children_l81 {X : cxT} {l : Launch} {D : va_G} {Y : Nat → ClassId} {ao : Nat → Nat} {io_thrown : Int32} {io_rows : Int32} {io_cells : Int32} {io_children : Int32} {io_changes : Int32} {io_taped : Int32} {io_at : Int32} {io_to : Int32} {io_nest : Int32} {io_readMany : Int32} {io_codeLong : Int32} {io_readLong : Int32} {io_undos : Int32} {io_wentHome : Int32} {io_tideLevel : Int32} {io_acts : Int32} {io_firstBreaks : Int32} {io_bestCrew : Int32} {io_sights : Int32} {io_wayMany : Int32} {io_random : Int32} {co_age : Nat → Int32} {co_skill : Nat → Int32} {co_friend : Nat → Int32} {co_now : Nat → Int32} {co_tape : Nat → Int32} {co_read : Nat → Int32} {x5 : Int32} {res : Int32 × Int32 × Int32 × Int32 × Int32 × Int32 × Int32 × Int32 × Int32 × Int32 × (Nat → Int32) × (Nat → Int32) × (Nat → Int32) × (Nat → Int32) × (Nat → Int32)} (C : axC X l D Y cX12_children 6 RX12 wsX12_children rmX12_children (some .int)) (hQ : axQ X 0 0 (fun r9 w9 => r9 = (some (.int res.1)) ∧ w9 = [oX12 ao res.2.1 io_rows io_cells res.2.2.1 res.2.2.2.1 res.2.2.2.2.1 res.2.2.2.2.2.1 res.2.2.2.2.2.2.1 res.2.2.2.2.2.2.2.1 res.2.2.2.2.2.2.2.2.1 io_codeLong io_readLong res.2.2.2.2.2.2.2.2.2.1 io_wentHome io_tideLevel io_acts io_firstBreaks io_bestCrew io_sights io_wayMany io_random, rI Y (ao 4) 8 res.2.2.2.2.2.2.2.2.2.2.1, rI Y (ao 5) 8 res.2.2.2.2.2.2.2.2.2.2.2.1, rI Y (ao 6) 8 res.2.2.2.2.2.2.2.2.2.2.2.2.1, rI Y (ao 8) 43 res.2.2.2.2.2.2.2.2.2.2.2.2.2.1, rI Y (ao 10) 80 co_tape, rI Y (ao 11) 36 res.2.2.2.2.2.2.2.2.2.2.2.2.2.2])) {k81 : Int32 × (Nat → Int32) × (Nat → Int32) × (Nat → Int32) × (Nat → Int32) × Int32 → Option (Int32 × Int32 × Int32 × Int32 × Int32 × Int32 × Int32 × Int32 × Int32 × Int32 × (Nat → Int32) × (Nat → Int32) × (Nat → Int32) × (Nat → Int32) × (Nat → Int32))} (hk81 : ∀ s : Int32 × (Nat → Int32) × (Nat → Int32) × (Nat → Int32) × (Nat → Int32) × Int32, k81 s = some res → ax X 0 0 81 [some (.ref (ao 0)), none, none, none, none, some (.int s.2.2.2.2.2)] [oX12 ao io_thrown io_rows io_cells s.1 io_changes io_taped io_at io_to io_nest io_readMany io_codeLong io_readLong io_undos io_wentHome io_tideLevel io_acts io_firstBreaks io_bestCrew io_sights io_wayMany io_random, rI Y (ao 4) 8 s.2.1, rI Y (ao 5) 8 s.2.2.1, rI Y (ao 6) 8 s.2.2.2.1, rI Y (ao 8) 43 s.2.2.2.2.1, rI Y (ao 10) 80 co_tape, rI Y (ao 11) 36 co_read] []) (hf : fX12_children_l81 io_thrown io_changes io_taped io_at io_to io_nest io_readMany io_undos co_tape co_read k81 io_children co_age co_skill co_friend co_now x5 = some res) : ax X 0 0 81 [some (.ref (ao 0)), none, none, none, none, some (.int x5)] [oX12 ao io_thrown io_rows io_cells io_children io_changes io_taped io_at io_to io_nest io_readMany io_codeLong io_readLong io_undos io_wentHome io_tideLevel io_acts io_firstBreaks io_bestCrew io_sights io_wayMany io_random, rI Y (ao 4) 8 co_age, rI Y (ao 5) 8 co_skill, rI Y (ao 6) 8 co_friend, rI Y (ao 8) 43 co_now, rI Y (ao 10) 80 co_tape, rI Y (ao 11) 36 co_read] [] := by
  unfold fX12_children_l81 at hf
  refine a_iload C dX12_children_81 rfl ?_
  refine a_aload_n C dX12_children_83 rfl ?_
  refine a_get C eX12_children_197 dX12_children_84 0 rfl rfl ?_
  refine a_icmp_ge C 198 dX12_children_87 (by decide) (fun h2 => ?_) (fun h2 => ?_)
  · have hf := fx_t h2 hf
    refine a_kill [5] ?_
    exact kX12_children_b198 C hQ hf
  · have hf := fx_f h2 hf
    refine a_aload_n C dX12_children_90 rfl ?_
    refine a_get C eX12_children_24 dX12_children_91 0 rfl rfl ?_
    refine a_aload_n C dX12_children_94 rfl ?_
    refine a_get C eX12_children_126 dX12_children_95 0 rfl rfl ?_
    refine a_aload_n C dX12_children_98 rfl ?_
    refine a_get C eX12_children_45 dX12_children_99 0 rfl rfl ?_
    refine a_iconst C (3 : Int32) dX12_children_102 (by decide) ?_
    refine a_iload C dX12_children_103 rfl ?_
    refine a_imul C dX12_children_105 ?_
    obtain ⟨h3, hf⟩ := fx_ite hf
    refine a_iald C dX12_children_106 6 rfl h3 ?_
    obtain ⟨h4, hf⟩ := fx_ite hf
    refine a_iast C dX12_children_107 1 rfl h4 ?_
    refine a_aload_n C dX12_children_108 rfl ?_
    refine a_get C eX12_children_27 dX12_children_109 0 rfl rfl ?_
    refine a_aload_n C dX12_children_112 rfl ?_
    refine a_get C eX12_children_126 dX12_children_113 0 rfl rfl ?_
    refine a_aload_n C dX12_children_116 rfl ?_
    refine a_get C eX12_children_45 dX12_children_117 0 rfl rfl ?_
    refine a_iconst C (3 : Int32) dX12_children_120 (by decide) ?_
    refine a_iload C dX12_children_121 rfl ?_
    refine a_imul C dX12_children_123 ?_
    refine a_iconst C (1 : Int32) dX12_children_124 (by decide) ?_
    refine a_iadd C dX12_children_125 ?_
    obtain ⟨h5, hf⟩ := fx_ite hf
    refine a_iald C dX12_children_126 6 rfl h5 ?_
    refine a_iast C dX12_children_127 2 rfl h4 ?_
    refine a_aload_n C dX12_children_128 rfl ?_
    refine a_get C eX12_children_30 dX12_children_129 0 rfl rfl ?_
    refine a_aload_n C dX12_children_132 rfl ?_
    refine a_get C eX12_children_126 dX12_children_133 0 rfl rfl ?_
    refine a_aload_n C dX12_children_136 rfl ?_
    refine a_get C eX12_children_45 dX12_children_137 0 rfl rfl ?_
    refine a_iconst C (3 : Int32) dX12_children_140 (by decide) ?_
    refine a_iload C dX12_children_141 rfl ?_
    refine a_imul C dX12_children_143 ?_
    refine a_iconst C (2 : Int32) dX12_children_144 (by decide) ?_
    refine a_iadd C dX12_children_145 ?_
    obtain ⟨h6, hf⟩ := fx_ite hf
    refine a_iald C dX12_children_146 6 rfl h6 ?_
    refine a_iast C dX12_children_147 3 rfl h4 ?_
    refine a_aload_n C dX12_children_148 rfl ?_
    refine a_get C eX12_children_36 dX12_children_149 0 rfl rfl ?_
    refine a_bipush C (25 : Int32) dX12_children_152 (by decide) ?_
    refine a_iconst C (2 : Int32) dX12_children_154 (by decide) ?_
    refine a_aload_n C dX12_children_155 rfl ?_
    refine a_get C eX12_children_126 dX12_children_156 0 rfl rfl ?_
    refine a_imul C dX12_children_159 ?_
    refine a_iadd C dX12_children_160 ?_
    refine a_iconst C (0 : Int32) dX12_children_161 (by decide) ?_
    refine a_iadd C dX12_children_162 ?_
    refine a_iconst C (-1 : Int32) dX12_children_163 (by decide) ?_
    obtain ⟨h7, hf⟩ := fx_ite hf
    refine a_iast C dX12_children_164 4 rfl h7 ?_
    refine a_aload_n C dX12_children_165 rfl ?_
    refine a_get C eX12_children_36 dX12_children_166 0 rfl rfl ?_
    refine a_bipush C (25 : Int32) dX12_children_169 (by decide) ?_
    refine a_iconst C (2 : Int32) dX12_children_171 (by decide) ?_
    refine a_aload_n C dX12_children_172 rfl ?_
    refine a_get C eX12_children_126 dX12_children_173 0 rfl rfl ?_
    refine a_imul C dX12_children_176 ?_
    refine a_iadd C dX12_children_177 ?_
    refine a_iconst C (1 : Int32) dX12_children_178 (by decide) ?_
    refine a_iadd C dX12_children_179 ?_
    refine a_iconst C (5 : Int32) dX12_children_180 (by decide) ?_
    obtain ⟨h8, hf⟩ := fx_ite hf
    refine a_iast C dX12_children_181 4 rfl h8 ?_
    refine a_aload_n C dX12_children_182 rfl ?_
    refine a_dup C dX12_children_183 rfl ?_
    refine a_get C eX12_children_126 dX12_children_184 0 rfl rfl ?_
    refine a_iconst C (1 : Int32) dX12_children_187 (by decide) ?_
    refine a_iadd C dX12_children_188 ?_
    refine a_put C eX12_children_126 tfX12_4 dX12_children_189 0 rfl rfl rfl (Nat.le_of_ble_eq_true rfl) ?_
    refine a_iinc C (1 : Int32) dX12_children_192 (by decide) rfl (by decide) rfl ?_
    refine a_goto C 81 dX12_children_195 (by decide) ?_
    exact hk81 ((io_children + (1 : Int32)), (upd co_age (Int32.toNatClampNeg io_children) (co_read (Int32.toNatClampNeg ((3 : Int32) * x5)))), (upd co_skill (Int32.toNatClampNeg io_children) (co_read (Int32.toNatClampNeg (((3 : Int32) * x5) + (1 : Int32))))), (upd co_friend (Int32.toNatClampNeg io_children) (co_read (Int32.toNatClampNeg (((3 : Int32) * x5) + (2 : Int32))))), (upd (upd co_now (Int32.toNatClampNeg (((25 : Int32) + ((2 : Int32) * io_children)) + (0 : Int32))) (-1 : Int32)) (Int32.toNatClampNeg (((25 : Int32) + ((2 : Int32) * io_children)) + (1 : Int32))) (5 : Int32)), (x5 + (1 : Int32))) hf
set_option maxHeartbeats 400000 in
set_option maxRecDepth 100000 in
theorem kX12_children_b81 {X : cxT} {l : Launch} {D : va_G} {Y : Nat → ClassId} {ao : Nat → Nat} {io_thrown : Int32} {io_rows : Int32} {io_cells : Int32} {io_children : Int32} {io_changes : Int32} {io_taped : Int32} {io_at : Int32} {io_to : Int32} {io_nest : Int32} {io_readMany : Int32} {io_codeLong : Int32} {io_readLong : Int32} {io_undos : Int32} {io_wentHome : Int32} {io_tideLevel : Int32} {io_acts : Int32} {io_firstBreaks : Int32} {io_bestCrew : Int32} {io_sights : Int32} {io_wayMany : Int32} {io_random : Int32} {co_age : Nat → Int32} {co_skill : Nat → Int32} {co_friend : Nat → Int32} {co_now : Nat → Int32} {co_tape : Nat → Int32} {co_read : Nat → Int32} {x5 : Int32} {res : Int32 × Int32 × Int32 × Int32 × Int32 × Int32 × Int32 × Int32 × Int32 × Int32 × (Nat → Int32) × (Nat → Int32) × (Nat → Int32) × (Nat → Int32) × (Nat → Int32)} (C : axC X l D Y cX12_children 6 RX12 wsX12_children rmX12_children (some .int)) (hQ : axQ X 0 0 (fun r9 w9 => r9 = (some (.int res.1)) ∧ w9 = [oX12 ao res.2.1 io_rows io_cells res.2.2.1 res.2.2.2.1 res.2.2.2.2.1 res.2.2.2.2.2.1 res.2.2.2.2.2.2.1 res.2.2.2.2.2.2.2.1 res.2.2.2.2.2.2.2.2.1 io_codeLong io_readLong res.2.2.2.2.2.2.2.2.2.1 io_wentHome io_tideLevel io_acts io_firstBreaks io_bestCrew io_sights io_wayMany io_random, rI Y (ao 4) 8 res.2.2.2.2.2.2.2.2.2.2.1, rI Y (ao 5) 8 res.2.2.2.2.2.2.2.2.2.2.2.1, rI Y (ao 6) 8 res.2.2.2.2.2.2.2.2.2.2.2.2.1, rI Y (ao 8) 43 res.2.2.2.2.2.2.2.2.2.2.2.2.2.1, rI Y (ao 10) 80 co_tape, rI Y (ao 11) 36 res.2.2.2.2.2.2.2.2.2.2.2.2.2.2])) (hf : fX12_children_b81 io_thrown io_children io_changes io_taped io_at io_to io_nest io_readMany io_undos co_age co_skill co_friend co_now co_tape co_read x5 = some res) : ax X 0 0 81 [some (.ref (ao 0)), none, none, none, none, some (.int x5)] [oX12 ao io_thrown io_rows io_cells io_children io_changes io_taped io_at io_to io_nest io_readMany io_codeLong io_readLong io_undos io_wentHome io_tideLevel io_acts io_firstBreaks io_bestCrew io_sights io_wayMany io_random, rI Y (ao 4) 8 co_age, rI Y (ao 5) 8 co_skill, rI Y (ao 6) 8 co_friend, rI Y (ao 8) 43 co_now, rI Y (ao 10) 80 co_tape, rI Y (ao 11) 36 co_read] [] := by
  unfold fX12_children_b81 at hf
  exact fx_loop (P := fun s : Int32 × (Nat → Int32) × (Nat → Int32) × (Nat → Int32) × (Nat → Int32) × Int32 => ax X 0 0 81 [some (.ref (ao 0)), none, none, none, none, some (.int s.2.2.2.2.2)] [oX12 ao io_thrown io_rows io_cells s.1 io_changes io_taped io_at io_to io_nest io_readMany io_codeLong io_readLong io_undos io_wentHome io_tideLevel io_acts io_firstBreaks io_bestCrew io_sights io_wayMany io_random, rI Y (ao 4) 8 s.2.1, rI Y (ao 5) 8 s.2.2.1, rI Y (ao 6) 8 s.2.2.2.1, rI Y (ao 8) 43 s.2.2.2.2.1, rI Y (ao 10) 80 co_tape, rI Y (ao 11) 36 co_read] []) (fun s k81 hk81 h => kX12_children_l81 C hQ hk81 h) FUEL (io_children, co_age, co_skill, co_friend, co_now, x5) hf
def fX12_children_b60 (io_thrown : Int32) (io_children : Int32) (io_changes : Int32) (io_taped : Int32) (io_at : Int32) (io_to : Int32) (io_nest : Int32) (io_readMany : Int32) (io_undos : Int32) (co_age : Nat → Int32) (co_skill : Nat → Int32) (co_friend : Nat → Int32) (co_now : Nat → Int32) (co_tape : Nat → Int32) (co_read : Nat → Int32) (x1 : Int32) (x2 : Int32) : Option (Int32 × Int32 × Int32 × Int32 × Int32 × Int32 × Int32 × Int32 × Int32 × Int32 × (Nat → Int32) × (Nat → Int32) × (Nat → Int32) × (Nat → Int32) × (Nat → Int32)) :=
  (fX12_faultOf io_at io_to x1 (47 : Int32) x2).bind (fun r9 => if (0 : Int32) ≤ r9 then (fX12_children_b81 io_thrown io_children io_changes io_taped io_at io_to io_nest io_readMany io_undos co_age co_skill co_friend co_now co_tape co_read (0 : Int32)) else (some (r9, io_thrown, io_children, io_changes, io_taped, io_at, io_to, io_nest, io_readMany, io_undos, co_age, co_skill, co_friend, co_now, co_read)))
set_option maxHeartbeats 400000 in
set_option maxRecDepth 100000 in
theorem kX12_children_b60 {X : cxT} {l : Launch} {D : va_G} {Y : Nat → ClassId} {ao : Nat → Nat} {io_thrown : Int32} {io_rows : Int32} {io_cells : Int32} {io_children : Int32} {io_changes : Int32} {io_taped : Int32} {io_at : Int32} {io_to : Int32} {io_nest : Int32} {io_readMany : Int32} {io_codeLong : Int32} {io_readLong : Int32} {io_undos : Int32} {io_wentHome : Int32} {io_tideLevel : Int32} {io_acts : Int32} {io_firstBreaks : Int32} {io_bestCrew : Int32} {io_sights : Int32} {io_wayMany : Int32} {io_random : Int32} {co_age : Nat → Int32} {co_skill : Nat → Int32} {co_friend : Nat → Int32} {co_now : Nat → Int32} {co_tape : Nat → Int32} {co_read : Nat → Int32} {x1 : Int32} {x2 : Int32} {res : Int32 × Int32 × Int32 × Int32 × Int32 × Int32 × Int32 × Int32 × Int32 × Int32 × (Nat → Int32) × (Nat → Int32) × (Nat → Int32) × (Nat → Int32) × (Nat → Int32)} (C : axC X l D Y cX12_children 6 RX12 wsX12_children rmX12_children (some .int)) (hQ : axQ X 0 0 (fun r9 w9 => r9 = (some (.int res.1)) ∧ w9 = [oX12 ao res.2.1 io_rows io_cells res.2.2.1 res.2.2.2.1 res.2.2.2.2.1 res.2.2.2.2.2.1 res.2.2.2.2.2.2.1 res.2.2.2.2.2.2.2.1 res.2.2.2.2.2.2.2.2.1 io_codeLong io_readLong res.2.2.2.2.2.2.2.2.2.1 io_wentHome io_tideLevel io_acts io_firstBreaks io_bestCrew io_sights io_wayMany io_random, rI Y (ao 4) 8 res.2.2.2.2.2.2.2.2.2.2.1, rI Y (ao 5) 8 res.2.2.2.2.2.2.2.2.2.2.2.1, rI Y (ao 6) 8 res.2.2.2.2.2.2.2.2.2.2.2.2.1, rI Y (ao 8) 43 res.2.2.2.2.2.2.2.2.2.2.2.2.2.1, rI Y (ao 10) 80 co_tape, rI Y (ao 11) 36 res.2.2.2.2.2.2.2.2.2.2.2.2.2.2])) (hf : fX12_children_b60 io_thrown io_children io_changes io_taped io_at io_to io_nest io_readMany io_undos co_age co_skill co_friend co_now co_tape co_read x1 x2 = some res) : ax X 0 0 60 [some (.ref (ao 0)), some (.int x1), some (.int x2), none, none, none] [oX12 ao io_thrown io_rows io_cells io_children io_changes io_taped io_at io_to io_nest io_readMany io_codeLong io_readLong io_undos io_wentHome io_tideLevel io_acts io_firstBreaks io_bestCrew io_sights io_wayMany io_random, rI Y (ao 4) 8 co_age, rI Y (ao 5) 8 co_skill, rI Y (ao 6) 8 co_friend, rI Y (ao 8) 43 co_now, rI Y (ao 10) 80 co_tape, rI Y (ao 11) 36 co_read] [] := by
  unfold fX12_children_b60 at hf
  refine a_aload_n C dX12_children_60 rfl ?_
  refine a_iload_n C dX12_children_61 rfl ?_
  refine a_bipush C (47 : Int32) dX12_children_62 (by decide) ?_
  refine a_iload_n C dX12_children_64 rfl ?_
  obtain ⟨r9, h9, hf⟩ := fx_bind hf
  refine a_fV C (kX12_faultOf l D Y ao io_thrown io_rows io_cells io_children io_changes io_taped io_at io_to io_nest io_readMany io_codeLong io_readLong io_undos io_wentHome io_tideLevel io_acts io_firstBreaks io_bestCrew io_sights io_wayMany io_random x1 (47 : Int32) x2 r9 h9) gX12_children_X12_faultOf rfl dvX12_faultOf ⟨⟨rfl, rfl⟩, ⟨Nat.le_of_ble_eq_true rfl, Nat.le_of_ble_eq_true rfl⟩, ⟨Nat.le_of_ble_eq_true rfl, Nat.le_of_ble_eq_true rfl⟩⟩ rfl (Nat.le_of_ble_eq_true rfl) dX12_children_65 rfl rfl [0] [1, 2, 3, 4, 5, 6] ⟨rfl, trivial⟩ rfl rfl [oX12 ao io_thrown io_rows io_cells io_children io_changes io_taped io_at io_to io_nest io_readMany io_codeLong io_readLong io_undos io_wentHome io_tideLevel io_acts io_firstBreaks io_bestCrew io_sights io_wayMany io_random, rI Y (ao 4) 8 co_age, rI Y (ao 5) 8 co_skill, rI Y (ao 6) 8 co_friend, rI Y (ao 8) 43 co_now, rI Y (ao 10) 80 co_tape, rI Y (ao 11) 36 co_read] ⟨rfl, trivial⟩ ⟨rfl, rfl, rfl, rfl, rfl, rfl, trivial⟩ rfl ?_
  refine a_istore C dX12_children_68 (by decide) rfl ?_
  refine a_iload C dX12_children_70 rfl ?_
  refine a_if_ge C 78 dX12_children_72 (by decide) (fun h10 => ?_) (fun h10 => ?_)
  · have hf := fx_t h10 hf
    refine a_iconst C (0 : Int32) dX12_children_78 (by decide) ?_
    refine a_istore C dX12_children_79 (by decide) rfl ?_
    refine a_kill [1, 2, 4] ?_
    exact kX12_children_b81 C hQ hf
  · have hf := fx_f h10 hf
    refine a_iload C dX12_children_75 rfl ?_
    obtain rfl := fx_some hf
    exact a_iret C hQ dX12_children_77 ⟨rfl, rfl⟩
def fX12_children_b56 (io_thrown : Int32) (io_children : Int32) (io_changes : Int32) (io_taped : Int32) (io_at : Int32) (io_to : Int32) (io_nest : Int32) (io_readMany : Int32) (io_undos : Int32) (co_age : Nat → Int32) (co_skill : Nat → Int32) (co_friend : Nat → Int32) (co_now : Nat → Int32) (co_tape : Nat → Int32) (co_read : Nat → Int32) (x1 : Int32) (x2 : Int32) (s0 : Int32) (k29 : Int32 × Int32 × (Nat → Int32) × Int32 × Int32 → Option (Int32 × Int32 × Int32 × Int32 × Int32 × Int32 × Int32 × Int32 × Int32 × Int32 × (Nat → Int32) × (Nat → Int32) × (Nat → Int32) × (Nat → Int32) × (Nat → Int32))) : Option (Int32 × Int32 × Int32 × Int32 × Int32 × Int32 × Int32 × Int32 × Int32 × Int32 × (Nat → Int32) × (Nat → Int32) × (Nat → Int32) × (Nat → Int32) × (Nat → Int32)) :=
  k29 (io_at, io_readMany, co_read, x2, s0)
set_option maxHeartbeats 400000 in
set_option maxRecDepth 100000 in
theorem kX12_children_b56 {X : cxT} {l : Launch} {D : va_G} {Y : Nat → ClassId} {ao : Nat → Nat} {io_thrown : Int32} {io_rows : Int32} {io_cells : Int32} {io_children : Int32} {io_changes : Int32} {io_taped : Int32} {io_at : Int32} {io_to : Int32} {io_nest : Int32} {io_readMany : Int32} {io_codeLong : Int32} {io_readLong : Int32} {io_undos : Int32} {io_wentHome : Int32} {io_tideLevel : Int32} {io_acts : Int32} {io_firstBreaks : Int32} {io_bestCrew : Int32} {io_sights : Int32} {io_wayMany : Int32} {io_random : Int32} {co_age : Nat → Int32} {co_skill : Nat → Int32} {co_friend : Nat → Int32} {co_now : Nat → Int32} {co_tape : Nat → Int32} {co_read : Nat → Int32} {x1 : Int32} {x2 : Int32} {s0 : Int32} {res : Int32 × Int32 × Int32 × Int32 × Int32 × Int32 × Int32 × Int32 × Int32 × Int32 × (Nat → Int32) × (Nat → Int32) × (Nat → Int32) × (Nat → Int32) × (Nat → Int32)} (C : axC X l D Y cX12_children 6 RX12 wsX12_children rmX12_children (some .int)) (hQ : axQ X 0 0 (fun r9 w9 => r9 = (some (.int res.1)) ∧ w9 = [oX12 ao res.2.1 io_rows io_cells res.2.2.1 res.2.2.2.1 res.2.2.2.2.1 res.2.2.2.2.2.1 res.2.2.2.2.2.2.1 res.2.2.2.2.2.2.2.1 res.2.2.2.2.2.2.2.2.1 io_codeLong io_readLong res.2.2.2.2.2.2.2.2.2.1 io_wentHome io_tideLevel io_acts io_firstBreaks io_bestCrew io_sights io_wayMany io_random, rI Y (ao 4) 8 res.2.2.2.2.2.2.2.2.2.2.1, rI Y (ao 5) 8 res.2.2.2.2.2.2.2.2.2.2.2.1, rI Y (ao 6) 8 res.2.2.2.2.2.2.2.2.2.2.2.2.1, rI Y (ao 8) 43 res.2.2.2.2.2.2.2.2.2.2.2.2.2.1, rI Y (ao 10) 80 co_tape, rI Y (ao 11) 36 res.2.2.2.2.2.2.2.2.2.2.2.2.2.2])) {k29 : Int32 × Int32 × (Nat → Int32) × Int32 × Int32 → Option (Int32 × Int32 × Int32 × Int32 × Int32 × Int32 × Int32 × Int32 × Int32 × Int32 × (Nat → Int32) × (Nat → Int32) × (Nat → Int32) × (Nat → Int32) × (Nat → Int32))} (hk29 : ∀ s : Int32 × Int32 × (Nat → Int32) × Int32 × Int32, k29 s = some res → ax X 0 0 29 [some (.ref (ao 0)), some (.int x1), some (.int s.2.2.2.1), some (.int s.2.2.2.2), none, none] [oX12 ao io_thrown io_rows io_cells io_children io_changes io_taped s.1 io_to io_nest s.2.1 io_codeLong io_readLong io_undos io_wentHome io_tideLevel io_acts io_firstBreaks io_bestCrew io_sights io_wayMany io_random, rI Y (ao 4) 8 co_age, rI Y (ao 5) 8 co_skill, rI Y (ao 6) 8 co_friend, rI Y (ao 8) 43 co_now, rI Y (ao 10) 80 co_tape, rI Y (ao 11) 36 s.2.2.1] []) (hf : fX12_children_b56 io_thrown io_children io_changes io_taped io_at io_to io_nest io_readMany io_undos co_age co_skill co_friend co_now co_tape co_read x1 x2 s0 k29 = some res) : ax X 0 0 56 [some (.ref (ao 0)), some (.int x1), some (.int x2), none, none, none] [oX12 ao io_thrown io_rows io_cells io_children io_changes io_taped io_at io_to io_nest io_readMany io_codeLong io_readLong io_undos io_wentHome io_tideLevel io_acts io_firstBreaks io_bestCrew io_sights io_wayMany io_random, rI Y (ao 4) 8 co_age, rI Y (ao 5) 8 co_skill, rI Y (ao 6) 8 co_friend, rI Y (ao 8) 43 co_now, rI Y (ao 10) 80 co_tape, rI Y (ao 11) 36 co_read] [.int s0] := by
  unfold fX12_children_b56 at hf
  refine a_istore_n C dX12_children_56 (by decide) rfl ?_
  refine a_goto C 29 dX12_children_57 (by decide) ?_
  exact hk29 (io_at, io_readMany, co_read, x2, s0) hf
def fX12_children_b55 (io_thrown : Int32) (io_children : Int32) (io_changes : Int32) (io_taped : Int32) (io_at : Int32) (io_to : Int32) (io_nest : Int32) (io_readMany : Int32) (io_undos : Int32) (co_age : Nat → Int32) (co_skill : Nat → Int32) (co_friend : Nat → Int32) (co_now : Nat → Int32) (co_tape : Nat → Int32) (co_read : Nat → Int32) (x1 : Int32) (x2 : Int32) (k29 : Int32 × Int32 × (Nat → Int32) × Int32 × Int32 → Option (Int32 × Int32 × Int32 × Int32 × Int32 × Int32 × Int32 × Int32 × Int32 × Int32 × (Nat → Int32) × (Nat → Int32) × (Nat → Int32) × (Nat → Int32) × (Nat → Int32))) : Option (Int32 × Int32 × Int32 × Int32 × Int32 × Int32 × Int32 × Int32 × Int32 × Int32 × (Nat → Int32) × (Nat → Int32) × (Nat → Int32) × (Nat → Int32) × (Nat → Int32)) :=
  fX12_children_b56 io_thrown io_children io_changes io_taped io_at io_to io_nest io_readMany io_undos co_age co_skill co_friend co_now co_tape co_read x1 x2 (0 : Int32) k29
set_option maxHeartbeats 400000 in
set_option maxRecDepth 100000 in
theorem kX12_children_b55 {X : cxT} {l : Launch} {D : va_G} {Y : Nat → ClassId} {ao : Nat → Nat} {io_thrown : Int32} {io_rows : Int32} {io_cells : Int32} {io_children : Int32} {io_changes : Int32} {io_taped : Int32} {io_at : Int32} {io_to : Int32} {io_nest : Int32} {io_readMany : Int32} {io_codeLong : Int32} {io_readLong : Int32} {io_undos : Int32} {io_wentHome : Int32} {io_tideLevel : Int32} {io_acts : Int32} {io_firstBreaks : Int32} {io_bestCrew : Int32} {io_sights : Int32} {io_wayMany : Int32} {io_random : Int32} {co_age : Nat → Int32} {co_skill : Nat → Int32} {co_friend : Nat → Int32} {co_now : Nat → Int32} {co_tape : Nat → Int32} {co_read : Nat → Int32} {x1 : Int32} {x2 : Int32} {res : Int32 × Int32 × Int32 × Int32 × Int32 × Int32 × Int32 × Int32 × Int32 × Int32 × (Nat → Int32) × (Nat → Int32) × (Nat → Int32) × (Nat → Int32) × (Nat → Int32)} (C : axC X l D Y cX12_children 6 RX12 wsX12_children rmX12_children (some .int)) (hQ : axQ X 0 0 (fun r9 w9 => r9 = (some (.int res.1)) ∧ w9 = [oX12 ao res.2.1 io_rows io_cells res.2.2.1 res.2.2.2.1 res.2.2.2.2.1 res.2.2.2.2.2.1 res.2.2.2.2.2.2.1 res.2.2.2.2.2.2.2.1 res.2.2.2.2.2.2.2.2.1 io_codeLong io_readLong res.2.2.2.2.2.2.2.2.2.1 io_wentHome io_tideLevel io_acts io_firstBreaks io_bestCrew io_sights io_wayMany io_random, rI Y (ao 4) 8 res.2.2.2.2.2.2.2.2.2.2.1, rI Y (ao 5) 8 res.2.2.2.2.2.2.2.2.2.2.2.1, rI Y (ao 6) 8 res.2.2.2.2.2.2.2.2.2.2.2.2.1, rI Y (ao 8) 43 res.2.2.2.2.2.2.2.2.2.2.2.2.2.1, rI Y (ao 10) 80 co_tape, rI Y (ao 11) 36 res.2.2.2.2.2.2.2.2.2.2.2.2.2.2])) {k29 : Int32 × Int32 × (Nat → Int32) × Int32 × Int32 → Option (Int32 × Int32 × Int32 × Int32 × Int32 × Int32 × Int32 × Int32 × Int32 × Int32 × (Nat → Int32) × (Nat → Int32) × (Nat → Int32) × (Nat → Int32) × (Nat → Int32))} (hk29 : ∀ s : Int32 × Int32 × (Nat → Int32) × Int32 × Int32, k29 s = some res → ax X 0 0 29 [some (.ref (ao 0)), some (.int x1), some (.int s.2.2.2.1), some (.int s.2.2.2.2), none, none] [oX12 ao io_thrown io_rows io_cells io_children io_changes io_taped s.1 io_to io_nest s.2.1 io_codeLong io_readLong io_undos io_wentHome io_tideLevel io_acts io_firstBreaks io_bestCrew io_sights io_wayMany io_random, rI Y (ao 4) 8 co_age, rI Y (ao 5) 8 co_skill, rI Y (ao 6) 8 co_friend, rI Y (ao 8) 43 co_now, rI Y (ao 10) 80 co_tape, rI Y (ao 11) 36 s.2.2.1] []) (hf : fX12_children_b55 io_thrown io_children io_changes io_taped io_at io_to io_nest io_readMany io_undos co_age co_skill co_friend co_now co_tape co_read x1 x2 k29 = some res) : ax X 0 0 55 [some (.ref (ao 0)), some (.int x1), some (.int x2), none, none, none] [oX12 ao io_thrown io_rows io_cells io_children io_changes io_taped io_at io_to io_nest io_readMany io_codeLong io_readLong io_undos io_wentHome io_tideLevel io_acts io_firstBreaks io_bestCrew io_sights io_wayMany io_random, rI Y (ao 4) 8 co_age, rI Y (ao 5) 8 co_skill, rI Y (ao 6) 8 co_friend, rI Y (ao 8) 43 co_now, rI Y (ao 10) 80 co_tape, rI Y (ao 11) 36 co_read] [] := by
  unfold fX12_children_b55 at hf
  refine a_iconst C (0 : Int32) dX12_children_55 (by decide) ?_
  exact kX12_children_b56 C hQ hk29 hf
def fX12_children_l29 (io_thrown : Int32) (io_children : Int32) (io_changes : Int32) (io_taped : Int32) (io_to : Int32) (io_nest : Int32) (io_undos : Int32) (co_age : Nat → Int32) (co_skill : Nat → Int32) (co_friend : Nat → Int32) (co_now : Nat → Int32) (co_tape : Nat → Int32) (x1 : Int32) (k29 : Int32 × Int32 × (Nat → Int32) × Int32 × Int32 → Option (Int32 × Int32 × Int32 × Int32 × Int32 × Int32 × Int32 × Int32 × Int32 × Int32 × (Nat → Int32) × (Nat → Int32) × (Nat → Int32) × (Nat → Int32) × (Nat → Int32))) (io_at : Int32) (io_readMany : Int32) (co_read : Nat → Int32) (x2 : Int32) (x3 : Int32) : Option (Int32 × Int32 × Int32 × Int32 × Int32 × Int32 × Int32 × Int32 × Int32 × Int32 × (Nat → Int32) × (Nat → Int32) × (Nat → Int32) × (Nat → Int32) × (Nat → Int32)) :=
  if x3 = (0 : Int32) then (fX12_children_b60 io_thrown io_children io_changes io_taped io_at io_to io_nest io_readMany io_undos co_age co_skill co_friend co_now co_tape co_read x1 x2) else ((fX12_readsChild io_children io_at io_to io_readMany co_tape co_read).bind (fun r12 => if r12.1 = (0 : Int32) then (fX12_children_b55 io_thrown io_children io_changes io_taped r12.2.1 io_to io_nest r12.2.2.1 io_undos co_age co_skill co_friend co_now co_tape r12.2.2.2 x1 r12.1 k29) else ((fX12_takes r12.2.1 io_to co_tape (59 : Int32)).bind (fun r14 => if r14.1 = (0 : Int32) then (fX12_children_b55 io_thrown io_children io_changes io_taped r14.2 io_to io_nest r12.2.2.1 io_undos co_age co_skill co_friend co_now co_tape r12.2.2.2 x1 r12.1 k29) else (fX12_children_b56 io_thrown io_children io_changes io_taped r14.2 io_to io_nest r12.2.2.1 io_undos co_age co_skill co_friend co_now co_tape r12.2.2.2 x1 r12.1 (1 : Int32) k29)))))
def fX12_children_b29 (io_thrown : Int32) (io_children : Int32) (io_changes : Int32) (io_taped : Int32) (io_at : Int32) (io_to : Int32) (io_nest : Int32) (io_readMany : Int32) (io_undos : Int32) (co_age : Nat → Int32) (co_skill : Nat → Int32) (co_friend : Nat → Int32) (co_now : Nat → Int32) (co_tape : Nat → Int32) (co_read : Nat → Int32) (x1 : Int32) (x2 : Int32) (x3 : Int32) : Option (Int32 × Int32 × Int32 × Int32 × Int32 × Int32 × Int32 × Int32 × Int32 × Int32 × (Nat → Int32) × (Nat → Int32) × (Nat → Int32) × (Nat → Int32) × (Nat → Int32)) :=
  loopN (fun (s : Int32 × Int32 × (Nat → Int32) × Int32 × Int32) k29 => fX12_children_l29 io_thrown io_children io_changes io_taped io_to io_nest io_undos co_age co_skill co_friend co_now co_tape x1 k29 s.1 s.2.1 s.2.2.1 s.2.2.2.1 s.2.2.2.2) FUEL (io_at, io_readMany, co_read, x2, x3)
set_option maxHeartbeats 400000 in
set_option maxRecDepth 100000 in
theorem kX12_children_l29 {X : cxT} {l : Launch} {D : va_G} {Y : Nat → ClassId} {ao : Nat → Nat} {io_thrown : Int32} {io_rows : Int32} {io_cells : Int32} {io_children : Int32} {io_changes : Int32} {io_taped : Int32} {io_at : Int32} {io_to : Int32} {io_nest : Int32} {io_readMany : Int32} {io_codeLong : Int32} {io_readLong : Int32} {io_undos : Int32} {io_wentHome : Int32} {io_tideLevel : Int32} {io_acts : Int32} {io_firstBreaks : Int32} {io_bestCrew : Int32} {io_sights : Int32} {io_wayMany : Int32} {io_random : Int32} {co_age : Nat → Int32} {co_skill : Nat → Int32} {co_friend : Nat → Int32} {co_now : Nat → Int32} {co_tape : Nat → Int32} {co_read : Nat → Int32} {x1 : Int32} {x2 : Int32} {x3 : Int32} {res : Int32 × Int32 × Int32 × Int32 × Int32 × Int32 × Int32 × Int32 × Int32 × Int32 × (Nat → Int32) × (Nat → Int32) × (Nat → Int32) × (Nat → Int32) × (Nat → Int32)} (C : axC X l D Y cX12_children 6 RX12 wsX12_children rmX12_children (some .int)) (hQ : axQ X 0 0 (fun r9 w9 => r9 = (some (.int res.1)) ∧ w9 = [oX12 ao res.2.1 io_rows io_cells res.2.2.1 res.2.2.2.1 res.2.2.2.2.1 res.2.2.2.2.2.1 res.2.2.2.2.2.2.1 res.2.2.2.2.2.2.2.1 res.2.2.2.2.2.2.2.2.1 io_codeLong io_readLong res.2.2.2.2.2.2.2.2.2.1 io_wentHome io_tideLevel io_acts io_firstBreaks io_bestCrew io_sights io_wayMany io_random, rI Y (ao 4) 8 res.2.2.2.2.2.2.2.2.2.2.1, rI Y (ao 5) 8 res.2.2.2.2.2.2.2.2.2.2.2.1, rI Y (ao 6) 8 res.2.2.2.2.2.2.2.2.2.2.2.2.1, rI Y (ao 8) 43 res.2.2.2.2.2.2.2.2.2.2.2.2.2.1, rI Y (ao 10) 80 co_tape, rI Y (ao 11) 36 res.2.2.2.2.2.2.2.2.2.2.2.2.2.2])) {k29 : Int32 × Int32 × (Nat → Int32) × Int32 × Int32 → Option (Int32 × Int32 × Int32 × Int32 × Int32 × Int32 × Int32 × Int32 × Int32 × Int32 × (Nat → Int32) × (Nat → Int32) × (Nat → Int32) × (Nat → Int32) × (Nat → Int32))} (hk29 : ∀ s : Int32 × Int32 × (Nat → Int32) × Int32 × Int32, k29 s = some res → ax X 0 0 29 [some (.ref (ao 0)), some (.int x1), some (.int s.2.2.2.1), some (.int s.2.2.2.2), none, none] [oX12 ao io_thrown io_rows io_cells io_children io_changes io_taped s.1 io_to io_nest s.2.1 io_codeLong io_readLong io_undos io_wentHome io_tideLevel io_acts io_firstBreaks io_bestCrew io_sights io_wayMany io_random, rI Y (ao 4) 8 co_age, rI Y (ao 5) 8 co_skill, rI Y (ao 6) 8 co_friend, rI Y (ao 8) 43 co_now, rI Y (ao 10) 80 co_tape, rI Y (ao 11) 36 s.2.2.1] []) (hf : fX12_children_l29 io_thrown io_children io_changes io_taped io_to io_nest io_undos co_age co_skill co_friend co_now co_tape x1 k29 io_at io_readMany co_read x2 x3 = some res) : ax X 0 0 29 [some (.ref (ao 0)), some (.int x1), some (.int x2), some (.int x3), none, none] [oX12 ao io_thrown io_rows io_cells io_children io_changes io_taped io_at io_to io_nest io_readMany io_codeLong io_readLong io_undos io_wentHome io_tideLevel io_acts io_firstBreaks io_bestCrew io_sights io_wayMany io_random, rI Y (ao 4) 8 co_age, rI Y (ao 5) 8 co_skill, rI Y (ao 6) 8 co_friend, rI Y (ao 8) 43 co_now, rI Y (ao 10) 80 co_tape, rI Y (ao 11) 36 co_read] [] := by
  unfold fX12_children_l29 at hf
  refine a_iload_n C dX12_children_29 rfl ?_
  refine a_if_eq C 60 dX12_children_30 (by decide) (fun h11 => ?_) (fun h11 => ?_)
  · have hf := fx_t h11 hf
    refine a_kill [3] ?_
    exact kX12_children_b60 C hQ hf
  · have hf := fx_f h11 hf
    refine a_aload_n C dX12_children_33 rfl ?_
    obtain ⟨r12, h12, hf⟩ := fx_bind hf
    refine a_fV C (kX12_readsChild l D Y ao io_thrown io_rows io_cells io_children io_changes io_taped io_at io_to io_nest io_readMany io_codeLong io_readLong io_undos io_wentHome io_tideLevel io_acts io_firstBreaks io_bestCrew io_sights io_wayMany io_random co_tape co_read r12 h12) gX12_children_X12_readsChild rfl dvX12_readsChild ⟨⟨rfl, rfl⟩, ⟨Nat.le_of_ble_eq_true rfl, Nat.le_of_ble_eq_true rfl⟩, ⟨Nat.le_of_ble_eq_true rfl, Nat.le_of_ble_eq_true rfl⟩⟩ rfl (Nat.le_of_ble_eq_true rfl) dX12_children_34 rfl rfl [0, 5, 6] [1, 2, 3, 4] ⟨rfl, rfl, rfl, trivial⟩ rfl rfl [oX12 ao io_thrown io_rows io_cells io_children io_changes io_taped r12.2.1 io_to io_nest r12.2.2.1 io_codeLong io_readLong io_undos io_wentHome io_tideLevel io_acts io_firstBreaks io_bestCrew io_sights io_wayMany io_random, rI Y (ao 4) 8 co_age, rI Y (ao 5) 8 co_skill, rI Y (ao 6) 8 co_friend, rI Y (ao 8) 43 co_now, rI Y (ao 10) 80 co_tape, rI Y (ao 11) 36 r12.2.2.2] ⟨rfl, rfl, rfl, trivial⟩ ⟨rfl, rfl, rfl, rfl, trivial⟩ rfl ?_
    refine a_istore_n C dX12_children_37 (by decide) rfl ?_
    refine a_iload_n C dX12_children_38 rfl ?_
    refine a_if_eq C 55 dX12_children_39 (by decide) (fun h13 => ?_) (fun h13 => ?_)
    · have hf := fx_t h13 hf
      refine a_kill [3] ?_
      exact kX12_children_b55 C hQ hk29 hf
    · have hf := fx_f h13 hf
      refine a_aload_n C dX12_children_42 rfl ?_
      refine a_bipush C (59 : Int32) dX12_children_43 (by decide) ?_
      obtain ⟨r14, h14, hf⟩ := fx_bind hf
      refine a_fV C (kX12_takes l D Y ao io_thrown io_rows io_cells io_children io_changes io_taped r12.2.1 io_to io_nest r12.2.2.1 io_codeLong io_readLong io_undos io_wentHome io_tideLevel io_acts io_firstBreaks io_bestCrew io_sights io_wayMany io_random co_tape (59 : Int32) r14 h14) gX12_children_X12_takes rfl dvX12_takes ⟨⟨rfl, rfl⟩, ⟨Nat.le_of_ble_eq_true rfl, Nat.le_of_ble_eq_true rfl⟩, ⟨Nat.le_of_ble_eq_true rfl, Nat.le_of_ble_eq_true rfl⟩⟩ rfl (Nat.le_of_ble_eq_true rfl) dX12_children_45 rfl rfl [0, 5] [1, 2, 3, 4, 6] ⟨rfl, rfl, trivial⟩ rfl rfl [oX12 ao io_thrown io_rows io_cells io_children io_changes io_taped r14.2 io_to io_nest r12.2.2.1 io_codeLong io_readLong io_undos io_wentHome io_tideLevel io_acts io_firstBreaks io_bestCrew io_sights io_wayMany io_random, rI Y (ao 4) 8 co_age, rI Y (ao 5) 8 co_skill, rI Y (ao 6) 8 co_friend, rI Y (ao 8) 43 co_now, rI Y (ao 10) 80 co_tape, rI Y (ao 11) 36 r12.2.2.2] ⟨rfl, rfl, trivial⟩ ⟨rfl, rfl, rfl, rfl, rfl, trivial⟩ rfl ?_
      refine a_if_eq C 55 dX12_children_48 (by decide) (fun h15 => ?_) (fun h15 => ?_)
      · have hf := fx_t h15 hf
        refine a_kill [3] ?_
        exact kX12_children_b55 C hQ hk29 hf
      · have hf := fx_f h15 hf
        refine a_iconst C (1 : Int32) dX12_children_51 (by decide) ?_
        refine a_goto C 56 dX12_children_52 (by decide) ?_
        refine a_kill [3] ?_
        exact kX12_children_b56 C hQ hk29 hf
set_option maxHeartbeats 400000 in
set_option maxRecDepth 100000 in
theorem kX12_children_b29 {X : cxT} {l : Launch} {D : va_G} {Y : Nat → ClassId} {ao : Nat → Nat} {io_thrown : Int32} {io_rows : Int32} {io_cells : Int32} {io_children : Int32} {io_changes : Int32} {io_taped : Int32} {io_at : Int32} {io_to : Int32} {io_nest : Int32} {io_readMany : Int32} {io_codeLong : Int32} {io_readLong : Int32} {io_undos : Int32} {io_wentHome : Int32} {io_tideLevel : Int32} {io_acts : Int32} {io_firstBreaks : Int32} {io_bestCrew : Int32} {io_sights : Int32} {io_wayMany : Int32} {io_random : Int32} {co_age : Nat → Int32} {co_skill : Nat → Int32} {co_friend : Nat → Int32} {co_now : Nat → Int32} {co_tape : Nat → Int32} {co_read : Nat → Int32} {x1 : Int32} {x2 : Int32} {x3 : Int32} {res : Int32 × Int32 × Int32 × Int32 × Int32 × Int32 × Int32 × Int32 × Int32 × Int32 × (Nat → Int32) × (Nat → Int32) × (Nat → Int32) × (Nat → Int32) × (Nat → Int32)} (C : axC X l D Y cX12_children 6 RX12 wsX12_children rmX12_children (some .int)) (hQ : axQ X 0 0 (fun r9 w9 => r9 = (some (.int res.1)) ∧ w9 = [oX12 ao res.2.1 io_rows io_cells res.2.2.1 res.2.2.2.1 res.2.2.2.2.1 res.2.2.2.2.2.1 res.2.2.2.2.2.2.1 res.2.2.2.2.2.2.2.1 res.2.2.2.2.2.2.2.2.1 io_codeLong io_readLong res.2.2.2.2.2.2.2.2.2.1 io_wentHome io_tideLevel io_acts io_firstBreaks io_bestCrew io_sights io_wayMany io_random, rI Y (ao 4) 8 res.2.2.2.2.2.2.2.2.2.2.1, rI Y (ao 5) 8 res.2.2.2.2.2.2.2.2.2.2.2.1, rI Y (ao 6) 8 res.2.2.2.2.2.2.2.2.2.2.2.2.1, rI Y (ao 8) 43 res.2.2.2.2.2.2.2.2.2.2.2.2.2.1, rI Y (ao 10) 80 co_tape, rI Y (ao 11) 36 res.2.2.2.2.2.2.2.2.2.2.2.2.2.2])) (hf : fX12_children_b29 io_thrown io_children io_changes io_taped io_at io_to io_nest io_readMany io_undos co_age co_skill co_friend co_now co_tape co_read x1 x2 x3 = some res) : ax X 0 0 29 [some (.ref (ao 0)), some (.int x1), some (.int x2), some (.int x3), none, none] [oX12 ao io_thrown io_rows io_cells io_children io_changes io_taped io_at io_to io_nest io_readMany io_codeLong io_readLong io_undos io_wentHome io_tideLevel io_acts io_firstBreaks io_bestCrew io_sights io_wayMany io_random, rI Y (ao 4) 8 co_age, rI Y (ao 5) 8 co_skill, rI Y (ao 6) 8 co_friend, rI Y (ao 8) 43 co_now, rI Y (ao 10) 80 co_tape, rI Y (ao 11) 36 co_read] [] := by
  unfold fX12_children_b29 at hf
  exact fx_loop (P := fun s : Int32 × Int32 × (Nat → Int32) × Int32 × Int32 => ax X 0 0 29 [some (.ref (ao 0)), some (.int x1), some (.int s.2.2.2.1), some (.int s.2.2.2.2), none, none] [oX12 ao io_thrown io_rows io_cells io_children io_changes io_taped s.1 io_to io_nest s.2.1 io_codeLong io_readLong io_undos io_wentHome io_tideLevel io_acts io_firstBreaks io_bestCrew io_sights io_wayMany io_random, rI Y (ao 4) 8 co_age, rI Y (ao 5) 8 co_skill, rI Y (ao 6) 8 co_friend, rI Y (ao 8) 43 co_now, rI Y (ao 10) 80 co_tape, rI Y (ao 11) 36 s.2.2.1] []) (fun s k29 hk29 h => kX12_children_l29 C hQ hk29 h) FUEL (io_at, io_readMany, co_read, x2, x3) hf
def fX12_children_b28 (io_thrown : Int32) (io_children : Int32) (io_changes : Int32) (io_taped : Int32) (io_at : Int32) (io_to : Int32) (io_nest : Int32) (io_readMany : Int32) (io_undos : Int32) (co_age : Nat → Int32) (co_skill : Nat → Int32) (co_friend : Nat → Int32) (co_now : Nat → Int32) (co_tape : Nat → Int32) (co_read : Nat → Int32) (x1 : Int32) (x2 : Int32) (s0 : Int32) : Option (Int32 × Int32 × Int32 × Int32 × Int32 × Int32 × Int32 × Int32 × Int32 × Int32 × (Nat → Int32) × (Nat → Int32) × (Nat → Int32) × (Nat → Int32) × (Nat → Int32)) :=
  fX12_children_b29 io_thrown io_children io_changes io_taped io_at io_to io_nest io_readMany io_undos co_age co_skill co_friend co_now co_tape co_read x1 x2 s0
set_option maxHeartbeats 400000 in
set_option maxRecDepth 100000 in
theorem kX12_children_b28 {X : cxT} {l : Launch} {D : va_G} {Y : Nat → ClassId} {ao : Nat → Nat} {io_thrown : Int32} {io_rows : Int32} {io_cells : Int32} {io_children : Int32} {io_changes : Int32} {io_taped : Int32} {io_at : Int32} {io_to : Int32} {io_nest : Int32} {io_readMany : Int32} {io_codeLong : Int32} {io_readLong : Int32} {io_undos : Int32} {io_wentHome : Int32} {io_tideLevel : Int32} {io_acts : Int32} {io_firstBreaks : Int32} {io_bestCrew : Int32} {io_sights : Int32} {io_wayMany : Int32} {io_random : Int32} {co_age : Nat → Int32} {co_skill : Nat → Int32} {co_friend : Nat → Int32} {co_now : Nat → Int32} {co_tape : Nat → Int32} {co_read : Nat → Int32} {x1 : Int32} {x2 : Int32} {s0 : Int32} {res : Int32 × Int32 × Int32 × Int32 × Int32 × Int32 × Int32 × Int32 × Int32 × Int32 × (Nat → Int32) × (Nat → Int32) × (Nat → Int32) × (Nat → Int32) × (Nat → Int32)} (C : axC X l D Y cX12_children 6 RX12 wsX12_children rmX12_children (some .int)) (hQ : axQ X 0 0 (fun r9 w9 => r9 = (some (.int res.1)) ∧ w9 = [oX12 ao res.2.1 io_rows io_cells res.2.2.1 res.2.2.2.1 res.2.2.2.2.1 res.2.2.2.2.2.1 res.2.2.2.2.2.2.1 res.2.2.2.2.2.2.2.1 res.2.2.2.2.2.2.2.2.1 io_codeLong io_readLong res.2.2.2.2.2.2.2.2.2.1 io_wentHome io_tideLevel io_acts io_firstBreaks io_bestCrew io_sights io_wayMany io_random, rI Y (ao 4) 8 res.2.2.2.2.2.2.2.2.2.2.1, rI Y (ao 5) 8 res.2.2.2.2.2.2.2.2.2.2.2.1, rI Y (ao 6) 8 res.2.2.2.2.2.2.2.2.2.2.2.2.1, rI Y (ao 8) 43 res.2.2.2.2.2.2.2.2.2.2.2.2.2.1, rI Y (ao 10) 80 co_tape, rI Y (ao 11) 36 res.2.2.2.2.2.2.2.2.2.2.2.2.2.2])) (hf : fX12_children_b28 io_thrown io_children io_changes io_taped io_at io_to io_nest io_readMany io_undos co_age co_skill co_friend co_now co_tape co_read x1 x2 s0 = some res) : ax X 0 0 28 [some (.ref (ao 0)), some (.int x1), some (.int x2), none, none, none] [oX12 ao io_thrown io_rows io_cells io_children io_changes io_taped io_at io_to io_nest io_readMany io_codeLong io_readLong io_undos io_wentHome io_tideLevel io_acts io_firstBreaks io_bestCrew io_sights io_wayMany io_random, rI Y (ao 4) 8 co_age, rI Y (ao 5) 8 co_skill, rI Y (ao 6) 8 co_friend, rI Y (ao 8) 43 co_now, rI Y (ao 10) 80 co_tape, rI Y (ao 11) 36 co_read] [.int s0] := by
  unfold fX12_children_b28 at hf
  refine a_istore_n C dX12_children_28 (by decide) rfl ?_
  exact kX12_children_b29 C hQ hf
def fX12_children (io_thrown : Int32) (io_children : Int32) (io_changes : Int32) (io_taped : Int32) (io_at : Int32) (io_to : Int32) (io_nest : Int32) (io_readMany : Int32) (io_undos : Int32) (co_age : Nat → Int32) (co_skill : Nat → Int32) (co_friend : Nat → Int32) (co_now : Nat → Int32) (co_tape : Nat → Int32) (co_read : Nat → Int32) : Option (Int32 × Int32 × Int32 × Int32 × Int32 × Int32 × Int32 × Int32 × Int32 × Int32 × (Nat → Int32) × (Nat → Int32) × (Nat → Int32) × (Nat → Int32) × (Nat → Int32)) :=
  (fX12_begins io_taped io_at io_to io_nest (47 : Int32)).bind (fun r16 => if r16.1 ≤ (0 : Int32) then (fX12_children_b28 (0 : Int32) io_children io_changes r16.2.1 r16.2.2.1 r16.2.2.2.1 r16.2.2.2.2 (0 : Int32) io_undos co_age co_skill co_friend co_now co_tape co_read r16.1 (1 : Int32) (0 : Int32)) else (fX12_children_b28 (0 : Int32) io_children io_changes r16.2.1 r16.2.2.1 r16.2.2.2.1 r16.2.2.2.2 (0 : Int32) io_undos co_age co_skill co_friend co_now co_tape co_read r16.1 (1 : Int32) (1 : Int32)))
set_option maxHeartbeats 400000 in
set_option maxRecDepth 100000 in
theorem kX12_children (l : Launch) (D : va_G) (Y : Nat → ClassId) (ao : Nat → Nat) (io_thrown : Int32) (io_rows : Int32) (io_cells : Int32) (io_children : Int32) (io_changes : Int32) (io_taped : Int32) (io_at : Int32) (io_to : Int32) (io_nest : Int32) (io_readMany : Int32) (io_codeLong : Int32) (io_readLong : Int32) (io_undos : Int32) (io_wentHome : Int32) (io_tideLevel : Int32) (io_acts : Int32) (io_firstBreaks : Int32) (io_bestCrew : Int32) (io_sights : Int32) (io_wayMany : Int32) (io_random : Int32) (co_age : Nat → Int32) (co_skill : Nat → Int32) (co_friend : Nat → Int32) (co_now : Nat → Int32) (co_tape : Nat → Int32) (co_read : Nat → Int32) (res : Int32 × Int32 × Int32 × Int32 × Int32 × Int32 × Int32 × Int32 × Int32 × Int32 × (Nat → Int32) × (Nat → Int32) × (Nat → Int32) × (Nat → Int32) × (Nat → Int32)) (hf : fX12_children io_thrown io_children io_changes io_taped io_at io_to io_nest io_readMany io_undos co_age co_skill co_friend co_now co_tape co_read = some res) : amf l D Y yX12_children wsX12_children rmX12_children [.ref (ao 0)] [oX12 ao io_thrown io_rows io_cells io_children io_changes io_taped io_at io_to io_nest io_readMany io_codeLong io_readLong io_undos io_wentHome io_tideLevel io_acts io_firstBreaks io_bestCrew io_sights io_wayMany io_random, rI Y (ao 4) 8 co_age, rI Y (ao 5) 8 co_skill, rI Y (ao 6) 8 co_friend, rI Y (ao 8) 43 co_now, rI Y (ao 10) 80 co_tape, rI Y (ao 11) 36 co_read] (some (.int res.1)) [oX12 ao res.2.1 io_rows io_cells res.2.2.1 res.2.2.2.1 res.2.2.2.2.1 res.2.2.2.2.2.1 res.2.2.2.2.2.2.1 res.2.2.2.2.2.2.2.1 res.2.2.2.2.2.2.2.2.1 io_codeLong io_readLong res.2.2.2.2.2.2.2.2.2.1 io_wentHome io_tideLevel io_acts io_firstBreaks io_bestCrew io_sights io_wayMany io_random, rI Y (ao 4) 8 res.2.2.2.2.2.2.2.2.2.2.1, rI Y (ao 5) 8 res.2.2.2.2.2.2.2.2.2.2.2.1, rI Y (ao 6) 8 res.2.2.2.2.2.2.2.2.2.2.2.2.1, rI Y (ao 8) 43 res.2.2.2.2.2.2.2.2.2.2.2.2.2.1, rI Y (ao 10) 80 co_tape, rI Y (ao 11) 36 res.2.2.2.2.2.2.2.2.2.2.2.2.2.2] := by
  refine amf.of (cc := cX12_children) (maxL := 6) (rt := (some .int)) (by decide) rfl RX12 rfl (Nat.le_of_ble_eq_true rfl) [some (.ref (ao 0)), none, none, none, none, none] rfl ?_
  intro X C hQ
  unfold fX12_children at hf
  refine a_aload_n C dX12_children_0 rfl ?_
  refine a_iconst C (0 : Int32) dX12_children_1 (by decide) ?_
  refine a_put C eX12_children_112 tfX12_0 dX12_children_2 0 rfl rfl rfl (Nat.le_of_ble_eq_true rfl) ?_
  refine a_aload_n C dX12_children_5 rfl ?_
  refine a_bipush C (47 : Int32) dX12_children_6 (by decide) ?_
  obtain ⟨r16, h16, hf⟩ := fx_bind hf
  refine a_fV C (kX12_begins l D Y ao (0 : Int32) io_rows io_cells io_children io_changes io_taped io_at io_to io_nest io_readMany io_codeLong io_readLong io_undos io_wentHome io_tideLevel io_acts io_firstBreaks io_bestCrew io_sights io_wayMany io_random (47 : Int32) r16 h16) gX12_children_X12_begins rfl dvX12_begins ⟨⟨rfl, rfl⟩, ⟨Nat.le_of_ble_eq_true rfl, Nat.le_of_ble_eq_true rfl⟩, ⟨Nat.le_of_ble_eq_true rfl, Nat.le_of_ble_eq_true rfl⟩⟩ rfl (Nat.le_of_ble_eq_true rfl) dX12_children_8 rfl rfl [0] [1, 2, 3, 4, 5, 6] ⟨rfl, trivial⟩ rfl rfl [oX12 ao (0 : Int32) io_rows io_cells io_children io_changes r16.2.1 r16.2.2.1 r16.2.2.2.1 r16.2.2.2.2 io_readMany io_codeLong io_readLong io_undos io_wentHome io_tideLevel io_acts io_firstBreaks io_bestCrew io_sights io_wayMany io_random, rI Y (ao 4) 8 co_age, rI Y (ao 5) 8 co_skill, rI Y (ao 6) 8 co_friend, rI Y (ao 8) 43 co_now, rI Y (ao 10) 80 co_tape, rI Y (ao 11) 36 co_read] ⟨rfl, trivial⟩ ⟨rfl, rfl, rfl, rfl, rfl, rfl, trivial⟩ rfl ?_
  refine a_istore_n C dX12_children_11 (by decide) rfl ?_
  refine a_aload_n C dX12_children_12 rfl ?_
  refine a_iconst C (0 : Int32) dX12_children_13 (by decide) ?_
  refine a_put C eX12_children_197 tfX12_20 dX12_children_14 0 rfl rfl rfl (Nat.le_of_ble_eq_true rfl) ?_
  refine a_iconst C (1 : Int32) dX12_children_17 (by decide) ?_
  refine a_istore_n C dX12_children_18 (by decide) rfl ?_
  refine a_iload_n C dX12_children_19 rfl ?_
  refine a_if_le C 27 dX12_children_20 (by decide) (fun h17 => ?_) (fun h17 => ?_)
  · have hf := fx_t h17 hf
    refine a_iconst C (0 : Int32) dX12_children_27 (by decide) ?_
    exact kX12_children_b28 C hQ hf
  · have hf := fx_f h17 hf
    refine a_iconst C (1 : Int32) dX12_children_23 (by decide) ?_
    refine a_goto C 28 dX12_children_24 (by decide) ?_
    exact kX12_children_b28 C hQ hf
-- X12_codes
abbrev rmX12_codes : Room := { frames := 0, cells := 0, slots := 0, locals := 0 }
theorem dvX12_codes : yX12_codes.cls = RX12 ∧ yX12_codes.cls ≠ "java/lang/invoke/MethodHandle" ∧ yX12_codes.cls ≠ "java/lang/invoke/VarHandle" ∧ (parseMethodDescriptor yX12_codes.desc).map (fun d => d.parameters.length) = some 1 := by decide +kernel
theorem eX12_codes_inX12 : ∀ w ∈ wsX120, w ∈ wsX12_codes := by decide +kernel
theorem eX12_codes_51 : aF wsX12_codes RX12 51 12 22 := ⟨RX12, TX12, 53, rfl, eX12_codes_inX12, by decide, by decide +kernel⟩
theorem eX12_codes_214 : aF wsX12_codes RX12 214 12 24 := ⟨RX12, TX12, 53, rfl, eX12_codes_inX12, by decide, by decide +kernel⟩
def fX12_codes (io_readLong : Int32) (co_readCode : Nat → Int32) (x1 : Int32) : Option (Int32 × (Nat → Int32)) :=
  if inb io_readLong 80 then some ((io_readLong + (1 : Int32)), (upd co_readCode (Int32.toNatClampNeg io_readLong) x1)) else none
set_option maxHeartbeats 400000 in
set_option maxRecDepth 100000 in
theorem kX12_codes (l : Launch) (D : va_G) (Y : Nat → ClassId) (ao : Nat → Nat) (io_thrown : Int32) (io_rows : Int32) (io_cells : Int32) (io_children : Int32) (io_changes : Int32) (io_taped : Int32) (io_at : Int32) (io_to : Int32) (io_nest : Int32) (io_readMany : Int32) (io_codeLong : Int32) (io_readLong : Int32) (io_undos : Int32) (io_wentHome : Int32) (io_tideLevel : Int32) (io_acts : Int32) (io_firstBreaks : Int32) (io_bestCrew : Int32) (io_sights : Int32) (io_wayMany : Int32) (io_random : Int32) (co_readCode : Nat → Int32) (x1 : Int32) (res : Int32 × (Nat → Int32)) (hf : fX12_codes io_readLong co_readCode x1 = some res) : amf l D Y yX12_codes wsX12_codes rmX12_codes [.ref (ao 0), .int x1] [oX12 ao io_thrown io_rows io_cells io_children io_changes io_taped io_at io_to io_nest io_readMany io_codeLong io_readLong io_undos io_wentHome io_tideLevel io_acts io_firstBreaks io_bestCrew io_sights io_wayMany io_random, rI Y (ao 13) 80 co_readCode] none [oX12 ao io_thrown io_rows io_cells io_children io_changes io_taped io_at io_to io_nest io_readMany io_codeLong res.1 io_undos io_wentHome io_tideLevel io_acts io_firstBreaks io_bestCrew io_sights io_wayMany io_random, rI Y (ao 13) 80 res.2] := by
  refine amf.of (cc := cX12_codes) (maxL := 2) (rt := none) (by decide) rfl RX12 rfl (Nat.le_of_ble_eq_true rfl) [some (.ref (ao 0)), some (.int x1)] rfl ?_
  intro X C hQ
  unfold fX12_codes at hf
  refine a_aload_n C dX12_codes_0 rfl ?_
  refine a_get C eX12_codes_51 dX12_codes_1 0 rfl rfl ?_
  refine a_aload_n C dX12_codes_4 rfl ?_
  refine a_get C eX12_codes_214 dX12_codes_5 0 rfl rfl ?_
  refine a_iload_n C dX12_codes_8 rfl ?_
  obtain ⟨h1, hf⟩ := fx_ite hf
  refine a_iast C dX12_codes_9 1 rfl h1 ?_
  refine a_aload_n C dX12_codes_10 rfl ?_
  refine a_dup C dX12_codes_11 rfl ?_
  refine a_get C eX12_codes_214 dX12_codes_12 0 rfl rfl ?_
  refine a_iconst C (1 : Int32) dX12_codes_15 (by decide) ?_
  refine a_iadd C dX12_codes_16 ?_
  refine a_put C eX12_codes_214 tfX12_24 dX12_codes_17 0 rfl rfl rfl (Nat.le_of_ble_eq_true rfl) ?_
  obtain rfl := fx_some hf
  exact a_vret C hQ dX12_codes_20 ⟨rfl, rfl⟩
-- X12_laysCode
abbrev rmX12_laysCode : Room := { frames := 0, cells := 0, slots := 0, locals := 0 }
theorem dvX12_laysCode : yX12_laysCode.cls = RX12 ∧ yX12_laysCode.cls ≠ "java/lang/invoke/MethodHandle" ∧ yX12_laysCode.cls ≠ "java/lang/invoke/VarHandle" ∧ (parseMethodDescriptor yX12_laysCode.desc).map (fun d => d.parameters.length) = some 2 := by decide +kernel
theorem eX12_laysCode_inX12 : ∀ w ∈ wsX120, w ∈ wsX12_laysCode := by decide +kernel
theorem eX12_laysCode_48 : aF wsX12_laysCode RX12 48 12 21 := ⟨RX12, TX12, 53, rfl, eX12_laysCode_inX12, by decide, by decide +kernel⟩
theorem eX12_laysCode_238 : aF wsX12_laysCode RX12 238 12 23 := ⟨RX12, TX12, 53, rfl, eX12_laysCode_inX12, by decide, by decide +kernel⟩
def fX12_laysCode_b27 (io_codeLong : Int32) (co_code : Nat → Int32) (cp1 : Nat → Int32) : Option (Int32 × (Nat → Int32)) :=
  some (io_codeLong, co_code)
set_option maxHeartbeats 400000 in
set_option maxRecDepth 100000 in
theorem kX12_laysCode_b27 {X : cxT} {l : Launch} {D : va_G} {Y : Nat → ClassId} {ao : Nat → Nat} {qp1 : Nat} {io_thrown : Int32} {io_rows : Int32} {io_cells : Int32} {io_children : Int32} {io_changes : Int32} {io_taped : Int32} {io_at : Int32} {io_to : Int32} {io_nest : Int32} {io_readMany : Int32} {io_codeLong : Int32} {io_readLong : Int32} {io_undos : Int32} {io_wentHome : Int32} {io_tideLevel : Int32} {io_acts : Int32} {io_firstBreaks : Int32} {io_bestCrew : Int32} {io_sights : Int32} {io_wayMany : Int32} {io_random : Int32} {co_code : Nat → Int32} {cp1 : Nat → Int32} {res : Int32 × (Nat → Int32)} (C : axC X l D Y cX12_laysCode 4 RX12 wsX12_laysCode rmX12_laysCode none) (hQ : axQ X 0 0 (fun r9 w9 => r9 = none ∧ w9 = [oX12 ao io_thrown io_rows io_cells io_children io_changes io_taped io_at io_to io_nest io_readMany res.1 io_readLong io_undos io_wentHome io_tideLevel io_acts io_firstBreaks io_bestCrew io_sights io_wayMany io_random, rI Y (ao 12) 80 res.2, rI Y qp1 80 cp1])) (hf : fX12_laysCode_b27 io_codeLong co_code cp1 = some res) : ax X 0 0 27 [none, none, none, none] [oX12 ao io_thrown io_rows io_cells io_children io_changes io_taped io_at io_to io_nest io_readMany io_codeLong io_readLong io_undos io_wentHome io_tideLevel io_acts io_firstBreaks io_bestCrew io_sights io_wayMany io_random, rI Y (ao 12) 80 co_code, rI Y qp1 80 cp1] [] := by
  unfold fX12_laysCode_b27 at hf
  obtain rfl := fx_some hf
  exact a_vret C hQ dX12_laysCode_27 ⟨rfl, rfl⟩
def fX12_laysCode_l7 (io_codeLong : Int32) (cp1 : Nat → Int32) (x2 : Int32) (k7 : (Nat → Int32) × Int32 → Option (Int32 × (Nat → Int32))) (co_code : Nat → Int32) (x3 : Int32) : Option (Int32 × (Nat → Int32)) :=
  if x2 ≤ x3 then (fX12_laysCode_b27 io_codeLong co_code cp1) else (if inb x3 80 then k7 ((upd co_code (Int32.toNatClampNeg x3) (cp1 (Int32.toNatClampNeg x3))), (x3 + (1 : Int32))) else none)
def fX12_laysCode_b7 (io_codeLong : Int32) (co_code : Nat → Int32) (cp1 : Nat → Int32) (x2 : Int32) (x3 : Int32) : Option (Int32 × (Nat → Int32)) :=
  loopN (fun (s : (Nat → Int32) × Int32) k7 => fX12_laysCode_l7 io_codeLong cp1 x2 k7 s.1 s.2) FUEL (co_code, x3)
set_option maxHeartbeats 400000 in
set_option maxRecDepth 100000 in
theorem kX12_laysCode_l7 {X : cxT} {l : Launch} {D : va_G} {Y : Nat → ClassId} {ao : Nat → Nat} {qp1 : Nat} {io_thrown : Int32} {io_rows : Int32} {io_cells : Int32} {io_children : Int32} {io_changes : Int32} {io_taped : Int32} {io_at : Int32} {io_to : Int32} {io_nest : Int32} {io_readMany : Int32} {io_codeLong : Int32} {io_readLong : Int32} {io_undos : Int32} {io_wentHome : Int32} {io_tideLevel : Int32} {io_acts : Int32} {io_firstBreaks : Int32} {io_bestCrew : Int32} {io_sights : Int32} {io_wayMany : Int32} {io_random : Int32} {co_code : Nat → Int32} {cp1 : Nat → Int32} {x2 : Int32} {x3 : Int32} {res : Int32 × (Nat → Int32)} (C : axC X l D Y cX12_laysCode 4 RX12 wsX12_laysCode rmX12_laysCode none) (hQ : axQ X 0 0 (fun r9 w9 => r9 = none ∧ w9 = [oX12 ao io_thrown io_rows io_cells io_children io_changes io_taped io_at io_to io_nest io_readMany res.1 io_readLong io_undos io_wentHome io_tideLevel io_acts io_firstBreaks io_bestCrew io_sights io_wayMany io_random, rI Y (ao 12) 80 res.2, rI Y qp1 80 cp1])) {k7 : (Nat → Int32) × Int32 → Option (Int32 × (Nat → Int32))} (hk7 : ∀ s : (Nat → Int32) × Int32, k7 s = some res → ax X 0 0 7 [some (.ref (ao 0)), some (.ref qp1), some (.int x2), some (.int s.2)] [oX12 ao io_thrown io_rows io_cells io_children io_changes io_taped io_at io_to io_nest io_readMany io_codeLong io_readLong io_undos io_wentHome io_tideLevel io_acts io_firstBreaks io_bestCrew io_sights io_wayMany io_random, rI Y (ao 12) 80 s.1, rI Y qp1 80 cp1] []) (hf : fX12_laysCode_l7 io_codeLong cp1 x2 k7 co_code x3 = some res) : ax X 0 0 7 [some (.ref (ao 0)), some (.ref qp1), some (.int x2), some (.int x3)] [oX12 ao io_thrown io_rows io_cells io_children io_changes io_taped io_at io_to io_nest io_readMany io_codeLong io_readLong io_undos io_wentHome io_tideLevel io_acts io_firstBreaks io_bestCrew io_sights io_wayMany io_random, rI Y (ao 12) 80 co_code, rI Y qp1 80 cp1] [] := by
  unfold fX12_laysCode_l7 at hf
  refine a_iload_n C dX12_laysCode_7 rfl ?_
  refine a_iload_n C dX12_laysCode_8 rfl ?_
  refine a_icmp_ge C 27 dX12_laysCode_9 (by decide) (fun h1 => ?_) (fun h1 => ?_)
  · have hf := fx_t h1 hf
    refine a_kill [0, 1, 2, 3] ?_
    exact kX12_laysCode_b27 C hQ hf
  · have hf := fx_f h1 hf
    refine a_aload_n C dX12_laysCode_12 rfl ?_
    refine a_get C eX12_laysCode_48 dX12_laysCode_13 0 rfl rfl ?_
    refine a_iload_n C dX12_laysCode_16 rfl ?_
    refine a_aload_n C dX12_laysCode_17 rfl ?_
    refine a_iload_n C dX12_laysCode_18 rfl ?_
    obtain ⟨h2, hf⟩ := fx_ite hf
    refine a_iald C dX12_laysCode_19 2 rfl h2 ?_
    refine a_iast C dX12_laysCode_20 1 rfl h2 ?_
    refine a_iinc C (1 : Int32) dX12_laysCode_21 (by decide) rfl (by decide) rfl ?_
    refine a_goto C 7 dX12_laysCode_24 (by decide) ?_
    exact hk7 ((upd co_code (Int32.toNatClampNeg x3) (cp1 (Int32.toNatClampNeg x3))), (x3 + (1 : Int32))) hf
set_option maxHeartbeats 400000 in
set_option maxRecDepth 100000 in
theorem kX12_laysCode_b7 {X : cxT} {l : Launch} {D : va_G} {Y : Nat → ClassId} {ao : Nat → Nat} {qp1 : Nat} {io_thrown : Int32} {io_rows : Int32} {io_cells : Int32} {io_children : Int32} {io_changes : Int32} {io_taped : Int32} {io_at : Int32} {io_to : Int32} {io_nest : Int32} {io_readMany : Int32} {io_codeLong : Int32} {io_readLong : Int32} {io_undos : Int32} {io_wentHome : Int32} {io_tideLevel : Int32} {io_acts : Int32} {io_firstBreaks : Int32} {io_bestCrew : Int32} {io_sights : Int32} {io_wayMany : Int32} {io_random : Int32} {co_code : Nat → Int32} {cp1 : Nat → Int32} {x2 : Int32} {x3 : Int32} {res : Int32 × (Nat → Int32)} (C : axC X l D Y cX12_laysCode 4 RX12 wsX12_laysCode rmX12_laysCode none) (hQ : axQ X 0 0 (fun r9 w9 => r9 = none ∧ w9 = [oX12 ao io_thrown io_rows io_cells io_children io_changes io_taped io_at io_to io_nest io_readMany res.1 io_readLong io_undos io_wentHome io_tideLevel io_acts io_firstBreaks io_bestCrew io_sights io_wayMany io_random, rI Y (ao 12) 80 res.2, rI Y qp1 80 cp1])) (hf : fX12_laysCode_b7 io_codeLong co_code cp1 x2 x3 = some res) : ax X 0 0 7 [some (.ref (ao 0)), some (.ref qp1), some (.int x2), some (.int x3)] [oX12 ao io_thrown io_rows io_cells io_children io_changes io_taped io_at io_to io_nest io_readMany io_codeLong io_readLong io_undos io_wentHome io_tideLevel io_acts io_firstBreaks io_bestCrew io_sights io_wayMany io_random, rI Y (ao 12) 80 co_code, rI Y qp1 80 cp1] [] := by
  unfold fX12_laysCode_b7 at hf
  exact fx_loop (P := fun s : (Nat → Int32) × Int32 => ax X 0 0 7 [some (.ref (ao 0)), some (.ref qp1), some (.int x2), some (.int s.2)] [oX12 ao io_thrown io_rows io_cells io_children io_changes io_taped io_at io_to io_nest io_readMany io_codeLong io_readLong io_undos io_wentHome io_tideLevel io_acts io_firstBreaks io_bestCrew io_sights io_wayMany io_random, rI Y (ao 12) 80 s.1, rI Y qp1 80 cp1] []) (fun s k7 hk7 h => kX12_laysCode_l7 C hQ hk7 h) FUEL (co_code, x3) hf
def fX12_laysCode (io_codeLong : Int32) (co_code : Nat → Int32) (cp1 : Nat → Int32) (x2 : Int32) : Option (Int32 × (Nat → Int32)) :=
  fX12_laysCode_b7 x2 co_code cp1 x2 (0 : Int32)
set_option maxHeartbeats 400000 in
set_option maxRecDepth 100000 in
theorem kX12_laysCode (l : Launch) (D : va_G) (Y : Nat → ClassId) (ao : Nat → Nat) (qp1 : Nat) (io_thrown : Int32) (io_rows : Int32) (io_cells : Int32) (io_children : Int32) (io_changes : Int32) (io_taped : Int32) (io_at : Int32) (io_to : Int32) (io_nest : Int32) (io_readMany : Int32) (io_codeLong : Int32) (io_readLong : Int32) (io_undos : Int32) (io_wentHome : Int32) (io_tideLevel : Int32) (io_acts : Int32) (io_firstBreaks : Int32) (io_bestCrew : Int32) (io_sights : Int32) (io_wayMany : Int32) (io_random : Int32) (co_code : Nat → Int32) (cp1 : Nat → Int32) (x2 : Int32) (res : Int32 × (Nat → Int32)) (hf : fX12_laysCode io_codeLong co_code cp1 x2 = some res) : amf l D Y yX12_laysCode wsX12_laysCode rmX12_laysCode [.ref (ao 0), .ref qp1, .int x2] [oX12 ao io_thrown io_rows io_cells io_children io_changes io_taped io_at io_to io_nest io_readMany io_codeLong io_readLong io_undos io_wentHome io_tideLevel io_acts io_firstBreaks io_bestCrew io_sights io_wayMany io_random, rI Y (ao 12) 80 co_code, rI Y qp1 80 cp1] none [oX12 ao io_thrown io_rows io_cells io_children io_changes io_taped io_at io_to io_nest io_readMany res.1 io_readLong io_undos io_wentHome io_tideLevel io_acts io_firstBreaks io_bestCrew io_sights io_wayMany io_random, rI Y (ao 12) 80 res.2, rI Y qp1 80 cp1] := by
  refine amf.of (cc := cX12_laysCode) (maxL := 4) (rt := none) (by decide) rfl RX12 rfl (Nat.le_of_ble_eq_true rfl) [some (.ref (ao 0)), some (.ref qp1), some (.int x2), none] rfl ?_
  intro X C hQ
  unfold fX12_laysCode at hf
  refine a_aload_n C dX12_laysCode_0 rfl ?_
  refine a_iload_n C dX12_laysCode_1 rfl ?_
  refine a_put C eX12_laysCode_238 tfX12_23 dX12_laysCode_2 0 rfl rfl rfl (Nat.le_of_ble_eq_true rfl) ?_
  refine a_iconst C (0 : Int32) dX12_laysCode_5 (by decide) ?_
  refine a_istore_n C dX12_laysCode_6 (by decide) rfl ?_
  exact kX12_laysCode_b7 C hQ hf
-- X12_worked
abbrev rmX12_worked : Room := { frames := 1, cells := 0, slots := 0, locals := 20 }
theorem dvX12_worked : yX12_worked.cls ≠ "java/lang/invoke/MethodHandle" ∧ yX12_worked.cls ≠ "java/lang/invoke/VarHandle" ∧ (parseMethodDescriptor yX12_worked.desc).map (fun d => d.parameters.length) = some 3 := by decide +kernel
def fX12_worked_b105 (s0 : Int32) : Option (Int32) :=
  some s0
set_option maxHeartbeats 400000 in
set_option maxRecDepth 100000 in
theorem kX12_worked_b105 {X : cxT} {l : Launch} {D : va_G} {Y : Nat → ClassId} {s0 : Int32} {res : Int32} (C : axC X l D Y cX12_worked 3 RX12 wsX12_worked rmX12_worked (some .int)) (hQ : axQ X 0 0 (fun r9 w9 => r9 = (some (.int res)) ∧ w9 = [])) (hf : fX12_worked_b105 s0 = some res) : ax X 0 0 105 [none, none, none] [] [.int s0] := by
  unfold fX12_worked_b105 at hf
  obtain rfl := fx_some hf
  exact a_iret C hQ dX12_worked_105 ⟨rfl, rfl⟩
def fX12_worked_b78 (s0 : Int32) : Option (Int32) :=
  (fX12_flag s0).bind (fun r1 => some r1)
set_option maxHeartbeats 400000 in
set_option maxRecDepth 100000 in
theorem kX12_worked_b78 {X : cxT} {l : Launch} {D : va_G} {Y : Nat → ClassId} {s0 : Int32} {res : Int32} (C : axC X l D Y cX12_worked 3 RX12 wsX12_worked rmX12_worked (some .int)) (hQ : axQ X 0 0 (fun r9 w9 => r9 = (some (.int res)) ∧ w9 = [])) (hf : fX12_worked_b78 s0 = some res) : ax X 0 0 78 [none, none, none] [] [.int s0] := by
  unfold fX12_worked_b78 at hf
  obtain ⟨r1, h1, hf⟩ := fx_bind hf
  refine a_fS C (kX12_flag l D Y s0 r1 h1) gX12_worked_X12_flag rfl dvX12_flag ⟨⟨rfl, rfl⟩, ⟨Nat.le_of_ble_eq_true rfl, Nat.le_of_ble_eq_true rfl⟩, ⟨Nat.le_of_ble_eq_true rfl, Nat.le_of_ble_eq_true rfl⟩⟩ rfl (Nat.le_of_ble_eq_true rfl) dX12_worked_78 [] [] trivial rfl rfl [] trivial trivial rfl ?_
  obtain rfl := fx_some hf
  exact a_iret C hQ dX12_worked_81 ⟨rfl, rfl⟩
def fX12_worked_b64 (s0 : Int32) : Option (Int32) :=
  (fX12_flag s0).bind (fun r2 => some r2)
set_option maxHeartbeats 400000 in
set_option maxRecDepth 100000 in
theorem kX12_worked_b64 {X : cxT} {l : Launch} {D : va_G} {Y : Nat → ClassId} {s0 : Int32} {res : Int32} (C : axC X l D Y cX12_worked 3 RX12 wsX12_worked rmX12_worked (some .int)) (hQ : axQ X 0 0 (fun r9 w9 => r9 = (some (.int res)) ∧ w9 = [])) (hf : fX12_worked_b64 s0 = some res) : ax X 0 0 64 [none, none, none] [] [.int s0] := by
  unfold fX12_worked_b64 at hf
  obtain ⟨r2, h2, hf⟩ := fx_bind hf
  refine a_fS C (kX12_flag l D Y s0 r2 h2) gX12_worked_X12_flag rfl dvX12_flag ⟨⟨rfl, rfl⟩, ⟨Nat.le_of_ble_eq_true rfl, Nat.le_of_ble_eq_true rfl⟩, ⟨Nat.le_of_ble_eq_true rfl, Nat.le_of_ble_eq_true rfl⟩⟩ rfl (Nat.le_of_ble_eq_true rfl) dX12_worked_64 [] [] trivial rfl rfl [] trivial trivial rfl ?_
  obtain rfl := fx_some hf
  exact a_iret C hQ dX12_worked_67 ⟨rfl, rfl⟩
def fX12_worked_b50 (s0 : Int32) : Option (Int32) :=
  (fX12_flag s0).bind (fun r3 => some r3)
set_option maxHeartbeats 400000 in
set_option maxRecDepth 100000 in
theorem kX12_worked_b50 {X : cxT} {l : Launch} {D : va_G} {Y : Nat → ClassId} {s0 : Int32} {res : Int32} (C : axC X l D Y cX12_worked 3 RX12 wsX12_worked rmX12_worked (some .int)) (hQ : axQ X 0 0 (fun r9 w9 => r9 = (some (.int res)) ∧ w9 = [])) (hf : fX12_worked_b50 s0 = some res) : ax X 0 0 50 [none, none, none] [] [.int s0] := by
  unfold fX12_worked_b50 at hf
  obtain ⟨r3, h3, hf⟩ := fx_bind hf
  refine a_fS C (kX12_flag l D Y s0 r3 h3) gX12_worked_X12_flag rfl dvX12_flag ⟨⟨rfl, rfl⟩, ⟨Nat.le_of_ble_eq_true rfl, Nat.le_of_ble_eq_true rfl⟩, ⟨Nat.le_of_ble_eq_true rfl, Nat.le_of_ble_eq_true rfl⟩⟩ rfl (Nat.le_of_ble_eq_true rfl) dX12_worked_50 [] [] trivial rfl rfl [] trivial trivial rfl ?_
  obtain rfl := fx_some hf
  exact a_iret C hQ dX12_worked_53 ⟨rfl, rfl⟩
def fX12_worked (x0 : Int32) (x1 : Int32) (x2 : Int32) : Option (Int32) :=
  if x0 = (0 : Int32) then (if x2 ≤ x1 then (fX12_worked_b50 (0 : Int32)) else (fX12_worked_b50 (1 : Int32))) else if x0 = (1 : Int32) then (if x1 ≤ x2 then (fX12_worked_b64 (0 : Int32)) else (fX12_worked_b64 (1 : Int32))) else if x0 = (2 : Int32) then (if x1 = x2 then (fX12_worked_b78 (1 : Int32)) else (fX12_worked_b78 (0 : Int32))) else if x0 = (3 : Int32) then (some (x1 + x2)) else if x0 = (4 : Int32) then (some (x1 - x2)) else if x0 = (5 : Int32) then (some (x1 * x2)) else (if x2 = (0 : Int32) then (fX12_worked_b105 (0 : Int32)) else (if ¬ x2 = 0 then fX12_worked_b105 (x1 / x2) else none))
set_option maxHeartbeats 400000 in
set_option maxRecDepth 100000 in
theorem kX12_worked (l : Launch) (D : va_G) (Y : Nat → ClassId) (x0 : Int32) (x1 : Int32) (x2 : Int32) (res : Int32) (hf : fX12_worked x0 x1 x2 = some res) : amf l D Y yX12_worked wsX12_worked rmX12_worked [.int x0, .int x1, .int x2] [] (some (.int res)) [] := by
  refine amf.of (cc := cX12_worked) (maxL := 3) (rt := (some .int)) (by decide) rfl RX12 rfl (Nat.le_of_ble_eq_true rfl) [some (.int x0), some (.int x1), some (.int x2)] rfl ?_
  intro X C hQ
  unfold fX12_worked at hf
  refine a_iload_n C dX12_worked_0 rfl ?_
  by_cases h4 : x0 = (0 : Int32)
  · have hf := fx_t h4 hf
    refine a_tableIn (off := 39) C 40 dX12_worked_1 (by rw [h4]; decide) (by rw [h4]; decide) (by rw [h4]; first | done | rfl | decide) (by decide) ?_
    refine a_iload_n C dX12_worked_40 rfl ?_
    refine a_iload_n C dX12_worked_41 rfl ?_
    refine a_icmp_ge C 49 dX12_worked_42 (by decide) (fun h5 => ?_) (fun h5 => ?_)
    · have hf := fx_t h5 hf
      refine a_iconst C (0 : Int32) dX12_worked_49 (by decide) ?_
      refine a_kill [0, 1, 2] ?_
      exact kX12_worked_b50 C hQ hf
    · have hf := fx_f h5 hf
      refine a_iconst C (1 : Int32) dX12_worked_45 (by decide) ?_
      refine a_goto C 50 dX12_worked_46 (by decide) ?_
      refine a_kill [0, 1, 2] ?_
      exact kX12_worked_b50 C hQ hf
  have hf := fx_f h4 hf
  by_cases h6 : x0 = (1 : Int32)
  · have hf := fx_t h6 hf
    refine a_tableIn (off := 53) C 54 dX12_worked_1 (by rw [h6]; decide) (by rw [h6]; decide) (by rw [h6]; first | done | rfl | decide) (by decide) ?_
    refine a_iload_n C dX12_worked_54 rfl ?_
    refine a_iload_n C dX12_worked_55 rfl ?_
    refine a_icmp_le C 63 dX12_worked_56 (by decide) (fun h7 => ?_) (fun h7 => ?_)
    · have hf := fx_t h7 hf
      refine a_iconst C (0 : Int32) dX12_worked_63 (by decide) ?_
      refine a_kill [0, 1, 2] ?_
      exact kX12_worked_b64 C hQ hf
    · have hf := fx_f h7 hf
      refine a_iconst C (1 : Int32) dX12_worked_59 (by decide) ?_
      refine a_goto C 64 dX12_worked_60 (by decide) ?_
      refine a_kill [0, 1, 2] ?_
      exact kX12_worked_b64 C hQ hf
  have hf := fx_f h6 hf
  by_cases h8 : x0 = (2 : Int32)
  · have hf := fx_t h8 hf
    refine a_tableIn (off := 67) C 68 dX12_worked_1 (by rw [h8]; decide) (by rw [h8]; decide) (by rw [h8]; first | done | rfl | decide) (by decide) ?_
    refine a_iload_n C dX12_worked_68 rfl ?_
    refine a_iload_n C dX12_worked_69 rfl ?_
    refine a_icmp_ne C 77 dX12_worked_70 (by decide) (fun h9 => ?_) (fun h9 => ?_)
    · have hf := fx_f h9 hf
      refine a_iconst C (0 : Int32) dX12_worked_77 (by decide) ?_
      refine a_kill [0, 1, 2] ?_
      exact kX12_worked_b78 C hQ hf
    · have hf := fx_t h9 hf
      refine a_iconst C (1 : Int32) dX12_worked_73 (by decide) ?_
      refine a_goto C 78 dX12_worked_74 (by decide) ?_
      refine a_kill [0, 1, 2] ?_
      exact kX12_worked_b78 C hQ hf
  have hf := fx_f h8 hf
  by_cases h10 : x0 = (3 : Int32)
  · have hf := fx_t h10 hf
    refine a_tableIn (off := 81) C 82 dX12_worked_1 (by rw [h10]; decide) (by rw [h10]; decide) (by rw [h10]; first | done | rfl | decide) (by decide) ?_
    refine a_iload_n C dX12_worked_82 rfl ?_
    refine a_iload_n C dX12_worked_83 rfl ?_
    refine a_iadd C dX12_worked_84 ?_
    obtain rfl := fx_some hf
    exact a_iret C hQ dX12_worked_85 ⟨rfl, rfl⟩
  have hf := fx_f h10 hf
  by_cases h11 : x0 = (4 : Int32)
  · have hf := fx_t h11 hf
    refine a_tableIn (off := 85) C 86 dX12_worked_1 (by rw [h11]; decide) (by rw [h11]; decide) (by rw [h11]; first | done | rfl | decide) (by decide) ?_
    refine a_iload_n C dX12_worked_86 rfl ?_
    refine a_iload_n C dX12_worked_87 rfl ?_
    refine a_isub C dX12_worked_88 ?_
    obtain rfl := fx_some hf
    exact a_iret C hQ dX12_worked_89 ⟨rfl, rfl⟩
  have hf := fx_f h11 hf
  by_cases h12 : x0 = (5 : Int32)
  · have hf := fx_t h12 hf
    refine a_tableIn (off := 89) C 90 dX12_worked_1 (by rw [h12]; decide) (by rw [h12]; decide) (by rw [h12]; first | done | rfl | decide) (by decide) ?_
    refine a_iload_n C dX12_worked_90 rfl ?_
    refine a_iload_n C dX12_worked_91 rfl ?_
    refine a_imul C dX12_worked_92 ?_
    obtain rfl := fx_some hf
    exact a_iret C hQ dX12_worked_93 ⟨rfl, rfl⟩
  have hf := fx_f h12 hf
  refine a_tableOut C 94 dX12_worked_1 (by have z0 := lv_neT (a := 0) h4 (by decide); have z1 := lv_neT (a := 1) h6 (by decide); have z2 := lv_neT (a := 2) h8 (by decide); have z3 := lv_neT (a := 3) h10 (by decide); have z4 := lv_neT (a := 4) h11 (by decide); have z5 := lv_neT (a := 5) h12 (by decide); omega) (by decide) ?_
  refine a_iload_n C dX12_worked_94 rfl ?_
  refine a_if_ne C 102 dX12_worked_95 (by decide) (fun h13 => ?_) (fun h13 => ?_)
  · have hf := fx_f h13 hf
    refine a_iload_n C dX12_worked_102 rfl ?_
    refine a_iload_n C dX12_worked_103 rfl ?_
    obtain ⟨h14, hf⟩ := fx_ite hf
    refine a_idiv C dX12_worked_104 h14 ?_
    refine a_kill [0, 1, 2] ?_
    exact kX12_worked_b105 C hQ hf
  · have hf := fx_t h13 hf
    refine a_iconst C (0 : Int32) dX12_worked_98 (by decide) ?_
    refine a_goto C 105 dX12_worked_99 (by decide) ?_
    refine a_kill [0, 1, 2] ?_
    exact kX12_worked_b105 C hQ hf
-- X12_ruled
abbrev rmX12_ruled : Room := { frames := 2, cells := 0, slots := 0, locals := 42 }
theorem dvX12_ruled : yX12_ruled.cls = RX12 ∧ yX12_ruled.cls ≠ "java/lang/invoke/MethodHandle" ∧ yX12_ruled.cls ≠ "java/lang/invoke/VarHandle" ∧ (parseMethodDescriptor yX12_ruled.desc).map (fun d => d.parameters.length) = some 0 := by decide +kernel
theorem eX12_ruled_inX12 : ∀ w ∈ wsX120, w ∈ wsX12_ruled := by decide +kernel
theorem eX12_ruled_238 : aF wsX12_ruled RX12 238 12 23 := ⟨RX12, TX12, 53, rfl, eX12_ruled_inX12, by decide, by decide +kernel⟩
theorem eX12_ruled_54 : aF wsX12_ruled RX12 54 12 25 := ⟨RX12, TX12, 53, rfl, eX12_ruled_inX12, by decide, by decide +kernel⟩
theorem eX12_ruled_57 : aF wsX12_ruled RX12 57 12 26 := ⟨RX12, TX12, 53, rfl, eX12_ruled_inX12, by decide, by decide +kernel⟩
theorem eX12_ruled_48 : aF wsX12_ruled RX12 48 12 21 := ⟨RX12, TX12, 53, rfl, eX12_ruled_inX12, by decide, by decide +kernel⟩
def fX12_ruled_b162 (io_codeLong : Int32) (co_code : Nat → Int32) (co_stack : Nat → Int32) (co_asked : Nat → Int32) (s0 : Int32) : Option (Int32 × (Nat → Int32)) :=
  some (s0, co_stack)
set_option maxHeartbeats 400000 in
set_option maxRecDepth 100000 in
theorem kX12_ruled_b162 {X : cxT} {l : Launch} {D : va_G} {Y : Nat → ClassId} {ao : Nat → Nat} {io_thrown : Int32} {io_rows : Int32} {io_cells : Int32} {io_children : Int32} {io_changes : Int32} {io_taped : Int32} {io_at : Int32} {io_to : Int32} {io_nest : Int32} {io_readMany : Int32} {io_codeLong : Int32} {io_readLong : Int32} {io_undos : Int32} {io_wentHome : Int32} {io_tideLevel : Int32} {io_acts : Int32} {io_firstBreaks : Int32} {io_bestCrew : Int32} {io_sights : Int32} {io_wayMany : Int32} {io_random : Int32} {co_code : Nat → Int32} {co_stack : Nat → Int32} {co_asked : Nat → Int32} {s0 : Int32} {res : Int32 × (Nat → Int32)} (C : axC X l D Y cX12_ruled 4 RX12 wsX12_ruled rmX12_ruled (some .int)) (hQ : axQ X 0 0 (fun r9 w9 => r9 = (some (.int res.1)) ∧ w9 = [oX12 ao io_thrown io_rows io_cells io_children io_changes io_taped io_at io_to io_nest io_readMany io_codeLong io_readLong io_undos io_wentHome io_tideLevel io_acts io_firstBreaks io_bestCrew io_sights io_wayMany io_random, rI Y (ao 12) 80 co_code, rI Y (ao 14) 80 res.2, rI Y (ao 15) 4 co_asked])) (hf : fX12_ruled_b162 io_codeLong co_code co_stack co_asked s0 = some res) : ax X 0 0 162 [none, none, none, none] [oX12 ao io_thrown io_rows io_cells io_children io_changes io_taped io_at io_to io_nest io_readMany io_codeLong io_readLong io_undos io_wentHome io_tideLevel io_acts io_firstBreaks io_bestCrew io_sights io_wayMany io_random, rI Y (ao 12) 80 co_code, rI Y (ao 14) 80 co_stack, rI Y (ao 15) 4 co_asked] [.int s0] := by
  unfold fX12_ruled_b162 at hf
  obtain rfl := fx_some hf
  exact a_iret C hQ dX12_ruled_162 ⟨rfl, rfl⟩
def fX12_ruled_b125 (io_codeLong : Int32) (co_code : Nat → Int32) (co_stack : Nat → Int32) (co_asked : Nat → Int32) : Option (Int32 × (Nat → Int32)) :=
  if io_codeLong = (0 : Int32) then (if inb (1 : Int32) 4 then if inb (0 : Int32) 4 then fX12_ruled_b162 io_codeLong co_code co_stack co_asked (((30 : Int32) + ((10 : Int32) * (co_asked (Int32.toNatClampNeg (1 : Int32))))) + ((5 : Int32) * (co_asked (Int32.toNatClampNeg (0 : Int32))))) else none else none) else (if inb (0 : Int32) 80 then fX12_ruled_b162 io_codeLong co_code co_stack co_asked (co_stack (Int32.toNatClampNeg (0 : Int32))) else none)
set_option maxHeartbeats 400000 in
set_option maxRecDepth 100000 in
theorem kX12_ruled_b125 {X : cxT} {l : Launch} {D : va_G} {Y : Nat → ClassId} {ao : Nat → Nat} {io_thrown : Int32} {io_rows : Int32} {io_cells : Int32} {io_children : Int32} {io_changes : Int32} {io_taped : Int32} {io_at : Int32} {io_to : Int32} {io_nest : Int32} {io_readMany : Int32} {io_codeLong : Int32} {io_readLong : Int32} {io_undos : Int32} {io_wentHome : Int32} {io_tideLevel : Int32} {io_acts : Int32} {io_firstBreaks : Int32} {io_bestCrew : Int32} {io_sights : Int32} {io_wayMany : Int32} {io_random : Int32} {co_code : Nat → Int32} {co_stack : Nat → Int32} {co_asked : Nat → Int32} {res : Int32 × (Nat → Int32)} (C : axC X l D Y cX12_ruled 4 RX12 wsX12_ruled rmX12_ruled (some .int)) (hQ : axQ X 0 0 (fun r9 w9 => r9 = (some (.int res.1)) ∧ w9 = [oX12 ao io_thrown io_rows io_cells io_children io_changes io_taped io_at io_to io_nest io_readMany io_codeLong io_readLong io_undos io_wentHome io_tideLevel io_acts io_firstBreaks io_bestCrew io_sights io_wayMany io_random, rI Y (ao 12) 80 co_code, rI Y (ao 14) 80 res.2, rI Y (ao 15) 4 co_asked])) (hf : fX12_ruled_b125 io_codeLong co_code co_stack co_asked = some res) : ax X 0 0 125 [some (.ref (ao 0)), none, none, none] [oX12 ao io_thrown io_rows io_cells io_children io_changes io_taped io_at io_to io_nest io_readMany io_codeLong io_readLong io_undos io_wentHome io_tideLevel io_acts io_firstBreaks io_bestCrew io_sights io_wayMany io_random, rI Y (ao 12) 80 co_code, rI Y (ao 14) 80 co_stack, rI Y (ao 15) 4 co_asked] [] := by
  unfold fX12_ruled_b125 at hf
  refine a_aload_n C dX12_ruled_125 rfl ?_
  refine a_get C eX12_ruled_238 dX12_ruled_126 0 rfl rfl ?_
  refine a_if_ne C 156 dX12_ruled_129 (by decide) (fun h1 => ?_) (fun h1 => ?_)
  · have hf := fx_f h1 hf
    refine a_aload_n C dX12_ruled_156 rfl ?_
    refine a_get C eX12_ruled_54 dX12_ruled_157 0 rfl rfl ?_
    refine a_iconst C (0 : Int32) dX12_ruled_160 (by decide) ?_
    obtain ⟨h2, hf⟩ := fx_ite hf
    refine a_iald C dX12_ruled_161 2 rfl h2 ?_
    refine a_kill [0] ?_
    exact kX12_ruled_b162 C hQ hf
  · have hf := fx_t h1 hf
    refine a_bipush C (30 : Int32) dX12_ruled_132 (by decide) ?_
    refine a_bipush C (10 : Int32) dX12_ruled_134 (by decide) ?_
    refine a_aload_n C dX12_ruled_136 rfl ?_
    refine a_get C eX12_ruled_57 dX12_ruled_137 0 rfl rfl ?_
    refine a_iconst C (1 : Int32) dX12_ruled_140 (by decide) ?_
    obtain ⟨h3, hf⟩ := fx_ite hf
    refine a_iald C dX12_ruled_141 3 rfl h3 ?_
    refine a_imul C dX12_ruled_142 ?_
    refine a_iadd C dX12_ruled_143 ?_
    refine a_iconst C (5 : Int32) dX12_ruled_144 (by decide) ?_
    refine a_aload_n C dX12_ruled_145 rfl ?_
    refine a_get C eX12_ruled_57 dX12_ruled_146 0 rfl rfl ?_
    refine a_iconst C (0 : Int32) dX12_ruled_149 (by decide) ?_
    obtain ⟨h4, hf⟩ := fx_ite hf
    refine a_iald C dX12_ruled_150 3 rfl h4 ?_
    refine a_imul C dX12_ruled_151 ?_
    refine a_iadd C dX12_ruled_152 ?_
    refine a_goto C 162 dX12_ruled_153 (by decide) ?_
    refine a_kill [0] ?_
    exact kX12_ruled_b162 C hQ hf
def fX12_ruled_b119 (io_codeLong : Int32) (co_code : Nat → Int32) (co_stack : Nat → Int32) (co_asked : Nat → Int32) (x1 : Int32) (x2 : Int32) (k4 : (Nat → Int32) × Int32 × Int32 → Option (Int32 × (Nat → Int32))) : Option (Int32 × (Nat → Int32)) :=
  k4 (co_stack, x1, (x2 + (1 : Int32)))
set_option maxHeartbeats 400000 in
set_option maxRecDepth 100000 in
theorem kX12_ruled_b119 {X : cxT} {l : Launch} {D : va_G} {Y : Nat → ClassId} {ao : Nat → Nat} {io_thrown : Int32} {io_rows : Int32} {io_cells : Int32} {io_children : Int32} {io_changes : Int32} {io_taped : Int32} {io_at : Int32} {io_to : Int32} {io_nest : Int32} {io_readMany : Int32} {io_codeLong : Int32} {io_readLong : Int32} {io_undos : Int32} {io_wentHome : Int32} {io_tideLevel : Int32} {io_acts : Int32} {io_firstBreaks : Int32} {io_bestCrew : Int32} {io_sights : Int32} {io_wayMany : Int32} {io_random : Int32} {co_code : Nat → Int32} {co_stack : Nat → Int32} {co_asked : Nat → Int32} {x1 : Int32} {x2 : Int32} {res : Int32 × (Nat → Int32)} (C : axC X l D Y cX12_ruled 4 RX12 wsX12_ruled rmX12_ruled (some .int)) (hQ : axQ X 0 0 (fun r9 w9 => r9 = (some (.int res.1)) ∧ w9 = [oX12 ao io_thrown io_rows io_cells io_children io_changes io_taped io_at io_to io_nest io_readMany io_codeLong io_readLong io_undos io_wentHome io_tideLevel io_acts io_firstBreaks io_bestCrew io_sights io_wayMany io_random, rI Y (ao 12) 80 co_code, rI Y (ao 14) 80 res.2, rI Y (ao 15) 4 co_asked])) {k4 : (Nat → Int32) × Int32 × Int32 → Option (Int32 × (Nat → Int32))} (hk4 : ∀ s : (Nat → Int32) × Int32 × Int32, k4 s = some res → ax X 0 0 4 [some (.ref (ao 0)), some (.int s.2.1), some (.int s.2.2), none] [oX12 ao io_thrown io_rows io_cells io_children io_changes io_taped io_at io_to io_nest io_readMany io_codeLong io_readLong io_undos io_wentHome io_tideLevel io_acts io_firstBreaks io_bestCrew io_sights io_wayMany io_random, rI Y (ao 12) 80 co_code, rI Y (ao 14) 80 s.1, rI Y (ao 15) 4 co_asked] []) (hf : fX12_ruled_b119 io_codeLong co_code co_stack co_asked x1 x2 k4 = some res) : ax X 0 0 119 [some (.ref (ao 0)), some (.int x1), some (.int x2), none] [oX12 ao io_thrown io_rows io_cells io_children io_changes io_taped io_at io_to io_nest io_readMany io_codeLong io_readLong io_undos io_wentHome io_tideLevel io_acts io_firstBreaks io_bestCrew io_sights io_wayMany io_random, rI Y (ao 12) 80 co_code, rI Y (ao 14) 80 co_stack, rI Y (ao 15) 4 co_asked] [] := by
  unfold fX12_ruled_b119 at hf
  refine a_iinc C (1 : Int32) dX12_ruled_119 (by decide) rfl (by decide) rfl ?_
  refine a_goto C 4 dX12_ruled_122 (by decide) ?_
  exact hk4 (co_stack, x1, (x2 + (1 : Int32))) hf
def fX12_ruled_b115 (io_codeLong : Int32) (co_code : Nat → Int32) (co_stack : Nat → Int32) (co_asked : Nat → Int32) (x1 : Int32) (x2 : Int32) (s1 : Int32) (s2 : Int32) (k4 : (Nat → Int32) × Int32 × Int32 → Option (Int32 × (Nat → Int32))) : Option (Int32 × (Nat → Int32)) :=
  if inb s1 80 then fX12_ruled_b119 io_codeLong co_code (upd co_stack (Int32.toNatClampNeg s1) s2) co_asked (x1 + (1 : Int32)) x2 k4 else none
set_option maxHeartbeats 400000 in
set_option maxRecDepth 100000 in
theorem kX12_ruled_b115 {X : cxT} {l : Launch} {D : va_G} {Y : Nat → ClassId} {ao : Nat → Nat} {io_thrown : Int32} {io_rows : Int32} {io_cells : Int32} {io_children : Int32} {io_changes : Int32} {io_taped : Int32} {io_at : Int32} {io_to : Int32} {io_nest : Int32} {io_readMany : Int32} {io_codeLong : Int32} {io_readLong : Int32} {io_undos : Int32} {io_wentHome : Int32} {io_tideLevel : Int32} {io_acts : Int32} {io_firstBreaks : Int32} {io_bestCrew : Int32} {io_sights : Int32} {io_wayMany : Int32} {io_random : Int32} {co_code : Nat → Int32} {co_stack : Nat → Int32} {co_asked : Nat → Int32} {x1 : Int32} {x2 : Int32} {s1 : Int32} {s2 : Int32} {res : Int32 × (Nat → Int32)} (C : axC X l D Y cX12_ruled 4 RX12 wsX12_ruled rmX12_ruled (some .int)) (hQ : axQ X 0 0 (fun r9 w9 => r9 = (some (.int res.1)) ∧ w9 = [oX12 ao io_thrown io_rows io_cells io_children io_changes io_taped io_at io_to io_nest io_readMany io_codeLong io_readLong io_undos io_wentHome io_tideLevel io_acts io_firstBreaks io_bestCrew io_sights io_wayMany io_random, rI Y (ao 12) 80 co_code, rI Y (ao 14) 80 res.2, rI Y (ao 15) 4 co_asked])) {k4 : (Nat → Int32) × Int32 × Int32 → Option (Int32 × (Nat → Int32))} (hk4 : ∀ s : (Nat → Int32) × Int32 × Int32, k4 s = some res → ax X 0 0 4 [some (.ref (ao 0)), some (.int s.2.1), some (.int s.2.2), none] [oX12 ao io_thrown io_rows io_cells io_children io_changes io_taped io_at io_to io_nest io_readMany io_codeLong io_readLong io_undos io_wentHome io_tideLevel io_acts io_firstBreaks io_bestCrew io_sights io_wayMany io_random, rI Y (ao 12) 80 co_code, rI Y (ao 14) 80 s.1, rI Y (ao 15) 4 co_asked] []) (hf : fX12_ruled_b115 io_codeLong co_code co_stack co_asked x1 x2 s1 s2 k4 = some res) : ax X 0 0 115 [some (.ref (ao 0)), some (.int x1), some (.int x2), none] [oX12 ao io_thrown io_rows io_cells io_children io_changes io_taped io_at io_to io_nest io_readMany io_codeLong io_readLong io_undos io_wentHome io_tideLevel io_acts io_firstBreaks io_bestCrew io_sights io_wayMany io_random, rI Y (ao 12) 80 co_code, rI Y (ao 14) 80 co_stack, rI Y (ao 15) 4 co_asked] [.int s2, .int s1, .ref (ao 14)] := by
  unfold fX12_ruled_b115 at hf
  obtain ⟨h5, hf⟩ := fx_ite hf
  refine a_iast C dX12_ruled_115 2 rfl h5 ?_
  refine a_iinc C (1 : Int32) dX12_ruled_116 (by decide) rfl (by decide) rfl ?_
  exact kX12_ruled_b119 C hQ hk4 hf
def fX12_ruled_l4 (io_codeLong : Int32) (co_code : Nat → Int32) (co_asked : Nat → Int32) (k4 : (Nat → Int32) × Int32 × Int32 → Option (Int32 × (Nat → Int32))) (co_stack : Nat → Int32) (x1 : Int32) (x2 : Int32) : Option (Int32 × (Nat → Int32)) :=
  if io_codeLong ≤ x2 then (fX12_ruled_b125 io_codeLong co_code co_stack co_asked) else (if inb x2 80 then if (co_code (Int32.toNatClampNeg x2)) = (3000 : Int32) then (if inb (x1 - (1 : Int32)) 80 then fX12_ruled_b119 io_codeLong co_code (upd co_stack (Int32.toNatClampNeg (x1 - (1 : Int32))) (-(co_stack (Int32.toNatClampNeg (x1 - (1 : Int32)))))) co_asked x1 x2 k4 else none) else (if (co_code (Int32.toNatClampNeg x2)) < (2000 : Int32) then (if (co_code (Int32.toNatClampNeg x2)) < (1000 : Int32) then (fX12_ruled_b115 io_codeLong co_code co_stack co_asked x1 x2 x1 (co_code (Int32.toNatClampNeg x2)) k4) else (if inb ((co_code (Int32.toNatClampNeg x2)) - (1000 : Int32)) 4 then fX12_ruled_b115 io_codeLong co_code co_stack co_asked x1 x2 x1 (co_asked (Int32.toNatClampNeg ((co_code (Int32.toNatClampNeg x2)) - (1000 : Int32)))) k4 else none)) else (if inb ((x1 + (-1 : Int32)) - (1 : Int32)) 80 then if inb (x1 + (-1 : Int32)) 80 then (fX12_worked ((co_code (Int32.toNatClampNeg x2)) - (2000 : Int32)) (co_stack (Int32.toNatClampNeg ((x1 + (-1 : Int32)) - (1 : Int32)))) (co_stack (Int32.toNatClampNeg (x1 + (-1 : Int32))))).bind (fun r14 => fX12_ruled_b119 io_codeLong co_code (upd co_stack (Int32.toNatClampNeg ((x1 + (-1 : Int32)) - (1 : Int32))) r14) co_asked (x1 + (-1 : Int32)) x2 k4) else none else none)) else none)
def fX12_ruled_b4 (io_codeLong : Int32) (co_code : Nat → Int32) (co_stack : Nat → Int32) (co_asked : Nat → Int32) (x1 : Int32) (x2 : Int32) : Option (Int32 × (Nat → Int32)) :=
  loopN (fun (s : (Nat → Int32) × Int32 × Int32) k4 => fX12_ruled_l4 io_codeLong co_code co_asked k4 s.1 s.2.1 s.2.2) FUEL (co_stack, x1, x2)
set_option maxHeartbeats 400000 in
set_option maxRecDepth 100000 in
theorem kX12_ruled_l4 {X : cxT} {l : Launch} {D : va_G} {Y : Nat → ClassId} {ao : Nat → Nat} {io_thrown : Int32} {io_rows : Int32} {io_cells : Int32} {io_children : Int32} {io_changes : Int32} {io_taped : Int32} {io_at : Int32} {io_to : Int32} {io_nest : Int32} {io_readMany : Int32} {io_codeLong : Int32} {io_readLong : Int32} {io_undos : Int32} {io_wentHome : Int32} {io_tideLevel : Int32} {io_acts : Int32} {io_firstBreaks : Int32} {io_bestCrew : Int32} {io_sights : Int32} {io_wayMany : Int32} {io_random : Int32} {co_code : Nat → Int32} {co_stack : Nat → Int32} {co_asked : Nat → Int32} {x1 : Int32} {x2 : Int32} {res : Int32 × (Nat → Int32)} (C : axC X l D Y cX12_ruled 4 RX12 wsX12_ruled rmX12_ruled (some .int)) (hQ : axQ X 0 0 (fun r9 w9 => r9 = (some (.int res.1)) ∧ w9 = [oX12 ao io_thrown io_rows io_cells io_children io_changes io_taped io_at io_to io_nest io_readMany io_codeLong io_readLong io_undos io_wentHome io_tideLevel io_acts io_firstBreaks io_bestCrew io_sights io_wayMany io_random, rI Y (ao 12) 80 co_code, rI Y (ao 14) 80 res.2, rI Y (ao 15) 4 co_asked])) {k4 : (Nat → Int32) × Int32 × Int32 → Option (Int32 × (Nat → Int32))} (hk4 : ∀ s : (Nat → Int32) × Int32 × Int32, k4 s = some res → ax X 0 0 4 [some (.ref (ao 0)), some (.int s.2.1), some (.int s.2.2), none] [oX12 ao io_thrown io_rows io_cells io_children io_changes io_taped io_at io_to io_nest io_readMany io_codeLong io_readLong io_undos io_wentHome io_tideLevel io_acts io_firstBreaks io_bestCrew io_sights io_wayMany io_random, rI Y (ao 12) 80 co_code, rI Y (ao 14) 80 s.1, rI Y (ao 15) 4 co_asked] []) (hf : fX12_ruled_l4 io_codeLong co_code co_asked k4 co_stack x1 x2 = some res) : ax X 0 0 4 [some (.ref (ao 0)), some (.int x1), some (.int x2), none] [oX12 ao io_thrown io_rows io_cells io_children io_changes io_taped io_at io_to io_nest io_readMany io_codeLong io_readLong io_undos io_wentHome io_tideLevel io_acts io_firstBreaks io_bestCrew io_sights io_wayMany io_random, rI Y (ao 12) 80 co_code, rI Y (ao 14) 80 co_stack, rI Y (ao 15) 4 co_asked] [] := by
  unfold fX12_ruled_l4 at hf
  refine a_iload_n C dX12_ruled_4 rfl ?_
  refine a_aload_n C dX12_ruled_5 rfl ?_
  refine a_get C eX12_ruled_238 dX12_ruled_6 0 rfl rfl ?_
  refine a_icmp_ge C 125 dX12_ruled_9 (by decide) (fun h6 => ?_) (fun h6 => ?_)
  · have hf := fx_t h6 hf
    refine a_kill [1, 2] ?_
    exact kX12_ruled_b125 C hQ hf
  · have hf := fx_f h6 hf
    refine a_aload_n C dX12_ruled_12 rfl ?_
    refine a_get C eX12_ruled_48 dX12_ruled_13 0 rfl rfl ?_
    refine a_iload_n C dX12_ruled_16 rfl ?_
    obtain ⟨h7, hf⟩ := fx_ite hf
    refine a_iald C dX12_ruled_17 1 rfl h7 ?_
    refine a_istore_n C dX12_ruled_18 (by decide) rfl ?_
    refine a_iload_n C dX12_ruled_19 rfl ?_
    refine a_sipush C (3000 : Int32) dX12_ruled_20 (by decide) ?_
    refine a_icmp_ne C 46 dX12_ruled_23 (by decide) (fun h8 => ?_) (fun h8 => ?_)
    · have hf := fx_f h8 hf
      refine a_iload_n C dX12_ruled_46 rfl ?_
      refine a_sipush C (2000 : Int32) dX12_ruled_47 (by decide) ?_
      refine a_icmp_lt C 89 dX12_ruled_50 (by decide) (fun h9 => ?_) (fun h9 => ?_)
      · have hf := fx_t h9 hf
        refine a_aload_n C dX12_ruled_89 rfl ?_
        refine a_get C eX12_ruled_54 dX12_ruled_90 0 rfl rfl ?_
        refine a_iload_n C dX12_ruled_93 rfl ?_
        refine a_iload_n C dX12_ruled_94 rfl ?_
        refine a_sipush C (1000 : Int32) dX12_ruled_95 (by decide) ?_
        refine a_icmp_lt C 114 dX12_ruled_98 (by decide) (fun h10 => ?_) (fun h10 => ?_)
        · have hf := fx_t h10 hf
          refine a_iload_n C dX12_ruled_114 rfl ?_
          refine a_kill [3] ?_
          exact kX12_ruled_b115 C hQ hk4 hf
        · have hf := fx_f h10 hf
          refine a_aload_n C dX12_ruled_101 rfl ?_
          refine a_get C eX12_ruled_57 dX12_ruled_102 0 rfl rfl ?_
          refine a_iload_n C dX12_ruled_105 rfl ?_
          refine a_sipush C (1000 : Int32) dX12_ruled_106 (by decide) ?_
          refine a_isub C dX12_ruled_109 ?_
          obtain ⟨h11, hf⟩ := fx_ite hf
          refine a_iald C dX12_ruled_110 3 rfl h11 ?_
          refine a_goto C 115 dX12_ruled_111 (by decide) ?_
          refine a_kill [3] ?_
          exact kX12_ruled_b115 C hQ hk4 hf
      · have hf := fx_f h9 hf
        refine a_iinc C (-1 : Int32) dX12_ruled_53 (by decide) rfl (by decide) rfl ?_
        refine a_aload_n C dX12_ruled_56 rfl ?_
        refine a_get C eX12_ruled_54 dX12_ruled_57 0 rfl rfl ?_
        refine a_iload_n C dX12_ruled_60 rfl ?_
        refine a_iconst C (1 : Int32) dX12_ruled_61 (by decide) ?_
        refine a_isub C dX12_ruled_62 ?_
        refine a_iload_n C dX12_ruled_63 rfl ?_
        refine a_sipush C (2000 : Int32) dX12_ruled_64 (by decide) ?_
        refine a_isub C dX12_ruled_67 ?_
        refine a_aload_n C dX12_ruled_68 rfl ?_
        refine a_get C eX12_ruled_54 dX12_ruled_69 0 rfl rfl ?_
        refine a_iload_n C dX12_ruled_72 rfl ?_
        refine a_iconst C (1 : Int32) dX12_ruled_73 (by decide) ?_
        refine a_isub C dX12_ruled_74 ?_
        obtain ⟨h12, hf⟩ := fx_ite hf
        refine a_iald C dX12_ruled_75 2 rfl h12 ?_
        refine a_aload_n C dX12_ruled_76 rfl ?_
        refine a_get C eX12_ruled_54 dX12_ruled_77 0 rfl rfl ?_
        refine a_iload_n C dX12_ruled_80 rfl ?_
        obtain ⟨h13, hf⟩ := fx_ite hf
        refine a_iald C dX12_ruled_81 2 rfl h13 ?_
        obtain ⟨r14, h14, hf⟩ := fx_bind hf
        refine a_fS C (kX12_worked l D Y ((co_code (Int32.toNatClampNeg x2)) - (2000 : Int32)) (co_stack (Int32.toNatClampNeg ((x1 + (-1 : Int32)) - (1 : Int32)))) (co_stack (Int32.toNatClampNeg (x1 + (-1 : Int32)))) r14 h14) gX12_ruled_X12_worked rfl dvX12_worked ⟨⟨rfl, rfl⟩, ⟨Nat.le_of_ble_eq_true rfl, Nat.le_of_ble_eq_true rfl⟩, ⟨Nat.le_of_ble_eq_true rfl, Nat.le_of_ble_eq_true rfl⟩⟩ rfl (Nat.le_of_ble_eq_true rfl) dX12_ruled_82 [] [0, 1, 2, 3] trivial rfl rfl [oX12 ao io_thrown io_rows io_cells io_children io_changes io_taped io_at io_to io_nest io_readMany io_codeLong io_readLong io_undos io_wentHome io_tideLevel io_acts io_firstBreaks io_bestCrew io_sights io_wayMany io_random, rI Y (ao 12) 80 co_code, rI Y (ao 14) 80 co_stack, rI Y (ao 15) 4 co_asked] trivial ⟨rfl, rfl, rfl, rfl, trivial⟩ rfl ?_
        refine a_iast C dX12_ruled_85 2 rfl h12 ?_
        refine a_goto C 119 dX12_ruled_86 (by decide) ?_
        refine a_kill [3] ?_
        exact kX12_ruled_b119 C hQ hk4 hf
    · have hf := fx_t h8 hf
      refine a_aload_n C dX12_ruled_26 rfl ?_
      refine a_get C eX12_ruled_54 dX12_ruled_27 0 rfl rfl ?_
      refine a_iload_n C dX12_ruled_30 rfl ?_
      refine a_iconst C (1 : Int32) dX12_ruled_31 (by decide) ?_
      refine a_isub C dX12_ruled_32 ?_
      refine a_aload_n C dX12_ruled_33 rfl ?_
      refine a_get C eX12_ruled_54 dX12_ruled_34 0 rfl rfl ?_
      refine a_iload_n C dX12_ruled_37 rfl ?_
      refine a_iconst C (1 : Int32) dX12_ruled_38 (by decide) ?_
      refine a_isub C dX12_ruled_39 ?_
      obtain ⟨h15, hf⟩ := fx_ite hf
      refine a_iald C dX12_ruled_40 2 rfl h15 ?_
      refine a_ineg C dX12_ruled_41 ?_
      refine a_iast C dX12_ruled_42 2 rfl h15 ?_
      refine a_goto C 119 dX12_ruled_43 (by decide) ?_
      refine a_kill [3] ?_
      exact kX12_ruled_b119 C hQ hk4 hf
set_option maxHeartbeats 400000 in
set_option maxRecDepth 100000 in
theorem kX12_ruled_b4 {X : cxT} {l : Launch} {D : va_G} {Y : Nat → ClassId} {ao : Nat → Nat} {io_thrown : Int32} {io_rows : Int32} {io_cells : Int32} {io_children : Int32} {io_changes : Int32} {io_taped : Int32} {io_at : Int32} {io_to : Int32} {io_nest : Int32} {io_readMany : Int32} {io_codeLong : Int32} {io_readLong : Int32} {io_undos : Int32} {io_wentHome : Int32} {io_tideLevel : Int32} {io_acts : Int32} {io_firstBreaks : Int32} {io_bestCrew : Int32} {io_sights : Int32} {io_wayMany : Int32} {io_random : Int32} {co_code : Nat → Int32} {co_stack : Nat → Int32} {co_asked : Nat → Int32} {x1 : Int32} {x2 : Int32} {res : Int32 × (Nat → Int32)} (C : axC X l D Y cX12_ruled 4 RX12 wsX12_ruled rmX12_ruled (some .int)) (hQ : axQ X 0 0 (fun r9 w9 => r9 = (some (.int res.1)) ∧ w9 = [oX12 ao io_thrown io_rows io_cells io_children io_changes io_taped io_at io_to io_nest io_readMany io_codeLong io_readLong io_undos io_wentHome io_tideLevel io_acts io_firstBreaks io_bestCrew io_sights io_wayMany io_random, rI Y (ao 12) 80 co_code, rI Y (ao 14) 80 res.2, rI Y (ao 15) 4 co_asked])) (hf : fX12_ruled_b4 io_codeLong co_code co_stack co_asked x1 x2 = some res) : ax X 0 0 4 [some (.ref (ao 0)), some (.int x1), some (.int x2), none] [oX12 ao io_thrown io_rows io_cells io_children io_changes io_taped io_at io_to io_nest io_readMany io_codeLong io_readLong io_undos io_wentHome io_tideLevel io_acts io_firstBreaks io_bestCrew io_sights io_wayMany io_random, rI Y (ao 12) 80 co_code, rI Y (ao 14) 80 co_stack, rI Y (ao 15) 4 co_asked] [] := by
  unfold fX12_ruled_b4 at hf
  exact fx_loop (P := fun s : (Nat → Int32) × Int32 × Int32 => ax X 0 0 4 [some (.ref (ao 0)), some (.int s.2.1), some (.int s.2.2), none] [oX12 ao io_thrown io_rows io_cells io_children io_changes io_taped io_at io_to io_nest io_readMany io_codeLong io_readLong io_undos io_wentHome io_tideLevel io_acts io_firstBreaks io_bestCrew io_sights io_wayMany io_random, rI Y (ao 12) 80 co_code, rI Y (ao 14) 80 s.1, rI Y (ao 15) 4 co_asked] []) (fun s k4 hk4 h => kX12_ruled_l4 C hQ hk4 h) FUEL (co_stack, x1, x2) hf
def fX12_ruled (io_codeLong : Int32) (co_code : Nat → Int32) (co_stack : Nat → Int32) (co_asked : Nat → Int32) : Option (Int32 × (Nat → Int32)) :=
  fX12_ruled_b4 io_codeLong co_code co_stack co_asked (0 : Int32) (0 : Int32)
set_option maxHeartbeats 400000 in
set_option maxRecDepth 100000 in
theorem kX12_ruled (l : Launch) (D : va_G) (Y : Nat → ClassId) (ao : Nat → Nat) (io_thrown : Int32) (io_rows : Int32) (io_cells : Int32) (io_children : Int32) (io_changes : Int32) (io_taped : Int32) (io_at : Int32) (io_to : Int32) (io_nest : Int32) (io_readMany : Int32) (io_codeLong : Int32) (io_readLong : Int32) (io_undos : Int32) (io_wentHome : Int32) (io_tideLevel : Int32) (io_acts : Int32) (io_firstBreaks : Int32) (io_bestCrew : Int32) (io_sights : Int32) (io_wayMany : Int32) (io_random : Int32) (co_code : Nat → Int32) (co_stack : Nat → Int32) (co_asked : Nat → Int32) (res : Int32 × (Nat → Int32)) (hf : fX12_ruled io_codeLong co_code co_stack co_asked = some res) : amf l D Y yX12_ruled wsX12_ruled rmX12_ruled [.ref (ao 0)] [oX12 ao io_thrown io_rows io_cells io_children io_changes io_taped io_at io_to io_nest io_readMany io_codeLong io_readLong io_undos io_wentHome io_tideLevel io_acts io_firstBreaks io_bestCrew io_sights io_wayMany io_random, rI Y (ao 12) 80 co_code, rI Y (ao 14) 80 co_stack, rI Y (ao 15) 4 co_asked] (some (.int res.1)) [oX12 ao io_thrown io_rows io_cells io_children io_changes io_taped io_at io_to io_nest io_readMany io_codeLong io_readLong io_undos io_wentHome io_tideLevel io_acts io_firstBreaks io_bestCrew io_sights io_wayMany io_random, rI Y (ao 12) 80 co_code, rI Y (ao 14) 80 res.2, rI Y (ao 15) 4 co_asked] := by
  refine amf.of (cc := cX12_ruled) (maxL := 4) (rt := (some .int)) (by decide) rfl RX12 rfl (Nat.le_of_ble_eq_true rfl) [some (.ref (ao 0)), none, none, none] rfl ?_
  intro X C hQ
  unfold fX12_ruled at hf
  refine a_iconst C (0 : Int32) dX12_ruled_0 (by decide) ?_
  refine a_istore_n C dX12_ruled_1 (by decide) rfl ?_
  refine a_iconst C (0 : Int32) dX12_ruled_2 (by decide) ?_
  refine a_istore_n C dX12_ruled_3 (by decide) rfl ?_
  exact kX12_ruled_b4 C hQ hf
-- X12_levelOf
abbrev rmX12_levelOf : Room := { frames := 3, cells := 0, slots := 0, locals := 65 }
theorem dvX12_levelOf : yX12_levelOf.cls = RX12 ∧ yX12_levelOf.cls ≠ "java/lang/invoke/MethodHandle" ∧ yX12_levelOf.cls ≠ "java/lang/invoke/VarHandle" ∧ (parseMethodDescriptor yX12_levelOf.desc).map (fun d => d.parameters.length) = some 2 := by decide +kernel
theorem eX12_levelOf_inX12 : ∀ w ∈ wsX120, w ∈ wsX12_levelOf := by decide +kernel
theorem eX12_levelOf_57 : aF wsX12_levelOf RX12 57 12 26 := ⟨RX12, TX12, 53, rfl, eX12_levelOf_inX12, by decide, by decide +kernel⟩
theorem eX12_levelOf_33 : aF wsX12_levelOf RX12 33 12 11 := ⟨RX12, TX12, 53, rfl, eX12_levelOf_inX12, by decide, by decide +kernel⟩
theorem eX12_levelOf_13 : aF wsX12_levelOf RX12 13 12 3 := ⟨RX12, TX12, 53, rfl, eX12_levelOf_inX12, by decide, by decide +kernel⟩
theorem eX12_levelOf_m142 : ∀ w ∈ ([.methodLink RX12 142 Lib.Math.min.name, .static Lib.Math.min.name, .initialized "java/lang/Math", .code Lib.Math.min.name Lib.Math.min.code 2 (some .int)] : List Cond), w ∈ wsX12_levelOf := by decide +kernel
theorem eX12_levelOf_m259 : ∀ w ∈ ([.methodLink RX12 259 Lib.Math.max.name, .static Lib.Math.max.name, .initialized "java/lang/Math", .code Lib.Math.max.name Lib.Math.max.code 2 (some .int)] : List Cond), w ∈ wsX12_levelOf := by decide +kernel
def fX12_levelOf (io_cells : Int32) (io_codeLong : Int32) (co_fixed : Nat → Int32) (co_code : Nat → Int32) (co_stack : Nat → Int32) (co_asked : Nat → Int32) (cp1 : Nat → Int32) (x2 : Int32) : Option (Int32 × (Nat → Int32) × (Nat → Int32)) :=
  if inb (0 : Int32) 4 then if inb (0 : Int32) 2 then if inb (1 : Int32) 4 then if inb (2 : Int32) 4 then if inb (12 : Int32) 43 then (fJ6_bitCount_0f7a4 (cp1 (Int32.toNatClampNeg (12 : Int32)))).bind (fun r6 => if inb (3 : Int32) 4 then (fX12_ruled io_codeLong co_code co_stack (upd (upd (upd (upd co_asked (Int32.toNatClampNeg (0 : Int32)) (jrem x2 (8 : Int32))) (Int32.toNatClampNeg (1 : Int32)) (co_fixed (Int32.toNatClampNeg (0 : Int32)))) (Int32.toNatClampNeg (2 : Int32)) io_cells) (Int32.toNatClampNeg (3 : Int32)) r6)).bind (fun r8 => some ((jmax (0 : Int32) (jmin (999 : Int32) r8.1)), r8.2, (upd (upd (upd (upd co_asked (Int32.toNatClampNeg (0 : Int32)) (jrem x2 (8 : Int32))) (Int32.toNatClampNeg (1 : Int32)) (co_fixed (Int32.toNatClampNeg (0 : Int32)))) (Int32.toNatClampNeg (2 : Int32)) io_cells) (Int32.toNatClampNeg (3 : Int32)) r6))) else none) else none else none else none else none else none
set_option maxHeartbeats 400000 in
set_option maxRecDepth 100000 in
theorem kX12_levelOf (l : Launch) (D : va_G) (Y : Nat → ClassId) (ao : Nat → Nat) (qp1 : Nat) (io_thrown : Int32) (io_rows : Int32) (io_cells : Int32) (io_children : Int32) (io_changes : Int32) (io_taped : Int32) (io_at : Int32) (io_to : Int32) (io_nest : Int32) (io_readMany : Int32) (io_codeLong : Int32) (io_readLong : Int32) (io_undos : Int32) (io_wentHome : Int32) (io_tideLevel : Int32) (io_acts : Int32) (io_firstBreaks : Int32) (io_bestCrew : Int32) (io_sights : Int32) (io_wayMany : Int32) (io_random : Int32) (co_fixed : Nat → Int32) (co_code : Nat → Int32) (co_stack : Nat → Int32) (co_asked : Nat → Int32) (cp1 : Nat → Int32) (x2 : Int32) (res : Int32 × (Nat → Int32) × (Nat → Int32)) (hf : fX12_levelOf io_cells io_codeLong co_fixed co_code co_stack co_asked cp1 x2 = some res) : amf l D Y yX12_levelOf wsX12_levelOf rmX12_levelOf [.ref (ao 0), .ref qp1, .int x2] [oX12 ao io_thrown io_rows io_cells io_children io_changes io_taped io_at io_to io_nest io_readMany io_codeLong io_readLong io_undos io_wentHome io_tideLevel io_acts io_firstBreaks io_bestCrew io_sights io_wayMany io_random, rI Y (ao 7) 2 co_fixed, rI Y (ao 12) 80 co_code, rI Y (ao 14) 80 co_stack, rI Y (ao 15) 4 co_asked, rI Y qp1 43 cp1] (some (.int res.1)) [oX12 ao io_thrown io_rows io_cells io_children io_changes io_taped io_at io_to io_nest io_readMany io_codeLong io_readLong io_undos io_wentHome io_tideLevel io_acts io_firstBreaks io_bestCrew io_sights io_wayMany io_random, rI Y (ao 7) 2 co_fixed, rI Y (ao 12) 80 co_code, rI Y (ao 14) 80 res.2.1, rI Y (ao 15) 4 res.2.2, rI Y qp1 43 cp1] := by
  refine amf.of (cc := cX12_levelOf) (maxL := 3) (rt := (some .int)) (by decide) rfl RX12 rfl (Nat.le_of_ble_eq_true rfl) [some (.ref (ao 0)), some (.ref qp1), some (.int x2)] rfl ?_
  intro X C hQ
  unfold fX12_levelOf at hf
  refine a_aload_n C dX12_levelOf_0 rfl ?_
  refine a_get C eX12_levelOf_57 dX12_levelOf_1 0 rfl rfl ?_
  refine a_iconst C (0 : Int32) dX12_levelOf_4 (by decide) ?_
  refine a_iload_n C dX12_levelOf_5 rfl ?_
  refine a_bipush C (8 : Int32) dX12_levelOf_6 (by decide) ?_
  refine a_irem C dX12_levelOf_8 (by decide) ?_
  obtain ⟨h1, hf⟩ := fx_ite hf
  refine a_iast C dX12_levelOf_9 4 rfl h1 ?_
  refine a_aload_n C dX12_levelOf_10 rfl ?_
  refine a_get C eX12_levelOf_57 dX12_levelOf_11 0 rfl rfl ?_
  refine a_iconst C (1 : Int32) dX12_levelOf_14 (by decide) ?_
  refine a_aload_n C dX12_levelOf_15 rfl ?_
  refine a_get C eX12_levelOf_33 dX12_levelOf_16 0 rfl rfl ?_
  refine a_iconst C (0 : Int32) dX12_levelOf_19 (by decide) ?_
  obtain ⟨h2, hf⟩ := fx_ite hf
  refine a_iald C dX12_levelOf_20 1 rfl h2 ?_
  obtain ⟨h3, hf⟩ := fx_ite hf
  refine a_iast C dX12_levelOf_21 4 rfl h3 ?_
  refine a_aload_n C dX12_levelOf_22 rfl ?_
  refine a_get C eX12_levelOf_57 dX12_levelOf_23 0 rfl rfl ?_
  refine a_iconst C (2 : Int32) dX12_levelOf_26 (by decide) ?_
  refine a_aload_n C dX12_levelOf_27 rfl ?_
  refine a_get C eX12_levelOf_13 dX12_levelOf_28 0 rfl rfl ?_
  obtain ⟨h4, hf⟩ := fx_ite hf
  refine a_iast C dX12_levelOf_31 4 rfl h4 ?_
  refine a_aload_n C dX12_levelOf_32 rfl ?_
  refine a_get C eX12_levelOf_57 dX12_levelOf_33 0 rfl rfl ?_
  refine a_iconst C (3 : Int32) dX12_levelOf_36 (by decide) ?_
  refine a_aload_n C dX12_levelOf_37 rfl ?_
  refine a_bipush C (12 : Int32) dX12_levelOf_38 (by decide) ?_
  obtain ⟨h5, hf⟩ := fx_ite hf
  refine a_iald C dX12_levelOf_40 5 rfl h5 ?_
  obtain ⟨r6, h6, hf⟩ := fx_bind hf
  refine a_fS C (kJ6_bitCount_0f7a4 l D Y (cp1 (Int32.toNatClampNeg (12 : Int32))) r6 h6) gX12_levelOf_J6_bitCount_0f7a4 rfl dvJ6_bitCount_0f7a4 ⟨⟨rfl, rfl⟩, ⟨Nat.le_of_ble_eq_true rfl, Nat.le_of_ble_eq_true rfl⟩, ⟨Nat.le_of_ble_eq_true rfl, Nat.le_of_ble_eq_true rfl⟩⟩ rfl (Nat.le_of_ble_eq_true rfl) dX12_levelOf_41 [] [0, 1, 2, 3, 4, 5] trivial rfl rfl [oX12 ao io_thrown io_rows io_cells io_children io_changes io_taped io_at io_to io_nest io_readMany io_codeLong io_readLong io_undos io_wentHome io_tideLevel io_acts io_firstBreaks io_bestCrew io_sights io_wayMany io_random, rI Y (ao 7) 2 co_fixed, rI Y (ao 12) 80 co_code, rI Y (ao 14) 80 co_stack, rI Y (ao 15) 4 (upd (upd (upd co_asked (Int32.toNatClampNeg (0 : Int32)) (jrem x2 (8 : Int32))) (Int32.toNatClampNeg (1 : Int32)) (co_fixed (Int32.toNatClampNeg (0 : Int32)))) (Int32.toNatClampNeg (2 : Int32)) io_cells), rI Y qp1 43 cp1] trivial ⟨rfl, rfl, rfl, rfl, rfl, rfl, trivial⟩ rfl ?_
  obtain ⟨h7, hf⟩ := fx_ite hf
  refine a_iast C dX12_levelOf_44 4 rfl h7 ?_
  refine a_iconst C (0 : Int32) dX12_levelOf_45 (by decide) ?_
  refine a_sipush C (999 : Int32) dX12_levelOf_46 (by decide) ?_
  refine a_aload_n C dX12_levelOf_49 rfl ?_
  obtain ⟨r8, h8, hf⟩ := fx_bind hf
  refine a_fV C (kX12_ruled l D Y ao io_thrown io_rows io_cells io_children io_changes io_taped io_at io_to io_nest io_readMany io_codeLong io_readLong io_undos io_wentHome io_tideLevel io_acts io_firstBreaks io_bestCrew io_sights io_wayMany io_random co_code co_stack (upd (upd (upd (upd co_asked (Int32.toNatClampNeg (0 : Int32)) (jrem x2 (8 : Int32))) (Int32.toNatClampNeg (1 : Int32)) (co_fixed (Int32.toNatClampNeg (0 : Int32)))) (Int32.toNatClampNeg (2 : Int32)) io_cells) (Int32.toNatClampNeg (3 : Int32)) r6) r8 h8) gX12_levelOf_X12_ruled rfl dvX12_ruled ⟨⟨rfl, rfl⟩, ⟨Nat.le_of_ble_eq_true rfl, Nat.le_of_ble_eq_true rfl⟩, ⟨Nat.le_of_ble_eq_true rfl, Nat.le_of_ble_eq_true rfl⟩⟩ rfl (Nat.le_of_ble_eq_true rfl) dX12_levelOf_50 rfl rfl [0, 2, 3, 4] [1, 5] ⟨rfl, rfl, rfl, rfl, trivial⟩ rfl rfl [oX12 ao io_thrown io_rows io_cells io_children io_changes io_taped io_at io_to io_nest io_readMany io_codeLong io_readLong io_undos io_wentHome io_tideLevel io_acts io_firstBreaks io_bestCrew io_sights io_wayMany io_random, rI Y (ao 7) 2 co_fixed, rI Y (ao 12) 80 co_code, rI Y (ao 14) 80 r8.2, rI Y (ao 15) 4 (upd (upd (upd (upd co_asked (Int32.toNatClampNeg (0 : Int32)) (jrem x2 (8 : Int32))) (Int32.toNatClampNeg (1 : Int32)) (co_fixed (Int32.toNatClampNeg (0 : Int32)))) (Int32.toNatClampNeg (2 : Int32)) io_cells) (Int32.toNatClampNeg (3 : Int32)) r6), rI Y qp1 43 cp1] ⟨rfl, rfl, rfl, rfl, trivial⟩ ⟨rfl, rfl, trivial⟩ rfl ?_
  refine a_mmin C dX12_levelOf_53 eX12_levelOf_m142 ⟨⟨Nat.le_of_ble_eq_true rfl, Nat.le_of_ble_eq_true rfl⟩, ⟨Nat.le_of_ble_eq_true rfl, Nat.le_of_ble_eq_true rfl⟩⟩ (Nat.le_of_ble_eq_true rfl) ?_
  refine a_mmax C dX12_levelOf_56 eX12_levelOf_m259 ⟨⟨Nat.le_of_ble_eq_true rfl, Nat.le_of_ble_eq_true rfl⟩, ⟨Nat.le_of_ble_eq_true rfl, Nat.le_of_ble_eq_true rfl⟩⟩ (Nat.le_of_ble_eq_true rfl) ?_
  obtain rfl := fx_some hf
  exact a_iret C hQ dX12_levelOf_59 ⟨rfl, rfl⟩
-- X12_areNear
abbrev rmX12_areNear : Room := { frames := 1, cells := 0, slots := 0, locals := 21 }
theorem dvX12_areNear : yX12_areNear.cls = RX12 ∧ yX12_areNear.cls ≠ "java/lang/invoke/MethodHandle" ∧ yX12_areNear.cls ≠ "java/lang/invoke/VarHandle" ∧ (parseMethodDescriptor yX12_areNear.desc).map (fun d => d.parameters.length) = some 3 := by decide +kernel
theorem eX12_areNear_m262 : ∀ w ∈ ([.methodLink RX12 262 Lib.Math.abs.name, .static Lib.Math.abs.name, .initialized "java/lang/Math", .code Lib.Math.abs.name Lib.Math.abs.code 1 (some .int)] : List Cond), w ∈ wsX12_areNear := by decide +kernel
def fX12_areNear_b47 (cp1 : Nat → Int32) (s0 : Int32) : Option (Int32) :=
  if s0 = 0 ∨ s0 = 1 then some s0 else none
set_option maxHeartbeats 400000 in
set_option maxRecDepth 100000 in
theorem kX12_areNear_b47 {X : cxT} {l : Launch} {D : va_G} {Y : Nat → ClassId} {ao : Nat → Nat} {qp1 : Nat} {io_thrown : Int32} {io_rows : Int32} {io_cells : Int32} {io_children : Int32} {io_changes : Int32} {io_taped : Int32} {io_at : Int32} {io_to : Int32} {io_nest : Int32} {io_readMany : Int32} {io_codeLong : Int32} {io_readLong : Int32} {io_undos : Int32} {io_wentHome : Int32} {io_tideLevel : Int32} {io_acts : Int32} {io_firstBreaks : Int32} {io_bestCrew : Int32} {io_sights : Int32} {io_wayMany : Int32} {io_random : Int32} {cp1 : Nat → Int32} {s0 : Int32} {res : Int32} (C : axC X l D Y cX12_areNear 4 RX12 wsX12_areNear rmX12_areNear (some .boolean)) (hQ : axQ X 0 0 (fun r9 w9 => r9 = (some (.int res)) ∧ w9 = [oX12 ao io_thrown io_rows io_cells io_children io_changes io_taped io_at io_to io_nest io_readMany io_codeLong io_readLong io_undos io_wentHome io_tideLevel io_acts io_firstBreaks io_bestCrew io_sights io_wayMany io_random, rI Y qp1 43 cp1])) (hf : fX12_areNear_b47 cp1 s0 = some res) : ax X 0 0 47 [none, none, none, none] [oX12 ao io_thrown io_rows io_cells io_children io_changes io_taped io_at io_to io_nest io_readMany io_codeLong io_readLong io_undos io_wentHome io_tideLevel io_acts io_firstBreaks io_bestCrew io_sights io_wayMany io_random, rI Y qp1 43 cp1] [.int s0] := by
  unfold fX12_areNear_b47 at hf
  obtain ⟨h1, hf⟩ := fx_ite hf
  obtain rfl := fx_some hf
  exact a_zret C hQ h1 dX12_areNear_47 ⟨rfl, rfl⟩
def fX12_areNear_b46 (cp1 : Nat → Int32) : Option (Int32) :=
  fX12_areNear_b47 cp1 (0 : Int32)
set_option maxHeartbeats 400000 in
set_option maxRecDepth 100000 in
theorem kX12_areNear_b46 {X : cxT} {l : Launch} {D : va_G} {Y : Nat → ClassId} {ao : Nat → Nat} {qp1 : Nat} {io_thrown : Int32} {io_rows : Int32} {io_cells : Int32} {io_children : Int32} {io_changes : Int32} {io_taped : Int32} {io_at : Int32} {io_to : Int32} {io_nest : Int32} {io_readMany : Int32} {io_codeLong : Int32} {io_readLong : Int32} {io_undos : Int32} {io_wentHome : Int32} {io_tideLevel : Int32} {io_acts : Int32} {io_firstBreaks : Int32} {io_bestCrew : Int32} {io_sights : Int32} {io_wayMany : Int32} {io_random : Int32} {cp1 : Nat → Int32} {res : Int32} (C : axC X l D Y cX12_areNear 4 RX12 wsX12_areNear rmX12_areNear (some .boolean)) (hQ : axQ X 0 0 (fun r9 w9 => r9 = (some (.int res)) ∧ w9 = [oX12 ao io_thrown io_rows io_cells io_children io_changes io_taped io_at io_to io_nest io_readMany io_codeLong io_readLong io_undos io_wentHome io_tideLevel io_acts io_firstBreaks io_bestCrew io_sights io_wayMany io_random, rI Y qp1 43 cp1])) (hf : fX12_areNear_b46 cp1 = some res) : ax X 0 0 46 [none, none, none, none] [oX12 ao io_thrown io_rows io_cells io_children io_changes io_taped io_at io_to io_nest io_readMany io_codeLong io_readLong io_undos io_wentHome io_tideLevel io_acts io_firstBreaks io_bestCrew io_sights io_wayMany io_random, rI Y qp1 43 cp1] [] := by
  unfold fX12_areNear_b46 at hf
  refine a_iconst C (0 : Int32) dX12_areNear_46 (by decide) ?_
  exact kX12_areNear_b47 C hQ hf
def fX12_areNear (cp1 : Nat → Int32) (x2 : Int32) (x3 : Int32) : Option (Int32) :=
  if x2 < (0 : Int32) then (fX12_areNear_b46 cp1) else (if x3 < (0 : Int32) then (fX12_areNear_b46 cp1) else ((fX12_atOf cp1 x2).bind (fun r4 => if r4 < (0 : Int32) then (fX12_areNear_b46 cp1) else ((fX12_atOf cp1 x3).bind (fun r6 => if r6 < (0 : Int32) then (fX12_areNear_b46 cp1) else ((fX12_atOf cp1 x2).bind (fun r8 => (fX12_atOf cp1 x3).bind (fun r9 => if (1 : Int32) < (jabs (r8 - r9)) then (fX12_areNear_b46 cp1) else (fX12_areNear_b47 cp1 (1 : Int32))))))))))
set_option maxHeartbeats 400000 in
set_option maxRecDepth 100000 in
theorem kX12_areNear (l : Launch) (D : va_G) (Y : Nat → ClassId) (ao : Nat → Nat) (qp1 : Nat) (io_thrown : Int32) (io_rows : Int32) (io_cells : Int32) (io_children : Int32) (io_changes : Int32) (io_taped : Int32) (io_at : Int32) (io_to : Int32) (io_nest : Int32) (io_readMany : Int32) (io_codeLong : Int32) (io_readLong : Int32) (io_undos : Int32) (io_wentHome : Int32) (io_tideLevel : Int32) (io_acts : Int32) (io_firstBreaks : Int32) (io_bestCrew : Int32) (io_sights : Int32) (io_wayMany : Int32) (io_random : Int32) (cp1 : Nat → Int32) (x2 : Int32) (x3 : Int32) (res : Int32) (hf : fX12_areNear cp1 x2 x3 = some res) : amf l D Y yX12_areNear wsX12_areNear rmX12_areNear [.ref (ao 0), .ref qp1, .int x2, .int x3] [oX12 ao io_thrown io_rows io_cells io_children io_changes io_taped io_at io_to io_nest io_readMany io_codeLong io_readLong io_undos io_wentHome io_tideLevel io_acts io_firstBreaks io_bestCrew io_sights io_wayMany io_random, rI Y qp1 43 cp1] (some (.int res)) [oX12 ao io_thrown io_rows io_cells io_children io_changes io_taped io_at io_to io_nest io_readMany io_codeLong io_readLong io_undos io_wentHome io_tideLevel io_acts io_firstBreaks io_bestCrew io_sights io_wayMany io_random, rI Y qp1 43 cp1] := by
  refine amf.of (cc := cX12_areNear) (maxL := 4) (rt := (some .boolean)) (by decide) rfl RX12 rfl (Nat.le_of_ble_eq_true rfl) [some (.ref (ao 0)), some (.ref qp1), some (.int x2), some (.int x3)] rfl ?_
  intro X C hQ
  unfold fX12_areNear at hf
  refine a_iload_n C dX12_areNear_0 rfl ?_
  refine a_if_lt C 46 dX12_areNear_1 (by decide) (fun h2 => ?_) (fun h2 => ?_)
  · have hf := fx_t h2 hf
    refine a_kill [0, 1, 2, 3] ?_
    exact kX12_areNear_b46 C hQ hf
  · have hf := fx_f h2 hf
    refine a_iload_n C dX12_areNear_4 rfl ?_
    refine a_if_lt C 46 dX12_areNear_5 (by decide) (fun h3 => ?_) (fun h3 => ?_)
    · have hf := fx_t h3 hf
      refine a_kill [0, 1, 2, 3] ?_
      exact kX12_areNear_b46 C hQ hf
    · have hf := fx_f h3 hf
      refine a_aload_n C dX12_areNear_8 rfl ?_
      refine a_iload_n C dX12_areNear_9 rfl ?_
      obtain ⟨r4, h4, hf⟩ := fx_bind hf
      refine a_fS C (kX12_atOf l D Y qp1 cp1 x2 r4 h4) gX12_areNear_X12_atOf rfl dvX12_atOf ⟨⟨rfl, rfl⟩, ⟨Nat.le_of_ble_eq_true rfl, Nat.le_of_ble_eq_true rfl⟩, ⟨Nat.le_of_ble_eq_true rfl, Nat.le_of_ble_eq_true rfl⟩⟩ rfl (Nat.le_of_ble_eq_true rfl) dX12_areNear_10 [1] [0] ⟨rfl, trivial⟩ rfl rfl [oX12 ao io_thrown io_rows io_cells io_children io_changes io_taped io_at io_to io_nest io_readMany io_codeLong io_readLong io_undos io_wentHome io_tideLevel io_acts io_firstBreaks io_bestCrew io_sights io_wayMany io_random, rI Y qp1 43 cp1] ⟨rfl, trivial⟩ ⟨rfl, trivial⟩ rfl ?_
      refine a_if_lt C 46 dX12_areNear_13 (by decide) (fun h5 => ?_) (fun h5 => ?_)
      · have hf := fx_t h5 hf
        refine a_kill [0, 1, 2, 3] ?_
        exact kX12_areNear_b46 C hQ hf
      · have hf := fx_f h5 hf
        refine a_aload_n C dX12_areNear_16 rfl ?_
        refine a_iload_n C dX12_areNear_17 rfl ?_
        obtain ⟨r6, h6, hf⟩ := fx_bind hf
        refine a_fS C (kX12_atOf l D Y qp1 cp1 x3 r6 h6) gX12_areNear_X12_atOf rfl dvX12_atOf ⟨⟨rfl, rfl⟩, ⟨Nat.le_of_ble_eq_true rfl, Nat.le_of_ble_eq_true rfl⟩, ⟨Nat.le_of_ble_eq_true rfl, Nat.le_of_ble_eq_true rfl⟩⟩ rfl (Nat.le_of_ble_eq_true rfl) dX12_areNear_18 [1] [0] ⟨rfl, trivial⟩ rfl rfl [oX12 ao io_thrown io_rows io_cells io_children io_changes io_taped io_at io_to io_nest io_readMany io_codeLong io_readLong io_undos io_wentHome io_tideLevel io_acts io_firstBreaks io_bestCrew io_sights io_wayMany io_random, rI Y qp1 43 cp1] ⟨rfl, trivial⟩ ⟨rfl, trivial⟩ rfl ?_
        refine a_if_lt C 46 dX12_areNear_21 (by decide) (fun h7 => ?_) (fun h7 => ?_)
        · have hf := fx_t h7 hf
          refine a_kill [0, 1, 2, 3] ?_
          exact kX12_areNear_b46 C hQ hf
        · have hf := fx_f h7 hf
          refine a_aload_n C dX12_areNear_24 rfl ?_
          refine a_iload_n C dX12_areNear_25 rfl ?_
          obtain ⟨r8, h8, hf⟩ := fx_bind hf
          refine a_fS C (kX12_atOf l D Y qp1 cp1 x2 r8 h8) gX12_areNear_X12_atOf rfl dvX12_atOf ⟨⟨rfl, rfl⟩, ⟨Nat.le_of_ble_eq_true rfl, Nat.le_of_ble_eq_true rfl⟩, ⟨Nat.le_of_ble_eq_true rfl, Nat.le_of_ble_eq_true rfl⟩⟩ rfl (Nat.le_of_ble_eq_true rfl) dX12_areNear_26 [1] [0] ⟨rfl, trivial⟩ rfl rfl [oX12 ao io_thrown io_rows io_cells io_children io_changes io_taped io_at io_to io_nest io_readMany io_codeLong io_readLong io_undos io_wentHome io_tideLevel io_acts io_firstBreaks io_bestCrew io_sights io_wayMany io_random, rI Y qp1 43 cp1] ⟨rfl, trivial⟩ ⟨rfl, trivial⟩ rfl ?_
          refine a_aload_n C dX12_areNear_29 rfl ?_
          refine a_iload_n C dX12_areNear_30 rfl ?_
          obtain ⟨r9, h9, hf⟩ := fx_bind hf
          refine a_fS C (kX12_atOf l D Y qp1 cp1 x3 r9 h9) gX12_areNear_X12_atOf rfl dvX12_atOf ⟨⟨rfl, rfl⟩, ⟨Nat.le_of_ble_eq_true rfl, Nat.le_of_ble_eq_true rfl⟩, ⟨Nat.le_of_ble_eq_true rfl, Nat.le_of_ble_eq_true rfl⟩⟩ rfl (Nat.le_of_ble_eq_true rfl) dX12_areNear_31 [1] [0] ⟨rfl, trivial⟩ rfl rfl [oX12 ao io_thrown io_rows io_cells io_children io_changes io_taped io_at io_to io_nest io_readMany io_codeLong io_readLong io_undos io_wentHome io_tideLevel io_acts io_firstBreaks io_bestCrew io_sights io_wayMany io_random, rI Y qp1 43 cp1] ⟨rfl, trivial⟩ ⟨rfl, trivial⟩ rfl ?_
          refine a_isub C dX12_areNear_34 ?_
          refine a_mabs C dX12_areNear_35 eX12_areNear_m262 ⟨⟨Nat.le_of_ble_eq_true rfl, Nat.le_of_ble_eq_true rfl⟩, ⟨Nat.le_of_ble_eq_true rfl, Nat.le_of_ble_eq_true rfl⟩⟩ (Nat.le_of_ble_eq_true rfl) ?_
          refine a_iconst C (1 : Int32) dX12_areNear_38 (by decide) ?_
          refine a_icmp_gt C 46 dX12_areNear_39 (by decide) (fun h10 => ?_) (fun h10 => ?_)
          · have hf := fx_t h10 hf
            refine a_kill [0, 1, 2, 3] ?_
            exact kX12_areNear_b46 C hQ hf
          · have hf := fx_f h10 hf
            refine a_iconst C (1 : Int32) dX12_areNear_42 (by decide) ?_
            refine a_goto C 47 dX12_areNear_43 (by decide) ?_
            refine a_kill [0, 1, 2, 3] ?_
            exact kX12_areNear_b47 C hQ hf
-- X12_hasFriend
abbrev rmX12_hasFriend : Room := { frames := 2, cells := 0, slots := 0, locals := 44 }
theorem dvX12_hasFriend : yX12_hasFriend.cls = RX12 ∧ yX12_hasFriend.cls ≠ "java/lang/invoke/MethodHandle" ∧ yX12_hasFriend.cls ≠ "java/lang/invoke/VarHandle" ∧ (parseMethodDescriptor yX12_hasFriend.desc).map (fun d => d.parameters.length) = some 2 := by decide +kernel
theorem eX12_hasFriend_inX12 : ∀ w ∈ wsX120, w ∈ wsX12_hasFriend := by decide +kernel
theorem eX12_hasFriend_126 : aF wsX12_hasFriend RX12 126 12 4 := ⟨RX12, TX12, 53, rfl, eX12_hasFriend_inX12, by decide, by decide +kernel⟩
theorem eX12_hasFriend_30 : aF wsX12_hasFriend RX12 30 12 10 := ⟨RX12, TX12, 53, rfl, eX12_hasFriend_inX12, by decide, by decide +kernel⟩
def fX12_hasFriend_b63 (io_children : Int32) (co_friend : Nat → Int32) (cp1 : Nat → Int32) (x3 : Int32) : Option (Int32) :=
  if x3 = 0 ∨ x3 = 1 then some x3 else none
set_option maxHeartbeats 400000 in
set_option maxRecDepth 100000 in
theorem kX12_hasFriend_b63 {X : cxT} {l : Launch} {D : va_G} {Y : Nat → ClassId} {ao : Nat → Nat} {qp1 : Nat} {io_thrown : Int32} {io_rows : Int32} {io_cells : Int32} {io_children : Int32} {io_changes : Int32} {io_taped : Int32} {io_at : Int32} {io_to : Int32} {io_nest : Int32} {io_readMany : Int32} {io_codeLong : Int32} {io_readLong : Int32} {io_undos : Int32} {io_wentHome : Int32} {io_tideLevel : Int32} {io_acts : Int32} {io_firstBreaks : Int32} {io_bestCrew : Int32} {io_sights : Int32} {io_wayMany : Int32} {io_random : Int32} {co_friend : Nat → Int32} {cp1 : Nat → Int32} {x3 : Int32} {res : Int32} (C : axC X l D Y cX12_hasFriend 5 RX12 wsX12_hasFriend rmX12_hasFriend (some .boolean)) (hQ : axQ X 0 0 (fun r9 w9 => r9 = (some (.int res)) ∧ w9 = [oX12 ao io_thrown io_rows io_cells io_children io_changes io_taped io_at io_to io_nest io_readMany io_codeLong io_readLong io_undos io_wentHome io_tideLevel io_acts io_firstBreaks io_bestCrew io_sights io_wayMany io_random, rI Y (ao 6) 8 co_friend, rI Y qp1 43 cp1])) (hf : fX12_hasFriend_b63 io_children co_friend cp1 x3 = some res) : ax X 0 0 63 [none, none, none, some (.int x3), none] [oX12 ao io_thrown io_rows io_cells io_children io_changes io_taped io_at io_to io_nest io_readMany io_codeLong io_readLong io_undos io_wentHome io_tideLevel io_acts io_firstBreaks io_bestCrew io_sights io_wayMany io_random, rI Y (ao 6) 8 co_friend, rI Y qp1 43 cp1] [] := by
  unfold fX12_hasFriend_b63 at hf
  refine a_iload_n C dX12_hasFriend_63 rfl ?_
  obtain ⟨h1, hf⟩ := fx_ite hf
  obtain rfl := fx_some hf
  exact a_zret C hQ h1 dX12_hasFriend_64 ⟨rfl, rfl⟩
def fX12_hasFriend_b56 (io_children : Int32) (co_friend : Nat → Int32) (cp1 : Nat → Int32) (x2 : Int32) (x4 : Int32) (s0 : Int32) (k16 : Int32 × Int32 → Option (Int32)) : Option (Int32) :=
  k16 (s0, (x4 + (1 : Int32)))
set_option maxHeartbeats 400000 in
set_option maxRecDepth 100000 in
theorem kX12_hasFriend_b56 {X : cxT} {l : Launch} {D : va_G} {Y : Nat → ClassId} {ao : Nat → Nat} {qp1 : Nat} {io_thrown : Int32} {io_rows : Int32} {io_cells : Int32} {io_children : Int32} {io_changes : Int32} {io_taped : Int32} {io_at : Int32} {io_to : Int32} {io_nest : Int32} {io_readMany : Int32} {io_codeLong : Int32} {io_readLong : Int32} {io_undos : Int32} {io_wentHome : Int32} {io_tideLevel : Int32} {io_acts : Int32} {io_firstBreaks : Int32} {io_bestCrew : Int32} {io_sights : Int32} {io_wayMany : Int32} {io_random : Int32} {co_friend : Nat → Int32} {cp1 : Nat → Int32} {x2 : Int32} {x4 : Int32} {s0 : Int32} {res : Int32} (C : axC X l D Y cX12_hasFriend 5 RX12 wsX12_hasFriend rmX12_hasFriend (some .boolean)) (hQ : axQ X 0 0 (fun r9 w9 => r9 = (some (.int res)) ∧ w9 = [oX12 ao io_thrown io_rows io_cells io_children io_changes io_taped io_at io_to io_nest io_readMany io_codeLong io_readLong io_undos io_wentHome io_tideLevel io_acts io_firstBreaks io_bestCrew io_sights io_wayMany io_random, rI Y (ao 6) 8 co_friend, rI Y qp1 43 cp1])) {k16 : Int32 × Int32 → Option (Int32)} (hk16 : ∀ s : Int32 × Int32, k16 s = some res → ax X 0 0 16 [some (.ref (ao 0)), some (.ref qp1), some (.int x2), some (.int s.1), some (.int s.2)] [oX12 ao io_thrown io_rows io_cells io_children io_changes io_taped io_at io_to io_nest io_readMany io_codeLong io_readLong io_undos io_wentHome io_tideLevel io_acts io_firstBreaks io_bestCrew io_sights io_wayMany io_random, rI Y (ao 6) 8 co_friend, rI Y qp1 43 cp1] []) (hf : fX12_hasFriend_b56 io_children co_friend cp1 x2 x4 s0 k16 = some res) : ax X 0 0 56 [some (.ref (ao 0)), some (.ref qp1), some (.int x2), none, some (.int x4)] [oX12 ao io_thrown io_rows io_cells io_children io_changes io_taped io_at io_to io_nest io_readMany io_codeLong io_readLong io_undos io_wentHome io_tideLevel io_acts io_firstBreaks io_bestCrew io_sights io_wayMany io_random, rI Y (ao 6) 8 co_friend, rI Y qp1 43 cp1] [.int s0] := by
  unfold fX12_hasFriend_b56 at hf
  refine a_istore_n C dX12_hasFriend_56 (by decide) rfl ?_
  refine a_iinc C (1 : Int32) dX12_hasFriend_57 (by decide) rfl (by decide) rfl ?_
  refine a_goto C 16 dX12_hasFriend_60 (by decide) ?_
  exact hk16 (s0, (x4 + (1 : Int32))) hf
def fX12_hasFriend_b51 (io_children : Int32) (co_friend : Nat → Int32) (cp1 : Nat → Int32) (x2 : Int32) (x4 : Int32) (k16 : Int32 × Int32 → Option (Int32)) : Option (Int32) :=
  fX12_hasFriend_b56 io_children co_friend cp1 x2 x4 (1 : Int32) k16
set_option maxHeartbeats 400000 in
set_option maxRecDepth 100000 in
theorem kX12_hasFriend_b51 {X : cxT} {l : Launch} {D : va_G} {Y : Nat → ClassId} {ao : Nat → Nat} {qp1 : Nat} {io_thrown : Int32} {io_rows : Int32} {io_cells : Int32} {io_children : Int32} {io_changes : Int32} {io_taped : Int32} {io_at : Int32} {io_to : Int32} {io_nest : Int32} {io_readMany : Int32} {io_codeLong : Int32} {io_readLong : Int32} {io_undos : Int32} {io_wentHome : Int32} {io_tideLevel : Int32} {io_acts : Int32} {io_firstBreaks : Int32} {io_bestCrew : Int32} {io_sights : Int32} {io_wayMany : Int32} {io_random : Int32} {co_friend : Nat → Int32} {cp1 : Nat → Int32} {x2 : Int32} {x4 : Int32} {res : Int32} (C : axC X l D Y cX12_hasFriend 5 RX12 wsX12_hasFriend rmX12_hasFriend (some .boolean)) (hQ : axQ X 0 0 (fun r9 w9 => r9 = (some (.int res)) ∧ w9 = [oX12 ao io_thrown io_rows io_cells io_children io_changes io_taped io_at io_to io_nest io_readMany io_codeLong io_readLong io_undos io_wentHome io_tideLevel io_acts io_firstBreaks io_bestCrew io_sights io_wayMany io_random, rI Y (ao 6) 8 co_friend, rI Y qp1 43 cp1])) {k16 : Int32 × Int32 → Option (Int32)} (hk16 : ∀ s : Int32 × Int32, k16 s = some res → ax X 0 0 16 [some (.ref (ao 0)), some (.ref qp1), some (.int x2), some (.int s.1), some (.int s.2)] [oX12 ao io_thrown io_rows io_cells io_children io_changes io_taped io_at io_to io_nest io_readMany io_codeLong io_readLong io_undos io_wentHome io_tideLevel io_acts io_firstBreaks io_bestCrew io_sights io_wayMany io_random, rI Y (ao 6) 8 co_friend, rI Y qp1 43 cp1] []) (hf : fX12_hasFriend_b51 io_children co_friend cp1 x2 x4 k16 = some res) : ax X 0 0 51 [some (.ref (ao 0)), some (.ref qp1), some (.int x2), none, some (.int x4)] [oX12 ao io_thrown io_rows io_cells io_children io_changes io_taped io_at io_to io_nest io_readMany io_codeLong io_readLong io_undos io_wentHome io_tideLevel io_acts io_firstBreaks io_bestCrew io_sights io_wayMany io_random, rI Y (ao 6) 8 co_friend, rI Y qp1 43 cp1] [] := by
  unfold fX12_hasFriend_b51 at hf
  refine a_iconst C (1 : Int32) dX12_hasFriend_51 (by decide) ?_
  refine a_goto C 56 dX12_hasFriend_52 (by decide) ?_
  exact kX12_hasFriend_b56 C hQ hk16 hf
def fX12_hasFriend_b55 (io_children : Int32) (co_friend : Nat → Int32) (cp1 : Nat → Int32) (x2 : Int32) (x4 : Int32) (k16 : Int32 × Int32 → Option (Int32)) : Option (Int32) :=
  fX12_hasFriend_b56 io_children co_friend cp1 x2 x4 (0 : Int32) k16
set_option maxHeartbeats 400000 in
set_option maxRecDepth 100000 in
theorem kX12_hasFriend_b55 {X : cxT} {l : Launch} {D : va_G} {Y : Nat → ClassId} {ao : Nat → Nat} {qp1 : Nat} {io_thrown : Int32} {io_rows : Int32} {io_cells : Int32} {io_children : Int32} {io_changes : Int32} {io_taped : Int32} {io_at : Int32} {io_to : Int32} {io_nest : Int32} {io_readMany : Int32} {io_codeLong : Int32} {io_readLong : Int32} {io_undos : Int32} {io_wentHome : Int32} {io_tideLevel : Int32} {io_acts : Int32} {io_firstBreaks : Int32} {io_bestCrew : Int32} {io_sights : Int32} {io_wayMany : Int32} {io_random : Int32} {co_friend : Nat → Int32} {cp1 : Nat → Int32} {x2 : Int32} {x4 : Int32} {res : Int32} (C : axC X l D Y cX12_hasFriend 5 RX12 wsX12_hasFriend rmX12_hasFriend (some .boolean)) (hQ : axQ X 0 0 (fun r9 w9 => r9 = (some (.int res)) ∧ w9 = [oX12 ao io_thrown io_rows io_cells io_children io_changes io_taped io_at io_to io_nest io_readMany io_codeLong io_readLong io_undos io_wentHome io_tideLevel io_acts io_firstBreaks io_bestCrew io_sights io_wayMany io_random, rI Y (ao 6) 8 co_friend, rI Y qp1 43 cp1])) {k16 : Int32 × Int32 → Option (Int32)} (hk16 : ∀ s : Int32 × Int32, k16 s = some res → ax X 0 0 16 [some (.ref (ao 0)), some (.ref qp1), some (.int x2), some (.int s.1), some (.int s.2)] [oX12 ao io_thrown io_rows io_cells io_children io_changes io_taped io_at io_to io_nest io_readMany io_codeLong io_readLong io_undos io_wentHome io_tideLevel io_acts io_firstBreaks io_bestCrew io_sights io_wayMany io_random, rI Y (ao 6) 8 co_friend, rI Y qp1 43 cp1] []) (hf : fX12_hasFriend_b55 io_children co_friend cp1 x2 x4 k16 = some res) : ax X 0 0 55 [some (.ref (ao 0)), some (.ref qp1), some (.int x2), none, some (.int x4)] [oX12 ao io_thrown io_rows io_cells io_children io_changes io_taped io_at io_to io_nest io_readMany io_codeLong io_readLong io_undos io_wentHome io_tideLevel io_acts io_firstBreaks io_bestCrew io_sights io_wayMany io_random, rI Y (ao 6) 8 co_friend, rI Y qp1 43 cp1] [] := by
  unfold fX12_hasFriend_b55 at hf
  refine a_iconst C (0 : Int32) dX12_hasFriend_55 (by decide) ?_
  exact kX12_hasFriend_b56 C hQ hk16 hf
def fX12_hasFriend_l16 (io_children : Int32) (co_friend : Nat → Int32) (cp1 : Nat → Int32) (x2 : Int32) (k16 : Int32 × Int32 → Option (Int32)) (x3 : Int32) (x4 : Int32) : Option (Int32) :=
  if io_children ≤ x4 then (fX12_hasFriend_b63 io_children co_friend cp1 x3) else (if x3 = (0 : Int32) then (if inb x4 8 then if (co_friend (Int32.toNatClampNeg x4)) = x2 then ((fX12_areNear cp1 x2 x4).bind (fun r6 => if r6 = (0 : Int32) then (fX12_hasFriend_b55 io_children co_friend cp1 x2 x4 k16) else (fX12_hasFriend_b51 io_children co_friend cp1 x2 x4 k16))) else (fX12_hasFriend_b55 io_children co_friend cp1 x2 x4 k16) else none) else (fX12_hasFriend_b51 io_children co_friend cp1 x2 x4 k16))
def fX12_hasFriend_b16 (io_children : Int32) (co_friend : Nat → Int32) (cp1 : Nat → Int32) (x2 : Int32) (x3 : Int32) (x4 : Int32) : Option (Int32) :=
  loopN (fun (s : Int32 × Int32) k16 => fX12_hasFriend_l16 io_children co_friend cp1 x2 k16 s.1 s.2) FUEL (x3, x4)
set_option maxHeartbeats 400000 in
set_option maxRecDepth 100000 in
theorem kX12_hasFriend_l16 {X : cxT} {l : Launch} {D : va_G} {Y : Nat → ClassId} {ao : Nat → Nat} {qp1 : Nat} {io_thrown : Int32} {io_rows : Int32} {io_cells : Int32} {io_children : Int32} {io_changes : Int32} {io_taped : Int32} {io_at : Int32} {io_to : Int32} {io_nest : Int32} {io_readMany : Int32} {io_codeLong : Int32} {io_readLong : Int32} {io_undos : Int32} {io_wentHome : Int32} {io_tideLevel : Int32} {io_acts : Int32} {io_firstBreaks : Int32} {io_bestCrew : Int32} {io_sights : Int32} {io_wayMany : Int32} {io_random : Int32} {co_friend : Nat → Int32} {cp1 : Nat → Int32} {x2 : Int32} {x3 : Int32} {x4 : Int32} {res : Int32} (C : axC X l D Y cX12_hasFriend 5 RX12 wsX12_hasFriend rmX12_hasFriend (some .boolean)) (hQ : axQ X 0 0 (fun r9 w9 => r9 = (some (.int res)) ∧ w9 = [oX12 ao io_thrown io_rows io_cells io_children io_changes io_taped io_at io_to io_nest io_readMany io_codeLong io_readLong io_undos io_wentHome io_tideLevel io_acts io_firstBreaks io_bestCrew io_sights io_wayMany io_random, rI Y (ao 6) 8 co_friend, rI Y qp1 43 cp1])) {k16 : Int32 × Int32 → Option (Int32)} (hk16 : ∀ s : Int32 × Int32, k16 s = some res → ax X 0 0 16 [some (.ref (ao 0)), some (.ref qp1), some (.int x2), some (.int s.1), some (.int s.2)] [oX12 ao io_thrown io_rows io_cells io_children io_changes io_taped io_at io_to io_nest io_readMany io_codeLong io_readLong io_undos io_wentHome io_tideLevel io_acts io_firstBreaks io_bestCrew io_sights io_wayMany io_random, rI Y (ao 6) 8 co_friend, rI Y qp1 43 cp1] []) (hf : fX12_hasFriend_l16 io_children co_friend cp1 x2 k16 x3 x4 = some res) : ax X 0 0 16 [some (.ref (ao 0)), some (.ref qp1), some (.int x2), some (.int x3), some (.int x4)] [oX12 ao io_thrown io_rows io_cells io_children io_changes io_taped io_at io_to io_nest io_readMany io_codeLong io_readLong io_undos io_wentHome io_tideLevel io_acts io_firstBreaks io_bestCrew io_sights io_wayMany io_random, rI Y (ao 6) 8 co_friend, rI Y qp1 43 cp1] [] := by
  unfold fX12_hasFriend_l16 at hf
  refine a_iload C dX12_hasFriend_16 rfl ?_
  refine a_aload_n C dX12_hasFriend_18 rfl ?_
  refine a_get C eX12_hasFriend_126 dX12_hasFriend_19 0 rfl rfl ?_
  refine a_icmp_ge C 63 dX12_hasFriend_22 (by decide) (fun h2 => ?_) (fun h2 => ?_)
  · have hf := fx_t h2 hf
    refine a_kill [0, 1, 2, 4] ?_
    exact kX12_hasFriend_b63 C hQ hf
  · have hf := fx_f h2 hf
    refine a_iload_n C dX12_hasFriend_25 rfl ?_
    refine a_if_ne C 51 dX12_hasFriend_26 (by decide) (fun h3 => ?_) (fun h3 => ?_)
    · have hf := fx_f h3 hf
      refine a_kill [3] ?_
      exact kX12_hasFriend_b51 C hQ hk16 hf
    · have hf := fx_t h3 hf
      refine a_aload_n C dX12_hasFriend_29 rfl ?_
      refine a_get C eX12_hasFriend_30 dX12_hasFriend_30 0 rfl rfl ?_
      refine a_iload C dX12_hasFriend_33 rfl ?_
      obtain ⟨h4, hf⟩ := fx_ite hf
      refine a_iald C dX12_hasFriend_35 1 rfl h4 ?_
      refine a_iload_n C dX12_hasFriend_36 rfl ?_
      refine a_icmp_ne C 55 dX12_hasFriend_37 (by decide) (fun h5 => ?_) (fun h5 => ?_)
      · have hf := fx_f h5 hf
        refine a_kill [3] ?_
        exact kX12_hasFriend_b55 C hQ hk16 hf
      · have hf := fx_t h5 hf
        refine a_aload_n C dX12_hasFriend_40 rfl ?_
        refine a_aload_n C dX12_hasFriend_41 rfl ?_
        refine a_iload_n C dX12_hasFriend_42 rfl ?_
        refine a_iload C dX12_hasFriend_43 rfl ?_
        obtain ⟨r6, h6, hf⟩ := fx_bind hf
        refine a_fV C (kX12_areNear l D Y ao qp1 io_thrown io_rows io_cells io_children io_changes io_taped io_at io_to io_nest io_readMany io_codeLong io_readLong io_undos io_wentHome io_tideLevel io_acts io_firstBreaks io_bestCrew io_sights io_wayMany io_random cp1 x2 x4 r6 h6) gX12_hasFriend_X12_areNear rfl dvX12_areNear ⟨⟨rfl, rfl⟩, ⟨Nat.le_of_ble_eq_true rfl, Nat.le_of_ble_eq_true rfl⟩, ⟨Nat.le_of_ble_eq_true rfl, Nat.le_of_ble_eq_true rfl⟩⟩ rfl (Nat.le_of_ble_eq_true rfl) dX12_hasFriend_45 rfl rfl [0, 2] [1] ⟨rfl, rfl, trivial⟩ rfl rfl [oX12 ao io_thrown io_rows io_cells io_children io_changes io_taped io_at io_to io_nest io_readMany io_codeLong io_readLong io_undos io_wentHome io_tideLevel io_acts io_firstBreaks io_bestCrew io_sights io_wayMany io_random, rI Y (ao 6) 8 co_friend, rI Y qp1 43 cp1] ⟨rfl, rfl, trivial⟩ ⟨rfl, trivial⟩ rfl ?_
        refine a_if_eq C 55 dX12_hasFriend_48 (by decide) (fun h7 => ?_) (fun h7 => ?_)
        · have hf := fx_t h7 hf
          refine a_kill [3] ?_
          exact kX12_hasFriend_b55 C hQ hk16 hf
        · have hf := fx_f h7 hf
          refine a_kill [3] ?_
          exact kX12_hasFriend_b51 C hQ hk16 hf
set_option maxHeartbeats 400000 in
set_option maxRecDepth 100000 in
theorem kX12_hasFriend_b16 {X : cxT} {l : Launch} {D : va_G} {Y : Nat → ClassId} {ao : Nat → Nat} {qp1 : Nat} {io_thrown : Int32} {io_rows : Int32} {io_cells : Int32} {io_children : Int32} {io_changes : Int32} {io_taped : Int32} {io_at : Int32} {io_to : Int32} {io_nest : Int32} {io_readMany : Int32} {io_codeLong : Int32} {io_readLong : Int32} {io_undos : Int32} {io_wentHome : Int32} {io_tideLevel : Int32} {io_acts : Int32} {io_firstBreaks : Int32} {io_bestCrew : Int32} {io_sights : Int32} {io_wayMany : Int32} {io_random : Int32} {co_friend : Nat → Int32} {cp1 : Nat → Int32} {x2 : Int32} {x3 : Int32} {x4 : Int32} {res : Int32} (C : axC X l D Y cX12_hasFriend 5 RX12 wsX12_hasFriend rmX12_hasFriend (some .boolean)) (hQ : axQ X 0 0 (fun r9 w9 => r9 = (some (.int res)) ∧ w9 = [oX12 ao io_thrown io_rows io_cells io_children io_changes io_taped io_at io_to io_nest io_readMany io_codeLong io_readLong io_undos io_wentHome io_tideLevel io_acts io_firstBreaks io_bestCrew io_sights io_wayMany io_random, rI Y (ao 6) 8 co_friend, rI Y qp1 43 cp1])) (hf : fX12_hasFriend_b16 io_children co_friend cp1 x2 x3 x4 = some res) : ax X 0 0 16 [some (.ref (ao 0)), some (.ref qp1), some (.int x2), some (.int x3), some (.int x4)] [oX12 ao io_thrown io_rows io_cells io_children io_changes io_taped io_at io_to io_nest io_readMany io_codeLong io_readLong io_undos io_wentHome io_tideLevel io_acts io_firstBreaks io_bestCrew io_sights io_wayMany io_random, rI Y (ao 6) 8 co_friend, rI Y qp1 43 cp1] [] := by
  unfold fX12_hasFriend_b16 at hf
  exact fx_loop (P := fun s : Int32 × Int32 => ax X 0 0 16 [some (.ref (ao 0)), some (.ref qp1), some (.int x2), some (.int s.1), some (.int s.2)] [oX12 ao io_thrown io_rows io_cells io_children io_changes io_taped io_at io_to io_nest io_readMany io_codeLong io_readLong io_undos io_wentHome io_tideLevel io_acts io_firstBreaks io_bestCrew io_sights io_wayMany io_random, rI Y (ao 6) 8 co_friend, rI Y qp1 43 cp1] []) (fun s k16 hk16 h => kX12_hasFriend_l16 C hQ hk16 h) FUEL (x3, x4) hf
def fX12_hasFriend (io_children : Int32) (co_friend : Nat → Int32) (cp1 : Nat → Int32) (x2 : Int32) : Option (Int32) :=
  if inb x2 8 then (fX12_areNear cp1 x2 (co_friend (Int32.toNatClampNeg x2))).bind (fun r9 => fX12_hasFriend_b16 io_children co_friend cp1 x2 r9 (0 : Int32)) else none
set_option maxHeartbeats 400000 in
set_option maxRecDepth 100000 in
theorem kX12_hasFriend (l : Launch) (D : va_G) (Y : Nat → ClassId) (ao : Nat → Nat) (qp1 : Nat) (io_thrown : Int32) (io_rows : Int32) (io_cells : Int32) (io_children : Int32) (io_changes : Int32) (io_taped : Int32) (io_at : Int32) (io_to : Int32) (io_nest : Int32) (io_readMany : Int32) (io_codeLong : Int32) (io_readLong : Int32) (io_undos : Int32) (io_wentHome : Int32) (io_tideLevel : Int32) (io_acts : Int32) (io_firstBreaks : Int32) (io_bestCrew : Int32) (io_sights : Int32) (io_wayMany : Int32) (io_random : Int32) (co_friend : Nat → Int32) (cp1 : Nat → Int32) (x2 : Int32) (res : Int32) (hf : fX12_hasFriend io_children co_friend cp1 x2 = some res) : amf l D Y yX12_hasFriend wsX12_hasFriend rmX12_hasFriend [.ref (ao 0), .ref qp1, .int x2] [oX12 ao io_thrown io_rows io_cells io_children io_changes io_taped io_at io_to io_nest io_readMany io_codeLong io_readLong io_undos io_wentHome io_tideLevel io_acts io_firstBreaks io_bestCrew io_sights io_wayMany io_random, rI Y (ao 6) 8 co_friend, rI Y qp1 43 cp1] (some (.int res)) [oX12 ao io_thrown io_rows io_cells io_children io_changes io_taped io_at io_to io_nest io_readMany io_codeLong io_readLong io_undos io_wentHome io_tideLevel io_acts io_firstBreaks io_bestCrew io_sights io_wayMany io_random, rI Y (ao 6) 8 co_friend, rI Y qp1 43 cp1] := by
  refine amf.of (cc := cX12_hasFriend) (maxL := 5) (rt := (some .boolean)) (by decide) rfl RX12 rfl (Nat.le_of_ble_eq_true rfl) [some (.ref (ao 0)), some (.ref qp1), some (.int x2), none, none] rfl ?_
  intro X C hQ
  unfold fX12_hasFriend at hf
  refine a_aload_n C dX12_hasFriend_0 rfl ?_
  refine a_aload_n C dX12_hasFriend_1 rfl ?_
  refine a_iload_n C dX12_hasFriend_2 rfl ?_
  refine a_aload_n C dX12_hasFriend_3 rfl ?_
  refine a_get C eX12_hasFriend_30 dX12_hasFriend_4 0 rfl rfl ?_
  refine a_iload_n C dX12_hasFriend_7 rfl ?_
  obtain ⟨h8, hf⟩ := fx_ite hf
  refine a_iald C dX12_hasFriend_8 1 rfl h8 ?_
  obtain ⟨r9, h9, hf⟩ := fx_bind hf
  refine a_fV C (kX12_areNear l D Y ao qp1 io_thrown io_rows io_cells io_children io_changes io_taped io_at io_to io_nest io_readMany io_codeLong io_readLong io_undos io_wentHome io_tideLevel io_acts io_firstBreaks io_bestCrew io_sights io_wayMany io_random cp1 x2 (co_friend (Int32.toNatClampNeg x2)) r9 h9) gX12_hasFriend_X12_areNear rfl dvX12_areNear ⟨⟨rfl, rfl⟩, ⟨Nat.le_of_ble_eq_true rfl, Nat.le_of_ble_eq_true rfl⟩, ⟨Nat.le_of_ble_eq_true rfl, Nat.le_of_ble_eq_true rfl⟩⟩ rfl (Nat.le_of_ble_eq_true rfl) dX12_hasFriend_9 rfl rfl [0, 2] [1] ⟨rfl, rfl, trivial⟩ rfl rfl [oX12 ao io_thrown io_rows io_cells io_children io_changes io_taped io_at io_to io_nest io_readMany io_codeLong io_readLong io_undos io_wentHome io_tideLevel io_acts io_firstBreaks io_bestCrew io_sights io_wayMany io_random, rI Y (ao 6) 8 co_friend, rI Y qp1 43 cp1] ⟨rfl, rfl, trivial⟩ ⟨rfl, trivial⟩ rfl ?_
  refine a_istore_n C dX12_hasFriend_12 (by decide) rfl ?_
  refine a_iconst C (0 : Int32) dX12_hasFriend_13 (by decide) ?_
  refine a_istore C dX12_hasFriend_14 (by decide) rfl ?_
  exact kX12_hasFriend_b16 C hQ hf
