-- X12_row
abbrev rmX12_row : Room := { frames := 1, cells := 0, slots := 0, locals := 25 }
theorem dvX12_row : yX12_row.cls = RX12 ∧ yX12_row.cls ≠ "java/lang/invoke/MethodHandle" ∧ yX12_row.cls ≠ "java/lang/invoke/VarHandle" ∧ (parseMethodDescriptor yX12_row.desc).map (fun d => d.parameters.length) = some 1 := by decide +kernel
def fX12_row (io_thrown : Int32) (io_rows : Int32) (co_row : Nat → Int64) (x1 : Int32) : Option (Int64 × Int32) :=
  (fX12_in (x1.toInt64) (0 : Int64) ((io_rows - (1 : Int32)).toInt64)).bind (fun r1 => if r1 = (0 : Int32) then (some ((0 : Int64), (1 : Int32))) else (if inb x1 24 then some ((co_row (Int32.toNatClampNeg x1)), (0 : Int32)) else none))
set_option maxHeartbeats 400000 in
set_option maxRecDepth 100000 in
theorem kX12_row (l : Launch) (D : va_G) (Y : Nat → ClassId) (ao : Nat → Nat) (io_thrown : Int32) (io_rows : Int32) (io_cells : Int32) (io_children : Int32) (io_changes : Int32) (io_taped : Int32) (io_at : Int32) (io_to : Int32) (io_nest : Int32) (io_readMany : Int32) (io_codeLong : Int32) (io_readLong : Int32) (io_undos : Int32) (io_wentHome : Int32) (io_tideLevel : Int32) (io_acts : Int32) (io_firstBreaks : Int32) (io_bestCrew : Int32) (io_sights : Int32) (io_wayMany : Int32) (io_random : Int32) (co_row : Nat → Int64) (x1 : Int32) (res : Int64 × Int32) (hf : fX12_row io_thrown io_rows co_row x1 = some res) : amf l D Y yX12_row wsX12_row rmX12_row [.ref (ao 0), .int x1] [oX12 ao io_thrown io_rows io_cells io_children io_changes io_taped io_at io_to io_nest io_readMany io_codeLong io_readLong io_undos io_wentHome io_tideLevel io_acts io_firstBreaks io_bestCrew io_sights io_wayMany io_random, rJ Y (ao 1) 24 co_row] (some (.long res.1)) [oX12 ao res.2 io_rows io_cells io_children io_changes io_taped io_at io_to io_nest io_readMany io_codeLong io_readLong io_undos io_wentHome io_tideLevel io_acts io_firstBreaks io_bestCrew io_sights io_wayMany io_random, rJ Y (ao 1) 24 co_row] := by
  refine amf.of (cc := cX12_row) (maxL := 2) (rt := (some .long)) (by decide) rfl RX12 rfl (Nat.le_of_ble_eq_true rfl) [some (.ref (ao 0)), some (.int x1)] rfl ?_
  intro X C hQ
  unfold fX12_row at hf
  refine a_aload_n C dX12_row_0 rfl ?_
  refine a_iconst C (0 : Int32) dX12_row_1 (by decide) ?_
  refine a_put C (eB_X12_112 _) tfX12_0 dX12_row_2 0 rfl rfl rfl (Nat.le_of_ble_eq_true rfl) ?_
  refine a_iload_n C dX12_row_5 rfl ?_
  refine a_i2l C dX12_row_6 ?_
  refine a_lconst C (0 : Int64) dX12_row_7 (by decide) ?_
  refine a_aload_n C dX12_row_8 rfl ?_
  refine a_get C (eB_X12_119 _) dX12_row_9 0 rfl rfl ?_
  refine a_iconst C (1 : Int32) dX12_row_12 (by decide) ?_
  refine a_isub C dX12_row_13 ?_
  refine a_i2l C dX12_row_14 ?_
  obtain ⟨r1, h1, hf⟩ := fx_bind hf
  refine a_fS C (kX12_in l D Y (x1.toInt64) (0 : Int64) ((io_rows - (1 : Int32)).toInt64) r1 h1) (gB_X12_122 _) rfl dvX12_in ⟨⟨rfl, rfl⟩, ⟨Nat.le_of_ble_eq_true rfl, Nat.le_of_ble_eq_true rfl⟩, ⟨Nat.le_of_ble_eq_true rfl, Nat.le_of_ble_eq_true rfl⟩⟩ rfl (Nat.le_of_ble_eq_true rfl) dX12_row_15 [] [0, 1] trivial (by decide +kernel) rfl [oX12 ao (0 : Int32) io_rows io_cells io_children io_changes io_taped io_at io_to io_nest io_readMany io_codeLong io_readLong io_undos io_wentHome io_tideLevel io_acts io_firstBreaks io_bestCrew io_sights io_wayMany io_random, rJ Y (ao 1) 24 co_row] trivial ⟨rfl, rfl, trivial⟩ 2 rfl (by decide +kernel) ?_
  refine a_if_ne C 28 dX12_row_18 (by decide) (fun h2 => ?_) (fun h2 => ?_)
  · have hf := fx_f h2 hf
    refine a_aload_n C dX12_row_28 rfl ?_
    refine a_get C (eB_X12_9 _) dX12_row_29 0 rfl rfl ?_
    refine a_iload_n C dX12_row_32 rfl ?_
    obtain ⟨h3, hf⟩ := fx_ite hf
    refine a_lald C dX12_row_33 1 rfl h3 ?_
    obtain rfl := fx_some hf
    exact a_lret C hQ dX12_row_34 ⟨rfl, rfl⟩
  · have hf := fx_t h2 hf
    refine a_aload_n C dX12_row_21 rfl ?_
    refine a_iconst C (1 : Int32) dX12_row_22 (by decide) ?_
    refine a_put C (eB_X12_112 _) tfX12_0 dX12_row_23 0 rfl rfl rfl (Nat.le_of_ble_eq_true rfl) ?_
    refine a_lconst C (0 : Int64) dX12_row_26 (by decide) ?_
    obtain rfl := fx_some hf
    exact a_lret C hQ dX12_row_27 ⟨rfl, rfl⟩
