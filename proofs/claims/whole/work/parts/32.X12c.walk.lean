-- X12_levelOf
abbrev rmX12_levelOf : Room := { frames := 3, cells := 0, slots := 0, locals := 65 }
theorem dvX12_levelOf : yX12_levelOf.cls = RX12 ∧ yX12_levelOf.cls ≠ "java/lang/invoke/MethodHandle" ∧ yX12_levelOf.cls ≠ "java/lang/invoke/VarHandle" ∧ (parseMethodDescriptor yX12_levelOf.desc).map (fun d => d.parameters.length) = some 2 := by decide +kernel
def fX12_levelOf (io_cells : Int32) (io_codeLong : Int32) (co_fixed : Nat → Int32) (co_code : Nat → Int32) (co_stack : Nat → Int32) (co_asked : Nat → Int32) (cp1 : Nat → Int32) (x2 : Int32) : Option (Int32 × (Nat → Int32) × (Nat → Int32)) :=
  if inb (0 : Int32) 4 then if inb (0 : Int32) 2 then if inb (1 : Int32) 4 then if inb (2 : Int32) 4 then if inb (12 : Int32) 43 then (fJ6_bitCount_0f7a4 (cp1 (Int32.toNatClampNeg (12 : Int32)))).bind (fun r6 => if inb (3 : Int32) 4 then (fX12_ruled io_codeLong co_code co_stack (upd (upd (upd (upd co_asked (Int32.toNatClampNeg (0 : Int32)) (jrem x2 (8 : Int32))) (Int32.toNatClampNeg (1 : Int32)) (co_fixed (Int32.toNatClampNeg (0 : Int32)))) (Int32.toNatClampNeg (2 : Int32)) io_cells) (Int32.toNatClampNeg (3 : Int32)) r6)).bind (fun r8 => some ((jmax (0 : Int32) (jmin (999 : Int32) r8.1)), r8.2, (upd (upd (upd (upd co_asked (Int32.toNatClampNeg (0 : Int32)) (jrem x2 (8 : Int32))) (Int32.toNatClampNeg (1 : Int32)) (co_fixed (Int32.toNatClampNeg (0 : Int32)))) (Int32.toNatClampNeg (2 : Int32)) io_cells) (Int32.toNatClampNeg (3 : Int32)) r6))) else none) else none else none else none else none else none
set_option maxHeartbeats 400000 in
set_option maxRecDepth 100000 in
theorem kX12_levelOf (l : Launch) (D : va_G) (Y : Nat → ClassId) (ao : Nat → Nat) (qp1 : Nat) (io_thrown : Int32) (io_rows : Int32) (io_cells : Int32) (io_children : Int32) (io_changes : Int32) (io_taped : Int32) (io_at : Int32) (io_to : Int32) (io_nest : Int32) (io_readMany : Int32) (io_codeLong : Int32) (io_readLong : Int32) (io_undos : Int32) (io_wentHome : Int32) (io_tideLevel : Int32) (io_acts : Int32) (io_firstBreaks : Int32) (io_bestCrew : Int32) (io_sights : Int32) (io_wayMany : Int32) (io_random : Int32) (co_fixed : Nat → Int32) (co_code : Nat → Int32) (co_stack : Nat → Int32) (co_asked : Nat → Int32) (cp1 : Nat → Int32) (x2 : Int32) (res : Int32 × (Nat → Int32) × (Nat → Int32)) (hf : fX12_levelOf io_cells io_codeLong co_fixed co_code co_stack co_asked cp1 x2 = some res) : amf l D Y yX12_levelOf wsX12_levelOf rmX12_levelOf [.ref (ao 0), .ref qp1, .int x2] [oX12 ao io_thrown io_rows io_cells io_children io_changes io_taped io_at io_to io_nest io_readMany io_codeLong io_readLong io_undos io_wentHome io_tideLevel io_acts io_firstBreaks io_bestCrew io_sights io_wayMany io_random, rI Y (ao 7) 2 co_fixed, rI Y (ao 12) 80 co_code, rI Y (ao 14) 80 co_stack, rI Y (ao 15) 4 co_asked, rI Y qp1 43 cp1] (some (.int res.1)) [oX12 ao io_thrown io_rows io_cells io_children io_changes io_taped io_at io_to io_nest io_readMany io_codeLong io_readLong io_undos io_wentHome io_tideLevel io_acts io_firstBreaks io_bestCrew io_sights io_wayMany io_random, rI Y (ao 7) 2 co_fixed, rI Y (ao 12) 80 co_code, rI Y (ao 14) 80 res.2.1, rI Y (ao 15) 4 res.2.2, rI Y qp1 43 cp1] := by
  refine amf.of (cc := cX12_levelOf) (maxL := 3) (rt := (some .int)) (by decide) rfl RX12 rfl (Nat.le_of_ble_eq_true rfl) [some (.ref (ao 0)), some (.ref qp1), some (.int x2)] rfl ?_
  intro X C hQ
  unfold fX12_levelOf at hf
  refine a_aload_n C dX12_levelOf_0 rfl ?_
  refine a_get C (eB_X12_57 _) dX12_levelOf_1 0 rfl rfl ?_
  refine a_iconst C (0 : Int32) dX12_levelOf_4 (by decide) ?_
  refine a_iload_n C dX12_levelOf_5 rfl ?_
  refine a_bipush C (8 : Int32) dX12_levelOf_6 (by decide) ?_
  refine a_irem C dX12_levelOf_8 (by decide) ?_
  obtain ⟨h1, hf⟩ := fx_ite hf
  refine a_iast C dX12_levelOf_9 4 rfl h1 ?_
  refine a_aload_n C dX12_levelOf_10 rfl ?_
  refine a_get C (eB_X12_57 _) dX12_levelOf_11 0 rfl rfl ?_
  refine a_iconst C (1 : Int32) dX12_levelOf_14 (by decide) ?_
  refine a_aload_n C dX12_levelOf_15 rfl ?_
  refine a_get C (eB_X12_33 _) dX12_levelOf_16 0 rfl rfl ?_
  refine a_iconst C (0 : Int32) dX12_levelOf_19 (by decide) ?_
  obtain ⟨h2, hf⟩ := fx_ite hf
  refine a_iald C dX12_levelOf_20 1 rfl h2 ?_
  obtain ⟨h3, hf⟩ := fx_ite hf
  refine a_iast C dX12_levelOf_21 4 rfl h3 ?_
  refine a_aload_n C dX12_levelOf_22 rfl ?_
  refine a_get C (eB_X12_57 _) dX12_levelOf_23 0 rfl rfl ?_
  refine a_iconst C (2 : Int32) dX12_levelOf_26 (by decide) ?_
  refine a_aload_n C dX12_levelOf_27 rfl ?_
  refine a_get C (eB_X12_13 _) dX12_levelOf_28 0 rfl rfl ?_
  obtain ⟨h4, hf⟩ := fx_ite hf
  refine a_iast C dX12_levelOf_31 4 rfl h4 ?_
  refine a_aload_n C dX12_levelOf_32 rfl ?_
  refine a_get C (eB_X12_57 _) dX12_levelOf_33 0 rfl rfl ?_
  refine a_iconst C (3 : Int32) dX12_levelOf_36 (by decide) ?_
  refine a_aload_n C dX12_levelOf_37 rfl ?_
  refine a_bipush C (12 : Int32) dX12_levelOf_38 (by decide) ?_
  obtain ⟨h5, hf⟩ := fx_ite hf
  refine a_iald C dX12_levelOf_40 5 rfl h5 ?_
  obtain ⟨r6, h6, hf⟩ := fx_bind hf
  refine a_fS C (kJ6_bitCount_0f7a4 l D Y (cp1 (Int32.toNatClampNeg (12 : Int32))) r6 h6) (gB_X12_251 _) rfl dvJ6_bitCount_0f7a4 ⟨⟨rfl, rfl⟩, ⟨Nat.le_of_ble_eq_true rfl, Nat.le_of_ble_eq_true rfl⟩, ⟨Nat.le_of_ble_eq_true rfl, Nat.le_of_ble_eq_true rfl⟩⟩ rfl (Nat.le_of_ble_eq_true rfl) dX12_levelOf_41 [] [0, 1, 2, 3, 4, 5] trivial (by decide +kernel) rfl [oX12 ao io_thrown io_rows io_cells io_children io_changes io_taped io_at io_to io_nest io_readMany io_codeLong io_readLong io_undos io_wentHome io_tideLevel io_acts io_firstBreaks io_bestCrew io_sights io_wayMany io_random, rI Y (ao 7) 2 co_fixed, rI Y (ao 12) 80 co_code, rI Y (ao 14) 80 co_stack, rI Y (ao 15) 4 (upd (upd (upd co_asked (Int32.toNatClampNeg (0 : Int32)) (jrem x2 (8 : Int32))) (Int32.toNatClampNeg (1 : Int32)) (co_fixed (Int32.toNatClampNeg (0 : Int32)))) (Int32.toNatClampNeg (2 : Int32)) io_cells), rI Y qp1 43 cp1] trivial ⟨rfl, rfl, rfl, rfl, rfl, rfl, trivial⟩ 6 rfl (by decide +kernel) ?_
  obtain ⟨h7, hf⟩ := fx_ite hf
  refine a_iast C dX12_levelOf_44 4 rfl h7 ?_
  refine a_iconst C (0 : Int32) dX12_levelOf_45 (by decide) ?_
  refine a_sipush C (999 : Int32) dX12_levelOf_46 (by decide) ?_
  refine a_aload_n C dX12_levelOf_49 rfl ?_
  obtain ⟨r8, h8, hf⟩ := fx_bind hf
  refine a_fV C (kX12_ruled l D Y ao io_thrown io_rows io_cells io_children io_changes io_taped io_at io_to io_nest io_readMany io_codeLong io_readLong io_undos io_wentHome io_tideLevel io_acts io_firstBreaks io_bestCrew io_sights io_wayMany io_random co_code co_stack (upd (upd (upd (upd co_asked (Int32.toNatClampNeg (0 : Int32)) (jrem x2 (8 : Int32))) (Int32.toNatClampNeg (1 : Int32)) (co_fixed (Int32.toNatClampNeg (0 : Int32)))) (Int32.toNatClampNeg (2 : Int32)) io_cells) (Int32.toNatClampNeg (3 : Int32)) r6) r8 h8) (gB_X12_256 _) rfl dvX12_ruled ⟨⟨rfl, rfl⟩, ⟨Nat.le_of_ble_eq_true rfl, Nat.le_of_ble_eq_true rfl⟩, ⟨Nat.le_of_ble_eq_true rfl, Nat.le_of_ble_eq_true rfl⟩⟩ rfl (Nat.le_of_ble_eq_true rfl) dX12_levelOf_50 rfl rfl [0, 2, 3, 4] [1, 5] ⟨rfl, rfl, rfl, rfl, trivial⟩ (by decide +kernel) rfl [oX12 ao io_thrown io_rows io_cells io_children io_changes io_taped io_at io_to io_nest io_readMany io_codeLong io_readLong io_undos io_wentHome io_tideLevel io_acts io_firstBreaks io_bestCrew io_sights io_wayMany io_random, rI Y (ao 7) 2 co_fixed, rI Y (ao 12) 80 co_code, rI Y (ao 14) 80 r8.2, rI Y (ao 15) 4 (upd (upd (upd (upd co_asked (Int32.toNatClampNeg (0 : Int32)) (jrem x2 (8 : Int32))) (Int32.toNatClampNeg (1 : Int32)) (co_fixed (Int32.toNatClampNeg (0 : Int32)))) (Int32.toNatClampNeg (2 : Int32)) io_cells) (Int32.toNatClampNeg (3 : Int32)) r6), rI Y qp1 43 cp1] ⟨rfl, rfl, rfl, rfl, trivial⟩ ⟨rfl, rfl, trivial⟩ 6 rfl (by decide +kernel) ?_
  refine a_mmin C dX12_levelOf_53 (mB_X12_142 _) ⟨⟨Nat.le_of_ble_eq_true rfl, Nat.le_of_ble_eq_true rfl⟩, ⟨Nat.le_of_ble_eq_true rfl, Nat.le_of_ble_eq_true rfl⟩⟩ (Nat.le_of_ble_eq_true rfl) ?_
  refine a_mmax C dX12_levelOf_56 (mB_X12_259 _) ⟨⟨Nat.le_of_ble_eq_true rfl, Nat.le_of_ble_eq_true rfl⟩, ⟨Nat.le_of_ble_eq_true rfl, Nat.le_of_ble_eq_true rfl⟩⟩ (Nat.le_of_ble_eq_true rfl) ?_
  obtain rfl := fx_some hf
  exact a_iret C hQ dX12_levelOf_59 ⟨rfl, rfl⟩
-- X12_areNear
abbrev rmX12_areNear : Room := { frames := 1, cells := 0, slots := 0, locals := 21 }
theorem dvX12_areNear : yX12_areNear.cls = RX12 ∧ yX12_areNear.cls ≠ "java/lang/invoke/MethodHandle" ∧ yX12_areNear.cls ≠ "java/lang/invoke/VarHandle" ∧ (parseMethodDescriptor yX12_areNear.desc).map (fun d => d.parameters.length) = some 3 := by decide +kernel
def fX12_areNear_b47 (cp1 : Nat → Int32) (s0 : Int32) : Option (Int32) :=
  if s0 = 0 ∨ s0 = 1 then some s0 else none
set_option maxHeartbeats 400000 in
set_option maxRecDepth 100000 in
theorem kX12_areNear_b47 {X : cxT} {l : Launch} {D : va_G} {Y : Nat → ClassId} {ao : Nat → Nat} {qp1 : Nat} {io_thrown : Int32} {io_rows : Int32} {io_cells : Int32} {io_children : Int32} {io_changes : Int32} {io_taped : Int32} {io_at : Int32} {io_to : Int32} {io_nest : Int32} {io_readMany : Int32} {io_codeLong : Int32} {io_readLong : Int32} {io_undos : Int32} {io_wentHome : Int32} {io_tideLevel : Int32} {io_acts : Int32} {io_firstBreaks : Int32} {io_bestCrew : Int32} {io_sights : Int32} {io_wayMany : Int32} {io_random : Int32} {cp1 : Nat → Int32} {s0 : Int32} {res : Int32} (C : axC X l D Y cX12_areNear 4 RX12 wsX12_areNear rmX12_areNear (some .boolean)) (hQ : axQ X 0 0 (fun r9 w9 => r9 = (some (.int res)) ∧ w9 = [oX12 ao io_thrown io_rows io_cells io_children io_changes io_taped io_at io_to io_nest io_readMany io_codeLong io_readLong io_undos io_wentHome io_tideLevel io_acts io_firstBreaks io_bestCrew io_sights io_wayMany io_random, rI Y qp1 43 cp1])) (hf : fX12_areNear_b47 cp1 s0 = some res) : ax X 0 0 47 [none, none, none, none] [oX12 ao io_thrown io_rows io_cells io_children io_changes io_taped io_at io_to io_nest io_readMany io_codeLong io_readLong io_undos io_wentHome io_tideLevel io_acts io_firstBreaks io_bestCrew io_sights io_wayMany io_random, rI Y qp1 43 cp1] [.int s0] := by
  unfold fX12_areNear_b47 at hf
  obtain ⟨h1, hf⟩ := fx_ite hf
  obtain rfl := fx_some hf
  exact a_zret C hQ h1 dX12_areNear_47 ⟨rfl, rfl⟩
def fX12_areNear_b46 (cp1 : Nat → Int32) : Option (Int32) :=
  fX12_areNear_b47 cp1 (0 : Int32)
set_option maxHeartbeats 400000 in
set_option maxRecDepth 100000 in
theorem kX12_areNear_b46 {X : cxT} {l : Launch} {D : va_G} {Y : Nat → ClassId} {ao : Nat → Nat} {qp1 : Nat} {io_thrown : Int32} {io_rows : Int32} {io_cells : Int32} {io_children : Int32} {io_changes : Int32} {io_taped : Int32} {io_at : Int32} {io_to : Int32} {io_nest : Int32} {io_readMany : Int32} {io_codeLong : Int32} {io_readLong : Int32} {io_undos : Int32} {io_wentHome : Int32} {io_tideLevel : Int32} {io_acts : Int32} {io_firstBreaks : Int32} {io_bestCrew : Int32} {io_sights : Int32} {io_wayMany : Int32} {io_random : Int32} {cp1 : Nat → Int32} {res : Int32} (C : axC X l D Y cX12_areNear 4 RX12 wsX12_areNear rmX12_areNear (some .boolean)) (hQ : axQ X 0 0 (fun r9 w9 => r9 = (some (.int res)) ∧ w9 = [oX12 ao io_thrown io_rows io_cells io_children io_changes io_taped io_at io_to io_nest io_readMany io_codeLong io_readLong io_undos io_wentHome io_tideLevel io_acts io_firstBreaks io_bestCrew io_sights io_wayMany io_random, rI Y qp1 43 cp1])) (hf : fX12_areNear_b46 cp1 = some res) : ax X 0 0 46 [none, none, none, none] [oX12 ao io_thrown io_rows io_cells io_children io_changes io_taped io_at io_to io_nest io_readMany io_codeLong io_readLong io_undos io_wentHome io_tideLevel io_acts io_firstBreaks io_bestCrew io_sights io_wayMany io_random, rI Y qp1 43 cp1] [] := by
  unfold fX12_areNear_b46 at hf
  refine a_iconst C (0 : Int32) dX12_areNear_46 (by decide) ?_
  exact kX12_areNear_b47 C hQ hf
def fX12_areNear (cp1 : Nat → Int32) (x2 : Int32) (x3 : Int32) : Option (Int32) :=
  if x2 < (0 : Int32) then (fX12_areNear_b46 cp1) else (if x3 < (0 : Int32) then (fX12_areNear_b46 cp1) else ((fX12_atOf cp1 x2).bind (fun r4 => if r4 < (0 : Int32) then (fX12_areNear_b46 cp1) else ((fX12_atOf cp1 x3).bind (fun r6 => if r6 < (0 : Int32) then (fX12_areNear_b46 cp1) else ((fX12_atOf cp1 x2).bind (fun r8 => (fX12_atOf cp1 x3).bind (fun r9 => if (1 : Int32) < (jabs (r8 - r9)) then (fX12_areNear_b46 cp1) else (fX12_areNear_b47 cp1 (1 : Int32))))))))))
set_option maxHeartbeats 400000 in
set_option maxRecDepth 100000 in
theorem kX12_areNear (l : Launch) (D : va_G) (Y : Nat → ClassId) (ao : Nat → Nat) (qp1 : Nat) (io_thrown : Int32) (io_rows : Int32) (io_cells : Int32) (io_children : Int32) (io_changes : Int32) (io_taped : Int32) (io_at : Int32) (io_to : Int32) (io_nest : Int32) (io_readMany : Int32) (io_codeLong : Int32) (io_readLong : Int32) (io_undos : Int32) (io_wentHome : Int32) (io_tideLevel : Int32) (io_acts : Int32) (io_firstBreaks : Int32) (io_bestCrew : Int32) (io_sights : Int32) (io_wayMany : Int32) (io_random : Int32) (cp1 : Nat → Int32) (x2 : Int32) (x3 : Int32) (res : Int32) (hf : fX12_areNear cp1 x2 x3 = some res) : amf l D Y yX12_areNear wsX12_areNear rmX12_areNear [.ref (ao 0), .ref qp1, .int x2, .int x3] [oX12 ao io_thrown io_rows io_cells io_children io_changes io_taped io_at io_to io_nest io_readMany io_codeLong io_readLong io_undos io_wentHome io_tideLevel io_acts io_firstBreaks io_bestCrew io_sights io_wayMany io_random, rI Y qp1 43 cp1] (some (.int res)) [oX12 ao io_thrown io_rows io_cells io_children io_changes io_taped io_at io_to io_nest io_readMany io_codeLong io_readLong io_undos io_wentHome io_tideLevel io_acts io_firstBreaks io_bestCrew io_sights io_wayMany io_random, rI Y qp1 43 cp1] := by
  refine amf.of (cc := cX12_areNear) (maxL := 4) (rt := (some .boolean)) (by decide) rfl RX12 rfl (Nat.le_of_ble_eq_true rfl) [some (.ref (ao 0)), some (.ref qp1), some (.int x2), some (.int x3)] rfl ?_
  intro X C hQ
  unfold fX12_areNear at hf
  refine a_iload_n C dX12_areNear_0 rfl ?_
  refine a_if_lt C 46 dX12_areNear_1 (by decide) (fun h2 => ?_) (fun h2 => ?_)
  · have hf := fx_t h2 hf
    refine a_kill [0, 1, 2, 3] ?_
    exact kX12_areNear_b46 C hQ hf
  · have hf := fx_f h2 hf
    refine a_iload_n C dX12_areNear_4 rfl ?_
    refine a_if_lt C 46 dX12_areNear_5 (by decide) (fun h3 => ?_) (fun h3 => ?_)
    · have hf := fx_t h3 hf
      refine a_kill [0, 1, 2, 3] ?_
      exact kX12_areNear_b46 C hQ hf
    · have hf := fx_f h3 hf
      refine a_aload_n C dX12_areNear_8 rfl ?_
      refine a_iload_n C dX12_areNear_9 rfl ?_
      obtain ⟨r4, h4, hf⟩ := fx_bind hf
      refine a_fS C (kX12_atOf l D Y qp1 cp1 x2 r4 h4) (gB_X12_129 _) rfl dvX12_atOf ⟨⟨rfl, rfl⟩, ⟨Nat.le_of_ble_eq_true rfl, Nat.le_of_ble_eq_true rfl⟩, ⟨Nat.le_of_ble_eq_true rfl, Nat.le_of_ble_eq_true rfl⟩⟩ rfl (Nat.le_of_ble_eq_true rfl) dX12_areNear_10 [1] [0] ⟨rfl, trivial⟩ (by decide +kernel) rfl [oX12 ao io_thrown io_rows io_cells io_children io_changes io_taped io_at io_to io_nest io_readMany io_codeLong io_readLong io_undos io_wentHome io_tideLevel io_acts io_firstBreaks io_bestCrew io_sights io_wayMany io_random, rI Y qp1 43 cp1] ⟨rfl, trivial⟩ ⟨rfl, trivial⟩ 2 rfl (by decide +kernel) ?_
      refine a_if_lt C 46 dX12_areNear_13 (by decide) (fun h5 => ?_) (fun h5 => ?_)
      · have hf := fx_t h5 hf
        refine a_kill [0, 1, 2, 3] ?_
        exact kX12_areNear_b46 C hQ hf
      · have hf := fx_f h5 hf
        refine a_aload_n C dX12_areNear_16 rfl ?_
        refine a_iload_n C dX12_areNear_17 rfl ?_
        obtain ⟨r6, h6, hf⟩ := fx_bind hf
        refine a_fS C (kX12_atOf l D Y qp1 cp1 x3 r6 h6) (gB_X12_129 _) rfl dvX12_atOf ⟨⟨rfl, rfl⟩, ⟨Nat.le_of_ble_eq_true rfl, Nat.le_of_ble_eq_true rfl⟩, ⟨Nat.le_of_ble_eq_true rfl, Nat.le_of_ble_eq_true rfl⟩⟩ rfl (Nat.le_of_ble_eq_true rfl) dX12_areNear_18 [1] [0] ⟨rfl, trivial⟩ (by decide +kernel) rfl [oX12 ao io_thrown io_rows io_cells io_children io_changes io_taped io_at io_to io_nest io_readMany io_codeLong io_readLong io_undos io_wentHome io_tideLevel io_acts io_firstBreaks io_bestCrew io_sights io_wayMany io_random, rI Y qp1 43 cp1] ⟨rfl, trivial⟩ ⟨rfl, trivial⟩ 2 rfl (by decide +kernel) ?_
        refine a_if_lt C 46 dX12_areNear_21 (by decide) (fun h7 => ?_) (fun h7 => ?_)
        · have hf := fx_t h7 hf
          refine a_kill [0, 1, 2, 3] ?_
          exact kX12_areNear_b46 C hQ hf
        · have hf := fx_f h7 hf
          refine a_aload_n C dX12_areNear_24 rfl ?_
          refine a_iload_n C dX12_areNear_25 rfl ?_
          obtain ⟨r8, h8, hf⟩ := fx_bind hf
          refine a_fS C (kX12_atOf l D Y qp1 cp1 x2 r8 h8) (gB_X12_129 _) rfl dvX12_atOf ⟨⟨rfl, rfl⟩, ⟨Nat.le_of_ble_eq_true rfl, Nat.le_of_ble_eq_true rfl⟩, ⟨Nat.le_of_ble_eq_true rfl, Nat.le_of_ble_eq_true rfl⟩⟩ rfl (Nat.le_of_ble_eq_true rfl) dX12_areNear_26 [1] [0] ⟨rfl, trivial⟩ (by decide +kernel) rfl [oX12 ao io_thrown io_rows io_cells io_children io_changes io_taped io_at io_to io_nest io_readMany io_codeLong io_readLong io_undos io_wentHome io_tideLevel io_acts io_firstBreaks io_bestCrew io_sights io_wayMany io_random, rI Y qp1 43 cp1] ⟨rfl, trivial⟩ ⟨rfl, trivial⟩ 2 rfl (by decide +kernel) ?_
          refine a_aload_n C dX12_areNear_29 rfl ?_
          refine a_iload_n C dX12_areNear_30 rfl ?_
          obtain ⟨r9, h9, hf⟩ := fx_bind hf
          refine a_fS C (kX12_atOf l D Y qp1 cp1 x3 r9 h9) (gB_X12_129 _) rfl dvX12_atOf ⟨⟨rfl, rfl⟩, ⟨Nat.le_of_ble_eq_true rfl, Nat.le_of_ble_eq_true rfl⟩, ⟨Nat.le_of_ble_eq_true rfl, Nat.le_of_ble_eq_true rfl⟩⟩ rfl (Nat.le_of_ble_eq_true rfl) dX12_areNear_31 [1] [0] ⟨rfl, trivial⟩ (by decide +kernel) rfl [oX12 ao io_thrown io_rows io_cells io_children io_changes io_taped io_at io_to io_nest io_readMany io_codeLong io_readLong io_undos io_wentHome io_tideLevel io_acts io_firstBreaks io_bestCrew io_sights io_wayMany io_random, rI Y qp1 43 cp1] ⟨rfl, trivial⟩ ⟨rfl, trivial⟩ 2 rfl (by decide +kernel) ?_
          refine a_isub C dX12_areNear_34 ?_
          refine a_mabs C dX12_areNear_35 (mB_X12_262 _) ⟨⟨Nat.le_of_ble_eq_true rfl, Nat.le_of_ble_eq_true rfl⟩, ⟨Nat.le_of_ble_eq_true rfl, Nat.le_of_ble_eq_true rfl⟩⟩ (Nat.le_of_ble_eq_true rfl) ?_
          refine a_iconst C (1 : Int32) dX12_areNear_38 (by decide) ?_
          refine a_icmp_gt C 46 dX12_areNear_39 (by decide) (fun h10 => ?_) (fun h10 => ?_)
          · have hf := fx_t h10 hf
            refine a_kill [0, 1, 2, 3] ?_
            exact kX12_areNear_b46 C hQ hf
          · have hf := fx_f h10 hf
            refine a_iconst C (1 : Int32) dX12_areNear_42 (by decide) ?_
            refine a_goto C 47 dX12_areNear_43 (by decide) ?_
            refine a_kill [0, 1, 2, 3] ?_
            exact kX12_areNear_b47 C hQ hf
-- X12_hasFriend
abbrev rmX12_hasFriend : Room := { frames := 2, cells := 0, slots := 0, locals := 44 }
theorem dvX12_hasFriend : yX12_hasFriend.cls = RX12 ∧ yX12_hasFriend.cls ≠ "java/lang/invoke/MethodHandle" ∧ yX12_hasFriend.cls ≠ "java/lang/invoke/VarHandle" ∧ (parseMethodDescriptor yX12_hasFriend.desc).map (fun d => d.parameters.length) = some 2 := by decide +kernel
def fX12_hasFriend_b63 (io_children : Int32) (co_friend : Nat → Int32) (cp1 : Nat → Int32) (x3 : Int32) : Option (Int32) :=
  if x3 = 0 ∨ x3 = 1 then some x3 else none
set_option maxHeartbeats 400000 in
set_option maxRecDepth 100000 in
theorem kX12_hasFriend_b63 {X : cxT} {l : Launch} {D : va_G} {Y : Nat → ClassId} {ao : Nat → Nat} {qp1 : Nat} {io_thrown : Int32} {io_rows : Int32} {io_cells : Int32} {io_children : Int32} {io_changes : Int32} {io_taped : Int32} {io_at : Int32} {io_to : Int32} {io_nest : Int32} {io_readMany : Int32} {io_codeLong : Int32} {io_readLong : Int32} {io_undos : Int32} {io_wentHome : Int32} {io_tideLevel : Int32} {io_acts : Int32} {io_firstBreaks : Int32} {io_bestCrew : Int32} {io_sights : Int32} {io_wayMany : Int32} {io_random : Int32} {co_friend : Nat → Int32} {cp1 : Nat → Int32} {x3 : Int32} {res : Int32} (C : axC X l D Y cX12_hasFriend 5 RX12 wsX12_hasFriend rmX12_hasFriend (some .boolean)) (hQ : axQ X 0 0 (fun r9 w9 => r9 = (some (.int res)) ∧ w9 = [oX12 ao io_thrown io_rows io_cells io_children io_changes io_taped io_at io_to io_nest io_readMany io_codeLong io_readLong io_undos io_wentHome io_tideLevel io_acts io_firstBreaks io_bestCrew io_sights io_wayMany io_random, rI Y (ao 6) 8 co_friend, rI Y qp1 43 cp1])) (hf : fX12_hasFriend_b63 io_children co_friend cp1 x3 = some res) : ax X 0 0 63 [none, none, none, some (.int x3), none] [oX12 ao io_thrown io_rows io_cells io_children io_changes io_taped io_at io_to io_nest io_readMany io_codeLong io_readLong io_undos io_wentHome io_tideLevel io_acts io_firstBreaks io_bestCrew io_sights io_wayMany io_random, rI Y (ao 6) 8 co_friend, rI Y qp1 43 cp1] [] := by
  unfold fX12_hasFriend_b63 at hf
  refine a_iload_n C dX12_hasFriend_63 rfl ?_
  obtain ⟨h1, hf⟩ := fx_ite hf
  obtain rfl := fx_some hf
  exact a_zret C hQ h1 dX12_hasFriend_64 ⟨rfl, rfl⟩
def fX12_hasFriend_b56 (io_children : Int32) (co_friend : Nat → Int32) (cp1 : Nat → Int32) (x2 : Int32) (x4 : Int32) (s0 : Int32) (k16 : Int32 × Int32 → Option (Int32)) : Option (Int32) :=
  k16 (s0, (x4 + (1 : Int32)))
set_option maxHeartbeats 400000 in
set_option maxRecDepth 100000 in
theorem kX12_hasFriend_b56 {X : cxT} {l : Launch} {D : va_G} {Y : Nat → ClassId} {ao : Nat → Nat} {qp1 : Nat} {io_thrown : Int32} {io_rows : Int32} {io_cells : Int32} {io_children : Int32} {io_changes : Int32} {io_taped : Int32} {io_at : Int32} {io_to : Int32} {io_nest : Int32} {io_readMany : Int32} {io_codeLong : Int32} {io_readLong : Int32} {io_undos : Int32} {io_wentHome : Int32} {io_tideLevel : Int32} {io_acts : Int32} {io_firstBreaks : Int32} {io_bestCrew : Int32} {io_sights : Int32} {io_wayMany : Int32} {io_random : Int32} {co_friend : Nat → Int32} {cp1 : Nat → Int32} {x2 : Int32} {x4 : Int32} {s0 : Int32} {res : Int32} (C : axC X l D Y cX12_hasFriend 5 RX12 wsX12_hasFriend rmX12_hasFriend (some .boolean)) (hQ : axQ X 0 0 (fun r9 w9 => r9 = (some (.int res)) ∧ w9 = [oX12 ao io_thrown io_rows io_cells io_children io_changes io_taped io_at io_to io_nest io_readMany io_codeLong io_readLong io_undos io_wentHome io_tideLevel io_acts io_firstBreaks io_bestCrew io_sights io_wayMany io_random, rI Y (ao 6) 8 co_friend, rI Y qp1 43 cp1])) {k16 : Int32 × Int32 → Option (Int32)} (hk16 : ∀ s : Int32 × Int32, k16 s = some res → ax X 0 0 16 [some (.ref (ao 0)), some (.ref qp1), some (.int x2), some (.int s.1), some (.int s.2)] [oX12 ao io_thrown io_rows io_cells io_children io_changes io_taped io_at io_to io_nest io_readMany io_codeLong io_readLong io_undos io_wentHome io_tideLevel io_acts io_firstBreaks io_bestCrew io_sights io_wayMany io_random, rI Y (ao 6) 8 co_friend, rI Y qp1 43 cp1] []) (hf : fX12_hasFriend_b56 io_children co_friend cp1 x2 x4 s0 k16 = some res) : ax X 0 0 56 [some (.ref (ao 0)), some (.ref qp1), some (.int x2), none, some (.int x4)] [oX12 ao io_thrown io_rows io_cells io_children io_changes io_taped io_at io_to io_nest io_readMany io_codeLong io_readLong io_undos io_wentHome io_tideLevel io_acts io_firstBreaks io_bestCrew io_sights io_wayMany io_random, rI Y (ao 6) 8 co_friend, rI Y qp1 43 cp1] [.int s0] := by
  unfold fX12_hasFriend_b56 at hf
  refine a_istore_n C dX12_hasFriend_56 (by decide) rfl ?_
  refine a_iinc C (1 : Int32) dX12_hasFriend_57 (by decide) rfl (by decide) rfl ?_
  refine a_goto C 16 dX12_hasFriend_60 (by decide) ?_
  exact hk16 (s0, (x4 + (1 : Int32))) hf
def fX12_hasFriend_b51 (io_children : Int32) (co_friend : Nat → Int32) (cp1 : Nat → Int32) (x2 : Int32) (x4 : Int32) (k16 : Int32 × Int32 → Option (Int32)) : Option (Int32) :=
  fX12_hasFriend_b56 io_children co_friend cp1 x2 x4 (1 : Int32) k16
set_option maxHeartbeats 400000 in
set_option maxRecDepth 100000 in
theorem kX12_hasFriend_b51 {X : cxT} {l : Launch} {D : va_G} {Y : Nat → ClassId} {ao : Nat → Nat} {qp1 : Nat} {io_thrown : Int32} {io_rows : Int32} {io_cells : Int32} {io_children : Int32} {io_changes : Int32} {io_taped : Int32} {io_at : Int32} {io_to : Int32} {io_nest : Int32} {io_readMany : Int32} {io_codeLong : Int32} {io_readLong : Int32} {io_undos : Int32} {io_wentHome : Int32} {io_tideLevel : Int32} {io_acts : Int32} {io_firstBreaks : Int32} {io_bestCrew : Int32} {io_sights : Int32} {io_wayMany : Int32} {io_random : Int32} {co_friend : Nat → Int32} {cp1 : Nat → Int32} {x2 : Int32} {x4 : Int32} {res : Int32} (C : axC X l D Y cX12_hasFriend 5 RX12 wsX12_hasFriend rmX12_hasFriend (some .boolean)) (hQ : axQ X 0 0 (fun r9 w9 => r9 = (some (.int res)) ∧ w9 = [oX12 ao io_thrown io_rows io_cells io_children io_changes io_taped io_at io_to io_nest io_readMany io_codeLong io_readLong io_undos io_wentHome io_tideLevel io_acts io_firstBreaks io_bestCrew io_sights io_wayMany io_random, rI Y (ao 6) 8 co_friend, rI Y qp1 43 cp1])) {k16 : Int32 × Int32 → Option (Int32)} (hk16 : ∀ s : Int32 × Int32, k16 s = some res → ax X 0 0 16 [some (.ref (ao 0)), some (.ref qp1), some (.int x2), some (.int s.1), some (.int s.2)] [oX12 ao io_thrown io_rows io_cells io_children io_changes io_taped io_at io_to io_nest io_readMany io_codeLong io_readLong io_undos io_wentHome io_tideLevel io_acts io_firstBreaks io_bestCrew io_sights io_wayMany io_random, rI Y (ao 6) 8 co_friend, rI Y qp1 43 cp1] []) (hf : fX12_hasFriend_b51 io_children co_friend cp1 x2 x4 k16 = some res) : ax X 0 0 51 [some (.ref (ao 0)), some (.ref qp1), some (.int x2), none, some (.int x4)] [oX12 ao io_thrown io_rows io_cells io_children io_changes io_taped io_at io_to io_nest io_readMany io_codeLong io_readLong io_undos io_wentHome io_tideLevel io_acts io_firstBreaks io_bestCrew io_sights io_wayMany io_random, rI Y (ao 6) 8 co_friend, rI Y qp1 43 cp1] [] := by
  unfold fX12_hasFriend_b51 at hf
  refine a_iconst C (1 : Int32) dX12_hasFriend_51 (by decide) ?_
  refine a_goto C 56 dX12_hasFriend_52 (by decide) ?_
  exact kX12_hasFriend_b56 C hQ hk16 hf
def fX12_hasFriend_b55 (io_children : Int32) (co_friend : Nat → Int32) (cp1 : Nat → Int32) (x2 : Int32) (x4 : Int32) (k16 : Int32 × Int32 → Option (Int32)) : Option (Int32) :=
  fX12_hasFriend_b56 io_children co_friend cp1 x2 x4 (0 : Int32) k16
set_option maxHeartbeats 400000 in
set_option maxRecDepth 100000 in
theorem kX12_hasFriend_b55 {X : cxT} {l : Launch} {D : va_G} {Y : Nat → ClassId} {ao : Nat → Nat} {qp1 : Nat} {io_thrown : Int32} {io_rows : Int32} {io_cells : Int32} {io_children : Int32} {io_changes : Int32} {io_taped : Int32} {io_at : Int32} {io_to : Int32} {io_nest : Int32} {io_readMany : Int32} {io_codeLong : Int32} {io_readLong : Int32} {io_undos : Int32} {io_wentHome : Int32} {io_tideLevel : Int32} {io_acts : Int32} {io_firstBreaks : Int32} {io_bestCrew : Int32} {io_sights : Int32} {io_wayMany : Int32} {io_random : Int32} {co_friend : Nat → Int32} {cp1 : Nat → Int32} {x2 : Int32} {x4 : Int32} {res : Int32} (C : axC X l D Y cX12_hasFriend 5 RX12 wsX12_hasFriend rmX12_hasFriend (some .boolean)) (hQ : axQ X 0 0 (fun r9 w9 => r9 = (some (.int res)) ∧ w9 = [oX12 ao io_thrown io_rows io_cells io_children io_changes io_taped io_at io_to io_nest io_readMany io_codeLong io_readLong io_undos io_wentHome io_tideLevel io_acts io_firstBreaks io_bestCrew io_sights io_wayMany io_random, rI Y (ao 6) 8 co_friend, rI Y qp1 43 cp1])) {k16 : Int32 × Int32 → Option (Int32)} (hk16 : ∀ s : Int32 × Int32, k16 s = some res → ax X 0 0 16 [some (.ref (ao 0)), some (.ref qp1), some (.int x2), some (.int s.1), some (.int s.2)] [oX12 ao io_thrown io_rows io_cells io_children io_changes io_taped io_at io_to io_nest io_readMany io_codeLong io_readLong io_undos io_wentHome io_tideLevel io_acts io_firstBreaks io_bestCrew io_sights io_wayMany io_random, rI Y (ao 6) 8 co_friend, rI Y qp1 43 cp1] []) (hf : fX12_hasFriend_b55 io_children co_friend cp1 x2 x4 k16 = some res) : ax X 0 0 55 [some (.ref (ao 0)), some (.ref qp1), some (.int x2), none, some (.int x4)] [oX12 ao io_thrown io_rows io_cells io_children io_changes io_taped io_at io_to io_nest io_readMany io_codeLong io_readLong io_undos io_wentHome io_tideLevel io_acts io_firstBreaks io_bestCrew io_sights io_wayMany io_random, rI Y (ao 6) 8 co_friend, rI Y qp1 43 cp1] [] := by
  unfold fX12_hasFriend_b55 at hf
  refine a_iconst C (0 : Int32) dX12_hasFriend_55 (by decide) ?_
  exact kX12_hasFriend_b56 C hQ hk16 hf
def fX12_hasFriend_l16 (io_children : Int32) (co_friend : Nat → Int32) (cp1 : Nat → Int32) (x2 : Int32) (k16 : Int32 × Int32 → Option (Int32)) (x3 : Int32) (x4 : Int32) : Option (Int32) :=
  if io_children ≤ x4 then (fX12_hasFriend_b63 io_children co_friend cp1 x3) else (if x3 = (0 : Int32) then (if inb x4 8 then if (co_friend (Int32.toNatClampNeg x4)) = x2 then ((fX12_areNear cp1 x2 x4).bind (fun r6 => if r6 = (0 : Int32) then (fX12_hasFriend_b55 io_children co_friend cp1 x2 x4 k16) else (fX12_hasFriend_b51 io_children co_friend cp1 x2 x4 k16))) else (fX12_hasFriend_b55 io_children co_friend cp1 x2 x4 k16) else none) else (fX12_hasFriend_b51 io_children co_friend cp1 x2 x4 k16))
def fX12_hasFriend_b16 (io_children : Int32) (co_friend : Nat → Int32) (cp1 : Nat → Int32) (x2 : Int32) (x3 : Int32) (x4 : Int32) : Option (Int32) :=
  loopN (fun (s : Int32 × Int32) k16 => fX12_hasFriend_l16 io_children co_friend cp1 x2 k16 s.1 s.2) FUEL (x3, x4)
set_option maxHeartbeats 400000 in
set_option maxRecDepth 100000 in
theorem kX12_hasFriend_l16 {X : cxT} {l : Launch} {D : va_G} {Y : Nat → ClassId} {ao : Nat → Nat} {qp1 : Nat} {io_thrown : Int32} {io_rows : Int32} {io_cells : Int32} {io_children : Int32} {io_changes : Int32} {io_taped : Int32} {io_at : Int32} {io_to : Int32} {io_nest : Int32} {io_readMany : Int32} {io_codeLong : Int32} {io_readLong : Int32} {io_undos : Int32} {io_wentHome : Int32} {io_tideLevel : Int32} {io_acts : Int32} {io_firstBreaks : Int32} {io_bestCrew : Int32} {io_sights : Int32} {io_wayMany : Int32} {io_random : Int32} {co_friend : Nat → Int32} {cp1 : Nat → Int32} {x2 : Int32} {x3 : Int32} {x4 : Int32} {res : Int32} (C : axC X l D Y cX12_hasFriend 5 RX12 wsX12_hasFriend rmX12_hasFriend (some .boolean)) (hQ : axQ X 0 0 (fun r9 w9 => r9 = (some (.int res)) ∧ w9 = [oX12 ao io_thrown io_rows io_cells io_children io_changes io_taped io_at io_to io_nest io_readMany io_codeLong io_readLong io_undos io_wentHome io_tideLevel io_acts io_firstBreaks io_bestCrew io_sights io_wayMany io_random, rI Y (ao 6) 8 co_friend, rI Y qp1 43 cp1])) {k16 : Int32 × Int32 → Option (Int32)} (hk16 : ∀ s : Int32 × Int32, k16 s = some res → ax X 0 0 16 [some (.ref (ao 0)), some (.ref qp1), some (.int x2), some (.int s.1), some (.int s.2)] [oX12 ao io_thrown io_rows io_cells io_children io_changes io_taped io_at io_to io_nest io_readMany io_codeLong io_readLong io_undos io_wentHome io_tideLevel io_acts io_firstBreaks io_bestCrew io_sights io_wayMany io_random, rI Y (ao 6) 8 co_friend, rI Y qp1 43 cp1] []) (hf : fX12_hasFriend_l16 io_children co_friend cp1 x2 k16 x3 x4 = some res) : ax X 0 0 16 [some (.ref (ao 0)), some (.ref qp1), some (.int x2), some (.int x3), some (.int x4)] [oX12 ao io_thrown io_rows io_cells io_children io_changes io_taped io_at io_to io_nest io_readMany io_codeLong io_readLong io_undos io_wentHome io_tideLevel io_acts io_firstBreaks io_bestCrew io_sights io_wayMany io_random, rI Y (ao 6) 8 co_friend, rI Y qp1 43 cp1] [] := by
  unfold fX12_hasFriend_l16 at hf
  refine a_iload C dX12_hasFriend_16 rfl ?_
  refine a_aload_n C dX12_hasFriend_18 rfl ?_
  refine a_get C (eB_X12_126 _) dX12_hasFriend_19 0 rfl rfl ?_
  refine a_icmp_ge C 63 dX12_hasFriend_22 (by decide) (fun h2 => ?_) (fun h2 => ?_)
  · have hf := fx_t h2 hf
    refine a_kill [0, 1, 2, 4] ?_
    exact kX12_hasFriend_b63 C hQ hf
  · have hf := fx_f h2 hf
    refine a_iload_n C dX12_hasFriend_25 rfl ?_
    refine a_if_ne C 51 dX12_hasFriend_26 (by decide) (fun h3 => ?_) (fun h3 => ?_)
    · have hf := fx_f h3 hf
      refine a_kill [3] ?_
      exact kX12_hasFriend_b51 C hQ hk16 hf
    · have hf := fx_t h3 hf
      refine a_aload_n C dX12_hasFriend_29 rfl ?_
      refine a_get C (eB_X12_30 _) dX12_hasFriend_30 0 rfl rfl ?_
      refine a_iload C dX12_hasFriend_33 rfl ?_
      obtain ⟨h4, hf⟩ := fx_ite hf
      refine a_iald C dX12_hasFriend_35 1 rfl h4 ?_
      refine a_iload_n C dX12_hasFriend_36 rfl ?_
      refine a_icmp_ne C 55 dX12_hasFriend_37 (by decide) (fun h5 => ?_) (fun h5 => ?_)
      · have hf := fx_f h5 hf
        refine a_kill [3] ?_
        exact kX12_hasFriend_b55 C hQ hk16 hf
      · have hf := fx_t h5 hf
        refine a_aload_n C dX12_hasFriend_40 rfl ?_
        refine a_aload_n C dX12_hasFriend_41 rfl ?_
        refine a_iload_n C dX12_hasFriend_42 rfl ?_
        refine a_iload C dX12_hasFriend_43 rfl ?_
        obtain ⟨r6, h6, hf⟩ := fx_bind hf
        refine a_fV C (kX12_areNear l D Y ao qp1 io_thrown io_rows io_cells io_children io_changes io_taped io_at io_to io_nest io_readMany io_codeLong io_readLong io_undos io_wentHome io_tideLevel io_acts io_firstBreaks io_bestCrew io_sights io_wayMany io_random cp1 x2 x4 r6 h6) (gB_X12_265 _) rfl dvX12_areNear ⟨⟨rfl, rfl⟩, ⟨Nat.le_of_ble_eq_true rfl, Nat.le_of_ble_eq_true rfl⟩, ⟨Nat.le_of_ble_eq_true rfl, Nat.le_of_ble_eq_true rfl⟩⟩ rfl (Nat.le_of_ble_eq_true rfl) dX12_hasFriend_45 rfl rfl [0, 2] [1] ⟨rfl, rfl, trivial⟩ (by decide +kernel) rfl [oX12 ao io_thrown io_rows io_cells io_children io_changes io_taped io_at io_to io_nest io_readMany io_codeLong io_readLong io_undos io_wentHome io_tideLevel io_acts io_firstBreaks io_bestCrew io_sights io_wayMany io_random, rI Y (ao 6) 8 co_friend, rI Y qp1 43 cp1] ⟨rfl, rfl, trivial⟩ ⟨rfl, trivial⟩ 3 rfl (by decide +kernel) ?_
        refine a_if_eq C 55 dX12_hasFriend_48 (by decide) (fun h7 => ?_) (fun h7 => ?_)
        · have hf := fx_t h7 hf
          refine a_kill [3] ?_
          exact kX12_hasFriend_b55 C hQ hk16 hf
        · have hf := fx_f h7 hf
          refine a_kill [3] ?_
          exact kX12_hasFriend_b51 C hQ hk16 hf
set_option maxHeartbeats 400000 in
set_option maxRecDepth 100000 in
theorem kX12_hasFriend_b16 {X : cxT} {l : Launch} {D : va_G} {Y : Nat → ClassId} {ao : Nat → Nat} {qp1 : Nat} {io_thrown : Int32} {io_rows : Int32} {io_cells : Int32} {io_children : Int32} {io_changes : Int32} {io_taped : Int32} {io_at : Int32} {io_to : Int32} {io_nest : Int32} {io_readMany : Int32} {io_codeLong : Int32} {io_readLong : Int32} {io_undos : Int32} {io_wentHome : Int32} {io_tideLevel : Int32} {io_acts : Int32} {io_firstBreaks : Int32} {io_bestCrew : Int32} {io_sights : Int32} {io_wayMany : Int32} {io_random : Int32} {co_friend : Nat → Int32} {cp1 : Nat → Int32} {x2 : Int32} {x3 : Int32} {x4 : Int32} {res : Int32} (C : axC X l D Y cX12_hasFriend 5 RX12 wsX12_hasFriend rmX12_hasFriend (some .boolean)) (hQ : axQ X 0 0 (fun r9 w9 => r9 = (some (.int res)) ∧ w9 = [oX12 ao io_thrown io_rows io_cells io_children io_changes io_taped io_at io_to io_nest io_readMany io_codeLong io_readLong io_undos io_wentHome io_tideLevel io_acts io_firstBreaks io_bestCrew io_sights io_wayMany io_random, rI Y (ao 6) 8 co_friend, rI Y qp1 43 cp1])) (hf : fX12_hasFriend_b16 io_children co_friend cp1 x2 x3 x4 = some res) : ax X 0 0 16 [some (.ref (ao 0)), some (.ref qp1), some (.int x2), some (.int x3), some (.int x4)] [oX12 ao io_thrown io_rows io_cells io_children io_changes io_taped io_at io_to io_nest io_readMany io_codeLong io_readLong io_undos io_wentHome io_tideLevel io_acts io_firstBreaks io_bestCrew io_sights io_wayMany io_random, rI Y (ao 6) 8 co_friend, rI Y qp1 43 cp1] [] := by
  unfold fX12_hasFriend_b16 at hf
  exact fx_loop (P := fun s : Int32 × Int32 => ax X 0 0 16 [some (.ref (ao 0)), some (.ref qp1), some (.int x2), some (.int s.1), some (.int s.2)] [oX12 ao io_thrown io_rows io_cells io_children io_changes io_taped io_at io_to io_nest io_readMany io_codeLong io_readLong io_undos io_wentHome io_tideLevel io_acts io_firstBreaks io_bestCrew io_sights io_wayMany io_random, rI Y (ao 6) 8 co_friend, rI Y qp1 43 cp1] []) (fun s k16 hk16 h => kX12_hasFriend_l16 C hQ hk16 h) FUEL (x3, x4) hf
def fX12_hasFriend (io_children : Int32) (co_friend : Nat → Int32) (cp1 : Nat → Int32) (x2 : Int32) : Option (Int32) :=
  if inb x2 8 then (fX12_areNear cp1 x2 (co_friend (Int32.toNatClampNeg x2))).bind (fun r9 => fX12_hasFriend_b16 io_children co_friend cp1 x2 r9 (0 : Int32)) else none
set_option maxHeartbeats 400000 in
set_option maxRecDepth 100000 in
theorem kX12_hasFriend (l : Launch) (D : va_G) (Y : Nat → ClassId) (ao : Nat → Nat) (qp1 : Nat) (io_thrown : Int32) (io_rows : Int32) (io_cells : Int32) (io_children : Int32) (io_changes : Int32) (io_taped : Int32) (io_at : Int32) (io_to : Int32) (io_nest : Int32) (io_readMany : Int32) (io_codeLong : Int32) (io_readLong : Int32) (io_undos : Int32) (io_wentHome : Int32) (io_tideLevel : Int32) (io_acts : Int32) (io_firstBreaks : Int32) (io_bestCrew : Int32) (io_sights : Int32) (io_wayMany : Int32) (io_random : Int32) (co_friend : Nat → Int32) (cp1 : Nat → Int32) (x2 : Int32) (res : Int32) (hf : fX12_hasFriend io_children co_friend cp1 x2 = some res) : amf l D Y yX12_hasFriend wsX12_hasFriend rmX12_hasFriend [.ref (ao 0), .ref qp1, .int x2] [oX12 ao io_thrown io_rows io_cells io_children io_changes io_taped io_at io_to io_nest io_readMany io_codeLong io_readLong io_undos io_wentHome io_tideLevel io_acts io_firstBreaks io_bestCrew io_sights io_wayMany io_random, rI Y (ao 6) 8 co_friend, rI Y qp1 43 cp1] (some (.int res)) [oX12 ao io_thrown io_rows io_cells io_children io_changes io_taped io_at io_to io_nest io_readMany io_codeLong io_readLong io_undos io_wentHome io_tideLevel io_acts io_firstBreaks io_bestCrew io_sights io_wayMany io_random, rI Y (ao 6) 8 co_friend, rI Y qp1 43 cp1] := by
  refine amf.of (cc := cX12_hasFriend) (maxL := 5) (rt := (some .boolean)) (by decide) rfl RX12 rfl (Nat.le_of_ble_eq_true rfl) [some (.ref (ao 0)), some (.ref qp1), some (.int x2), none, none] rfl ?_
  intro X C hQ
  unfold fX12_hasFriend at hf
  refine a_aload_n C dX12_hasFriend_0 rfl ?_
  refine a_aload_n C dX12_hasFriend_1 rfl ?_
  refine a_iload_n C dX12_hasFriend_2 rfl ?_
  refine a_aload_n C dX12_hasFriend_3 rfl ?_
  refine a_get C (eB_X12_30 _) dX12_hasFriend_4 0 rfl rfl ?_
  refine a_iload_n C dX12_hasFriend_7 rfl ?_
  obtain ⟨h8, hf⟩ := fx_ite hf
  refine a_iald C dX12_hasFriend_8 1 rfl h8 ?_
  obtain ⟨r9, h9, hf⟩ := fx_bind hf
  refine a_fV C (kX12_areNear l D Y ao qp1 io_thrown io_rows io_cells io_children io_changes io_taped io_at io_to io_nest io_readMany io_codeLong io_readLong io_undos io_wentHome io_tideLevel io_acts io_firstBreaks io_bestCrew io_sights io_wayMany io_random cp1 x2 (co_friend (Int32.toNatClampNeg x2)) r9 h9) (gB_X12_265 _) rfl dvX12_areNear ⟨⟨rfl, rfl⟩, ⟨Nat.le_of_ble_eq_true rfl, Nat.le_of_ble_eq_true rfl⟩, ⟨Nat.le_of_ble_eq_true rfl, Nat.le_of_ble_eq_true rfl⟩⟩ rfl (Nat.le_of_ble_eq_true rfl) dX12_hasFriend_9 rfl rfl [0, 2] [1] ⟨rfl, rfl, trivial⟩ (by decide +kernel) rfl [oX12 ao io_thrown io_rows io_cells io_children io_changes io_taped io_at io_to io_nest io_readMany io_codeLong io_readLong io_undos io_wentHome io_tideLevel io_acts io_firstBreaks io_bestCrew io_sights io_wayMany io_random, rI Y (ao 6) 8 co_friend, rI Y qp1 43 cp1] ⟨rfl, rfl, trivial⟩ ⟨rfl, trivial⟩ 3 rfl (by decide +kernel) ?_
  refine a_istore_n C dX12_hasFriend_12 (by decide) rfl ?_
  refine a_iconst C (0 : Int32) dX12_hasFriend_13 (by decide) ?_
  refine a_istore C dX12_hasFriend_14 (by decide) rfl ?_
  exact kX12_hasFriend_b16 C hQ hf
-- X12_bucketsOf
abbrev rmX12_bucketsOf : Room := { frames := 3, cells := 0, slots := 0, locals := 68 }
theorem dvX12_bucketsOf : yX12_bucketsOf.cls = RX12 ∧ yX12_bucketsOf.cls ≠ "java/lang/invoke/MethodHandle" ∧ yX12_bucketsOf.cls ≠ "java/lang/invoke/VarHandle" ∧ (parseMethodDescriptor yX12_bucketsOf.desc).map (fun d => d.parameters.length) = some 2 := by decide +kernel
def fX12_bucketsOf_b76 (io_children : Int32) (co_age : Nat → Int32) (co_skill : Nat → Int32) (co_friend : Nat → Int32) (cp1 : Nat → Int32) (s0 : Int32) : Option (Int32) :=
  some s0
set_option maxHeartbeats 400000 in
set_option maxRecDepth 100000 in
theorem kX12_bucketsOf_b76 {X : cxT} {l : Launch} {D : va_G} {Y : Nat → ClassId} {ao : Nat → Nat} {qp1 : Nat} {io_thrown : Int32} {io_rows : Int32} {io_cells : Int32} {io_children : Int32} {io_changes : Int32} {io_taped : Int32} {io_at : Int32} {io_to : Int32} {io_nest : Int32} {io_readMany : Int32} {io_codeLong : Int32} {io_readLong : Int32} {io_undos : Int32} {io_wentHome : Int32} {io_tideLevel : Int32} {io_acts : Int32} {io_firstBreaks : Int32} {io_bestCrew : Int32} {io_sights : Int32} {io_wayMany : Int32} {io_random : Int32} {co_age : Nat → Int32} {co_skill : Nat → Int32} {co_friend : Nat → Int32} {cp1 : Nat → Int32} {s0 : Int32} {res : Int32} (C : axC X l D Y cX12_bucketsOf 4 RX12 wsX12_bucketsOf rmX12_bucketsOf (some .int)) (hQ : axQ X 0 0 (fun r9 w9 => r9 = (some (.int res)) ∧ w9 = [oX12 ao io_thrown io_rows io_cells io_children io_changes io_taped io_at io_to io_nest io_readMany io_codeLong io_readLong io_undos io_wentHome io_tideLevel io_acts io_firstBreaks io_bestCrew io_sights io_wayMany io_random, rI Y (ao 4) 8 co_age, rI Y (ao 5) 8 co_skill, rI Y (ao 6) 8 co_friend, rI Y qp1 43 cp1])) (hf : fX12_bucketsOf_b76 io_children co_age co_skill co_friend cp1 s0 = some res) : ax X 0 0 76 [none, none, none, none] [oX12 ao io_thrown io_rows io_cells io_children io_changes io_taped io_at io_to io_nest io_readMany io_codeLong io_readLong io_undos io_wentHome io_tideLevel io_acts io_firstBreaks io_bestCrew io_sights io_wayMany io_random, rI Y (ao 4) 8 co_age, rI Y (ao 5) 8 co_skill, rI Y (ao 6) 8 co_friend, rI Y qp1 43 cp1] [.int s0] := by
  unfold fX12_bucketsOf_b76 at hf
  obtain rfl := fx_some hf
  exact a_iret C hQ dX12_bucketsOf_76 ⟨rfl, rfl⟩
def fX12_bucketsOf_b57 (io_children : Int32) (co_age : Nat → Int32) (co_skill : Nat → Int32) (co_friend : Nat → Int32) (cp1 : Nat → Int32) (x2 : Int32) (s0 : Int32) : Option (Int32) :=
  if inb x2 8 then if (co_age (Int32.toNatClampNeg x2)) = (13 : Int32) then (fX12_bucketsOf_b76 io_children co_age co_skill co_friend cp1 (s0 / (2 : Int32))) else (fX12_bucketsOf_b76 io_children co_age co_skill co_friend cp1 s0) else none
set_option maxHeartbeats 400000 in
set_option maxRecDepth 100000 in
theorem kX12_bucketsOf_b57 {X : cxT} {l : Launch} {D : va_G} {Y : Nat → ClassId} {ao : Nat → Nat} {qp1 : Nat} {io_thrown : Int32} {io_rows : Int32} {io_cells : Int32} {io_children : Int32} {io_changes : Int32} {io_taped : Int32} {io_at : Int32} {io_to : Int32} {io_nest : Int32} {io_readMany : Int32} {io_codeLong : Int32} {io_readLong : Int32} {io_undos : Int32} {io_wentHome : Int32} {io_tideLevel : Int32} {io_acts : Int32} {io_firstBreaks : Int32} {io_bestCrew : Int32} {io_sights : Int32} {io_wayMany : Int32} {io_random : Int32} {co_age : Nat → Int32} {co_skill : Nat → Int32} {co_friend : Nat → Int32} {cp1 : Nat → Int32} {x2 : Int32} {s0 : Int32} {res : Int32} (C : axC X l D Y cX12_bucketsOf 4 RX12 wsX12_bucketsOf rmX12_bucketsOf (some .int)) (hQ : axQ X 0 0 (fun r9 w9 => r9 = (some (.int res)) ∧ w9 = [oX12 ao io_thrown io_rows io_cells io_children io_changes io_taped io_at io_to io_nest io_readMany io_codeLong io_readLong io_undos io_wentHome io_tideLevel io_acts io_firstBreaks io_bestCrew io_sights io_wayMany io_random, rI Y (ao 4) 8 co_age, rI Y (ao 5) 8 co_skill, rI Y (ao 6) 8 co_friend, rI Y qp1 43 cp1])) (hf : fX12_bucketsOf_b57 io_children co_age co_skill co_friend cp1 x2 s0 = some res) : ax X 0 0 57 [some (.ref (ao 0)), none, some (.int x2), none] [oX12 ao io_thrown io_rows io_cells io_children io_changes io_taped io_at io_to io_nest io_readMany io_codeLong io_readLong io_undos io_wentHome io_tideLevel io_acts io_firstBreaks io_bestCrew io_sights io_wayMany io_random, rI Y (ao 4) 8 co_age, rI Y (ao 5) 8 co_skill, rI Y (ao 6) 8 co_friend, rI Y qp1 43 cp1] [.int s0] := by
  unfold fX12_bucketsOf_b57 at hf
  refine a_istore_n C dX12_bucketsOf_57 (by decide) rfl ?_
  refine a_aload_n C dX12_bucketsOf_58 rfl ?_
  refine a_get C (eB_X12_24 _) dX12_bucketsOf_59 0 rfl rfl ?_
  refine a_iload_n C dX12_bucketsOf_62 rfl ?_
  obtain ⟨h1, hf⟩ := fx_ite hf
  refine a_iald C dX12_bucketsOf_63 1 rfl h1 ?_
  refine a_bipush C (13 : Int32) dX12_bucketsOf_64 (by decide) ?_
  refine a_icmp_ne C 75 dX12_bucketsOf_66 (by decide) (fun h2 => ?_) (fun h2 => ?_)
  · have hf := fx_f h2 hf
    refine a_iload_n C dX12_bucketsOf_75 rfl ?_
    refine a_kill [0, 2, 3] ?_
    exact kX12_bucketsOf_b76 C hQ hf
  · have hf := fx_t h2 hf
    refine a_iload_n C dX12_bucketsOf_69 rfl ?_
    refine a_iconst C (2 : Int32) dX12_bucketsOf_70 (by decide) ?_
    refine a_idiv C dX12_bucketsOf_71 (by decide) ?_
    refine a_goto C 76 dX12_bucketsOf_72 (by decide) ?_
    refine a_kill [0, 2, 3] ?_
    exact kX12_bucketsOf_b76 C hQ hf
def fX12_bucketsOf (io_children : Int32) (co_age : Nat → Int32) (co_skill : Nat → Int32) (co_friend : Nat → Int32) (cp1 : Nat → Int32) (x2 : Int32) : Option (Int32) :=
  (fX12_atOf cp1 x2).bind (fun r3 => if (0 : Int32) ≤ r3 then (if inb x2 8 then if inb (41 : Int32) 43 then (fX12_has (cp1 (Int32.toNatClampNeg (41 : Int32))) x2).bind (fun r7 => (fX12_flag r7).bind (fun r8 => (fX12_hasFriend io_children co_friend cp1 x2).bind (fun r9 => (fX12_flag r9).bind (fun r10 => (fX12_moodOf cp1 x2).bind (fun r11 => if (3 : Int32) ≤ r11 then (fX12_bucketsOf_b57 io_children co_age co_skill co_friend cp1 x2 (((co_skill (Int32.toNatClampNeg x2)) + ((2 : Int32) * r8)) + r10)) else (fX12_bucketsOf_b57 io_children co_age co_skill co_friend cp1 x2 ((((co_skill (Int32.toNatClampNeg x2)) + ((2 : Int32) * r8)) + r10) / (2 : Int32)))))))) else none else none) else (some (0 : Int32)))
set_option maxHeartbeats 400000 in
set_option maxRecDepth 100000 in
theorem kX12_bucketsOf (l : Launch) (D : va_G) (Y : Nat → ClassId) (ao : Nat → Nat) (qp1 : Nat) (io_thrown : Int32) (io_rows : Int32) (io_cells : Int32) (io_children : Int32) (io_changes : Int32) (io_taped : Int32) (io_at : Int32) (io_to : Int32) (io_nest : Int32) (io_readMany : Int32) (io_codeLong : Int32) (io_readLong : Int32) (io_undos : Int32) (io_wentHome : Int32) (io_tideLevel : Int32) (io_acts : Int32) (io_firstBreaks : Int32) (io_bestCrew : Int32) (io_sights : Int32) (io_wayMany : Int32) (io_random : Int32) (co_age : Nat → Int32) (co_skill : Nat → Int32) (co_friend : Nat → Int32) (cp1 : Nat → Int32) (x2 : Int32) (res : Int32) (hf : fX12_bucketsOf io_children co_age co_skill co_friend cp1 x2 = some res) : amf l D Y yX12_bucketsOf wsX12_bucketsOf rmX12_bucketsOf [.ref (ao 0), .ref qp1, .int x2] [oX12 ao io_thrown io_rows io_cells io_children io_changes io_taped io_at io_to io_nest io_readMany io_codeLong io_readLong io_undos io_wentHome io_tideLevel io_acts io_firstBreaks io_bestCrew io_sights io_wayMany io_random, rI Y (ao 4) 8 co_age, rI Y (ao 5) 8 co_skill, rI Y (ao 6) 8 co_friend, rI Y qp1 43 cp1] (some (.int res)) [oX12 ao io_thrown io_rows io_cells io_children io_changes io_taped io_at io_to io_nest io_readMany io_codeLong io_readLong io_undos io_wentHome io_tideLevel io_acts io_firstBreaks io_bestCrew io_sights io_wayMany io_random, rI Y (ao 4) 8 co_age, rI Y (ao 5) 8 co_skill, rI Y (ao 6) 8 co_friend, rI Y qp1 43 cp1] := by
  refine amf.of (cc := cX12_bucketsOf) (maxL := 4) (rt := (some .int)) (by decide) rfl RX12 rfl (Nat.le_of_ble_eq_true rfl) [some (.ref (ao 0)), some (.ref qp1), some (.int x2), none] rfl ?_
  intro X C hQ
  unfold fX12_bucketsOf at hf
  refine a_aload_n C dX12_bucketsOf_0 rfl ?_
  refine a_iload_n C dX12_bucketsOf_1 rfl ?_
  obtain ⟨r3, h3, hf⟩ := fx_bind hf
  refine a_fS C (kX12_atOf l D Y qp1 cp1 x2 r3 h3) (gB_X12_129 _) rfl dvX12_atOf ⟨⟨rfl, rfl⟩, ⟨Nat.le_of_ble_eq_true rfl, Nat.le_of_ble_eq_true rfl⟩, ⟨Nat.le_of_ble_eq_true rfl, Nat.le_of_ble_eq_true rfl⟩⟩ rfl (Nat.le_of_ble_eq_true rfl) dX12_bucketsOf_2 [4] [0, 1, 2, 3] ⟨rfl, trivial⟩ (by decide +kernel) rfl [oX12 ao io_thrown io_rows io_cells io_children io_changes io_taped io_at io_to io_nest io_readMany io_codeLong io_readLong io_undos io_wentHome io_tideLevel io_acts io_firstBreaks io_bestCrew io_sights io_wayMany io_random, rI Y (ao 4) 8 co_age, rI Y (ao 5) 8 co_skill, rI Y (ao 6) 8 co_friend, rI Y qp1 43 cp1] ⟨rfl, trivial⟩ ⟨rfl, rfl, rfl, rfl, trivial⟩ 5 rfl (by decide +kernel) ?_
  refine a_if_ge C 10 dX12_bucketsOf_5 (by decide) (fun h4 => ?_) (fun h4 => ?_)
  · have hf := fx_t h4 hf
    refine a_aload_n C dX12_bucketsOf_10 rfl ?_
    refine a_get C (eB_X12_27 _) dX12_bucketsOf_11 0 rfl rfl ?_
    refine a_iload_n C dX12_bucketsOf_14 rfl ?_
    obtain ⟨h5, hf⟩ := fx_ite hf
    refine a_iald C dX12_bucketsOf_15 2 rfl h5 ?_
    refine a_iconst C (2 : Int32) dX12_bucketsOf_16 (by decide) ?_
    refine a_aload_n C dX12_bucketsOf_17 rfl ?_
    refine a_bipush C (41 : Int32) dX12_bucketsOf_18 (by decide) ?_
    obtain ⟨h6, hf⟩ := fx_ite hf
    refine a_iald C dX12_bucketsOf_20 4 rfl h6 ?_
    refine a_iload_n C dX12_bucketsOf_21 rfl ?_
    obtain ⟨r7, h7, hf⟩ := fx_bind hf
    refine a_fS C (kX12_has l D Y (cp1 (Int32.toNatClampNeg (41 : Int32))) x2 r7 h7) (gB_X12_269 _) rfl dvX12_has ⟨⟨rfl, rfl⟩, ⟨Nat.le_of_ble_eq_true rfl, Nat.le_of_ble_eq_true rfl⟩, ⟨Nat.le_of_ble_eq_true rfl, Nat.le_of_ble_eq_true rfl⟩⟩ rfl (Nat.le_of_ble_eq_true rfl) dX12_bucketsOf_22 [] [0, 1, 2, 3, 4] trivial (by decide +kernel) rfl [oX12 ao io_thrown io_rows io_cells io_children io_changes io_taped io_at io_to io_nest io_readMany io_codeLong io_readLong io_undos io_wentHome io_tideLevel io_acts io_firstBreaks io_bestCrew io_sights io_wayMany io_random, rI Y (ao 4) 8 co_age, rI Y (ao 5) 8 co_skill, rI Y (ao 6) 8 co_friend, rI Y qp1 43 cp1] trivial ⟨rfl, rfl, rfl, rfl, rfl, trivial⟩ 5 rfl (by decide +kernel) ?_
    obtain ⟨r8, h8, hf⟩ := fx_bind hf
    refine a_fS C (kX12_flag l D Y r7 r8 h8) (gB_X12_151 _) rfl dvX12_flag ⟨⟨rfl, rfl⟩, ⟨Nat.le_of_ble_eq_true rfl, Nat.le_of_ble_eq_true rfl⟩, ⟨Nat.le_of_ble_eq_true rfl, Nat.le_of_ble_eq_true rfl⟩⟩ rfl (Nat.le_of_ble_eq_true rfl) dX12_bucketsOf_25 [] [0, 1, 2, 3, 4] trivial (by decide +kernel) rfl [oX12 ao io_thrown io_rows io_cells io_children io_changes io_taped io_at io_to io_nest io_readMany io_codeLong io_readLong io_undos io_wentHome io_tideLevel io_acts io_firstBreaks io_bestCrew io_sights io_wayMany io_random, rI Y (ao 4) 8 co_age, rI Y (ao 5) 8 co_skill, rI Y (ao 6) 8 co_friend, rI Y qp1 43 cp1] trivial ⟨rfl, rfl, rfl, rfl, rfl, trivial⟩ 5 rfl (by decide +kernel) ?_
    refine a_imul C dX12_bucketsOf_28 ?_
    refine a_iadd C dX12_bucketsOf_29 ?_
    refine a_aload_n C dX12_bucketsOf_30 rfl ?_
    refine a_aload_n C dX12_bucketsOf_31 rfl ?_
    refine a_iload_n C dX12_bucketsOf_32 rfl ?_
    obtain ⟨r9, h9, hf⟩ := fx_bind hf
    refine a_fV C (kX12_hasFriend l D Y ao qp1 io_thrown io_rows io_cells io_children io_changes io_taped io_at io_to io_nest io_readMany io_codeLong io_readLong io_undos io_wentHome io_tideLevel io_acts io_firstBreaks io_bestCrew io_sights io_wayMany io_random co_friend cp1 x2 r9 h9) (gB_X12_273 _) rfl dvX12_hasFriend ⟨⟨rfl, rfl⟩, ⟨Nat.le_of_ble_eq_true rfl, Nat.le_of_ble_eq_true rfl⟩, ⟨Nat.le_of_ble_eq_true rfl, Nat.le_of_ble_eq_true rfl⟩⟩ rfl (Nat.le_of_ble_eq_true rfl) dX12_bucketsOf_33 rfl rfl [0, 3, 4] [1, 2] ⟨rfl, rfl, rfl, trivial⟩ (by decide +kernel) rfl [oX12 ao io_thrown io_rows io_cells io_children io_changes io_taped io_at io_to io_nest io_readMany io_codeLong io_readLong io_undos io_wentHome io_tideLevel io_acts io_firstBreaks io_bestCrew io_sights io_wayMany io_random, rI Y (ao 4) 8 co_age, rI Y (ao 5) 8 co_skill, rI Y (ao 6) 8 co_friend, rI Y qp1 43 cp1] ⟨rfl, rfl, rfl, trivial⟩ ⟨rfl, rfl, trivial⟩ 5 rfl (by decide +kernel) ?_
    obtain ⟨r10, h10, hf⟩ := fx_bind hf
    refine a_fS C (kX12_flag l D Y r9 r10 h10) (gB_X12_151 _) rfl dvX12_flag ⟨⟨rfl, rfl⟩, ⟨Nat.le_of_ble_eq_true rfl, Nat.le_of_ble_eq_true rfl⟩, ⟨Nat.le_of_ble_eq_true rfl, Nat.le_of_ble_eq_true rfl⟩⟩ rfl (Nat.le_of_ble_eq_true rfl) dX12_bucketsOf_36 [] [0, 1, 2, 3, 4] trivial (by decide +kernel) rfl [oX12 ao io_thrown io_rows io_cells io_children io_changes io_taped io_at io_to io_nest io_readMany io_codeLong io_readLong io_undos io_wentHome io_tideLevel io_acts io_firstBreaks io_bestCrew io_sights io_wayMany io_random, rI Y (ao 4) 8 co_age, rI Y (ao 5) 8 co_skill, rI Y (ao 6) 8 co_friend, rI Y qp1 43 cp1] trivial ⟨rfl, rfl, rfl, rfl, rfl, trivial⟩ 5 rfl (by decide +kernel) ?_
    refine a_iadd C dX12_bucketsOf_39 ?_
    refine a_istore_n C dX12_bucketsOf_40 (by decide) rfl ?_
    refine a_aload_n C dX12_bucketsOf_41 rfl ?_
    refine a_iload_n C dX12_bucketsOf_42 rfl ?_
    obtain ⟨r11, h11, hf⟩ := fx_bind hf
    refine a_fS C (kX12_moodOf l D Y qp1 cp1 x2 r11 h11) (gB_X12_277 _) rfl dvX12_moodOf ⟨⟨rfl, rfl⟩, ⟨Nat.le_of_ble_eq_true rfl, Nat.le_of_ble_eq_true rfl⟩, ⟨Nat.le_of_ble_eq_true rfl, Nat.le_of_ble_eq_true rfl⟩⟩ rfl (Nat.le_of_ble_eq_true rfl) dX12_bucketsOf_43 [4] [0, 1, 2, 3] ⟨rfl, trivial⟩ (by decide +kernel) rfl [oX12 ao io_thrown io_rows io_cells io_children io_changes io_taped io_at io_to io_nest io_readMany io_codeLong io_readLong io_undos io_wentHome io_tideLevel io_acts io_firstBreaks io_bestCrew io_sights io_wayMany io_random, rI Y (ao 4) 8 co_age, rI Y (ao 5) 8 co_skill, rI Y (ao 6) 8 co_friend, rI Y qp1 43 cp1] ⟨rfl, trivial⟩ ⟨rfl, rfl, rfl, rfl, trivial⟩ 5 rfl (by decide +kernel) ?_
    refine a_iconst C (3 : Int32) dX12_bucketsOf_46 (by decide) ?_
    refine a_icmp_ge C 56 dX12_bucketsOf_47 (by decide) (fun h12 => ?_) (fun h12 => ?_)
    · have hf := fx_t h12 hf
      refine a_iload_n C dX12_bucketsOf_56 rfl ?_
      refine a_kill [1, 3] ?_
      exact kX12_bucketsOf_b57 C hQ hf
    · have hf := fx_f h12 hf
      refine a_iload_n C dX12_bucketsOf_50 rfl ?_
      refine a_iconst C (2 : Int32) dX12_bucketsOf_51 (by decide) ?_
      refine a_idiv C dX12_bucketsOf_52 (by decide) ?_
      refine a_goto C 57 dX12_bucketsOf_53 (by decide) ?_
      refine a_kill [1, 3] ?_
      exact kX12_bucketsOf_b57 C hQ hf
  · have hf := fx_f h4 hf
    refine a_iconst C (0 : Int32) dX12_bucketsOf_8 (by decide) ?_
    obtain rfl := fx_some hf
    exact a_iret C hQ dX12_bucketsOf_9 ⟨rfl, rfl⟩
-- X12_cell
abbrev rmX12_cell : Room := { frames := 2, cells := 0, slots := 0, locals := 46 }
theorem dvX12_cell : yX12_cell.cls = RX12 ∧ yX12_cell.cls ≠ "java/lang/invoke/MethodHandle" ∧ yX12_cell.cls ≠ "java/lang/invoke/VarHandle" ∧ (parseMethodDescriptor yX12_cell.desc).map (fun d => d.parameters.length) = some 2 := by decide +kernel
def fX12_cell_b25 (io_thrown : Int32) (io_cells : Int32) (io_children : Int32) (co_base : Nat → Int32) (co_dyke : Nat → Int32) (co_now : Nat → Int32) : Option (Int32 × Int32) :=
  (fX12_refuse io_thrown).bind (fun r1 => some (r1.1, r1.2))
set_option maxHeartbeats 400000 in
set_option maxRecDepth 100000 in
theorem kX12_cell_b25 {X : cxT} {l : Launch} {D : va_G} {Y : Nat → ClassId} {ao : Nat → Nat} {io_thrown : Int32} {io_rows : Int32} {io_cells : Int32} {io_children : Int32} {io_changes : Int32} {io_taped : Int32} {io_at : Int32} {io_to : Int32} {io_nest : Int32} {io_readMany : Int32} {io_codeLong : Int32} {io_readLong : Int32} {io_undos : Int32} {io_wentHome : Int32} {io_tideLevel : Int32} {io_acts : Int32} {io_firstBreaks : Int32} {io_bestCrew : Int32} {io_sights : Int32} {io_wayMany : Int32} {io_random : Int32} {co_base : Nat → Int32} {co_dyke : Nat → Int32} {co_now : Nat → Int32} {res : Int32 × Int32} (C : axC X l D Y cX12_cell 3 RX12 wsX12_cell rmX12_cell (some .int)) (hQ : axQ X 0 0 (fun r9 w9 => r9 = (some (.int res.1)) ∧ w9 = [oX12 ao res.2 io_rows io_cells io_children io_changes io_taped io_at io_to io_nest io_readMany io_codeLong io_readLong io_undos io_wentHome io_tideLevel io_acts io_firstBreaks io_bestCrew io_sights io_wayMany io_random, rI Y (ao 2) 12 co_base, rI Y (ao 3) 12 co_dyke, rI Y (ao 8) 43 co_now])) (hf : fX12_cell_b25 io_thrown io_cells io_children co_base co_dyke co_now = some res) : ax X 0 0 25 [some (.ref (ao 0)), none, none] [oX12 ao io_thrown io_rows io_cells io_children io_changes io_taped io_at io_to io_nest io_readMany io_codeLong io_readLong io_undos io_wentHome io_tideLevel io_acts io_firstBreaks io_bestCrew io_sights io_wayMany io_random, rI Y (ao 2) 12 co_base, rI Y (ao 3) 12 co_dyke, rI Y (ao 8) 43 co_now] [] := by
  unfold fX12_cell_b25 at hf
  refine a_aload_n C dX12_cell_25 rfl ?_
  obtain ⟨r1, h1, hf⟩ := fx_bind hf
  refine a_fV C (kX12_refuse l D Y ao io_thrown io_rows io_cells io_children io_changes io_taped io_at io_to io_nest io_readMany io_codeLong io_readLong io_undos io_wentHome io_tideLevel io_acts io_firstBreaks io_bestCrew io_sights io_wayMany io_random r1 h1) (gB_X12_285 _) rfl dvX12_refuse ⟨⟨rfl, rfl⟩, ⟨Nat.le_of_ble_eq_true rfl, Nat.le_of_ble_eq_true rfl⟩, ⟨Nat.le_of_ble_eq_true rfl, Nat.le_of_ble_eq_true rfl⟩⟩ rfl (Nat.le_of_ble_eq_true rfl) dX12_cell_26 rfl rfl [0] [1, 2, 3] ⟨rfl, trivial⟩ (by decide +kernel) rfl [oX12 ao r1.2 io_rows io_cells io_children io_changes io_taped io_at io_to io_nest io_readMany io_codeLong io_readLong io_undos io_wentHome io_tideLevel io_acts io_firstBreaks io_bestCrew io_sights io_wayMany io_random, rI Y (ao 2) 12 co_base, rI Y (ao 3) 12 co_dyke, rI Y (ao 8) 43 co_now] ⟨rfl, trivial⟩ ⟨rfl, rfl, rfl, trivial⟩ 4 rfl (by decide +kernel) ?_
  obtain rfl := fx_some hf
  exact a_iret C hQ dX12_cell_29 ⟨rfl, rfl⟩
def fX12_cell (io_thrown : Int32) (io_cells : Int32) (io_children : Int32) (co_base : Nat → Int32) (co_dyke : Nat → Int32) (co_now : Nat → Int32) (x1 : Int32) (x2 : Int32) : Option (Int32 × Int32) :=
  (fX12_isCell io_cells x1).bind (fun r2 => if r2 = (0 : Int32) then (fX12_cell_b25 (0 : Int32) io_cells io_children co_base co_dyke co_now) else ((fX12_in (x2.toInt64) (0 : Int64) (6 : Int64)).bind (fun r4 => if r4 = (0 : Int32) then (fX12_cell_b25 (0 : Int32) io_cells io_children co_base co_dyke co_now) else (if x2 = (0 : Int32) then (if inb x1 12 then some ((co_base (Int32.toNatClampNeg x1)), (0 : Int32)) else none) else if x2 = (1 : Int32) then (if inb x1 43 then some ((co_now (Int32.toNatClampNeg x1)), (0 : Int32)) else none) else if x2 = (2 : Int32) then (if inb (12 : Int32) 43 then (fX12_has (co_now (Int32.toNatClampNeg (12 : Int32))) x1).bind (fun r12 => (fX12_flag r12).bind (fun r13 => some (r13, (0 : Int32)))) else none) else if x2 = (3 : Int32) then (if inb ((13 : Int32) + x1) 43 then some ((co_now (Int32.toNatClampNeg ((13 : Int32) + x1))), (0 : Int32)) else none) else if x2 = (4 : Int32) then (if inb x1 12 then some ((co_dyke (Int32.toNatClampNeg x1)), (0 : Int32)) else none) else if x2 = (5 : Int32) then ((fX12_childrenAt io_children co_now x1).bind (fun r19 => some (r19, (0 : Int32)))) else ((fX12_topOf co_base co_now x1).bind (fun r20 => some (r20, (0 : Int32))))))))
set_option maxHeartbeats 400000 in
set_option maxRecDepth 100000 in
theorem kX12_cell (l : Launch) (D : va_G) (Y : Nat → ClassId) (ao : Nat → Nat) (io_thrown : Int32) (io_rows : Int32) (io_cells : Int32) (io_children : Int32) (io_changes : Int32) (io_taped : Int32) (io_at : Int32) (io_to : Int32) (io_nest : Int32) (io_readMany : Int32) (io_codeLong : Int32) (io_readLong : Int32) (io_undos : Int32) (io_wentHome : Int32) (io_tideLevel : Int32) (io_acts : Int32) (io_firstBreaks : Int32) (io_bestCrew : Int32) (io_sights : Int32) (io_wayMany : Int32) (io_random : Int32) (co_base : Nat → Int32) (co_dyke : Nat → Int32) (co_now : Nat → Int32) (x1 : Int32) (x2 : Int32) (res : Int32 × Int32) (hf : fX12_cell io_thrown io_cells io_children co_base co_dyke co_now x1 x2 = some res) : amf l D Y yX12_cell wsX12_cell rmX12_cell [.ref (ao 0), .int x1, .int x2] [oX12 ao io_thrown io_rows io_cells io_children io_changes io_taped io_at io_to io_nest io_readMany io_codeLong io_readLong io_undos io_wentHome io_tideLevel io_acts io_firstBreaks io_bestCrew io_sights io_wayMany io_random, rI Y (ao 2) 12 co_base, rI Y (ao 3) 12 co_dyke, rI Y (ao 8) 43 co_now] (some (.int res.1)) [oX12 ao res.2 io_rows io_cells io_children io_changes io_taped io_at io_to io_nest io_readMany io_codeLong io_readLong io_undos io_wentHome io_tideLevel io_acts io_firstBreaks io_bestCrew io_sights io_wayMany io_random, rI Y (ao 2) 12 co_base, rI Y (ao 3) 12 co_dyke, rI Y (ao 8) 43 co_now] := by
  refine amf.of (cc := cX12_cell) (maxL := 3) (rt := (some .int)) (by decide) rfl RX12 rfl (Nat.le_of_ble_eq_true rfl) [some (.ref (ao 0)), some (.int x1), some (.int x2)] rfl ?_
  intro X C hQ
  unfold fX12_cell at hf
  refine a_aload_n C dX12_cell_0 rfl ?_
  refine a_iconst C (0 : Int32) dX12_cell_1 (by decide) ?_
  refine a_put C (eB_X12_112 _) tfX12_0 dX12_cell_2 0 rfl rfl rfl (Nat.le_of_ble_eq_true rfl) ?_
  refine a_aload_n C dX12_cell_5 rfl ?_
  refine a_iload_n C dX12_cell_6 rfl ?_
  obtain ⟨r2, h2, hf⟩ := fx_bind hf
  refine a_fV C (kX12_isCell l D Y ao (0 : Int32) io_rows io_cells io_children io_changes io_taped io_at io_to io_nest io_readMany io_codeLong io_readLong io_undos io_wentHome io_tideLevel io_acts io_firstBreaks io_bestCrew io_sights io_wayMany io_random x1 r2 h2) (gB_X12_280 _) rfl dvX12_isCell ⟨⟨rfl, rfl⟩, ⟨Nat.le_of_ble_eq_true rfl, Nat.le_of_ble_eq_true rfl⟩, ⟨Nat.le_of_ble_eq_true rfl, Nat.le_of_ble_eq_true rfl⟩⟩ rfl (Nat.le_of_ble_eq_true rfl) dX12_cell_7 rfl rfl [0] [1, 2, 3] ⟨rfl, trivial⟩ (by decide +kernel) rfl [oX12 ao (0 : Int32) io_rows io_cells io_children io_changes io_taped io_at io_to io_nest io_readMany io_codeLong io_readLong io_undos io_wentHome io_tideLevel io_acts io_firstBreaks io_bestCrew io_sights io_wayMany io_random, rI Y (ao 2) 12 co_base, rI Y (ao 3) 12 co_dyke, rI Y (ao 8) 43 co_now] ⟨rfl, trivial⟩ ⟨rfl, rfl, rfl, trivial⟩ 4 rfl (by decide +kernel) ?_
  refine a_if_eq C 25 dX12_cell_10 (by decide) (fun h3 => ?_) (fun h3 => ?_)
  · have hf := fx_t h3 hf
    refine a_kill [1, 2] ?_
    exact kX12_cell_b25 C hQ hf
  · have hf := fx_f h3 hf
    refine a_iload_n C dX12_cell_13 rfl ?_
    refine a_i2l C dX12_cell_14 ?_
    refine a_lconst C (0 : Int64) dX12_cell_15 (by decide) ?_
    refine a_ldc2 C (6 : Int64) dX12_cell_16 (kB_X12_283 _) ?_
    obtain ⟨r4, h4, hf⟩ := fx_bind hf
    refine a_fS C (kX12_in l D Y (x2.toInt64) (0 : Int64) (6 : Int64) r4 h4) (gB_X12_122 _) rfl dvX12_in ⟨⟨rfl, rfl⟩, ⟨Nat.le_of_ble_eq_true rfl, Nat.le_of_ble_eq_true rfl⟩, ⟨Nat.le_of_ble_eq_true rfl, Nat.le_of_ble_eq_true rfl⟩⟩ rfl (Nat.le_of_ble_eq_true rfl) dX12_cell_19 [] [0, 1, 2, 3] trivial (by decide +kernel) rfl [oX12 ao (0 : Int32) io_rows io_cells io_children io_changes io_taped io_at io_to io_nest io_readMany io_codeLong io_readLong io_undos io_wentHome io_tideLevel io_acts io_firstBreaks io_bestCrew io_sights io_wayMany io_random, rI Y (ao 2) 12 co_base, rI Y (ao 3) 12 co_dyke, rI Y (ao 8) 43 co_now] trivial ⟨rfl, rfl, rfl, rfl, trivial⟩ 4 rfl (by decide +kernel) ?_
    refine a_if_ne C 30 dX12_cell_22 (by decide) (fun h5 => ?_) (fun h5 => ?_)
    · have hf := fx_f h5 hf
      refine a_iload_n C dX12_cell_30 rfl ?_
      by_cases h6 : x2 = (0 : Int32)
      · have hf := fx_t h6 hf
        refine a_tableIn (off := 37) C 68 dX12_cell_31 (by rw [h6]; decide) (by rw [h6]; decide) (by rw [h6]; first | done | rfl | decide) (by decide) ?_
        refine a_aload_n C dX12_cell_68 rfl ?_
        refine a_get C (eB_X12_17 _) dX12_cell_69 0 rfl rfl ?_
        refine a_iload_n C dX12_cell_72 rfl ?_
        obtain ⟨h7, hf⟩ := fx_ite hf
        refine a_iald C dX12_cell_73 1 rfl h7 ?_
        obtain rfl := fx_some hf
        exact a_iret C hQ dX12_cell_74 ⟨rfl, rfl⟩
      have hf := fx_f h6 hf
      by_cases h8 : x2 = (1 : Int32)
      · have hf := fx_t h8 hf
        refine a_tableIn (off := 44) C 75 dX12_cell_31 (by rw [h8]; decide) (by rw [h8]; decide) (by rw [h8]; first | done | rfl | decide) (by decide) ?_
        refine a_aload_n C dX12_cell_75 rfl ?_
        refine a_get C (eB_X12_36 _) dX12_cell_76 0 rfl rfl ?_
        refine a_iload_n C dX12_cell_79 rfl ?_
        obtain ⟨h9, hf⟩ := fx_ite hf
        refine a_iald C dX12_cell_80 3 rfl h9 ?_
        obtain rfl := fx_some hf
        exact a_iret C hQ dX12_cell_81 ⟨rfl, rfl⟩
      have hf := fx_f h8 hf
      by_cases h10 : x2 = (2 : Int32)
      · have hf := fx_t h10 hf
        refine a_tableIn (off := 51) C 82 dX12_cell_31 (by rw [h10]; decide) (by rw [h10]; decide) (by rw [h10]; first | done | rfl | decide) (by decide) ?_
        refine a_aload_n C dX12_cell_82 rfl ?_
        refine a_get C (eB_X12_36 _) dX12_cell_83 0 rfl rfl ?_
        refine a_bipush C (12 : Int32) dX12_cell_86 (by decide) ?_
        obtain ⟨h11, hf⟩ := fx_ite hf
        refine a_iald C dX12_cell_88 3 rfl h11 ?_
        refine a_iload_n C dX12_cell_89 rfl ?_
        obtain ⟨r12, h12, hf⟩ := fx_bind hf
        refine a_fS C (kX12_has l D Y (co_now (Int32.toNatClampNeg (12 : Int32))) x1 r12 h12) (gB_X12_269 _) rfl dvX12_has ⟨⟨rfl, rfl⟩, ⟨Nat.le_of_ble_eq_true rfl, Nat.le_of_ble_eq_true rfl⟩, ⟨Nat.le_of_ble_eq_true rfl, Nat.le_of_ble_eq_true rfl⟩⟩ rfl (Nat.le_of_ble_eq_true rfl) dX12_cell_90 [] [0, 1, 2, 3] trivial (by decide +kernel) rfl [oX12 ao (0 : Int32) io_rows io_cells io_children io_changes io_taped io_at io_to io_nest io_readMany io_codeLong io_readLong io_undos io_wentHome io_tideLevel io_acts io_firstBreaks io_bestCrew io_sights io_wayMany io_random, rI Y (ao 2) 12 co_base, rI Y (ao 3) 12 co_dyke, rI Y (ao 8) 43 co_now] trivial ⟨rfl, rfl, rfl, rfl, trivial⟩ 4 rfl (by decide +kernel) ?_
        obtain ⟨r13, h13, hf⟩ := fx_bind hf
        refine a_fS C (kX12_flag l D Y r12 r13 h13) (gB_X12_151 _) rfl dvX12_flag ⟨⟨rfl, rfl⟩, ⟨Nat.le_of_ble_eq_true rfl, Nat.le_of_ble_eq_true rfl⟩, ⟨Nat.le_of_ble_eq_true rfl, Nat.le_of_ble_eq_true rfl⟩⟩ rfl (Nat.le_of_ble_eq_true rfl) dX12_cell_93 [] [0, 1, 2, 3] trivial (by decide +kernel) rfl [oX12 ao (0 : Int32) io_rows io_cells io_children io_changes io_taped io_at io_to io_nest io_readMany io_codeLong io_readLong io_undos io_wentHome io_tideLevel io_acts io_firstBreaks io_bestCrew io_sights io_wayMany io_random, rI Y (ao 2) 12 co_base, rI Y (ao 3) 12 co_dyke, rI Y (ao 8) 43 co_now] trivial ⟨rfl, rfl, rfl, rfl, trivial⟩ 4 rfl (by decide +kernel) ?_
        obtain rfl := fx_some hf
        exact a_iret C hQ dX12_cell_96 ⟨rfl, rfl⟩
      have hf := fx_f h10 hf
      by_cases h14 : x2 = (3 : Int32)
      · have hf := fx_t h14 hf
        refine a_tableIn (off := 66) C 97 dX12_cell_31 (by rw [h14]; decide) (by rw [h14]; decide) (by rw [h14]; first | done | rfl | decide) (by decide) ?_
        refine a_aload_n C dX12_cell_97 rfl ?_
        refine a_get C (eB_X12_36 _) dX12_cell_98 0 rfl rfl ?_
        refine a_bipush C (13 : Int32) dX12_cell_101 (by decide) ?_
        refine a_iload_n C dX12_cell_103 rfl ?_
        refine a_iadd C dX12_cell_104 ?_
        obtain ⟨h15, hf⟩ := fx_ite hf
        refine a_iald C dX12_cell_105 3 rfl h15 ?_
        obtain rfl := fx_some hf
        exact a_iret C hQ dX12_cell_106 ⟨rfl, rfl⟩
      have hf := fx_f h14 hf
      by_cases h16 : x2 = (4 : Int32)
      · have hf := fx_t h16 hf
        refine a_tableIn (off := 76) C 107 dX12_cell_31 (by rw [h16]; decide) (by rw [h16]; decide) (by rw [h16]; first | done | rfl | decide) (by decide) ?_
        refine a_aload_n C dX12_cell_107 rfl ?_
        refine a_get C (eB_X12_21 _) dX12_cell_108 0 rfl rfl ?_
        refine a_iload_n C dX12_cell_111 rfl ?_
        obtain ⟨h17, hf⟩ := fx_ite hf
        refine a_iald C dX12_cell_112 2 rfl h17 ?_
        obtain rfl := fx_some hf
        exact a_iret C hQ dX12_cell_113 ⟨rfl, rfl⟩
      have hf := fx_f h16 hf
      by_cases h18 : x2 = (5 : Int32)
      · have hf := fx_t h18 hf
        refine a_tableIn (off := 83) C 114 dX12_cell_31 (by rw [h18]; decide) (by rw [h18]; decide) (by rw [h18]; first | done | rfl | decide) (by decide) ?_
        refine a_aload_n C dX12_cell_114 rfl ?_
        refine a_aload_n C dX12_cell_115 rfl ?_
        refine a_get C (eB_X12_36 _) dX12_cell_116 0 rfl rfl ?_
        refine a_iload_n C dX12_cell_119 rfl ?_
        obtain ⟨r19, h19, hf⟩ := fx_bind hf
        refine a_fV C (kX12_childrenAt l D Y ao (ao 8) (0 : Int32) io_rows io_cells io_children io_changes io_taped io_at io_to io_nest io_readMany io_codeLong io_readLong io_undos io_wentHome io_tideLevel io_acts io_firstBreaks io_bestCrew io_sights io_wayMany io_random co_now x1 r19 h19) (gB_X12_288 _) rfl dvX12_childrenAt ⟨⟨rfl, rfl⟩, ⟨Nat.le_of_ble_eq_true rfl, Nat.le_of_ble_eq_true rfl⟩, ⟨Nat.le_of_ble_eq_true rfl, Nat.le_of_ble_eq_true rfl⟩⟩ rfl (Nat.le_of_ble_eq_true rfl) dX12_cell_120 rfl rfl [0, 3] [1, 2] ⟨rfl, rfl, trivial⟩ (by decide +kernel) rfl [oX12 ao (0 : Int32) io_rows io_cells io_children io_changes io_taped io_at io_to io_nest io_readMany io_codeLong io_readLong io_undos io_wentHome io_tideLevel io_acts io_firstBreaks io_bestCrew io_sights io_wayMany io_random, rI Y (ao 2) 12 co_base, rI Y (ao 3) 12 co_dyke, rI Y (ao 8) 43 co_now] ⟨rfl, rfl, trivial⟩ ⟨rfl, rfl, trivial⟩ 4 rfl (by decide +kernel) ?_
        obtain rfl := fx_some hf
        exact a_iret C hQ dX12_cell_123 ⟨rfl, rfl⟩
      have hf := fx_f h18 hf
      refine a_tableOut C 124 dX12_cell_31 (by have z0 := lv_neT (a := 0) h6 (by decide); have z1 := lv_neT (a := 1) h8 (by decide); have z2 := lv_neT (a := 2) h10 (by decide); have z3 := lv_neT (a := 3) h14 (by decide); have z4 := lv_neT (a := 4) h16 (by decide); have z5 := lv_neT (a := 5) h18 (by decide); omega) (by decide) ?_
      refine a_aload_n C dX12_cell_124 rfl ?_
      refine a_aload_n C dX12_cell_125 rfl ?_
      refine a_get C (eB_X12_36 _) dX12_cell_126 0 rfl rfl ?_
      refine a_iload_n C dX12_cell_129 rfl ?_
      obtain ⟨r20, h20, hf⟩ := fx_bind hf
      refine a_fV C (kX12_topOf l D Y ao (ao 8) (0 : Int32) io_rows io_cells io_children io_changes io_taped io_at io_to io_nest io_readMany io_codeLong io_readLong io_undos io_wentHome io_tideLevel io_acts io_firstBreaks io_bestCrew io_sights io_wayMany io_random co_base co_now x1 r20 h20) (gB_X12_291 _) rfl dvX12_topOf ⟨⟨rfl, rfl⟩, ⟨Nat.le_of_ble_eq_true rfl, Nat.le_of_ble_eq_true rfl⟩, ⟨Nat.le_of_ble_eq_true rfl, Nat.le_of_ble_eq_true rfl⟩⟩ rfl (Nat.le_of_ble_eq_true rfl) dX12_cell_130 rfl rfl [0, 1, 3] [2] ⟨rfl, rfl, rfl, trivial⟩ (by decide +kernel) rfl [oX12 ao (0 : Int32) io_rows io_cells io_children io_changes io_taped io_at io_to io_nest io_readMany io_codeLong io_readLong io_undos io_wentHome io_tideLevel io_acts io_firstBreaks io_bestCrew io_sights io_wayMany io_random, rI Y (ao 2) 12 co_base, rI Y (ao 3) 12 co_dyke, rI Y (ao 8) 43 co_now] ⟨rfl, rfl, rfl, trivial⟩ ⟨rfl, trivial⟩ 4 rfl (by decide +kernel) ?_
      obtain rfl := fx_some hf
      exact a_iret C hQ dX12_cell_133 ⟨rfl, rfl⟩
    · have hf := fx_t h5 hf
      refine a_kill [1, 2] ?_
      exact kX12_cell_b25 C hQ hf
-- X12_child
abbrev rmX12_child : Room := { frames := 4, cells := 0, slots := 0, locals := 91 }
theorem dvX12_child : yX12_child.cls = RX12 ∧ yX12_child.cls ≠ "java/lang/invoke/MethodHandle" ∧ yX12_child.cls ≠ "java/lang/invoke/VarHandle" ∧ (parseMethodDescriptor yX12_child.desc).map (fun d => d.parameters.length) = some 2 := by decide +kernel
def fX12_child_b25 (io_thrown : Int32) (io_children : Int32) (co_age : Nat → Int32) (co_skill : Nat → Int32) (co_friend : Nat → Int32) (co_now : Nat → Int32) : Option (Int32 × Int32) :=
  (fX12_refuse io_thrown).bind (fun r1 => some (r1.1, r1.2))
set_option maxHeartbeats 400000 in
set_option maxRecDepth 100000 in
theorem kX12_child_b25 {X : cxT} {l : Launch} {D : va_G} {Y : Nat → ClassId} {ao : Nat → Nat} {io_thrown : Int32} {io_rows : Int32} {io_cells : Int32} {io_children : Int32} {io_changes : Int32} {io_taped : Int32} {io_at : Int32} {io_to : Int32} {io_nest : Int32} {io_readMany : Int32} {io_codeLong : Int32} {io_readLong : Int32} {io_undos : Int32} {io_wentHome : Int32} {io_tideLevel : Int32} {io_acts : Int32} {io_firstBreaks : Int32} {io_bestCrew : Int32} {io_sights : Int32} {io_wayMany : Int32} {io_random : Int32} {co_age : Nat → Int32} {co_skill : Nat → Int32} {co_friend : Nat → Int32} {co_now : Nat → Int32} {res : Int32 × Int32} (C : axC X l D Y cX12_child 3 RX12 wsX12_child rmX12_child (some .int)) (hQ : axQ X 0 0 (fun r9 w9 => r9 = (some (.int res.1)) ∧ w9 = [oX12 ao res.2 io_rows io_cells io_children io_changes io_taped io_at io_to io_nest io_readMany io_codeLong io_readLong io_undos io_wentHome io_tideLevel io_acts io_firstBreaks io_bestCrew io_sights io_wayMany io_random, rI Y (ao 4) 8 co_age, rI Y (ao 5) 8 co_skill, rI Y (ao 6) 8 co_friend, rI Y (ao 8) 43 co_now])) (hf : fX12_child_b25 io_thrown io_children co_age co_skill co_friend co_now = some res) : ax X 0 0 25 [some (.ref (ao 0)), none, none] [oX12 ao io_thrown io_rows io_cells io_children io_changes io_taped io_at io_to io_nest io_readMany io_codeLong io_readLong io_undos io_wentHome io_tideLevel io_acts io_firstBreaks io_bestCrew io_sights io_wayMany io_random, rI Y (ao 4) 8 co_age, rI Y (ao 5) 8 co_skill, rI Y (ao 6) 8 co_friend, rI Y (ao 8) 43 co_now] [] := by
  unfold fX12_child_b25 at hf
  refine a_aload_n C dX12_child_25 rfl ?_
  obtain ⟨r1, h1, hf⟩ := fx_bind hf
  refine a_fV C (kX12_refuse l D Y ao io_thrown io_rows io_cells io_children io_changes io_taped io_at io_to io_nest io_readMany io_codeLong io_readLong io_undos io_wentHome io_tideLevel io_acts io_firstBreaks io_bestCrew io_sights io_wayMany io_random r1 h1) (gB_X12_285 _) rfl dvX12_refuse ⟨⟨rfl, rfl⟩, ⟨Nat.le_of_ble_eq_true rfl, Nat.le_of_ble_eq_true rfl⟩, ⟨Nat.le_of_ble_eq_true rfl, Nat.le_of_ble_eq_true rfl⟩⟩ rfl (Nat.le_of_ble_eq_true rfl) dX12_child_26 rfl rfl [0] [1, 2, 3, 4] ⟨rfl, trivial⟩ (by decide +kernel) rfl [oX12 ao r1.2 io_rows io_cells io_children io_changes io_taped io_at io_to io_nest io_readMany io_codeLong io_readLong io_undos io_wentHome io_tideLevel io_acts io_firstBreaks io_bestCrew io_sights io_wayMany io_random, rI Y (ao 4) 8 co_age, rI Y (ao 5) 8 co_skill, rI Y (ao 6) 8 co_friend, rI Y (ao 8) 43 co_now] ⟨rfl, trivial⟩ ⟨rfl, rfl, rfl, rfl, trivial⟩ 5 rfl (by decide +kernel) ?_
  obtain rfl := fx_some hf
  exact a_iret C hQ dX12_child_29 ⟨rfl, rfl⟩
def fX12_child (io_thrown : Int32) (io_children : Int32) (co_age : Nat → Int32) (co_skill : Nat → Int32) (co_friend : Nat → Int32) (co_now : Nat → Int32) (x1 : Int32) (x2 : Int32) : Option (Int32 × Int32) :=
  (fX12_isChild io_children x1).bind (fun r2 => if r2 = (0 : Int32) then (fX12_child_b25 (0 : Int32) io_children co_age co_skill co_friend co_now) else ((fX12_in (x2.toInt64) (0 : Int64) (6 : Int64)).bind (fun r4 => if r4 = (0 : Int32) then (fX12_child_b25 (0 : Int32) io_children co_age co_skill co_friend co_now) else (if x2 = (0 : Int32) then (if inb x1 8 then some ((co_age (Int32.toNatClampNeg x1)), (0 : Int32)) else none) else if x2 = (1 : Int32) then (if inb x1 8 then some ((co_skill (Int32.toNatClampNeg x1)), (0 : Int32)) else none) else if x2 = (2 : Int32) then (if inb x1 8 then some ((co_friend (Int32.toNatClampNeg x1)), (0 : Int32)) else none) else if x2 = (3 : Int32) then ((fX12_moodOf co_now x1).bind (fun r13 => some (r13, (0 : Int32)))) else if x2 = (4 : Int32) then (if inb (41 : Int32) 43 then (fX12_has (co_now (Int32.toNatClampNeg (41 : Int32))) x1).bind (fun r16 => (fX12_flag r16).bind (fun r17 => some (r17, (0 : Int32)))) else none) else if x2 = (5 : Int32) then ((fX12_atOf co_now x1).bind (fun r19 => some (r19, (0 : Int32)))) else ((fX12_bucketsOf io_children co_age co_skill co_friend co_now x1).bind (fun r20 => some (r20, (0 : Int32))))))))
set_option maxHeartbeats 400000 in
set_option maxRecDepth 100000 in
theorem kX12_child (l : Launch) (D : va_G) (Y : Nat → ClassId) (ao : Nat → Nat) (io_thrown : Int32) (io_rows : Int32) (io_cells : Int32) (io_children : Int32) (io_changes : Int32) (io_taped : Int32) (io_at : Int32) (io_to : Int32) (io_nest : Int32) (io_readMany : Int32) (io_codeLong : Int32) (io_readLong : Int32) (io_undos : Int32) (io_wentHome : Int32) (io_tideLevel : Int32) (io_acts : Int32) (io_firstBreaks : Int32) (io_bestCrew : Int32) (io_sights : Int32) (io_wayMany : Int32) (io_random : Int32) (co_age : Nat → Int32) (co_skill : Nat → Int32) (co_friend : Nat → Int32) (co_now : Nat → Int32) (x1 : Int32) (x2 : Int32) (res : Int32 × Int32) (hf : fX12_child io_thrown io_children co_age co_skill co_friend co_now x1 x2 = some res) : amf l D Y yX12_child wsX12_child rmX12_child [.ref (ao 0), .int x1, .int x2] [oX12 ao io_thrown io_rows io_cells io_children io_changes io_taped io_at io_to io_nest io_readMany io_codeLong io_readLong io_undos io_wentHome io_tideLevel io_acts io_firstBreaks io_bestCrew io_sights io_wayMany io_random, rI Y (ao 4) 8 co_age, rI Y (ao 5) 8 co_skill, rI Y (ao 6) 8 co_friend, rI Y (ao 8) 43 co_now] (some (.int res.1)) [oX12 ao res.2 io_rows io_cells io_children io_changes io_taped io_at io_to io_nest io_readMany io_codeLong io_readLong io_undos io_wentHome io_tideLevel io_acts io_firstBreaks io_bestCrew io_sights io_wayMany io_random, rI Y (ao 4) 8 co_age, rI Y (ao 5) 8 co_skill, rI Y (ao 6) 8 co_friend, rI Y (ao 8) 43 co_now] := by
  refine amf.of (cc := cX12_child) (maxL := 3) (rt := (some .int)) (by decide) rfl RX12 rfl (Nat.le_of_ble_eq_true rfl) [some (.ref (ao 0)), some (.int x1), some (.int x2)] rfl ?_
  intro X C hQ
  unfold fX12_child at hf
  refine a_aload_n C dX12_child_0 rfl ?_
  refine a_iconst C (0 : Int32) dX12_child_1 (by decide) ?_
  refine a_put C (eB_X12_112 _) tfX12_0 dX12_child_2 0 rfl rfl rfl (Nat.le_of_ble_eq_true rfl) ?_
  refine a_aload_n C dX12_child_5 rfl ?_
  refine a_iload_n C dX12_child_6 rfl ?_
  obtain ⟨r2, h2, hf⟩ := fx_bind hf
  refine a_fV C (kX12_isChild l D Y ao (0 : Int32) io_rows io_cells io_children io_changes io_taped io_at io_to io_nest io_readMany io_codeLong io_readLong io_undos io_wentHome io_tideLevel io_acts io_firstBreaks io_bestCrew io_sights io_wayMany io_random x1 r2 h2) (gB_X12_294 _) rfl dvX12_isChild ⟨⟨rfl, rfl⟩, ⟨Nat.le_of_ble_eq_true rfl, Nat.le_of_ble_eq_true rfl⟩, ⟨Nat.le_of_ble_eq_true rfl, Nat.le_of_ble_eq_true rfl⟩⟩ rfl (Nat.le_of_ble_eq_true rfl) dX12_child_7 rfl rfl [0] [1, 2, 3, 4] ⟨rfl, trivial⟩ (by decide +kernel) rfl [oX12 ao (0 : Int32) io_rows io_cells io_children io_changes io_taped io_at io_to io_nest io_readMany io_codeLong io_readLong io_undos io_wentHome io_tideLevel io_acts io_firstBreaks io_bestCrew io_sights io_wayMany io_random, rI Y (ao 4) 8 co_age, rI Y (ao 5) 8 co_skill, rI Y (ao 6) 8 co_friend, rI Y (ao 8) 43 co_now] ⟨rfl, trivial⟩ ⟨rfl, rfl, rfl, rfl, trivial⟩ 5 rfl (by decide +kernel) ?_
  refine a_if_eq C 25 dX12_child_10 (by decide) (fun h3 => ?_) (fun h3 => ?_)
  · have hf := fx_t h3 hf
    refine a_kill [1, 2] ?_
    exact kX12_child_b25 C hQ hf
  · have hf := fx_f h3 hf
    refine a_iload_n C dX12_child_13 rfl ?_
    refine a_i2l C dX12_child_14 ?_
    refine a_lconst C (0 : Int64) dX12_child_15 (by decide) ?_
    refine a_ldc2 C (6 : Int64) dX12_child_16 (kB_X12_283 _) ?_
    obtain ⟨r4, h4, hf⟩ := fx_bind hf
    refine a_fS C (kX12_in l D Y (x2.toInt64) (0 : Int64) (6 : Int64) r4 h4) (gB_X12_122 _) rfl dvX12_in ⟨⟨rfl, rfl⟩, ⟨Nat.le_of_ble_eq_true rfl, Nat.le_of_ble_eq_true rfl⟩, ⟨Nat.le_of_ble_eq_true rfl, Nat.le_of_ble_eq_true rfl⟩⟩ rfl (Nat.le_of_ble_eq_true rfl) dX12_child_19 [] [0, 1, 2, 3, 4] trivial (by decide +kernel) rfl [oX12 ao (0 : Int32) io_rows io_cells io_children io_changes io_taped io_at io_to io_nest io_readMany io_codeLong io_readLong io_undos io_wentHome io_tideLevel io_acts io_firstBreaks io_bestCrew io_sights io_wayMany io_random, rI Y (ao 4) 8 co_age, rI Y (ao 5) 8 co_skill, rI Y (ao 6) 8 co_friend, rI Y (ao 8) 43 co_now] trivial ⟨rfl, rfl, rfl, rfl, rfl, trivial⟩ 5 rfl (by decide +kernel) ?_
    refine a_if_ne C 30 dX12_child_22 (by decide) (fun h5 => ?_) (fun h5 => ?_)
    · have hf := fx_f h5 hf
      refine a_iload_n C dX12_child_30 rfl ?_
      by_cases h6 : x2 = (0 : Int32)
      · have hf := fx_t h6 hf
        refine a_tableIn (off := 37) C 68 dX12_child_31 (by rw [h6]; decide) (by rw [h6]; decide) (by rw [h6]; first | done | rfl | decide) (by decide) ?_
        refine a_aload_n C dX12_child_68 rfl ?_
        refine a_get C (eB_X12_24 _) dX12_child_69 0 rfl rfl ?_
        refine a_iload_n C dX12_child_72 rfl ?_
        obtain ⟨h7, hf⟩ := fx_ite hf
        refine a_iald C dX12_child_73 1 rfl h7 ?_
        obtain rfl := fx_some hf
        exact a_iret C hQ dX12_child_74 ⟨rfl, rfl⟩
      have hf := fx_f h6 hf
      by_cases h8 : x2 = (1 : Int32)
      · have hf := fx_t h8 hf
        refine a_tableIn (off := 44) C 75 dX12_child_31 (by rw [h8]; decide) (by rw [h8]; decide) (by rw [h8]; first | done | rfl | decide) (by decide) ?_
        refine a_aload_n C dX12_child_75 rfl ?_
        refine a_get C (eB_X12_27 _) dX12_child_76 0 rfl rfl ?_
        refine a_iload_n C dX12_child_79 rfl ?_
        obtain ⟨h9, hf⟩ := fx_ite hf
        refine a_iald C dX12_child_80 2 rfl h9 ?_
        obtain rfl := fx_some hf
        exact a_iret C hQ dX12_child_81 ⟨rfl, rfl⟩
      have hf := fx_f h8 hf
      by_cases h10 : x2 = (2 : Int32)
      · have hf := fx_t h10 hf
        refine a_tableIn (off := 51) C 82 dX12_child_31 (by rw [h10]; decide) (by rw [h10]; decide) (by rw [h10]; first | done | rfl | decide) (by decide) ?_
        refine a_aload_n C dX12_child_82 rfl ?_
        refine a_get C (eB_X12_30 _) dX12_child_83 0 rfl rfl ?_
        refine a_iload_n C dX12_child_86 rfl ?_
        obtain ⟨h11, hf⟩ := fx_ite hf
        refine a_iald C dX12_child_87 3 rfl h11 ?_
        obtain rfl := fx_some hf
        exact a_iret C hQ dX12_child_88 ⟨rfl, rfl⟩
      have hf := fx_f h10 hf
      by_cases h12 : x2 = (3 : Int32)
      · have hf := fx_t h12 hf
        refine a_tableIn (off := 58) C 89 dX12_child_31 (by rw [h12]; decide) (by rw [h12]; decide) (by rw [h12]; first | done | rfl | decide) (by decide) ?_
        refine a_aload_n C dX12_child_89 rfl ?_
        refine a_get C (eB_X12_36 _) dX12_child_90 0 rfl rfl ?_
        refine a_iload_n C dX12_child_93 rfl ?_
        obtain ⟨r13, h13, hf⟩ := fx_bind hf
        refine a_fS C (kX12_moodOf l D Y (ao 8) co_now x1 r13 h13) (gB_X12_277 _) rfl dvX12_moodOf ⟨⟨rfl, rfl⟩, ⟨Nat.le_of_ble_eq_true rfl, Nat.le_of_ble_eq_true rfl⟩, ⟨Nat.le_of_ble_eq_true rfl, Nat.le_of_ble_eq_true rfl⟩⟩ rfl (Nat.le_of_ble_eq_true rfl) dX12_child_94 [4] [0, 1, 2, 3] ⟨rfl, trivial⟩ (by decide +kernel) rfl [oX12 ao (0 : Int32) io_rows io_cells io_children io_changes io_taped io_at io_to io_nest io_readMany io_codeLong io_readLong io_undos io_wentHome io_tideLevel io_acts io_firstBreaks io_bestCrew io_sights io_wayMany io_random, rI Y (ao 4) 8 co_age, rI Y (ao 5) 8 co_skill, rI Y (ao 6) 8 co_friend, rI Y (ao 8) 43 co_now] ⟨rfl, trivial⟩ ⟨rfl, rfl, rfl, rfl, trivial⟩ 5 rfl (by decide +kernel) ?_
        obtain rfl := fx_some hf
        exact a_iret C hQ dX12_child_97 ⟨rfl, rfl⟩
      have hf := fx_f h12 hf
      by_cases h14 : x2 = (4 : Int32)
      · have hf := fx_t h14 hf
        refine a_tableIn (off := 67) C 98 dX12_child_31 (by rw [h14]; decide) (by rw [h14]; decide) (by rw [h14]; first | done | rfl | decide) (by decide) ?_
        refine a_aload_n C dX12_child_98 rfl ?_
        refine a_get C (eB_X12_36 _) dX12_child_99 0 rfl rfl ?_
        refine a_bipush C (41 : Int32) dX12_child_102 (by decide) ?_
        obtain ⟨h15, hf⟩ := fx_ite hf
        refine a_iald C dX12_child_104 4 rfl h15 ?_
        refine a_iload_n C dX12_child_105 rfl ?_
        obtain ⟨r16, h16, hf⟩ := fx_bind hf
        refine a_fS C (kX12_has l D Y (co_now (Int32.toNatClampNeg (41 : Int32))) x1 r16 h16) (gB_X12_269 _) rfl dvX12_has ⟨⟨rfl, rfl⟩, ⟨Nat.le_of_ble_eq_true rfl, Nat.le_of_ble_eq_true rfl⟩, ⟨Nat.le_of_ble_eq_true rfl, Nat.le_of_ble_eq_true rfl⟩⟩ rfl (Nat.le_of_ble_eq_true rfl) dX12_child_106 [] [0, 1, 2, 3, 4] trivial (by decide +kernel) rfl [oX12 ao (0 : Int32) io_rows io_cells io_children io_changes io_taped io_at io_to io_nest io_readMany io_codeLong io_readLong io_undos io_wentHome io_tideLevel io_acts io_firstBreaks io_bestCrew io_sights io_wayMany io_random, rI Y (ao 4) 8 co_age, rI Y (ao 5) 8 co_skill, rI Y (ao 6) 8 co_friend, rI Y (ao 8) 43 co_now] trivial ⟨rfl, rfl, rfl, rfl, rfl, trivial⟩ 5 rfl (by decide +kernel) ?_
        obtain ⟨r17, h17, hf⟩ := fx_bind hf
        refine a_fS C (kX12_flag l D Y r16 r17 h17) (gB_X12_151 _) rfl dvX12_flag ⟨⟨rfl, rfl⟩, ⟨Nat.le_of_ble_eq_true rfl, Nat.le_of_ble_eq_true rfl⟩, ⟨Nat.le_of_ble_eq_true rfl, Nat.le_of_ble_eq_true rfl⟩⟩ rfl (Nat.le_of_ble_eq_true rfl) dX12_child_109 [] [0, 1, 2, 3, 4] trivial (by decide +kernel) rfl [oX12 ao (0 : Int32) io_rows io_cells io_children io_changes io_taped io_at io_to io_nest io_readMany io_codeLong io_readLong io_undos io_wentHome io_tideLevel io_acts io_firstBreaks io_bestCrew io_sights io_wayMany io_random, rI Y (ao 4) 8 co_age, rI Y (ao 5) 8 co_skill, rI Y (ao 6) 8 co_friend, rI Y (ao 8) 43 co_now] trivial ⟨rfl, rfl, rfl, rfl, rfl, trivial⟩ 5 rfl (by decide +kernel) ?_
        obtain rfl := fx_some hf
        exact a_iret C hQ dX12_child_112 ⟨rfl, rfl⟩
      have hf := fx_f h14 hf
      by_cases h18 : x2 = (5 : Int32)
      · have hf := fx_t h18 hf
        refine a_tableIn (off := 82) C 113 dX12_child_31 (by rw [h18]; decide) (by rw [h18]; decide) (by rw [h18]; first | done | rfl | decide) (by decide) ?_
        refine a_aload_n C dX12_child_113 rfl ?_
        refine a_get C (eB_X12_36 _) dX12_child_114 0 rfl rfl ?_
        refine a_iload_n C dX12_child_117 rfl ?_
        obtain ⟨r19, h19, hf⟩ := fx_bind hf
        refine a_fS C (kX12_atOf l D Y (ao 8) co_now x1 r19 h19) (gB_X12_129 _) rfl dvX12_atOf ⟨⟨rfl, rfl⟩, ⟨Nat.le_of_ble_eq_true rfl, Nat.le_of_ble_eq_true rfl⟩, ⟨Nat.le_of_ble_eq_true rfl, Nat.le_of_ble_eq_true rfl⟩⟩ rfl (Nat.le_of_ble_eq_true rfl) dX12_child_118 [4] [0, 1, 2, 3] ⟨rfl, trivial⟩ (by decide +kernel) rfl [oX12 ao (0 : Int32) io_rows io_cells io_children io_changes io_taped io_at io_to io_nest io_readMany io_codeLong io_readLong io_undos io_wentHome io_tideLevel io_acts io_firstBreaks io_bestCrew io_sights io_wayMany io_random, rI Y (ao 4) 8 co_age, rI Y (ao 5) 8 co_skill, rI Y (ao 6) 8 co_friend, rI Y (ao 8) 43 co_now] ⟨rfl, trivial⟩ ⟨rfl, rfl, rfl, rfl, trivial⟩ 5 rfl (by decide +kernel) ?_
        obtain rfl := fx_some hf
        exact a_iret C hQ dX12_child_121 ⟨rfl, rfl⟩
      have hf := fx_f h18 hf
      refine a_tableOut C 122 dX12_child_31 (by have z0 := lv_neT (a := 0) h6 (by decide); have z1 := lv_neT (a := 1) h8 (by decide); have z2 := lv_neT (a := 2) h10 (by decide); have z3 := lv_neT (a := 3) h12 (by decide); have z4 := lv_neT (a := 4) h14 (by decide); have z5 := lv_neT (a := 5) h18 (by decide); omega) (by decide) ?_
      refine a_aload_n C dX12_child_122 rfl ?_
      refine a_aload_n C dX12_child_123 rfl ?_
      refine a_get C (eB_X12_36 _) dX12_child_124 0 rfl rfl ?_
      refine a_iload_n C dX12_child_127 rfl ?_
      obtain ⟨r20, h20, hf⟩ := fx_bind hf
      refine a_fV C (kX12_bucketsOf l D Y ao (ao 8) (0 : Int32) io_rows io_cells io_children io_changes io_taped io_at io_to io_nest io_readMany io_codeLong io_readLong io_undos io_wentHome io_tideLevel io_acts io_firstBreaks io_bestCrew io_sights io_wayMany io_random co_age co_skill co_friend co_now x1 r20 h20) (gB_X12_297 _) rfl dvX12_bucketsOf ⟨⟨rfl, rfl⟩, ⟨Nat.le_of_ble_eq_true rfl, Nat.le_of_ble_eq_true rfl⟩, ⟨Nat.le_of_ble_eq_true rfl, Nat.le_of_ble_eq_true rfl⟩⟩ rfl (Nat.le_of_ble_eq_true rfl) dX12_child_128 rfl rfl [0, 1, 2, 3, 4] [] ⟨rfl, rfl, rfl, rfl, rfl, trivial⟩ (by decide +kernel) rfl [oX12 ao (0 : Int32) io_rows io_cells io_children io_changes io_taped io_at io_to io_nest io_readMany io_codeLong io_readLong io_undos io_wentHome io_tideLevel io_acts io_firstBreaks io_bestCrew io_sights io_wayMany io_random, rI Y (ao 4) 8 co_age, rI Y (ao 5) 8 co_skill, rI Y (ao 6) 8 co_friend, rI Y (ao 8) 43 co_now] ⟨rfl, rfl, rfl, rfl, rfl, trivial⟩ trivial 5 rfl (by decide +kernel) ?_
      obtain rfl := fx_some hf
      exact a_iret C hQ dX12_child_131 ⟨rfl, rfl⟩
    · have hf := fx_t h5 hf
      refine a_kill [1, 2] ?_
      exact kX12_child_b25 C hQ hf
-- X12_set
abbrev rmX12_set : Room := { frames := 1, cells := 0, slots := 0, locals := 25 }
theorem dvX12_set : yX12_set.cls = RX12 ∧ yX12_set.cls ≠ "java/lang/invoke/MethodHandle" ∧ yX12_set.cls ≠ "java/lang/invoke/VarHandle" ∧ (parseMethodDescriptor yX12_set.desc).map (fun d => d.parameters.length) = some 2 := by decide +kernel
def fX12_set_b59 (io_thrown : Int32) (co_fixed : Nat → Int32) (co_now : Nat → Int32) : Option (Int32 × Int32 × (Nat → Int32)) :=
  some ((-1 : Int32), io_thrown, co_fixed)
set_option maxHeartbeats 400000 in
set_option maxRecDepth 100000 in
theorem kX12_set_b59 {X : cxT} {l : Launch} {D : va_G} {Y : Nat → ClassId} {ao : Nat → Nat} {io_thrown : Int32} {io_rows : Int32} {io_cells : Int32} {io_children : Int32} {io_changes : Int32} {io_taped : Int32} {io_at : Int32} {io_to : Int32} {io_nest : Int32} {io_readMany : Int32} {io_codeLong : Int32} {io_readLong : Int32} {io_undos : Int32} {io_wentHome : Int32} {io_tideLevel : Int32} {io_acts : Int32} {io_firstBreaks : Int32} {io_bestCrew : Int32} {io_sights : Int32} {io_wayMany : Int32} {io_random : Int32} {co_fixed : Nat → Int32} {co_now : Nat → Int32} {res : Int32 × Int32 × (Nat → Int32)} (C : axC X l D Y cX12_set 5 RX12 wsX12_set rmX12_set (some .int)) (hQ : axQ X 0 0 (fun r9 w9 => r9 = (some (.int res.1)) ∧ w9 = [oX12 ao res.2.1 io_rows io_cells io_children io_changes io_taped io_at io_to io_nest io_readMany io_codeLong io_readLong io_undos io_wentHome io_tideLevel io_acts io_firstBreaks io_bestCrew io_sights io_wayMany io_random, rI Y (ao 7) 2 res.2.2, rI Y (ao 8) 43 co_now])) (hf : fX12_set_b59 io_thrown co_fixed co_now = some res) : ax X 0 0 59 [none, none, none, none, none] [oX12 ao io_thrown io_rows io_cells io_children io_changes io_taped io_at io_to io_nest io_readMany io_codeLong io_readLong io_undos io_wentHome io_tideLevel io_acts io_firstBreaks io_bestCrew io_sights io_wayMany io_random, rI Y (ao 7) 2 co_fixed, rI Y (ao 8) 43 co_now] [] := by
  unfold fX12_set_b59 at hf
  refine a_iconst C (-1 : Int32) dX12_set_59 (by decide) ?_
  obtain rfl := fx_some hf
  exact a_iret C hQ dX12_set_60 ⟨rfl, rfl⟩
def fX12_set_b53 (io_thrown : Int32) (co_fixed : Nat → Int32) (co_now : Nat → Int32) (x1 : Int32) (x2 : Int32) (s0 : Int64) (s1 : Int64) (s2 : Int64) : Option (Int32 × Int32 × (Nat → Int32)) :=
  (fX12_in s0 s1 s2).bind (fun r1 => if r1 = (0 : Int32) then (fX12_set_b59 io_thrown co_fixed co_now) else (if inb x1 2 then some ((co_fixed (Int32.toNatClampNeg x1)), io_thrown, (upd co_fixed (Int32.toNatClampNeg x1) x2)) else none))
set_option maxHeartbeats 400000 in
set_option maxRecDepth 100000 in
theorem kX12_set_b53 {X : cxT} {l : Launch} {D : va_G} {Y : Nat → ClassId} {ao : Nat → Nat} {io_thrown : Int32} {io_rows : Int32} {io_cells : Int32} {io_children : Int32} {io_changes : Int32} {io_taped : Int32} {io_at : Int32} {io_to : Int32} {io_nest : Int32} {io_readMany : Int32} {io_codeLong : Int32} {io_readLong : Int32} {io_undos : Int32} {io_wentHome : Int32} {io_tideLevel : Int32} {io_acts : Int32} {io_firstBreaks : Int32} {io_bestCrew : Int32} {io_sights : Int32} {io_wayMany : Int32} {io_random : Int32} {co_fixed : Nat → Int32} {co_now : Nat → Int32} {x1 : Int32} {x2 : Int32} {s0 : Int64} {s1 : Int64} {s2 : Int64} {res : Int32 × Int32 × (Nat → Int32)} (C : axC X l D Y cX12_set 5 RX12 wsX12_set rmX12_set (some .int)) (hQ : axQ X 0 0 (fun r9 w9 => r9 = (some (.int res.1)) ∧ w9 = [oX12 ao res.2.1 io_rows io_cells io_children io_changes io_taped io_at io_to io_nest io_readMany io_codeLong io_readLong io_undos io_wentHome io_tideLevel io_acts io_firstBreaks io_bestCrew io_sights io_wayMany io_random, rI Y (ao 7) 2 res.2.2, rI Y (ao 8) 43 co_now])) (hf : fX12_set_b53 io_thrown co_fixed co_now x1 x2 s0 s1 s2 = some res) : ax X 0 0 53 [some (.ref (ao 0)), some (.int x1), some (.int x2), none, none] [oX12 ao io_thrown io_rows io_cells io_children io_changes io_taped io_at io_to io_nest io_readMany io_codeLong io_readLong io_undos io_wentHome io_tideLevel io_acts io_firstBreaks io_bestCrew io_sights io_wayMany io_random, rI Y (ao 7) 2 co_fixed, rI Y (ao 8) 43 co_now] [.long s2, .long s1, .long s0] := by
  unfold fX12_set_b53 at hf
  obtain ⟨r1, h1, hf⟩ := fx_bind hf
  refine a_fS C (kX12_in l D Y s0 s1 s2 r1 h1) (gB_X12_122 _) rfl dvX12_in ⟨⟨rfl, rfl⟩, ⟨Nat.le_of_ble_eq_true rfl, Nat.le_of_ble_eq_true rfl⟩, ⟨Nat.le_of_ble_eq_true rfl, Nat.le_of_ble_eq_true rfl⟩⟩ rfl (Nat.le_of_ble_eq_true rfl) dX12_set_53 [] [0, 1, 2] trivial (by decide +kernel) rfl [oX12 ao io_thrown io_rows io_cells io_children io_changes io_taped io_at io_to io_nest io_readMany io_codeLong io_readLong io_undos io_wentHome io_tideLevel io_acts io_firstBreaks io_bestCrew io_sights io_wayMany io_random, rI Y (ao 7) 2 co_fixed, rI Y (ao 8) 43 co_now] trivial ⟨rfl, rfl, rfl, trivial⟩ 3 rfl (by decide +kernel) ?_
  refine a_if_ne C 61 dX12_set_56 (by decide) (fun h2 => ?_) (fun h2 => ?_)
  · have hf := fx_f h2 hf
    refine a_aload_n C dX12_set_61 rfl ?_
    refine a_get C (eB_X12_33 _) dX12_set_62 0 rfl rfl ?_
    refine a_iload_n C dX12_set_65 rfl ?_
    obtain ⟨h3, hf⟩ := fx_ite hf
    refine a_iald C dX12_set_66 1 rfl h3 ?_
    refine a_istore C dX12_set_67 (by decide) rfl ?_
    refine a_aload_n C dX12_set_69 rfl ?_
    refine a_get C (eB_X12_33 _) dX12_set_70 0 rfl rfl ?_
    refine a_iload_n C dX12_set_73 rfl ?_
    refine a_iload_n C dX12_set_74 rfl ?_
    refine a_iast C dX12_set_75 1 rfl h3 ?_
    refine a_iload C dX12_set_76 rfl ?_
    obtain rfl := fx_some hf
    exact a_iret C hQ dX12_set_78 ⟨rfl, rfl⟩
  · have hf := fx_t h2 hf
    refine a_kill [0, 1, 2] ?_
    exact kX12_set_b59 C hQ hf
def fX12_set_b24 (io_thrown : Int32) (co_fixed : Nat → Int32) (co_now : Nat → Int32) (x1 : Int32) (x2 : Int32) (s0 : Int32) : Option (Int32 × Int32 × (Nat → Int32)) :=
  (fX12_in (x1.toInt64) (0 : Int64) (1 : Int64)).bind (fun r4 => if r4 = (0 : Int32) then (fX12_set_b59 io_thrown co_fixed co_now) else (if x1 = (1 : Int32) then (fX12_set_b53 io_thrown co_fixed co_now x1 x2 (x2.toInt64) (s0.toInt64) (8 : Int64)) else (fX12_set_b53 io_thrown co_fixed co_now x1 x2 (x2.toInt64) (s0.toInt64) (9 : Int64))))
set_option maxHeartbeats 400000 in
set_option maxRecDepth 100000 in
theorem kX12_set_b24 {X : cxT} {l : Launch} {D : va_G} {Y : Nat → ClassId} {ao : Nat → Nat} {io_thrown : Int32} {io_rows : Int32} {io_cells : Int32} {io_children : Int32} {io_changes : Int32} {io_taped : Int32} {io_at : Int32} {io_to : Int32} {io_nest : Int32} {io_readMany : Int32} {io_codeLong : Int32} {io_readLong : Int32} {io_undos : Int32} {io_wentHome : Int32} {io_tideLevel : Int32} {io_acts : Int32} {io_firstBreaks : Int32} {io_bestCrew : Int32} {io_sights : Int32} {io_wayMany : Int32} {io_random : Int32} {co_fixed : Nat → Int32} {co_now : Nat → Int32} {x1 : Int32} {x2 : Int32} {s0 : Int32} {res : Int32 × Int32 × (Nat → Int32)} (C : axC X l D Y cX12_set 5 RX12 wsX12_set rmX12_set (some .int)) (hQ : axQ X 0 0 (fun r9 w9 => r9 = (some (.int res.1)) ∧ w9 = [oX12 ao res.2.1 io_rows io_cells io_children io_changes io_taped io_at io_to io_nest io_readMany io_codeLong io_readLong io_undos io_wentHome io_tideLevel io_acts io_firstBreaks io_bestCrew io_sights io_wayMany io_random, rI Y (ao 7) 2 res.2.2, rI Y (ao 8) 43 co_now])) (hf : fX12_set_b24 io_thrown co_fixed co_now x1 x2 s0 = some res) : ax X 0 0 24 [some (.ref (ao 0)), some (.int x1), some (.int x2), none, none] [oX12 ao io_thrown io_rows io_cells io_children io_changes io_taped io_at io_to io_nest io_readMany io_codeLong io_readLong io_undos io_wentHome io_tideLevel io_acts io_firstBreaks io_bestCrew io_sights io_wayMany io_random, rI Y (ao 7) 2 co_fixed, rI Y (ao 8) 43 co_now] [.int s0] := by
  unfold fX12_set_b24 at hf
  refine a_istore_n C dX12_set_24 (by decide) rfl ?_
  refine a_iload_n C dX12_set_25 rfl ?_
  refine a_i2l C dX12_set_26 ?_
  refine a_lconst C (0 : Int64) dX12_set_27 (by decide) ?_
  refine a_lconst C (1 : Int64) dX12_set_28 (by decide) ?_
  obtain ⟨r4, h4, hf⟩ := fx_bind hf
  refine a_fS C (kX12_in l D Y (x1.toInt64) (0 : Int64) (1 : Int64) r4 h4) (gB_X12_122 _) rfl dvX12_in ⟨⟨rfl, rfl⟩, ⟨Nat.le_of_ble_eq_true rfl, Nat.le_of_ble_eq_true rfl⟩, ⟨Nat.le_of_ble_eq_true rfl, Nat.le_of_ble_eq_true rfl⟩⟩ rfl (Nat.le_of_ble_eq_true rfl) dX12_set_29 [] [0, 1, 2] trivial (by decide +kernel) rfl [oX12 ao io_thrown io_rows io_cells io_children io_changes io_taped io_at io_to io_nest io_readMany io_codeLong io_readLong io_undos io_wentHome io_tideLevel io_acts io_firstBreaks io_bestCrew io_sights io_wayMany io_random, rI Y (ao 7) 2 co_fixed, rI Y (ao 8) 43 co_now] trivial ⟨rfl, rfl, rfl, trivial⟩ 3 rfl (by decide +kernel) ?_
  refine a_if_eq C 59 dX12_set_32 (by decide) (fun h5 => ?_) (fun h5 => ?_)
  · have hf := fx_t h5 hf
    refine a_kill [0, 1, 2, 3] ?_
    exact kX12_set_b59 C hQ hf
  · have hf := fx_f h5 hf
    refine a_iload_n C dX12_set_35 rfl ?_
    refine a_i2l C dX12_set_36 ?_
    refine a_iload_n C dX12_set_37 rfl ?_
    refine a_i2l C dX12_set_38 ?_
    refine a_iload_n C dX12_set_39 rfl ?_
    refine a_iconst C (1 : Int32) dX12_set_40 (by decide) ?_
    refine a_icmp_ne C 50 dX12_set_41 (by decide) (fun h6 => ?_) (fun h6 => ?_)
    · have hf := fx_f h6 hf
      refine a_ldc2 C (9 : Int64) dX12_set_50 (kB_X12_302 _) ?_
      refine a_kill [3] ?_
      exact kX12_set_b53 C hQ hf
    · have hf := fx_t h6 hf
      refine a_ldc2 C (8 : Int64) dX12_set_44 (kB_X12_300 _) ?_
      refine a_goto C 53 dX12_set_47 (by decide) ?_
      refine a_kill [3] ?_
      exact kX12_set_b53 C hQ hf
def fX12_set (io_thrown : Int32) (co_fixed : Nat → Int32) (co_now : Nat → Int32) (x1 : Int32) (x2 : Int32) : Option (Int32 × Int32 × (Nat → Int32)) :=
  if x1 = (1 : Int32) then (if inb (41 : Int32) 43 then (fJ6_bitCount_0f7a4 (co_now (Int32.toNatClampNeg (41 : Int32)))).bind (fun r9 => fX12_set_b24 (0 : Int32) co_fixed co_now x1 x2 r9) else none) else (fX12_set_b24 (0 : Int32) co_fixed co_now x1 x2 (0 : Int32))
set_option maxHeartbeats 400000 in
set_option maxRecDepth 100000 in
theorem kX12_set (l : Launch) (D : va_G) (Y : Nat → ClassId) (ao : Nat → Nat) (io_thrown : Int32) (io_rows : Int32) (io_cells : Int32) (io_children : Int32) (io_changes : Int32) (io_taped : Int32) (io_at : Int32) (io_to : Int32) (io_nest : Int32) (io_readMany : Int32) (io_codeLong : Int32) (io_readLong : Int32) (io_undos : Int32) (io_wentHome : Int32) (io_tideLevel : Int32) (io_acts : Int32) (io_firstBreaks : Int32) (io_bestCrew : Int32) (io_sights : Int32) (io_wayMany : Int32) (io_random : Int32) (co_fixed : Nat → Int32) (co_now : Nat → Int32) (x1 : Int32) (x2 : Int32) (res : Int32 × Int32 × (Nat → Int32)) (hf : fX12_set io_thrown co_fixed co_now x1 x2 = some res) : amf l D Y yX12_set wsX12_set rmX12_set [.ref (ao 0), .int x1, .int x2] [oX12 ao io_thrown io_rows io_cells io_children io_changes io_taped io_at io_to io_nest io_readMany io_codeLong io_readLong io_undos io_wentHome io_tideLevel io_acts io_firstBreaks io_bestCrew io_sights io_wayMany io_random, rI Y (ao 7) 2 co_fixed, rI Y (ao 8) 43 co_now] (some (.int res.1)) [oX12 ao res.2.1 io_rows io_cells io_children io_changes io_taped io_at io_to io_nest io_readMany io_codeLong io_readLong io_undos io_wentHome io_tideLevel io_acts io_firstBreaks io_bestCrew io_sights io_wayMany io_random, rI Y (ao 7) 2 res.2.2, rI Y (ao 8) 43 co_now] := by
  refine amf.of (cc := cX12_set) (maxL := 5) (rt := (some .int)) (by decide) rfl RX12 rfl (Nat.le_of_ble_eq_true rfl) [some (.ref (ao 0)), some (.int x1), some (.int x2), none, none] rfl ?_
  intro X C hQ
  unfold fX12_set at hf
  refine a_aload_n C dX12_set_0 rfl ?_
  refine a_iconst C (0 : Int32) dX12_set_1 (by decide) ?_
  refine a_put C (eB_X12_112 _) tfX12_0 dX12_set_2 0 rfl rfl rfl (Nat.le_of_ble_eq_true rfl) ?_
  refine a_iload_n C dX12_set_5 rfl ?_
  refine a_iconst C (1 : Int32) dX12_set_6 (by decide) ?_
  refine a_icmp_ne C 23 dX12_set_7 (by decide) (fun h7 => ?_) (fun h7 => ?_)
  · have hf := fx_f h7 hf
    refine a_iconst C (0 : Int32) dX12_set_23 (by decide) ?_
    exact kX12_set_b24 C hQ hf
  · have hf := fx_t h7 hf
    refine a_aload_n C dX12_set_10 rfl ?_
    refine a_get C (eB_X12_36 _) dX12_set_11 0 rfl rfl ?_
    refine a_bipush C (41 : Int32) dX12_set_14 (by decide) ?_
    obtain ⟨h8, hf⟩ := fx_ite hf
    refine a_iald C dX12_set_16 2 rfl h8 ?_
    obtain ⟨r9, h9, hf⟩ := fx_bind hf
    refine a_fS C (kJ6_bitCount_0f7a4 l D Y (co_now (Int32.toNatClampNeg (41 : Int32))) r9 h9) (gB_X12_251 _) rfl dvJ6_bitCount_0f7a4 ⟨⟨rfl, rfl⟩, ⟨Nat.le_of_ble_eq_true rfl, Nat.le_of_ble_eq_true rfl⟩, ⟨Nat.le_of_ble_eq_true rfl, Nat.le_of_ble_eq_true rfl⟩⟩ rfl (Nat.le_of_ble_eq_true rfl) dX12_set_17 [] [0, 1, 2] trivial (by decide +kernel) rfl [oX12 ao (0 : Int32) io_rows io_cells io_children io_changes io_taped io_at io_to io_nest io_readMany io_codeLong io_readLong io_undos io_wentHome io_tideLevel io_acts io_firstBreaks io_bestCrew io_sights io_wayMany io_random, rI Y (ao 7) 2 co_fixed, rI Y (ao 8) 43 co_now] trivial ⟨rfl, rfl, rfl, trivial⟩ 3 rfl (by decide +kernel) ?_
    refine a_goto C 24 dX12_set_20 (by decide) ?_
    exact kX12_set_b24 C hQ hf
-- X12_sheet
abbrev rmX12_sheet : Room := { frames := 1, cells := 0, slots := 0, locals := 25 }
theorem dvX12_sheet : yX12_sheet.cls = RX12 ∧ yX12_sheet.cls ≠ "java/lang/invoke/MethodHandle" ∧ yX12_sheet.cls ≠ "java/lang/invoke/VarHandle" ∧ (parseMethodDescriptor yX12_sheet.desc).map (fun d => d.parameters.length) = some 4 := by decide +kernel
def fX12_sheet_b23 (io_thrown : Int32) (io_children : Int32) (co_now : Nat → Int32) : Option (Int32 × Int32 × (Nat → Int32)) :=
  some ((-1 : Int32), io_thrown, co_now)
set_option maxHeartbeats 400000 in
set_option maxRecDepth 100000 in
theorem kX12_sheet_b23 {X : cxT} {l : Launch} {D : va_G} {Y : Nat → ClassId} {ao : Nat → Nat} {io_thrown : Int32} {io_rows : Int32} {io_cells : Int32} {io_children : Int32} {io_changes : Int32} {io_taped : Int32} {io_at : Int32} {io_to : Int32} {io_nest : Int32} {io_readMany : Int32} {io_codeLong : Int32} {io_readLong : Int32} {io_undos : Int32} {io_wentHome : Int32} {io_tideLevel : Int32} {io_acts : Int32} {io_firstBreaks : Int32} {io_bestCrew : Int32} {io_sights : Int32} {io_wayMany : Int32} {io_random : Int32} {co_now : Nat → Int32} {res : Int32 × Int32 × (Nat → Int32)} (C : axC X l D Y cX12_sheet 9 RX12 wsX12_sheet rmX12_sheet (some .int)) (hQ : axQ X 0 0 (fun r9 w9 => r9 = (some (.int res.1)) ∧ w9 = [oX12 ao res.2.1 io_rows io_cells io_children io_changes io_taped io_at io_to io_nest io_readMany io_codeLong io_readLong io_undos io_wentHome io_tideLevel io_acts io_firstBreaks io_bestCrew io_sights io_wayMany io_random, rI Y (ao 8) 43 res.2.2])) (hf : fX12_sheet_b23 io_thrown io_children co_now = some res) : ax X 0 0 23 [none, none, none, none, none, none, none, none, none] [oX12 ao io_thrown io_rows io_cells io_children io_changes io_taped io_at io_to io_nest io_readMany io_codeLong io_readLong io_undos io_wentHome io_tideLevel io_acts io_firstBreaks io_bestCrew io_sights io_wayMany io_random, rI Y (ao 8) 43 co_now] [] := by
  unfold fX12_sheet_b23 at hf
  refine a_iconst C (-1 : Int32) dX12_sheet_23 (by decide) ?_
  obtain rfl := fx_some hf
  exact a_iret C hQ dX12_sheet_24 ⟨rfl, rfl⟩
def fX12_sheet_b159 (io_thrown : Int32) (io_children : Int32) (co_now : Nat → Int32) (s0 : Int32) : Option (Int32 × Int32 × (Nat → Int32)) :=
  some (s0, io_thrown, co_now)
set_option maxHeartbeats 400000 in
set_option maxRecDepth 100000 in
theorem kX12_sheet_b159 {X : cxT} {l : Launch} {D : va_G} {Y : Nat → ClassId} {ao : Nat → Nat} {io_thrown : Int32} {io_rows : Int32} {io_cells : Int32} {io_children : Int32} {io_changes : Int32} {io_taped : Int32} {io_at : Int32} {io_to : Int32} {io_nest : Int32} {io_readMany : Int32} {io_codeLong : Int32} {io_readLong : Int32} {io_undos : Int32} {io_wentHome : Int32} {io_tideLevel : Int32} {io_acts : Int32} {io_firstBreaks : Int32} {io_bestCrew : Int32} {io_sights : Int32} {io_wayMany : Int32} {io_random : Int32} {co_now : Nat → Int32} {s0 : Int32} {res : Int32 × Int32 × (Nat → Int32)} (C : axC X l D Y cX12_sheet 9 RX12 wsX12_sheet rmX12_sheet (some .int)) (hQ : axQ X 0 0 (fun r9 w9 => r9 = (some (.int res.1)) ∧ w9 = [oX12 ao res.2.1 io_rows io_cells io_children io_changes io_taped io_at io_to io_nest io_readMany io_codeLong io_readLong io_undos io_wentHome io_tideLevel io_acts io_firstBreaks io_bestCrew io_sights io_wayMany io_random, rI Y (ao 8) 43 res.2.2])) (hf : fX12_sheet_b159 io_thrown io_children co_now s0 = some res) : ax X 0 0 159 [none, none, none, none, none, none, none, none, none] [oX12 ao io_thrown io_rows io_cells io_children io_changes io_taped io_at io_to io_nest io_readMany io_codeLong io_readLong io_undos io_wentHome io_tideLevel io_acts io_firstBreaks io_bestCrew io_sights io_wayMany io_random, rI Y (ao 8) 43 co_now] [.int s0] := by
  unfold fX12_sheet_b159 at hf
  obtain rfl := fx_some hf
  exact a_iret C hQ dX12_sheet_159 ⟨rfl, rfl⟩
def fX12_sheet_b147 (io_thrown : Int32) (io_children : Int32) (co_now : Nat → Int32) (x1 : Int32) (x5 : Int32) : Option (Int32 × Int32 × (Nat → Int32)) :=
  if x1 = (3 : Int32) then (fX12_sheet_b159 io_thrown io_children co_now (-3 : Int32)) else (fX12_sheet_b159 io_thrown io_children co_now x5)
set_option maxHeartbeats 400000 in
set_option maxRecDepth 100000 in
theorem kX12_sheet_b147 {X : cxT} {l : Launch} {D : va_G} {Y : Nat → ClassId} {ao : Nat → Nat} {io_thrown : Int32} {io_rows : Int32} {io_cells : Int32} {io_children : Int32} {io_changes : Int32} {io_taped : Int32} {io_at : Int32} {io_to : Int32} {io_nest : Int32} {io_readMany : Int32} {io_codeLong : Int32} {io_readLong : Int32} {io_undos : Int32} {io_wentHome : Int32} {io_tideLevel : Int32} {io_acts : Int32} {io_firstBreaks : Int32} {io_bestCrew : Int32} {io_sights : Int32} {io_wayMany : Int32} {io_random : Int32} {co_now : Nat → Int32} {x1 : Int32} {x5 : Int32} {res : Int32 × Int32 × (Nat → Int32)} (C : axC X l D Y cX12_sheet 9 RX12 wsX12_sheet rmX12_sheet (some .int)) (hQ : axQ X 0 0 (fun r9 w9 => r9 = (some (.int res.1)) ∧ w9 = [oX12 ao res.2.1 io_rows io_cells io_children io_changes io_taped io_at io_to io_nest io_readMany io_codeLong io_readLong io_undos io_wentHome io_tideLevel io_acts io_firstBreaks io_bestCrew io_sights io_wayMany io_random, rI Y (ao 8) 43 res.2.2])) (hf : fX12_sheet_b147 io_thrown io_children co_now x1 x5 = some res) : ax X 0 0 147 [none, some (.int x1), none, none, none, some (.int x5), none, none, none] [oX12 ao io_thrown io_rows io_cells io_children io_changes io_taped io_at io_to io_nest io_readMany io_codeLong io_readLong io_undos io_wentHome io_tideLevel io_acts io_firstBreaks io_bestCrew io_sights io_wayMany io_random, rI Y (ao 8) 43 co_now] [] := by
  unfold fX12_sheet_b147 at hf
  refine a_iload_n C dX12_sheet_147 rfl ?_
  refine a_iconst C (3 : Int32) dX12_sheet_148 (by decide) ?_
  refine a_icmp_ne C 157 dX12_sheet_149 (by decide) (fun h1 => ?_) (fun h1 => ?_)
  · have hf := fx_f h1 hf
    refine a_iload C dX12_sheet_157 rfl ?_
    refine a_kill [1, 5] ?_
    exact kX12_sheet_b159 C hQ hf
  · have hf := fx_t h1 hf
    refine a_bipush C (-3 : Int32) dX12_sheet_152 (by decide) ?_
    refine a_goto C 159 dX12_sheet_154 (by decide) ?_
    refine a_kill [1, 5] ?_
    exact kX12_sheet_b159 C hQ hf
def fX12_sheet_b119 (io_thrown : Int32) (io_children : Int32) (co_now : Nat → Int32) (x1 : Int32) (x2 : Int32) (x4 : Int32) (x5 : Int32) (x6 : Int32) (x7 : Int32) (s1 : Int32) (s2 : Int32) (k46 : (Nat → Int32) × Int32 × Int32 × Int32 → Option (Int32 × Int32 × (Nat → Int32))) : Option (Int32 × Int32 × (Nat → Int32)) :=
  if inb s1 43 then (fX12_moodOf (upd co_now (Int32.toNatClampNeg s1) s2) x7).bind (fun r3 => k46 ((upd co_now (Int32.toNatClampNeg s1) s2), (x5 + r3), (x6 + x4), (x7 + (1 : Int32)))) else none
set_option maxHeartbeats 400000 in
set_option maxRecDepth 100000 in
theorem kX12_sheet_b119 {X : cxT} {l : Launch} {D : va_G} {Y : Nat → ClassId} {ao : Nat → Nat} {io_thrown : Int32} {io_rows : Int32} {io_cells : Int32} {io_children : Int32} {io_changes : Int32} {io_taped : Int32} {io_at : Int32} {io_to : Int32} {io_nest : Int32} {io_readMany : Int32} {io_codeLong : Int32} {io_readLong : Int32} {io_undos : Int32} {io_wentHome : Int32} {io_tideLevel : Int32} {io_acts : Int32} {io_firstBreaks : Int32} {io_bestCrew : Int32} {io_sights : Int32} {io_wayMany : Int32} {io_random : Int32} {co_now : Nat → Int32} {x1 : Int32} {x2 : Int32} {x4 : Int32} {x5 : Int32} {x6 : Int32} {x7 : Int32} {s1 : Int32} {s2 : Int32} {res : Int32 × Int32 × (Nat → Int32)} (C : axC X l D Y cX12_sheet 9 RX12 wsX12_sheet rmX12_sheet (some .int)) (hQ : axQ X 0 0 (fun r9 w9 => r9 = (some (.int res.1)) ∧ w9 = [oX12 ao res.2.1 io_rows io_cells io_children io_changes io_taped io_at io_to io_nest io_readMany io_codeLong io_readLong io_undos io_wentHome io_tideLevel io_acts io_firstBreaks io_bestCrew io_sights io_wayMany io_random, rI Y (ao 8) 43 res.2.2])) {k46 : (Nat → Int32) × Int32 × Int32 × Int32 → Option (Int32 × Int32 × (Nat → Int32))} (hk46 : ∀ s : (Nat → Int32) × Int32 × Int32 × Int32, k46 s = some res → ax X 0 0 46 [some (.ref (ao 0)), some (.int x1), some (.int x2), none, some (.int x4), some (.int s.2.1), some (.int s.2.2.1), some (.int s.2.2.2), none] [oX12 ao io_thrown io_rows io_cells io_children io_changes io_taped io_at io_to io_nest io_readMany io_codeLong io_readLong io_undos io_wentHome io_tideLevel io_acts io_firstBreaks io_bestCrew io_sights io_wayMany io_random, rI Y (ao 8) 43 s.1] []) (hf : fX12_sheet_b119 io_thrown io_children co_now x1 x2 x4 x5 x6 x7 s1 s2 k46 = some res) : ax X 0 0 119 [some (.ref (ao 0)), some (.int x1), some (.int x2), none, some (.int x4), some (.int x5), some (.int x6), some (.int x7), none] [oX12 ao io_thrown io_rows io_cells io_children io_changes io_taped io_at io_to io_nest io_readMany io_codeLong io_readLong io_undos io_wentHome io_tideLevel io_acts io_firstBreaks io_bestCrew io_sights io_wayMany io_random, rI Y (ao 8) 43 co_now] [.int s2, .int s1, .ref (ao 8)] := by
  unfold fX12_sheet_b119 at hf
  obtain ⟨h2, hf⟩ := fx_ite hf
  refine a_iast C dX12_sheet_119 1 rfl h2 ?_
  refine a_iload C dX12_sheet_120 rfl ?_
  refine a_aload_n C dX12_sheet_122 rfl ?_
  refine a_get C (eB_X12_36 _) dX12_sheet_123 0 rfl rfl ?_
  refine a_iload C dX12_sheet_126 rfl ?_
  obtain ⟨r3, h3, hf⟩ := fx_bind hf
  refine a_fS C (kX12_moodOf l D Y (ao 8) (upd co_now (Int32.toNatClampNeg s1) s2) x7 r3 h3) (gB_X12_277 _) rfl dvX12_moodOf ⟨⟨rfl, rfl⟩, ⟨Nat.le_of_ble_eq_true rfl, Nat.le_of_ble_eq_true rfl⟩, ⟨Nat.le_of_ble_eq_true rfl, Nat.le_of_ble_eq_true rfl⟩⟩ rfl (Nat.le_of_ble_eq_true rfl) dX12_sheet_128 [1] [0] ⟨rfl, trivial⟩ (by decide +kernel) rfl [oX12 ao io_thrown io_rows io_cells io_children io_changes io_taped io_at io_to io_nest io_readMany io_codeLong io_readLong io_undos io_wentHome io_tideLevel io_acts io_firstBreaks io_bestCrew io_sights io_wayMany io_random, rI Y (ao 8) 43 (upd co_now (Int32.toNatClampNeg s1) s2)] ⟨rfl, trivial⟩ ⟨rfl, trivial⟩ 2 rfl (by decide +kernel) ?_
  refine a_iadd C dX12_sheet_131 ?_
  refine a_istore C dX12_sheet_132 (by decide) rfl ?_
  refine a_iload C dX12_sheet_134 rfl ?_
  refine a_iload C dX12_sheet_136 rfl ?_
  refine a_iadd C dX12_sheet_138 ?_
  refine a_istore C dX12_sheet_139 (by decide) rfl ?_
  refine a_iinc C (1 : Int32) dX12_sheet_141 (by decide) rfl (by decide) rfl ?_
  refine a_goto C 46 dX12_sheet_144 (by decide) ?_
  exact hk46 ((upd co_now (Int32.toNatClampNeg s1) s2), (x5 + r3), (x6 + x4), (x7 + (1 : Int32))) hf
def fX12_sheet_b104 (io_thrown : Int32) (io_children : Int32) (co_now : Nat → Int32) (x1 : Int32) (x2 : Int32) (x4 : Int32) (x5 : Int32) (x6 : Int32) (x7 : Int32) (s1 : Int32) (k46 : (Nat → Int32) × Int32 × Int32 × Int32 → Option (Int32 × Int32 × (Nat → Int32))) : Option (Int32 × Int32 × (Nat → Int32)) :=
  fX12_sheet_b119 io_thrown io_children co_now x1 x2 x4 x5 x6 x7 s1 (0 : Int32) k46
set_option maxHeartbeats 400000 in
set_option maxRecDepth 100000 in
theorem kX12_sheet_b104 {X : cxT} {l : Launch} {D : va_G} {Y : Nat → ClassId} {ao : Nat → Nat} {io_thrown : Int32} {io_rows : Int32} {io_cells : Int32} {io_children : Int32} {io_changes : Int32} {io_taped : Int32} {io_at : Int32} {io_to : Int32} {io_nest : Int32} {io_readMany : Int32} {io_codeLong : Int32} {io_readLong : Int32} {io_undos : Int32} {io_wentHome : Int32} {io_tideLevel : Int32} {io_acts : Int32} {io_firstBreaks : Int32} {io_bestCrew : Int32} {io_sights : Int32} {io_wayMany : Int32} {io_random : Int32} {co_now : Nat → Int32} {x1 : Int32} {x2 : Int32} {x4 : Int32} {x5 : Int32} {x6 : Int32} {x7 : Int32} {s1 : Int32} {res : Int32 × Int32 × (Nat → Int32)} (C : axC X l D Y cX12_sheet 9 RX12 wsX12_sheet rmX12_sheet (some .int)) (hQ : axQ X 0 0 (fun r9 w9 => r9 = (some (.int res.1)) ∧ w9 = [oX12 ao res.2.1 io_rows io_cells io_children io_changes io_taped io_at io_to io_nest io_readMany io_codeLong io_readLong io_undos io_wentHome io_tideLevel io_acts io_firstBreaks io_bestCrew io_sights io_wayMany io_random, rI Y (ao 8) 43 res.2.2])) {k46 : (Nat → Int32) × Int32 × Int32 × Int32 → Option (Int32 × Int32 × (Nat → Int32))} (hk46 : ∀ s : (Nat → Int32) × Int32 × Int32 × Int32, k46 s = some res → ax X 0 0 46 [some (.ref (ao 0)), some (.int x1), some (.int x2), none, some (.int x4), some (.int s.2.1), some (.int s.2.2.1), some (.int s.2.2.2), none] [oX12 ao io_thrown io_rows io_cells io_children io_changes io_taped io_at io_to io_nest io_readMany io_codeLong io_readLong io_undos io_wentHome io_tideLevel io_acts io_firstBreaks io_bestCrew io_sights io_wayMany io_random, rI Y (ao 8) 43 s.1] []) (hf : fX12_sheet_b104 io_thrown io_children co_now x1 x2 x4 x5 x6 x7 s1 k46 = some res) : ax X 0 0 104 [some (.ref (ao 0)), some (.int x1), some (.int x2), none, some (.int x4), some (.int x5), some (.int x6), some (.int x7), none] [oX12 ao io_thrown io_rows io_cells io_children io_changes io_taped io_at io_to io_nest io_readMany io_codeLong io_readLong io_undos io_wentHome io_tideLevel io_acts io_firstBreaks io_bestCrew io_sights io_wayMany io_random, rI Y (ao 8) 43 co_now] [.int s1, .ref (ao 8)] := by
  unfold fX12_sheet_b104 at hf
  refine a_iconst C (0 : Int32) dX12_sheet_104 (by decide) ?_
  refine a_goto C 119 dX12_sheet_105 (by decide) ?_
  exact kX12_sheet_b119 C hQ hk46 hf
def fX12_sheet_b78 (io_thrown : Int32) (io_children : Int32) (co_now : Nat → Int32) (x1 : Int32) (x2 : Int32) (x4 : Int32) (x5 : Int32) (x6 : Int32) (x7 : Int32) (s0 : Int32) (k46 : (Nat → Int32) × Int32 × Int32 × Int32 → Option (Int32 × Int32 × (Nat → Int32))) : Option (Int32 × Int32 × (Nat → Int32)) :=
  if x1 = (3 : Int32) then (fX12_sheet_b104 io_thrown io_children co_now x1 x2 x4 x5 x6 x7 (((25 : Int32) + ((2 : Int32) * x7)) + (1 : Int32)) k46) else (if x7 < x2 then (fX12_sheet_b119 io_thrown io_children co_now x1 x2 x4 x5 x6 x7 (((25 : Int32) + ((2 : Int32) * x7)) + (1 : Int32)) (jmax (0 : Int32) (jmin (9 : Int32) s0)) k46) else (fX12_sheet_b104 io_thrown io_children co_now x1 x2 x4 x5 x6 x7 (((25 : Int32) + ((2 : Int32) * x7)) + (1 : Int32)) k46))
set_option maxHeartbeats 400000 in
set_option maxRecDepth 100000 in
theorem kX12_sheet_b78 {X : cxT} {l : Launch} {D : va_G} {Y : Nat → ClassId} {ao : Nat → Nat} {io_thrown : Int32} {io_rows : Int32} {io_cells : Int32} {io_children : Int32} {io_changes : Int32} {io_taped : Int32} {io_at : Int32} {io_to : Int32} {io_nest : Int32} {io_readMany : Int32} {io_codeLong : Int32} {io_readLong : Int32} {io_undos : Int32} {io_wentHome : Int32} {io_tideLevel : Int32} {io_acts : Int32} {io_firstBreaks : Int32} {io_bestCrew : Int32} {io_sights : Int32} {io_wayMany : Int32} {io_random : Int32} {co_now : Nat → Int32} {x1 : Int32} {x2 : Int32} {x4 : Int32} {x5 : Int32} {x6 : Int32} {x7 : Int32} {s0 : Int32} {res : Int32 × Int32 × (Nat → Int32)} (C : axC X l D Y cX12_sheet 9 RX12 wsX12_sheet rmX12_sheet (some .int)) (hQ : axQ X 0 0 (fun r9 w9 => r9 = (some (.int res.1)) ∧ w9 = [oX12 ao res.2.1 io_rows io_cells io_children io_changes io_taped io_at io_to io_nest io_readMany io_codeLong io_readLong io_undos io_wentHome io_tideLevel io_acts io_firstBreaks io_bestCrew io_sights io_wayMany io_random, rI Y (ao 8) 43 res.2.2])) {k46 : (Nat → Int32) × Int32 × Int32 × Int32 → Option (Int32 × Int32 × (Nat → Int32))} (hk46 : ∀ s : (Nat → Int32) × Int32 × Int32 × Int32, k46 s = some res → ax X 0 0 46 [some (.ref (ao 0)), some (.int x1), some (.int x2), none, some (.int x4), some (.int s.2.1), some (.int s.2.2.1), some (.int s.2.2.2), none] [oX12 ao io_thrown io_rows io_cells io_children io_changes io_taped io_at io_to io_nest io_readMany io_codeLong io_readLong io_undos io_wentHome io_tideLevel io_acts io_firstBreaks io_bestCrew io_sights io_wayMany io_random, rI Y (ao 8) 43 s.1] []) (hf : fX12_sheet_b78 io_thrown io_children co_now x1 x2 x4 x5 x6 x7 s0 k46 = some res) : ax X 0 0 78 [some (.ref (ao 0)), some (.int x1), some (.int x2), none, some (.int x4), some (.int x5), some (.int x6), some (.int x7), none] [oX12 ao io_thrown io_rows io_cells io_children io_changes io_taped io_at io_to io_nest io_readMany io_codeLong io_readLong io_undos io_wentHome io_tideLevel io_acts io_firstBreaks io_bestCrew io_sights io_wayMany io_random, rI Y (ao 8) 43 co_now] [.int s0] := by
  unfold fX12_sheet_b78 at hf
  refine a_istore C dX12_sheet_78 (by decide) rfl ?_
  refine a_aload_n C dX12_sheet_80 rfl ?_
  refine a_get C (eB_X12_36 _) dX12_sheet_81 0 rfl rfl ?_
  refine a_bipush C (25 : Int32) dX12_sheet_84 (by decide) ?_
  refine a_iconst C (2 : Int32) dX12_sheet_86 (by decide) ?_
  refine a_iload C dX12_sheet_87 rfl ?_
  refine a_imul C dX12_sheet_89 ?_
  refine a_iadd C dX12_sheet_90 ?_
  refine a_iconst C (1 : Int32) dX12_sheet_91 (by decide) ?_
  refine a_iadd C dX12_sheet_92 ?_
  refine a_iload_n C dX12_sheet_93 rfl ?_
  refine a_iconst C (3 : Int32) dX12_sheet_94 (by decide) ?_
  refine a_icmp_eq C 104 dX12_sheet_95 (by decide) (fun h4 => ?_) (fun h4 => ?_)
  · have hf := fx_t h4 hf
    refine a_kill [8] ?_
    exact kX12_sheet_b104 C hQ hk46 hf
  · have hf := fx_f h4 hf
    refine a_iload C dX12_sheet_98 rfl ?_
    refine a_iload_n C dX12_sheet_100 rfl ?_
    refine a_icmp_lt C 108 dX12_sheet_101 (by decide) (fun h5 => ?_) (fun h5 => ?_)
    · have hf := fx_t h5 hf
      refine a_iconst C (0 : Int32) dX12_sheet_108 (by decide) ?_
      refine a_bipush C (9 : Int32) dX12_sheet_109 (by decide) ?_
      refine a_iload C dX12_sheet_111 rfl ?_
      refine a_mmin C dX12_sheet_113 (mB_X12_142 _) ⟨⟨Nat.le_of_ble_eq_true rfl, Nat.le_of_ble_eq_true rfl⟩, ⟨Nat.le_of_ble_eq_true rfl, Nat.le_of_ble_eq_true rfl⟩⟩ (Nat.le_of_ble_eq_true rfl) ?_
      refine a_mmax C dX12_sheet_116 (mB_X12_259 _) ⟨⟨Nat.le_of_ble_eq_true rfl, Nat.le_of_ble_eq_true rfl⟩, ⟨Nat.le_of_ble_eq_true rfl, Nat.le_of_ble_eq_true rfl⟩⟩ (Nat.le_of_ble_eq_true rfl) ?_
      refine a_kill [8] ?_
      exact kX12_sheet_b119 C hQ hk46 hf
    · have hf := fx_f h5 hf
      refine a_kill [8] ?_
      exact kX12_sheet_b104 C hQ hk46 hf
def fX12_sheet_l46 (io_thrown : Int32) (io_children : Int32) (x1 : Int32) (x2 : Int32) (x4 : Int32) (k46 : (Nat → Int32) × Int32 × Int32 × Int32 → Option (Int32 × Int32 × (Nat → Int32))) (co_now : Nat → Int32) (x5 : Int32) (x6 : Int32) (x7 : Int32) : Option (Int32 × Int32 × (Nat → Int32)) :=
  if io_children ≤ x7 then (fX12_sheet_b147 io_thrown io_children co_now x1 x5) else (if x1 = (0 : Int32) then (fX12_sheet_b78 io_thrown io_children co_now x1 x2 x4 x5 x6 x7 (x6.toInt8.toInt32) k46) else (if x1 = (1 : Int32) then (fX12_sheet_b78 io_thrown io_children co_now x1 x2 x4 x5 x6 x7 (x6.toInt16.toInt32) k46) else (fX12_sheet_b78 io_thrown io_children co_now x1 x2 x4 x5 x6 x7 x6 k46)))
def fX12_sheet_b46 (io_thrown : Int32) (io_children : Int32) (co_now : Nat → Int32) (x1 : Int32) (x2 : Int32) (x4 : Int32) (x5 : Int32) (x6 : Int32) (x7 : Int32) : Option (Int32 × Int32 × (Nat → Int32)) :=
  loopN (fun (s : (Nat → Int32) × Int32 × Int32 × Int32) k46 => fX12_sheet_l46 io_thrown io_children x1 x2 x4 k46 s.1 s.2.1 s.2.2.1 s.2.2.2) FUEL (co_now, x5, x6, x7)
set_option maxHeartbeats 400000 in
set_option maxRecDepth 100000 in
theorem kX12_sheet_l46 {X : cxT} {l : Launch} {D : va_G} {Y : Nat → ClassId} {ao : Nat → Nat} {io_thrown : Int32} {io_rows : Int32} {io_cells : Int32} {io_children : Int32} {io_changes : Int32} {io_taped : Int32} {io_at : Int32} {io_to : Int32} {io_nest : Int32} {io_readMany : Int32} {io_codeLong : Int32} {io_readLong : Int32} {io_undos : Int32} {io_wentHome : Int32} {io_tideLevel : Int32} {io_acts : Int32} {io_firstBreaks : Int32} {io_bestCrew : Int32} {io_sights : Int32} {io_wayMany : Int32} {io_random : Int32} {co_now : Nat → Int32} {x1 : Int32} {x2 : Int32} {x4 : Int32} {x5 : Int32} {x6 : Int32} {x7 : Int32} {res : Int32 × Int32 × (Nat → Int32)} (C : axC X l D Y cX12_sheet 9 RX12 wsX12_sheet rmX12_sheet (some .int)) (hQ : axQ X 0 0 (fun r9 w9 => r9 = (some (.int res.1)) ∧ w9 = [oX12 ao res.2.1 io_rows io_cells io_children io_changes io_taped io_at io_to io_nest io_readMany io_codeLong io_readLong io_undos io_wentHome io_tideLevel io_acts io_firstBreaks io_bestCrew io_sights io_wayMany io_random, rI Y (ao 8) 43 res.2.2])) {k46 : (Nat → Int32) × Int32 × Int32 × Int32 → Option (Int32 × Int32 × (Nat → Int32))} (hk46 : ∀ s : (Nat → Int32) × Int32 × Int32 × Int32, k46 s = some res → ax X 0 0 46 [some (.ref (ao 0)), some (.int x1), some (.int x2), none, some (.int x4), some (.int s.2.1), some (.int s.2.2.1), some (.int s.2.2.2), none] [oX12 ao io_thrown io_rows io_cells io_children io_changes io_taped io_at io_to io_nest io_readMany io_codeLong io_readLong io_undos io_wentHome io_tideLevel io_acts io_firstBreaks io_bestCrew io_sights io_wayMany io_random, rI Y (ao 8) 43 s.1] []) (hf : fX12_sheet_l46 io_thrown io_children x1 x2 x4 k46 co_now x5 x6 x7 = some res) : ax X 0 0 46 [some (.ref (ao 0)), some (.int x1), some (.int x2), none, some (.int x4), some (.int x5), some (.int x6), some (.int x7), none] [oX12 ao io_thrown io_rows io_cells io_children io_changes io_taped io_at io_to io_nest io_readMany io_codeLong io_readLong io_undos io_wentHome io_tideLevel io_acts io_firstBreaks io_bestCrew io_sights io_wayMany io_random, rI Y (ao 8) 43 co_now] [] := by
  unfold fX12_sheet_l46 at hf
  refine a_iload C dX12_sheet_46 rfl ?_
  refine a_aload_n C dX12_sheet_48 rfl ?_
  refine a_get C (eB_X12_126 _) dX12_sheet_49 0 rfl rfl ?_
  refine a_icmp_ge C 147 dX12_sheet_52 (by decide) (fun h6 => ?_) (fun h6 => ?_)
  · have hf := fx_t h6 hf
    refine a_kill [0, 2, 4, 6, 7] ?_
    exact kX12_sheet_b147 C hQ hf
  · have hf := fx_f h6 hf
    refine a_iload_n C dX12_sheet_55 rfl ?_
    refine a_if_ne C 65 dX12_sheet_56 (by decide) (fun h7 => ?_) (fun h7 => ?_)
    · have hf := fx_f h7 hf
      refine a_iload_n C dX12_sheet_65 rfl ?_
      refine a_iconst C (1 : Int32) dX12_sheet_66 (by decide) ?_
      refine a_icmp_ne C 76 dX12_sheet_67 (by decide) (fun h8 => ?_) (fun h8 => ?_)
      · have hf := fx_f h8 hf
        refine a_iload C dX12_sheet_76 rfl ?_
        exact kX12_sheet_b78 C hQ hk46 hf
      · have hf := fx_t h8 hf
        refine a_iload C dX12_sheet_70 rfl ?_
        refine a_i2s C dX12_sheet_72 ?_
        refine a_goto C 78 dX12_sheet_73 (by decide) ?_
        exact kX12_sheet_b78 C hQ hk46 hf
    · have hf := fx_t h7 hf
      refine a_iload C dX12_sheet_59 rfl ?_
      refine a_i2b C dX12_sheet_61 ?_
      refine a_goto C 78 dX12_sheet_62 (by decide) ?_
      exact kX12_sheet_b78 C hQ hk46 hf
set_option maxHeartbeats 400000 in
set_option maxRecDepth 100000 in
theorem kX12_sheet_b46 {X : cxT} {l : Launch} {D : va_G} {Y : Nat → ClassId} {ao : Nat → Nat} {io_thrown : Int32} {io_rows : Int32} {io_cells : Int32} {io_children : Int32} {io_changes : Int32} {io_taped : Int32} {io_at : Int32} {io_to : Int32} {io_nest : Int32} {io_readMany : Int32} {io_codeLong : Int32} {io_readLong : Int32} {io_undos : Int32} {io_wentHome : Int32} {io_tideLevel : Int32} {io_acts : Int32} {io_firstBreaks : Int32} {io_bestCrew : Int32} {io_sights : Int32} {io_wayMany : Int32} {io_random : Int32} {co_now : Nat → Int32} {x1 : Int32} {x2 : Int32} {x4 : Int32} {x5 : Int32} {x6 : Int32} {x7 : Int32} {res : Int32 × Int32 × (Nat → Int32)} (C : axC X l D Y cX12_sheet 9 RX12 wsX12_sheet rmX12_sheet (some .int)) (hQ : axQ X 0 0 (fun r9 w9 => r9 = (some (.int res.1)) ∧ w9 = [oX12 ao res.2.1 io_rows io_cells io_children io_changes io_taped io_at io_to io_nest io_readMany io_codeLong io_readLong io_undos io_wentHome io_tideLevel io_acts io_firstBreaks io_bestCrew io_sights io_wayMany io_random, rI Y (ao 8) 43 res.2.2])) (hf : fX12_sheet_b46 io_thrown io_children co_now x1 x2 x4 x5 x6 x7 = some res) : ax X 0 0 46 [some (.ref (ao 0)), some (.int x1), some (.int x2), none, some (.int x4), some (.int x5), some (.int x6), some (.int x7), none] [oX12 ao io_thrown io_rows io_cells io_children io_changes io_taped io_at io_to io_nest io_readMany io_codeLong io_readLong io_undos io_wentHome io_tideLevel io_acts io_firstBreaks io_bestCrew io_sights io_wayMany io_random, rI Y (ao 8) 43 co_now] [] := by
  unfold fX12_sheet_b46 at hf
  exact fx_loop (P := fun s : (Nat → Int32) × Int32 × Int32 × Int32 => ax X 0 0 46 [some (.ref (ao 0)), some (.int x1), some (.int x2), none, some (.int x4), some (.int s.2.1), some (.int s.2.2.1), some (.int s.2.2.2), none] [oX12 ao io_thrown io_rows io_cells io_children io_changes io_taped io_at io_to io_nest io_readMany io_codeLong io_readLong io_undos io_wentHome io_tideLevel io_acts io_firstBreaks io_bestCrew io_sights io_wayMany io_random, rI Y (ao 8) 43 s.1] []) (fun s k46 hk46 h => kX12_sheet_l46 C hQ hk46 h) FUEL (co_now, x5, x6, x7) hf
def fX12_sheet_b37 (io_thrown : Int32) (io_children : Int32) (co_now : Nat → Int32) (x1 : Int32) (x2 : Int32) (x3 : Int32) (x4 : Int32) : Option (Int32 × Int32 × (Nat → Int32)) :=
  fX12_sheet_b46 io_thrown io_children co_now x1 x2 x4 (0 : Int32) x3 (0 : Int32)
set_option maxHeartbeats 400000 in
set_option maxRecDepth 100000 in
theorem kX12_sheet_b37 {X : cxT} {l : Launch} {D : va_G} {Y : Nat → ClassId} {ao : Nat → Nat} {io_thrown : Int32} {io_rows : Int32} {io_cells : Int32} {io_children : Int32} {io_changes : Int32} {io_taped : Int32} {io_at : Int32} {io_to : Int32} {io_nest : Int32} {io_readMany : Int32} {io_codeLong : Int32} {io_readLong : Int32} {io_undos : Int32} {io_wentHome : Int32} {io_tideLevel : Int32} {io_acts : Int32} {io_firstBreaks : Int32} {io_bestCrew : Int32} {io_sights : Int32} {io_wayMany : Int32} {io_random : Int32} {co_now : Nat → Int32} {x1 : Int32} {x2 : Int32} {x3 : Int32} {x4 : Int32} {res : Int32 × Int32 × (Nat → Int32)} (C : axC X l D Y cX12_sheet 9 RX12 wsX12_sheet rmX12_sheet (some .int)) (hQ : axQ X 0 0 (fun r9 w9 => r9 = (some (.int res.1)) ∧ w9 = [oX12 ao res.2.1 io_rows io_cells io_children io_changes io_taped io_at io_to io_nest io_readMany io_codeLong io_readLong io_undos io_wentHome io_tideLevel io_acts io_firstBreaks io_bestCrew io_sights io_wayMany io_random, rI Y (ao 8) 43 res.2.2])) (hf : fX12_sheet_b37 io_thrown io_children co_now x1 x2 x3 x4 = some res) : ax X 0 0 37 [some (.ref (ao 0)), some (.int x1), some (.int x2), some (.int x3), some (.int x4), none, none, none, none] [oX12 ao io_thrown io_rows io_cells io_children io_changes io_taped io_at io_to io_nest io_readMany io_codeLong io_readLong io_undos io_wentHome io_tideLevel io_acts io_firstBreaks io_bestCrew io_sights io_wayMany io_random, rI Y (ao 8) 43 co_now] [] := by
  unfold fX12_sheet_b37 at hf
  refine a_iconst C (0 : Int32) dX12_sheet_37 (by decide) ?_
  refine a_istore C dX12_sheet_38 (by decide) rfl ?_
  refine a_iload_n C dX12_sheet_40 rfl ?_
  refine a_istore C dX12_sheet_41 (by decide) rfl ?_
  refine a_iconst C (0 : Int32) dX12_sheet_43 (by decide) ?_
  refine a_istore C dX12_sheet_44 (by decide) rfl ?_
  refine a_kill [3] ?_
  exact kX12_sheet_b46 C hQ hf
def fX12_sheet (io_thrown : Int32) (io_children : Int32) (co_now : Nat → Int32) (x1 : Int32) (x2 : Int32) (x3 : Int32) (x4 : Int32) : Option (Int32 × Int32 × (Nat → Int32)) :=
  (fX12_in (x1.toInt64) (0 : Int64) (3 : Int64)).bind (fun r9 => if r9 = (0 : Int32) then (fX12_sheet_b23 (0 : Int32) io_children co_now) else (if x2 ≤ (8 : Int32) then (if x1 = (3 : Int32) then (fX12_sheet_b37 (0 : Int32) io_children co_now x1 x2 x3 x4) else (if (0 : Int32) ≤ x2 then (fX12_sheet_b37 (0 : Int32) io_children co_now x1 x2 x3 x4) else (some ((-2 : Int32), (0 : Int32), co_now)))) else (fX12_sheet_b23 (0 : Int32) io_children co_now)))
set_option maxHeartbeats 400000 in
set_option maxRecDepth 100000 in
theorem kX12_sheet (l : Launch) (D : va_G) (Y : Nat → ClassId) (ao : Nat → Nat) (io_thrown : Int32) (io_rows : Int32) (io_cells : Int32) (io_children : Int32) (io_changes : Int32) (io_taped : Int32) (io_at : Int32) (io_to : Int32) (io_nest : Int32) (io_readMany : Int32) (io_codeLong : Int32) (io_readLong : Int32) (io_undos : Int32) (io_wentHome : Int32) (io_tideLevel : Int32) (io_acts : Int32) (io_firstBreaks : Int32) (io_bestCrew : Int32) (io_sights : Int32) (io_wayMany : Int32) (io_random : Int32) (co_now : Nat → Int32) (x1 : Int32) (x2 : Int32) (x3 : Int32) (x4 : Int32) (res : Int32 × Int32 × (Nat → Int32)) (hf : fX12_sheet io_thrown io_children co_now x1 x2 x3 x4 = some res) : amf l D Y yX12_sheet wsX12_sheet rmX12_sheet [.ref (ao 0), .int x1, .int x2, .int x3, .int x4] [oX12 ao io_thrown io_rows io_cells io_children io_changes io_taped io_at io_to io_nest io_readMany io_codeLong io_readLong io_undos io_wentHome io_tideLevel io_acts io_firstBreaks io_bestCrew io_sights io_wayMany io_random, rI Y (ao 8) 43 co_now] (some (.int res.1)) [oX12 ao res.2.1 io_rows io_cells io_children io_changes io_taped io_at io_to io_nest io_readMany io_codeLong io_readLong io_undos io_wentHome io_tideLevel io_acts io_firstBreaks io_bestCrew io_sights io_wayMany io_random, rI Y (ao 8) 43 res.2.2] := by
  refine amf.of (cc := cX12_sheet) (maxL := 9) (rt := (some .int)) (by decide) rfl RX12 rfl (Nat.le_of_ble_eq_true rfl) [some (.ref (ao 0)), some (.int x1), some (.int x2), some (.int x3), some (.int x4), none, none, none, none] rfl ?_
  intro X C hQ
  unfold fX12_sheet at hf
  refine a_aload_n C dX12_sheet_0 rfl ?_
  refine a_iconst C (0 : Int32) dX12_sheet_1 (by decide) ?_
  refine a_put C (eB_X12_112 _) tfX12_0 dX12_sheet_2 0 rfl rfl rfl (Nat.le_of_ble_eq_true rfl) ?_
  refine a_iload_n C dX12_sheet_5 rfl ?_
  refine a_i2l C dX12_sheet_6 ?_
  refine a_lconst C (0 : Int64) dX12_sheet_7 (by decide) ?_
  refine a_ldc2 C (3 : Int64) dX12_sheet_8 (kB_X12_304 _) ?_
  obtain ⟨r9, h9, hf⟩ := fx_bind hf
  refine a_fS C (kX12_in l D Y (x1.toInt64) (0 : Int64) (3 : Int64) r9 h9) (gB_X12_122 _) rfl dvX12_in ⟨⟨rfl, rfl⟩, ⟨Nat.le_of_ble_eq_true rfl, Nat.le_of_ble_eq_true rfl⟩, ⟨Nat.le_of_ble_eq_true rfl, Nat.le_of_ble_eq_true rfl⟩⟩ rfl (Nat.le_of_ble_eq_true rfl) dX12_sheet_11 [] [0, 1] trivial (by decide +kernel) rfl [oX12 ao (0 : Int32) io_rows io_cells io_children io_changes io_taped io_at io_to io_nest io_readMany io_codeLong io_readLong io_undos io_wentHome io_tideLevel io_acts io_firstBreaks io_bestCrew io_sights io_wayMany io_random, rI Y (ao 8) 43 co_now] trivial ⟨rfl, rfl, trivial⟩ 2 rfl (by decide +kernel) ?_
  refine a_if_eq C 23 dX12_sheet_14 (by decide) (fun h10 => ?_) (fun h10 => ?_)
  · have hf := fx_t h10 hf
    refine a_kill [0, 1, 2, 3, 4] ?_
    exact kX12_sheet_b23 C hQ hf
  · have hf := fx_f h10 hf
    refine a_iload_n C dX12_sheet_17 rfl ?_
    refine a_bipush C (8 : Int32) dX12_sheet_18 (by decide) ?_
    refine a_icmp_le C 25 dX12_sheet_20 (by decide) (fun h11 => ?_) (fun h11 => ?_)
    · have hf := fx_t h11 hf
      refine a_iload_n C dX12_sheet_25 rfl ?_
      refine a_iconst C (3 : Int32) dX12_sheet_26 (by decide) ?_
      refine a_icmp_eq C 37 dX12_sheet_27 (by decide) (fun h12 => ?_) (fun h12 => ?_)
      · have hf := fx_t h12 hf
        exact kX12_sheet_b37 C hQ hf
      · have hf := fx_f h12 hf
        refine a_iload_n C dX12_sheet_30 rfl ?_
        refine a_if_ge C 37 dX12_sheet_31 (by decide) (fun h13 => ?_) (fun h13 => ?_)
        · have hf := fx_t h13 hf
          exact kX12_sheet_b37 C hQ hf
        · have hf := fx_f h13 hf
          refine a_bipush C (-2 : Int32) dX12_sheet_34 (by decide) ?_
          obtain rfl := fx_some hf
          exact a_iret C hQ dX12_sheet_36 ⟨rfl, rfl⟩
    · have hf := fx_f h11 hf
      refine a_kill [0, 1, 2, 3, 4] ?_
      exact kX12_sheet_b23 C hQ hf
-- X12_putsBy
abbrev rmX12_putsBy : Room := { frames := 0, cells := 0, slots := 0, locals := 0 }
theorem dvX12_putsBy : yX12_putsBy.cls = RX12 ∧ yX12_putsBy.cls ≠ "java/lang/invoke/MethodHandle" ∧ yX12_putsBy.cls ≠ "java/lang/invoke/VarHandle" ∧ (parseMethodDescriptor yX12_putsBy.desc).map (fun d => d.parameters.length) = some 0 := by decide +kernel
def fX12_putsBy_b34 (io_undos : Int32) (co_now : Nat → Int32) (co_undone : Nat → Int32) : Option ((Nat → Int32)) :=
  some co_undone
set_option maxHeartbeats 400000 in
set_option maxRecDepth 100000 in
theorem kX12_putsBy_b34 {X : cxT} {l : Launch} {D : va_G} {Y : Nat → ClassId} {ao : Nat → Nat} {io_thrown : Int32} {io_rows : Int32} {io_cells : Int32} {io_children : Int32} {io_changes : Int32} {io_taped : Int32} {io_at : Int32} {io_to : Int32} {io_nest : Int32} {io_readMany : Int32} {io_codeLong : Int32} {io_readLong : Int32} {io_undos : Int32} {io_wentHome : Int32} {io_tideLevel : Int32} {io_acts : Int32} {io_firstBreaks : Int32} {io_bestCrew : Int32} {io_sights : Int32} {io_wayMany : Int32} {io_random : Int32} {co_now : Nat → Int32} {co_undone : Nat → Int32} {res : (Nat → Int32)} (C : axC X l D Y cX12_putsBy 2 RX12 wsX12_putsBy rmX12_putsBy none) (hQ : axQ X 0 0 (fun r9 w9 => r9 = none ∧ w9 = [oX12 ao io_thrown io_rows io_cells io_children io_changes io_taped io_at io_to io_nest io_readMany io_codeLong io_readLong io_undos io_wentHome io_tideLevel io_acts io_firstBreaks io_bestCrew io_sights io_wayMany io_random, rI Y (ao 8) 43 co_now, rI Y (ao 16) 688 res])) (hf : fX12_putsBy_b34 io_undos co_now co_undone = some res) : ax X 0 0 34 [none, none] [oX12 ao io_thrown io_rows io_cells io_children io_changes io_taped io_at io_to io_nest io_readMany io_codeLong io_readLong io_undos io_wentHome io_tideLevel io_acts io_firstBreaks io_bestCrew io_sights io_wayMany io_random, rI Y (ao 8) 43 co_now, rI Y (ao 16) 688 co_undone] [] := by
  unfold fX12_putsBy_b34 at hf
  obtain rfl := fx_some hf
  exact a_vret C hQ dX12_putsBy_34 ⟨rfl, rfl⟩
def fX12_putsBy_l2 (io_undos : Int32) (co_now : Nat → Int32) (k2 : (Nat → Int32) × Int32 → Option ((Nat → Int32))) (co_undone : Nat → Int32) (x1 : Int32) : Option ((Nat → Int32)) :=
  if (43 : Int32) ≤ x1 then (fX12_putsBy_b34 io_undos co_now co_undone) else (if inb x1 43 then if inb (((43 : Int32) * io_undos) + x1) 688 then k2 ((upd co_undone (Int32.toNatClampNeg (((43 : Int32) * io_undos) + x1)) (co_now (Int32.toNatClampNeg x1))), (x1 + (1 : Int32))) else none else none)
def fX12_putsBy_b2 (io_undos : Int32) (co_now : Nat → Int32) (co_undone : Nat → Int32) (x1 : Int32) : Option ((Nat → Int32)) :=
  loopN (fun (s : (Nat → Int32) × Int32) k2 => fX12_putsBy_l2 io_undos co_now k2 s.1 s.2) FUEL (co_undone, x1)
set_option maxHeartbeats 400000 in
set_option maxRecDepth 100000 in
theorem kX12_putsBy_l2 {X : cxT} {l : Launch} {D : va_G} {Y : Nat → ClassId} {ao : Nat → Nat} {io_thrown : Int32} {io_rows : Int32} {io_cells : Int32} {io_children : Int32} {io_changes : Int32} {io_taped : Int32} {io_at : Int32} {io_to : Int32} {io_nest : Int32} {io_readMany : Int32} {io_codeLong : Int32} {io_readLong : Int32} {io_undos : Int32} {io_wentHome : Int32} {io_tideLevel : Int32} {io_acts : Int32} {io_firstBreaks : Int32} {io_bestCrew : Int32} {io_sights : Int32} {io_wayMany : Int32} {io_random : Int32} {co_now : Nat → Int32} {co_undone : Nat → Int32} {x1 : Int32} {res : (Nat → Int32)} (C : axC X l D Y cX12_putsBy 2 RX12 wsX12_putsBy rmX12_putsBy none) (hQ : axQ X 0 0 (fun r9 w9 => r9 = none ∧ w9 = [oX12 ao io_thrown io_rows io_cells io_children io_changes io_taped io_at io_to io_nest io_readMany io_codeLong io_readLong io_undos io_wentHome io_tideLevel io_acts io_firstBreaks io_bestCrew io_sights io_wayMany io_random, rI Y (ao 8) 43 co_now, rI Y (ao 16) 688 res])) {k2 : (Nat → Int32) × Int32 → Option ((Nat → Int32))} (hk2 : ∀ s : (Nat → Int32) × Int32, k2 s = some res → ax X 0 0 2 [some (.ref (ao 0)), some (.int s.2)] [oX12 ao io_thrown io_rows io_cells io_children io_changes io_taped io_at io_to io_nest io_readMany io_codeLong io_readLong io_undos io_wentHome io_tideLevel io_acts io_firstBreaks io_bestCrew io_sights io_wayMany io_random, rI Y (ao 8) 43 co_now, rI Y (ao 16) 688 s.1] []) (hf : fX12_putsBy_l2 io_undos co_now k2 co_undone x1 = some res) : ax X 0 0 2 [some (.ref (ao 0)), some (.int x1)] [oX12 ao io_thrown io_rows io_cells io_children io_changes io_taped io_at io_to io_nest io_readMany io_codeLong io_readLong io_undos io_wentHome io_tideLevel io_acts io_firstBreaks io_bestCrew io_sights io_wayMany io_random, rI Y (ao 8) 43 co_now, rI Y (ao 16) 688 co_undone] [] := by
  unfold fX12_putsBy_l2 at hf
  refine a_iload_n C dX12_putsBy_2 rfl ?_
  refine a_bipush C (43 : Int32) dX12_putsBy_3 (by decide) ?_
  refine a_icmp_ge C 34 dX12_putsBy_5 (by decide) (fun h1 => ?_) (fun h1 => ?_)
  · have hf := fx_t h1 hf
    refine a_kill [0, 1] ?_
    exact kX12_putsBy_b34 C hQ hf
  · have hf := fx_f h1 hf
    refine a_aload_n C dX12_putsBy_8 rfl ?_
    refine a_get C (eB_X12_60 _) dX12_putsBy_9 0 rfl rfl ?_
    refine a_bipush C (43 : Int32) dX12_putsBy_12 (by decide) ?_
    refine a_aload_n C dX12_putsBy_14 rfl ?_
    refine a_get C (eB_X12_191 _) dX12_putsBy_15 0 rfl rfl ?_
    refine a_imul C dX12_putsBy_18 ?_
    refine a_iload_n C dX12_putsBy_19 rfl ?_
    refine a_iadd C dX12_putsBy_20 ?_
    refine a_aload_n C dX12_putsBy_21 rfl ?_
    refine a_get C (eB_X12_36 _) dX12_putsBy_22 0 rfl rfl ?_
    refine a_iload_n C dX12_putsBy_25 rfl ?_
    obtain ⟨h2, hf⟩ := fx_ite hf
    refine a_iald C dX12_putsBy_26 1 rfl h2 ?_
    obtain ⟨h3, hf⟩ := fx_ite hf
    refine a_iast C dX12_putsBy_27 2 rfl h3 ?_
    refine a_iinc C (1 : Int32) dX12_putsBy_28 (by decide) rfl (by decide) rfl ?_
    refine a_goto C 2 dX12_putsBy_31 (by decide) ?_
    exact hk2 ((upd co_undone (Int32.toNatClampNeg (((43 : Int32) * io_undos) + x1)) (co_now (Int32.toNatClampNeg x1))), (x1 + (1 : Int32))) hf
set_option maxHeartbeats 400000 in
set_option maxRecDepth 100000 in
theorem kX12_putsBy_b2 {X : cxT} {l : Launch} {D : va_G} {Y : Nat → ClassId} {ao : Nat → Nat} {io_thrown : Int32} {io_rows : Int32} {io_cells : Int32} {io_children : Int32} {io_changes : Int32} {io_taped : Int32} {io_at : Int32} {io_to : Int32} {io_nest : Int32} {io_readMany : Int32} {io_codeLong : Int32} {io_readLong : Int32} {io_undos : Int32} {io_wentHome : Int32} {io_tideLevel : Int32} {io_acts : Int32} {io_firstBreaks : Int32} {io_bestCrew : Int32} {io_sights : Int32} {io_wayMany : Int32} {io_random : Int32} {co_now : Nat → Int32} {co_undone : Nat → Int32} {x1 : Int32} {res : (Nat → Int32)} (C : axC X l D Y cX12_putsBy 2 RX12 wsX12_putsBy rmX12_putsBy none) (hQ : axQ X 0 0 (fun r9 w9 => r9 = none ∧ w9 = [oX12 ao io_thrown io_rows io_cells io_children io_changes io_taped io_at io_to io_nest io_readMany io_codeLong io_readLong io_undos io_wentHome io_tideLevel io_acts io_firstBreaks io_bestCrew io_sights io_wayMany io_random, rI Y (ao 8) 43 co_now, rI Y (ao 16) 688 res])) (hf : fX12_putsBy_b2 io_undos co_now co_undone x1 = some res) : ax X 0 0 2 [some (.ref (ao 0)), some (.int x1)] [oX12 ao io_thrown io_rows io_cells io_children io_changes io_taped io_at io_to io_nest io_readMany io_codeLong io_readLong io_undos io_wentHome io_tideLevel io_acts io_firstBreaks io_bestCrew io_sights io_wayMany io_random, rI Y (ao 8) 43 co_now, rI Y (ao 16) 688 co_undone] [] := by
  unfold fX12_putsBy_b2 at hf
  exact fx_loop (P := fun s : (Nat → Int32) × Int32 => ax X 0 0 2 [some (.ref (ao 0)), some (.int s.2)] [oX12 ao io_thrown io_rows io_cells io_children io_changes io_taped io_at io_to io_nest io_readMany io_codeLong io_readLong io_undos io_wentHome io_tideLevel io_acts io_firstBreaks io_bestCrew io_sights io_wayMany io_random, rI Y (ao 8) 43 co_now, rI Y (ao 16) 688 s.1] []) (fun s k2 hk2 h => kX12_putsBy_l2 C hQ hk2 h) FUEL (co_undone, x1) hf
def fX12_putsBy (io_undos : Int32) (co_now : Nat → Int32) (co_undone : Nat → Int32) : Option ((Nat → Int32)) :=
  fX12_putsBy_b2 io_undos co_now co_undone (0 : Int32)
set_option maxHeartbeats 400000 in
set_option maxRecDepth 100000 in
theorem kX12_putsBy (l : Launch) (D : va_G) (Y : Nat → ClassId) (ao : Nat → Nat) (io_thrown : Int32) (io_rows : Int32) (io_cells : Int32) (io_children : Int32) (io_changes : Int32) (io_taped : Int32) (io_at : Int32) (io_to : Int32) (io_nest : Int32) (io_readMany : Int32) (io_codeLong : Int32) (io_readLong : Int32) (io_undos : Int32) (io_wentHome : Int32) (io_tideLevel : Int32) (io_acts : Int32) (io_firstBreaks : Int32) (io_bestCrew : Int32) (io_sights : Int32) (io_wayMany : Int32) (io_random : Int32) (co_now : Nat → Int32) (co_undone : Nat → Int32) (res : (Nat → Int32)) (hf : fX12_putsBy io_undos co_now co_undone = some res) : amf l D Y yX12_putsBy wsX12_putsBy rmX12_putsBy [.ref (ao 0)] [oX12 ao io_thrown io_rows io_cells io_children io_changes io_taped io_at io_to io_nest io_readMany io_codeLong io_readLong io_undos io_wentHome io_tideLevel io_acts io_firstBreaks io_bestCrew io_sights io_wayMany io_random, rI Y (ao 8) 43 co_now, rI Y (ao 16) 688 co_undone] none [oX12 ao io_thrown io_rows io_cells io_children io_changes io_taped io_at io_to io_nest io_readMany io_codeLong io_readLong io_undos io_wentHome io_tideLevel io_acts io_firstBreaks io_bestCrew io_sights io_wayMany io_random, rI Y (ao 8) 43 co_now, rI Y (ao 16) 688 res] := by
  refine amf.of (cc := cX12_putsBy) (maxL := 2) (rt := none) (by decide) rfl RX12 rfl (Nat.le_of_ble_eq_true rfl) [some (.ref (ao 0)), none] rfl ?_
  intro X C hQ
  unfold fX12_putsBy at hf
  refine a_iconst C (0 : Int32) dX12_putsBy_0 (by decide) ?_
  refine a_istore_n C dX12_putsBy_1 (by decide) rfl ?_
  exact kX12_putsBy_b2 C hQ hf
-- X12_adds
abbrev rmX12_adds : Room := { frames := 0, cells := 0, slots := 0, locals := 0 }
theorem dvX12_adds : yX12_adds.cls = RX12 ∧ yX12_adds.cls ≠ "java/lang/invoke/MethodHandle" ∧ yX12_adds.cls ≠ "java/lang/invoke/VarHandle" ∧ (parseMethodDescriptor yX12_adds.desc).map (fun d => d.parameters.length) = some 1 := by decide +kernel
def fX12_adds_b59 (io_undos : Int32) (co_undone : Nat → Int32) (x1 : Int32) : Option (Int32 × Int32 × (Nat → Int32)) :=
  some (x1, io_undos, co_undone)
set_option maxHeartbeats 400000 in
set_option maxRecDepth 100000 in
theorem kX12_adds_b59 {X : cxT} {l : Launch} {D : va_G} {Y : Nat → ClassId} {ao : Nat → Nat} {io_thrown : Int32} {io_rows : Int32} {io_cells : Int32} {io_children : Int32} {io_changes : Int32} {io_taped : Int32} {io_at : Int32} {io_to : Int32} {io_nest : Int32} {io_readMany : Int32} {io_codeLong : Int32} {io_readLong : Int32} {io_undos : Int32} {io_wentHome : Int32} {io_tideLevel : Int32} {io_acts : Int32} {io_firstBreaks : Int32} {io_bestCrew : Int32} {io_sights : Int32} {io_wayMany : Int32} {io_random : Int32} {co_undone : Nat → Int32} {x1 : Int32} {res : Int32 × Int32 × (Nat → Int32)} (C : axC X l D Y cX12_adds 3 RX12 wsX12_adds rmX12_adds (some .int)) (hQ : axQ X 0 0 (fun r9 w9 => r9 = (some (.int res.1)) ∧ w9 = [oX12 ao io_thrown io_rows io_cells io_children io_changes io_taped io_at io_to io_nest io_readMany io_codeLong io_readLong res.2.1 io_wentHome io_tideLevel io_acts io_firstBreaks io_bestCrew io_sights io_wayMany io_random, rI Y (ao 16) 688 res.2.2])) (hf : fX12_adds_b59 io_undos co_undone x1 = some res) : ax X 0 0 59 [none, some (.int x1), none] [oX12 ao io_thrown io_rows io_cells io_children io_changes io_taped io_at io_to io_nest io_readMany io_codeLong io_readLong io_undos io_wentHome io_tideLevel io_acts io_firstBreaks io_bestCrew io_sights io_wayMany io_random, rI Y (ao 16) 688 co_undone] [] := by
  unfold fX12_adds_b59 at hf
  refine a_iload_n C dX12_adds_59 rfl ?_
  obtain rfl := fx_some hf
  exact a_iret C hQ dX12_adds_60 ⟨rfl, rfl⟩
def fX12_adds_b49 (io_undos : Int32) (co_undone : Nat → Int32) (x1 : Int32) : Option (Int32 × Int32 × (Nat → Int32)) :=
  fX12_adds_b59 (io_undos - (1 : Int32)) co_undone x1
set_option maxHeartbeats 400000 in
set_option maxRecDepth 100000 in
theorem kX12_adds_b49 {X : cxT} {l : Launch} {D : va_G} {Y : Nat → ClassId} {ao : Nat → Nat} {io_thrown : Int32} {io_rows : Int32} {io_cells : Int32} {io_children : Int32} {io_changes : Int32} {io_taped : Int32} {io_at : Int32} {io_to : Int32} {io_nest : Int32} {io_readMany : Int32} {io_codeLong : Int32} {io_readLong : Int32} {io_undos : Int32} {io_wentHome : Int32} {io_tideLevel : Int32} {io_acts : Int32} {io_firstBreaks : Int32} {io_bestCrew : Int32} {io_sights : Int32} {io_wayMany : Int32} {io_random : Int32} {co_undone : Nat → Int32} {x1 : Int32} {res : Int32 × Int32 × (Nat → Int32)} (C : axC X l D Y cX12_adds 3 RX12 wsX12_adds rmX12_adds (some .int)) (hQ : axQ X 0 0 (fun r9 w9 => r9 = (some (.int res.1)) ∧ w9 = [oX12 ao io_thrown io_rows io_cells io_children io_changes io_taped io_at io_to io_nest io_readMany io_codeLong io_readLong res.2.1 io_wentHome io_tideLevel io_acts io_firstBreaks io_bestCrew io_sights io_wayMany io_random, rI Y (ao 16) 688 res.2.2])) (hf : fX12_adds_b49 io_undos co_undone x1 = some res) : ax X 0 0 49 [some (.ref (ao 0)), some (.int x1), none] [oX12 ao io_thrown io_rows io_cells io_children io_changes io_taped io_at io_to io_nest io_readMany io_codeLong io_readLong io_undos io_wentHome io_tideLevel io_acts io_firstBreaks io_bestCrew io_sights io_wayMany io_random, rI Y (ao 16) 688 co_undone] [] := by
  unfold fX12_adds_b49 at hf
  refine a_aload_n C dX12_adds_49 rfl ?_
  refine a_dup C dX12_adds_50 rfl ?_
  refine a_get C (eB_X12_191 _) dX12_adds_51 0 rfl rfl ?_
  refine a_iconst C (1 : Int32) dX12_adds_54 (by decide) ?_
  refine a_isub C dX12_adds_55 ?_
  refine a_put C (eB_X12_191 _) tfX12_27 dX12_adds_56 0 rfl rfl rfl (Nat.le_of_ble_eq_true rfl) ?_
  refine a_kill [0] ?_
  exact kX12_adds_b59 C hQ hf
def fX12_adds_l21 (io_undos : Int32) (x1 : Int32) (k21 : (Nat → Int32) × Int32 → Option (Int32 × Int32 × (Nat → Int32))) (co_undone : Nat → Int32) (x2 : Int32) : Option (Int32 × Int32 × (Nat → Int32)) :=
  if (645 : Int32) ≤ x2 then (fX12_adds_b49 io_undos co_undone x1) else (if inb (x2 + (43 : Int32)) 688 then if inb x2 688 then k21 ((upd co_undone (Int32.toNatClampNeg x2) (co_undone (Int32.toNatClampNeg (x2 + (43 : Int32))))), (x2 + (1 : Int32))) else none else none)
def fX12_adds_b21 (io_undos : Int32) (co_undone : Nat → Int32) (x1 : Int32) (x2 : Int32) : Option (Int32 × Int32 × (Nat → Int32)) :=
  loopN (fun (s : (Nat → Int32) × Int32) k21 => fX12_adds_l21 io_undos x1 k21 s.1 s.2) FUEL (co_undone, x2)
set_option maxHeartbeats 400000 in
set_option maxRecDepth 100000 in
theorem kX12_adds_l21 {X : cxT} {l : Launch} {D : va_G} {Y : Nat → ClassId} {ao : Nat → Nat} {io_thrown : Int32} {io_rows : Int32} {io_cells : Int32} {io_children : Int32} {io_changes : Int32} {io_taped : Int32} {io_at : Int32} {io_to : Int32} {io_nest : Int32} {io_readMany : Int32} {io_codeLong : Int32} {io_readLong : Int32} {io_undos : Int32} {io_wentHome : Int32} {io_tideLevel : Int32} {io_acts : Int32} {io_firstBreaks : Int32} {io_bestCrew : Int32} {io_sights : Int32} {io_wayMany : Int32} {io_random : Int32} {co_undone : Nat → Int32} {x1 : Int32} {x2 : Int32} {res : Int32 × Int32 × (Nat → Int32)} (C : axC X l D Y cX12_adds 3 RX12 wsX12_adds rmX12_adds (some .int)) (hQ : axQ X 0 0 (fun r9 w9 => r9 = (some (.int res.1)) ∧ w9 = [oX12 ao io_thrown io_rows io_cells io_children io_changes io_taped io_at io_to io_nest io_readMany io_codeLong io_readLong res.2.1 io_wentHome io_tideLevel io_acts io_firstBreaks io_bestCrew io_sights io_wayMany io_random, rI Y (ao 16) 688 res.2.2])) {k21 : (Nat → Int32) × Int32 → Option (Int32 × Int32 × (Nat → Int32))} (hk21 : ∀ s : (Nat → Int32) × Int32, k21 s = some res → ax X 0 0 21 [some (.ref (ao 0)), some (.int x1), some (.int s.2)] [oX12 ao io_thrown io_rows io_cells io_children io_changes io_taped io_at io_to io_nest io_readMany io_codeLong io_readLong io_undos io_wentHome io_tideLevel io_acts io_firstBreaks io_bestCrew io_sights io_wayMany io_random, rI Y (ao 16) 688 s.1] []) (hf : fX12_adds_l21 io_undos x1 k21 co_undone x2 = some res) : ax X 0 0 21 [some (.ref (ao 0)), some (.int x1), some (.int x2)] [oX12 ao io_thrown io_rows io_cells io_children io_changes io_taped io_at io_to io_nest io_readMany io_codeLong io_readLong io_undos io_wentHome io_tideLevel io_acts io_firstBreaks io_bestCrew io_sights io_wayMany io_random, rI Y (ao 16) 688 co_undone] [] := by
  unfold fX12_adds_l21 at hf
  refine a_iload_n C dX12_adds_21 rfl ?_
  refine a_sipush C (645 : Int32) dX12_adds_22 (by decide) ?_
  refine a_icmp_ge C 49 dX12_adds_25 (by decide) (fun h1 => ?_) (fun h1 => ?_)
  · have hf := fx_t h1 hf
    refine a_kill [2] ?_
    exact kX12_adds_b49 C hQ hf
  · have hf := fx_f h1 hf
    refine a_aload_n C dX12_adds_28 rfl ?_
    refine a_get C (eB_X12_60 _) dX12_adds_29 0 rfl rfl ?_
    refine a_iload_n C dX12_adds_32 rfl ?_
    refine a_aload_n C dX12_adds_33 rfl ?_
    refine a_get C (eB_X12_60 _) dX12_adds_34 0 rfl rfl ?_
    refine a_iload_n C dX12_adds_37 rfl ?_
    refine a_bipush C (43 : Int32) dX12_adds_38 (by decide) ?_
    refine a_iadd C dX12_adds_40 ?_
    obtain ⟨h2, hf⟩ := fx_ite hf
    refine a_iald C dX12_adds_41 1 rfl h2 ?_
    obtain ⟨h3, hf⟩ := fx_ite hf
    refine a_iast C dX12_adds_42 1 rfl h3 ?_
    refine a_iinc C (1 : Int32) dX12_adds_43 (by decide) rfl (by decide) rfl ?_
    refine a_goto C 21 dX12_adds_46 (by decide) ?_
    exact hk21 ((upd co_undone (Int32.toNatClampNeg x2) (co_undone (Int32.toNatClampNeg (x2 + (43 : Int32))))), (x2 + (1 : Int32))) hf
set_option maxHeartbeats 400000 in
set_option maxRecDepth 100000 in
theorem kX12_adds_b21 {X : cxT} {l : Launch} {D : va_G} {Y : Nat → ClassId} {ao : Nat → Nat} {io_thrown : Int32} {io_rows : Int32} {io_cells : Int32} {io_children : Int32} {io_changes : Int32} {io_taped : Int32} {io_at : Int32} {io_to : Int32} {io_nest : Int32} {io_readMany : Int32} {io_codeLong : Int32} {io_readLong : Int32} {io_undos : Int32} {io_wentHome : Int32} {io_tideLevel : Int32} {io_acts : Int32} {io_firstBreaks : Int32} {io_bestCrew : Int32} {io_sights : Int32} {io_wayMany : Int32} {io_random : Int32} {co_undone : Nat → Int32} {x1 : Int32} {x2 : Int32} {res : Int32 × Int32 × (Nat → Int32)} (C : axC X l D Y cX12_adds 3 RX12 wsX12_adds rmX12_adds (some .int)) (hQ : axQ X 0 0 (fun r9 w9 => r9 = (some (.int res.1)) ∧ w9 = [oX12 ao io_thrown io_rows io_cells io_children io_changes io_taped io_at io_to io_nest io_readMany io_codeLong io_readLong res.2.1 io_wentHome io_tideLevel io_acts io_firstBreaks io_bestCrew io_sights io_wayMany io_random, rI Y (ao 16) 688 res.2.2])) (hf : fX12_adds_b21 io_undos co_undone x1 x2 = some res) : ax X 0 0 21 [some (.ref (ao 0)), some (.int x1), some (.int x2)] [oX12 ao io_thrown io_rows io_cells io_children io_changes io_taped io_at io_to io_nest io_readMany io_codeLong io_readLong io_undos io_wentHome io_tideLevel io_acts io_firstBreaks io_bestCrew io_sights io_wayMany io_random, rI Y (ao 16) 688 co_undone] [] := by
  unfold fX12_adds_b21 at hf
  exact fx_loop (P := fun s : (Nat → Int32) × Int32 => ax X 0 0 21 [some (.ref (ao 0)), some (.int x1), some (.int s.2)] [oX12 ao io_thrown io_rows io_cells io_children io_changes io_taped io_at io_to io_nest io_readMany io_codeLong io_readLong io_undos io_wentHome io_tideLevel io_acts io_firstBreaks io_bestCrew io_sights io_wayMany io_random, rI Y (ao 16) 688 s.1] []) (fun s k21 hk21 h => kX12_adds_l21 C hQ hk21 h) FUEL (co_undone, x2) hf
def fX12_adds (io_undos : Int32) (co_undone : Nat → Int32) (x1 : Int32) : Option (Int32 × Int32 × (Nat → Int32)) :=
  if (io_undos + (1 : Int32)) ≤ (15 : Int32) then (fX12_adds_b59 (io_undos + (1 : Int32)) co_undone x1) else (fX12_adds_b21 (io_undos + (1 : Int32)) co_undone x1 (0 : Int32))
set_option maxHeartbeats 400000 in
set_option maxRecDepth 100000 in
theorem kX12_adds (l : Launch) (D : va_G) (Y : Nat → ClassId) (ao : Nat → Nat) (io_thrown : Int32) (io_rows : Int32) (io_cells : Int32) (io_children : Int32) (io_changes : Int32) (io_taped : Int32) (io_at : Int32) (io_to : Int32) (io_nest : Int32) (io_readMany : Int32) (io_codeLong : Int32) (io_readLong : Int32) (io_undos : Int32) (io_wentHome : Int32) (io_tideLevel : Int32) (io_acts : Int32) (io_firstBreaks : Int32) (io_bestCrew : Int32) (io_sights : Int32) (io_wayMany : Int32) (io_random : Int32) (co_undone : Nat → Int32) (x1 : Int32) (res : Int32 × Int32 × (Nat → Int32)) (hf : fX12_adds io_undos co_undone x1 = some res) : amf l D Y yX12_adds wsX12_adds rmX12_adds [.ref (ao 0), .int x1] [oX12 ao io_thrown io_rows io_cells io_children io_changes io_taped io_at io_to io_nest io_readMany io_codeLong io_readLong io_undos io_wentHome io_tideLevel io_acts io_firstBreaks io_bestCrew io_sights io_wayMany io_random, rI Y (ao 16) 688 co_undone] (some (.int res.1)) [oX12 ao io_thrown io_rows io_cells io_children io_changes io_taped io_at io_to io_nest io_readMany io_codeLong io_readLong res.2.1 io_wentHome io_tideLevel io_acts io_firstBreaks io_bestCrew io_sights io_wayMany io_random, rI Y (ao 16) 688 res.2.2] := by
  refine amf.of (cc := cX12_adds) (maxL := 3) (rt := (some .int)) (by decide) rfl RX12 rfl (Nat.le_of_ble_eq_true rfl) [some (.ref (ao 0)), some (.int x1), none] rfl ?_
  intro X C hQ
  unfold fX12_adds at hf
  refine a_aload_n C dX12_adds_0 rfl ?_
  refine a_dup C dX12_adds_1 rfl ?_
  refine a_get C (eB_X12_191 _) dX12_adds_2 0 rfl rfl ?_
  refine a_iconst C (1 : Int32) dX12_adds_5 (by decide) ?_
  refine a_iadd C dX12_adds_6 ?_
  refine a_put C (eB_X12_191 _) tfX12_27 dX12_adds_7 0 rfl rfl rfl (Nat.le_of_ble_eq_true rfl) ?_
  refine a_aload_n C dX12_adds_10 rfl ?_
  refine a_get C (eB_X12_191 _) dX12_adds_11 0 rfl rfl ?_
  refine a_bipush C (15 : Int32) dX12_adds_14 (by decide) ?_
  refine a_icmp_le C 59 dX12_adds_16 (by decide) (fun h4 => ?_) (fun h4 => ?_)
  · have hf := fx_t h4 hf
    refine a_kill [0] ?_
    exact kX12_adds_b59 C hQ hf
  · have hf := fx_f h4 hf
    refine a_iconst C (0 : Int32) dX12_adds_19 (by decide) ?_
    refine a_istore_n C dX12_adds_20 (by decide) rfl ?_
    exact kX12_adds_b21 C hQ hf
-- X12_counts
abbrev rmX12_counts : Room := { frames := 1, cells := 0, slots := 0, locals := 22 }
theorem dvX12_counts : yX12_counts.cls = RX12 ∧ yX12_counts.cls ≠ "java/lang/invoke/MethodHandle" ∧ yX12_counts.cls ≠ "java/lang/invoke/VarHandle" ∧ (parseMethodDescriptor yX12_counts.desc).map (fun d => d.parameters.length) = some 1 := by decide +kernel
def fX12_counts_b13 (io_undos : Int32) (co_undone : Nat → Int32) (s0 : Int32) : Option (Int32 × Int32 × (Nat → Int32)) :=
  some (s0, io_undos, co_undone)
set_option maxHeartbeats 400000 in
set_option maxRecDepth 100000 in
theorem kX12_counts_b13 {X : cxT} {l : Launch} {D : va_G} {Y : Nat → ClassId} {ao : Nat → Nat} {io_thrown : Int32} {io_rows : Int32} {io_cells : Int32} {io_children : Int32} {io_changes : Int32} {io_taped : Int32} {io_at : Int32} {io_to : Int32} {io_nest : Int32} {io_readMany : Int32} {io_codeLong : Int32} {io_readLong : Int32} {io_undos : Int32} {io_wentHome : Int32} {io_tideLevel : Int32} {io_acts : Int32} {io_firstBreaks : Int32} {io_bestCrew : Int32} {io_sights : Int32} {io_wayMany : Int32} {io_random : Int32} {co_undone : Nat → Int32} {s0 : Int32} {res : Int32 × Int32 × (Nat → Int32)} (C : axC X l D Y cX12_counts 2 RX12 wsX12_counts rmX12_counts (some .int)) (hQ : axQ X 0 0 (fun r9 w9 => r9 = (some (.int res.1)) ∧ w9 = [oX12 ao io_thrown io_rows io_cells io_children io_changes io_taped io_at io_to io_nest io_readMany io_codeLong io_readLong res.2.1 io_wentHome io_tideLevel io_acts io_firstBreaks io_bestCrew io_sights io_wayMany io_random, rI Y (ao 16) 688 res.2.2])) (hf : fX12_counts_b13 io_undos co_undone s0 = some res) : ax X 0 0 13 [none, none] [oX12 ao io_thrown io_rows io_cells io_children io_changes io_taped io_at io_to io_nest io_readMany io_codeLong io_readLong io_undos io_wentHome io_tideLevel io_acts io_firstBreaks io_bestCrew io_sights io_wayMany io_random, rI Y (ao 16) 688 co_undone] [.int s0] := by
  unfold fX12_counts_b13 at hf
  obtain rfl := fx_some hf
  exact a_iret C hQ dX12_counts_13 ⟨rfl, rfl⟩
def fX12_counts (io_undos : Int32) (co_undone : Nat → Int32) (x1 : Int32) : Option (Int32 × Int32 × (Nat → Int32)) :=
  if (0 : Int32) ≤ x1 then ((fX12_adds io_undos co_undone x1).bind (fun r2 => fX12_counts_b13 r2.2.1 r2.2.2 r2.1)) else (fX12_counts_b13 io_undos co_undone x1)
set_option maxHeartbeats 400000 in
set_option maxRecDepth 100000 in
theorem kX12_counts (l : Launch) (D : va_G) (Y : Nat → ClassId) (ao : Nat → Nat) (io_thrown : Int32) (io_rows : Int32) (io_cells : Int32) (io_children : Int32) (io_changes : Int32) (io_taped : Int32) (io_at : Int32) (io_to : Int32) (io_nest : Int32) (io_readMany : Int32) (io_codeLong : Int32) (io_readLong : Int32) (io_undos : Int32) (io_wentHome : Int32) (io_tideLevel : Int32) (io_acts : Int32) (io_firstBreaks : Int32) (io_bestCrew : Int32) (io_sights : Int32) (io_wayMany : Int32) (io_random : Int32) (co_undone : Nat → Int32) (x1 : Int32) (res : Int32 × Int32 × (Nat → Int32)) (hf : fX12_counts io_undos co_undone x1 = some res) : amf l D Y yX12_counts wsX12_counts rmX12_counts [.ref (ao 0), .int x1] [oX12 ao io_thrown io_rows io_cells io_children io_changes io_taped io_at io_to io_nest io_readMany io_codeLong io_readLong io_undos io_wentHome io_tideLevel io_acts io_firstBreaks io_bestCrew io_sights io_wayMany io_random, rI Y (ao 16) 688 co_undone] (some (.int res.1)) [oX12 ao io_thrown io_rows io_cells io_children io_changes io_taped io_at io_to io_nest io_readMany io_codeLong io_readLong res.2.1 io_wentHome io_tideLevel io_acts io_firstBreaks io_bestCrew io_sights io_wayMany io_random, rI Y (ao 16) 688 res.2.2] := by
  refine amf.of (cc := cX12_counts) (maxL := 2) (rt := (some .int)) (by decide) rfl RX12 rfl (Nat.le_of_ble_eq_true rfl) [some (.ref (ao 0)), some (.int x1)] rfl ?_
  intro X C hQ
  unfold fX12_counts at hf
  refine a_iload_n C dX12_counts_0 rfl ?_
  refine a_if_ge C 8 dX12_counts_1 (by decide) (fun h1 => ?_) (fun h1 => ?_)
  · have hf := fx_t h1 hf
    refine a_aload_n C dX12_counts_8 rfl ?_
    refine a_iload_n C dX12_counts_9 rfl ?_
    obtain ⟨r2, h2, hf⟩ := fx_bind hf
    refine a_fV C (kX12_adds l D Y ao io_thrown io_rows io_cells io_children io_changes io_taped io_at io_to io_nest io_readMany io_codeLong io_readLong io_undos io_wentHome io_tideLevel io_acts io_firstBreaks io_bestCrew io_sights io_wayMany io_random co_undone x1 r2 h2) (gB_X12_306 _) rfl dvX12_adds ⟨⟨rfl, rfl⟩, ⟨Nat.le_of_ble_eq_true rfl, Nat.le_of_ble_eq_true rfl⟩, ⟨Nat.le_of_ble_eq_true rfl, Nat.le_of_ble_eq_true rfl⟩⟩ rfl (Nat.le_of_ble_eq_true rfl) dX12_counts_10 rfl rfl [0, 1] [] ⟨rfl, rfl, trivial⟩ (by decide +kernel) rfl [oX12 ao io_thrown io_rows io_cells io_children io_changes io_taped io_at io_to io_nest io_readMany io_codeLong io_readLong r2.2.1 io_wentHome io_tideLevel io_acts io_firstBreaks io_bestCrew io_sights io_wayMany io_random, rI Y (ao 16) 688 r2.2.2] ⟨rfl, rfl, trivial⟩ trivial 2 rfl (by decide +kernel) ?_
    refine a_kill [0, 1] ?_
    exact kX12_counts_b13 C hQ hf
  · have hf := fx_f h1 hf
    refine a_iload_n C dX12_counts_4 rfl ?_
    refine a_goto C 13 dX12_counts_5 (by decide) ?_
    refine a_kill [0, 1] ?_
    exact kX12_counts_b13 C hQ hf
-- X12_undo
abbrev rmX12_undo : Room := { frames := 0, cells := 0, slots := 0, locals := 0 }
theorem dvX12_undo : yX12_undo.cls = RX12 ∧ yX12_undo.cls ≠ "java/lang/invoke/MethodHandle" ∧ yX12_undo.cls ≠ "java/lang/invoke/VarHandle" ∧ (parseMethodDescriptor yX12_undo.desc).map (fun d => d.parameters.length) = some 0 := by decide +kernel
def fX12_undo_b58 (io_thrown : Int32) (io_undos : Int32) (co_now : Nat → Int32) (co_undone : Nat → Int32) : Option (Int32 × Int32 × Int32 × (Nat → Int32)) :=
  some (io_undos, io_thrown, io_undos, co_now)
set_option maxHeartbeats 400000 in
set_option maxRecDepth 100000 in
theorem kX12_undo_b58 {X : cxT} {l : Launch} {D : va_G} {Y : Nat → ClassId} {ao : Nat → Nat} {io_thrown : Int32} {io_rows : Int32} {io_cells : Int32} {io_children : Int32} {io_changes : Int32} {io_taped : Int32} {io_at : Int32} {io_to : Int32} {io_nest : Int32} {io_readMany : Int32} {io_codeLong : Int32} {io_readLong : Int32} {io_undos : Int32} {io_wentHome : Int32} {io_tideLevel : Int32} {io_acts : Int32} {io_firstBreaks : Int32} {io_bestCrew : Int32} {io_sights : Int32} {io_wayMany : Int32} {io_random : Int32} {co_now : Nat → Int32} {co_undone : Nat → Int32} {res : Int32 × Int32 × Int32 × (Nat → Int32)} (C : axC X l D Y cX12_undo 2 RX12 wsX12_undo rmX12_undo (some .int)) (hQ : axQ X 0 0 (fun r9 w9 => r9 = (some (.int res.1)) ∧ w9 = [oX12 ao res.2.1 io_rows io_cells io_children io_changes io_taped io_at io_to io_nest io_readMany io_codeLong io_readLong res.2.2.1 io_wentHome io_tideLevel io_acts io_firstBreaks io_bestCrew io_sights io_wayMany io_random, rI Y (ao 8) 43 res.2.2.2, rI Y (ao 16) 688 co_undone])) (hf : fX12_undo_b58 io_thrown io_undos co_now co_undone = some res) : ax X 0 0 58 [some (.ref (ao 0)), none] [oX12 ao io_thrown io_rows io_cells io_children io_changes io_taped io_at io_to io_nest io_readMany io_codeLong io_readLong io_undos io_wentHome io_tideLevel io_acts io_firstBreaks io_bestCrew io_sights io_wayMany io_random, rI Y (ao 8) 43 co_now, rI Y (ao 16) 688 co_undone] [] := by
  unfold fX12_undo_b58 at hf
  refine a_aload_n C dX12_undo_58 rfl ?_
  refine a_get C (eB_X12_191 _) dX12_undo_59 0 rfl rfl ?_
  obtain rfl := fx_some hf
  exact a_iret C hQ dX12_undo_62 ⟨rfl, rfl⟩
def fX12_undo_l26 (io_thrown : Int32) (io_undos : Int32) (co_undone : Nat → Int32) (k26 : (Nat → Int32) × Int32 → Option (Int32 × Int32 × Int32 × (Nat → Int32))) (co_now : Nat → Int32) (x1 : Int32) : Option (Int32 × Int32 × Int32 × (Nat → Int32)) :=
  if (43 : Int32) ≤ x1 then (fX12_undo_b58 io_thrown io_undos co_now co_undone) else (if inb (((43 : Int32) * io_undos) + x1) 688 then if inb x1 43 then k26 ((upd co_now (Int32.toNatClampNeg x1) (co_undone (Int32.toNatClampNeg (((43 : Int32) * io_undos) + x1)))), (x1 + (1 : Int32))) else none else none)
def fX12_undo_b26 (io_thrown : Int32) (io_undos : Int32) (co_now : Nat → Int32) (co_undone : Nat → Int32) (x1 : Int32) : Option (Int32 × Int32 × Int32 × (Nat → Int32)) :=
  loopN (fun (s : (Nat → Int32) × Int32) k26 => fX12_undo_l26 io_thrown io_undos co_undone k26 s.1 s.2) FUEL (co_now, x1)
set_option maxHeartbeats 400000 in
set_option maxRecDepth 100000 in
theorem kX12_undo_l26 {X : cxT} {l : Launch} {D : va_G} {Y : Nat → ClassId} {ao : Nat → Nat} {io_thrown : Int32} {io_rows : Int32} {io_cells : Int32} {io_children : Int32} {io_changes : Int32} {io_taped : Int32} {io_at : Int32} {io_to : Int32} {io_nest : Int32} {io_readMany : Int32} {io_codeLong : Int32} {io_readLong : Int32} {io_undos : Int32} {io_wentHome : Int32} {io_tideLevel : Int32} {io_acts : Int32} {io_firstBreaks : Int32} {io_bestCrew : Int32} {io_sights : Int32} {io_wayMany : Int32} {io_random : Int32} {co_now : Nat → Int32} {co_undone : Nat → Int32} {x1 : Int32} {res : Int32 × Int32 × Int32 × (Nat → Int32)} (C : axC X l D Y cX12_undo 2 RX12 wsX12_undo rmX12_undo (some .int)) (hQ : axQ X 0 0 (fun r9 w9 => r9 = (some (.int res.1)) ∧ w9 = [oX12 ao res.2.1 io_rows io_cells io_children io_changes io_taped io_at io_to io_nest io_readMany io_codeLong io_readLong res.2.2.1 io_wentHome io_tideLevel io_acts io_firstBreaks io_bestCrew io_sights io_wayMany io_random, rI Y (ao 8) 43 res.2.2.2, rI Y (ao 16) 688 co_undone])) {k26 : (Nat → Int32) × Int32 → Option (Int32 × Int32 × Int32 × (Nat → Int32))} (hk26 : ∀ s : (Nat → Int32) × Int32, k26 s = some res → ax X 0 0 26 [some (.ref (ao 0)), some (.int s.2)] [oX12 ao io_thrown io_rows io_cells io_children io_changes io_taped io_at io_to io_nest io_readMany io_codeLong io_readLong io_undos io_wentHome io_tideLevel io_acts io_firstBreaks io_bestCrew io_sights io_wayMany io_random, rI Y (ao 8) 43 s.1, rI Y (ao 16) 688 co_undone] []) (hf : fX12_undo_l26 io_thrown io_undos co_undone k26 co_now x1 = some res) : ax X 0 0 26 [some (.ref (ao 0)), some (.int x1)] [oX12 ao io_thrown io_rows io_cells io_children io_changes io_taped io_at io_to io_nest io_readMany io_codeLong io_readLong io_undos io_wentHome io_tideLevel io_acts io_firstBreaks io_bestCrew io_sights io_wayMany io_random, rI Y (ao 8) 43 co_now, rI Y (ao 16) 688 co_undone] [] := by
  unfold fX12_undo_l26 at hf
  refine a_iload_n C dX12_undo_26 rfl ?_
  refine a_bipush C (43 : Int32) dX12_undo_27 (by decide) ?_
  refine a_icmp_ge C 58 dX12_undo_29 (by decide) (fun h1 => ?_) (fun h1 => ?_)
  · have hf := fx_t h1 hf
    refine a_kill [1] ?_
    exact kX12_undo_b58 C hQ hf
  · have hf := fx_f h1 hf
    refine a_aload_n C dX12_undo_32 rfl ?_
    refine a_get C (eB_X12_36 _) dX12_undo_33 0 rfl rfl ?_
    refine a_iload_n C dX12_undo_36 rfl ?_
    refine a_aload_n C dX12_undo_37 rfl ?_
    refine a_get C (eB_X12_60 _) dX12_undo_38 0 rfl rfl ?_
    refine a_bipush C (43 : Int32) dX12_undo_41 (by decide) ?_
    refine a_aload_n C dX12_undo_43 rfl ?_
    refine a_get C (eB_X12_191 _) dX12_undo_44 0 rfl rfl ?_
    refine a_imul C dX12_undo_47 ?_
    refine a_iload_n C dX12_undo_48 rfl ?_
    refine a_iadd C dX12_undo_49 ?_
    obtain ⟨h2, hf⟩ := fx_ite hf
    refine a_iald C dX12_undo_50 2 rfl h2 ?_
    obtain ⟨h3, hf⟩ := fx_ite hf
    refine a_iast C dX12_undo_51 1 rfl h3 ?_
    refine a_iinc C (1 : Int32) dX12_undo_52 (by decide) rfl (by decide) rfl ?_
    refine a_goto C 26 dX12_undo_55 (by decide) ?_
    exact hk26 ((upd co_now (Int32.toNatClampNeg x1) (co_undone (Int32.toNatClampNeg (((43 : Int32) * io_undos) + x1)))), (x1 + (1 : Int32))) hf
set_option maxHeartbeats 400000 in
set_option maxRecDepth 100000 in
theorem kX12_undo_b26 {X : cxT} {l : Launch} {D : va_G} {Y : Nat → ClassId} {ao : Nat → Nat} {io_thrown : Int32} {io_rows : Int32} {io_cells : Int32} {io_children : Int32} {io_changes : Int32} {io_taped : Int32} {io_at : Int32} {io_to : Int32} {io_nest : Int32} {io_readMany : Int32} {io_codeLong : Int32} {io_readLong : Int32} {io_undos : Int32} {io_wentHome : Int32} {io_tideLevel : Int32} {io_acts : Int32} {io_firstBreaks : Int32} {io_bestCrew : Int32} {io_sights : Int32} {io_wayMany : Int32} {io_random : Int32} {co_now : Nat → Int32} {co_undone : Nat → Int32} {x1 : Int32} {res : Int32 × Int32 × Int32 × (Nat → Int32)} (C : axC X l D Y cX12_undo 2 RX12 wsX12_undo rmX12_undo (some .int)) (hQ : axQ X 0 0 (fun r9 w9 => r9 = (some (.int res.1)) ∧ w9 = [oX12 ao res.2.1 io_rows io_cells io_children io_changes io_taped io_at io_to io_nest io_readMany io_codeLong io_readLong res.2.2.1 io_wentHome io_tideLevel io_acts io_firstBreaks io_bestCrew io_sights io_wayMany io_random, rI Y (ao 8) 43 res.2.2.2, rI Y (ao 16) 688 co_undone])) (hf : fX12_undo_b26 io_thrown io_undos co_now co_undone x1 = some res) : ax X 0 0 26 [some (.ref (ao 0)), some (.int x1)] [oX12 ao io_thrown io_rows io_cells io_children io_changes io_taped io_at io_to io_nest io_readMany io_codeLong io_readLong io_undos io_wentHome io_tideLevel io_acts io_firstBreaks io_bestCrew io_sights io_wayMany io_random, rI Y (ao 8) 43 co_now, rI Y (ao 16) 688 co_undone] [] := by
  unfold fX12_undo_b26 at hf
  exact fx_loop (P := fun s : (Nat → Int32) × Int32 => ax X 0 0 26 [some (.ref (ao 0)), some (.int s.2)] [oX12 ao io_thrown io_rows io_cells io_children io_changes io_taped io_at io_to io_nest io_readMany io_codeLong io_readLong io_undos io_wentHome io_tideLevel io_acts io_firstBreaks io_bestCrew io_sights io_wayMany io_random, rI Y (ao 8) 43 s.1, rI Y (ao 16) 688 co_undone] []) (fun s k26 hk26 h => kX12_undo_l26 C hQ hk26 h) FUEL (co_now, x1) hf
def fX12_undo (io_thrown : Int32) (io_undos : Int32) (co_now : Nat → Int32) (co_undone : Nat → Int32) : Option (Int32 × Int32 × Int32 × (Nat → Int32)) :=
  if io_undos = (0 : Int32) then (some ((-1 : Int32), (0 : Int32), io_undos, co_now)) else (fX12_undo_b26 (0 : Int32) (io_undos - (1 : Int32)) co_now co_undone (0 : Int32))
set_option maxHeartbeats 400000 in
set_option maxRecDepth 100000 in
theorem kX12_undo (l : Launch) (D : va_G) (Y : Nat → ClassId) (ao : Nat → Nat) (io_thrown : Int32) (io_rows : Int32) (io_cells : Int32) (io_children : Int32) (io_changes : Int32) (io_taped : Int32) (io_at : Int32) (io_to : Int32) (io_nest : Int32) (io_readMany : Int32) (io_codeLong : Int32) (io_readLong : Int32) (io_undos : Int32) (io_wentHome : Int32) (io_tideLevel : Int32) (io_acts : Int32) (io_firstBreaks : Int32) (io_bestCrew : Int32) (io_sights : Int32) (io_wayMany : Int32) (io_random : Int32) (co_now : Nat → Int32) (co_undone : Nat → Int32) (res : Int32 × Int32 × Int32 × (Nat → Int32)) (hf : fX12_undo io_thrown io_undos co_now co_undone = some res) : amf l D Y yX12_undo wsX12_undo rmX12_undo [.ref (ao 0)] [oX12 ao io_thrown io_rows io_cells io_children io_changes io_taped io_at io_to io_nest io_readMany io_codeLong io_readLong io_undos io_wentHome io_tideLevel io_acts io_firstBreaks io_bestCrew io_sights io_wayMany io_random, rI Y (ao 8) 43 co_now, rI Y (ao 16) 688 co_undone] (some (.int res.1)) [oX12 ao res.2.1 io_rows io_cells io_children io_changes io_taped io_at io_to io_nest io_readMany io_codeLong io_readLong res.2.2.1 io_wentHome io_tideLevel io_acts io_firstBreaks io_bestCrew io_sights io_wayMany io_random, rI Y (ao 8) 43 res.2.2.2, rI Y (ao 16) 688 co_undone] := by
  refine amf.of (cc := cX12_undo) (maxL := 2) (rt := (some .int)) (by decide) rfl RX12 rfl (Nat.le_of_ble_eq_true rfl) [some (.ref (ao 0)), none] rfl ?_
  intro X C hQ
  unfold fX12_undo at hf
  refine a_aload_n C dX12_undo_0 rfl ?_
  refine a_iconst C (0 : Int32) dX12_undo_1 (by decide) ?_
  refine a_put C (eB_X12_112 _) tfX12_0 dX12_undo_2 0 rfl rfl rfl (Nat.le_of_ble_eq_true rfl) ?_
  refine a_aload_n C dX12_undo_5 rfl ?_
  refine a_get C (eB_X12_191 _) dX12_undo_6 0 rfl rfl ?_
  refine a_if_ne C 14 dX12_undo_9 (by decide) (fun h4 => ?_) (fun h4 => ?_)
  · have hf := fx_f h4 hf
    refine a_aload_n C dX12_undo_14 rfl ?_
    refine a_dup C dX12_undo_15 rfl ?_
    refine a_get C (eB_X12_191 _) dX12_undo_16 0 rfl rfl ?_
    refine a_iconst C (1 : Int32) dX12_undo_19 (by decide) ?_
    refine a_isub C dX12_undo_20 ?_
    refine a_put C (eB_X12_191 _) tfX12_27 dX12_undo_21 0 rfl rfl rfl (Nat.le_of_ble_eq_true rfl) ?_
    refine a_iconst C (0 : Int32) dX12_undo_24 (by decide) ?_
    refine a_istore_n C dX12_undo_25 (by decide) rfl ?_
    exact kX12_undo_b26 C hQ hf
  · have hf := fx_t h4 hf
    refine a_iconst C (-1 : Int32) dX12_undo_12 (by decide) ?_
    obtain rfl := fx_some hf
    exact a_iret C hQ dX12_undo_13 ⟨rfl, rfl⟩
-- X12_spellGoes
abbrev rmX12_spellGoes : Room := { frames := 4, cells := 0, slots := 0, locals := 91 }
theorem dvX12_spellGoes : yX12_spellGoes.cls = RX12 ∧ yX12_spellGoes.cls ≠ "java/lang/invoke/MethodHandle" ∧ yX12_spellGoes.cls ≠ "java/lang/invoke/VarHandle" ∧ (parseMethodDescriptor yX12_spellGoes.desc).map (fun d => d.parameters.length) = some 1 := by decide +kernel
def fX12_spellGoes_b174 (io_cells : Int32) (io_children : Int32) (io_wentHome : Int32) (co_age : Nat → Int32) (co_skill : Nat → Int32) (co_friend : Nat → Int32) (co_gets : Nat → Int32) (cp1 : Nat → Int32) : Option (Int32 × (Nat → Int32) × (Nat → Int32)) :=
  some (io_wentHome, co_gets, cp1)
set_option maxHeartbeats 400000 in
set_option maxRecDepth 100000 in
theorem kX12_spellGoes_b174 {X : cxT} {l : Launch} {D : va_G} {Y : Nat → ClassId} {ao : Nat → Nat} {qp1 : Nat} {io_thrown : Int32} {io_rows : Int32} {io_cells : Int32} {io_children : Int32} {io_changes : Int32} {io_taped : Int32} {io_at : Int32} {io_to : Int32} {io_nest : Int32} {io_readMany : Int32} {io_codeLong : Int32} {io_readLong : Int32} {io_undos : Int32} {io_wentHome : Int32} {io_tideLevel : Int32} {io_acts : Int32} {io_firstBreaks : Int32} {io_bestCrew : Int32} {io_sights : Int32} {io_wayMany : Int32} {io_random : Int32} {co_age : Nat → Int32} {co_skill : Nat → Int32} {co_friend : Nat → Int32} {co_gets : Nat → Int32} {cp1 : Nat → Int32} {res : Int32 × (Nat → Int32) × (Nat → Int32)} (C : axC X l D Y cX12_spellGoes 4 RX12 wsX12_spellGoes rmX12_spellGoes none) (hQ : axQ X 0 0 (fun r9 w9 => r9 = none ∧ w9 = [oX12 ao io_thrown io_rows io_cells io_children io_changes io_taped io_at io_to io_nest io_readMany io_codeLong io_readLong io_undos res.1 io_tideLevel io_acts io_firstBreaks io_bestCrew io_sights io_wayMany io_random, rI Y (ao 4) 8 co_age, rI Y (ao 5) 8 co_skill, rI Y (ao 6) 8 co_friend, rI Y (ao 17) 12 res.2.1, rI Y qp1 43 res.2.2])) (hf : fX12_spellGoes_b174 io_cells io_children io_wentHome co_age co_skill co_friend co_gets cp1 = some res) : ax X 0 0 174 [none, none, none, none] [oX12 ao io_thrown io_rows io_cells io_children io_changes io_taped io_at io_to io_nest io_readMany io_codeLong io_readLong io_undos io_wentHome io_tideLevel io_acts io_firstBreaks io_bestCrew io_sights io_wayMany io_random, rI Y (ao 4) 8 co_age, rI Y (ao 5) 8 co_skill, rI Y (ao 6) 8 co_friend, rI Y (ao 17) 12 co_gets, rI Y qp1 43 cp1] [] := by
  unfold fX12_spellGoes_b174 at hf
  obtain rfl := fx_some hf
  exact a_vret C hQ dX12_spellGoes_174 ⟨rfl, rfl⟩
def fX12_spellGoes_b168 (io_cells : Int32) (io_children : Int32) (io_wentHome : Int32) (co_age : Nat → Int32) (co_skill : Nat → Int32) (co_friend : Nat → Int32) (co_gets : Nat → Int32) (cp1 : Nat → Int32) (x2 : Int32) (k103 : Int32 × (Nat → Int32) × Int32 → Option (Int32 × (Nat → Int32) × (Nat → Int32))) : Option (Int32 × (Nat → Int32) × (Nat → Int32)) :=
  k103 (io_wentHome, cp1, (x2 + (1 : Int32)))
set_option maxHeartbeats 400000 in
set_option maxRecDepth 100000 in
theorem kX12_spellGoes_b168 {X : cxT} {l : Launch} {D : va_G} {Y : Nat → ClassId} {ao : Nat → Nat} {qp1 : Nat} {io_thrown : Int32} {io_rows : Int32} {io_cells : Int32} {io_children : Int32} {io_changes : Int32} {io_taped : Int32} {io_at : Int32} {io_to : Int32} {io_nest : Int32} {io_readMany : Int32} {io_codeLong : Int32} {io_readLong : Int32} {io_undos : Int32} {io_wentHome : Int32} {io_tideLevel : Int32} {io_acts : Int32} {io_firstBreaks : Int32} {io_bestCrew : Int32} {io_sights : Int32} {io_wayMany : Int32} {io_random : Int32} {co_age : Nat → Int32} {co_skill : Nat → Int32} {co_friend : Nat → Int32} {co_gets : Nat → Int32} {cp1 : Nat → Int32} {x2 : Int32} {res : Int32 × (Nat → Int32) × (Nat → Int32)} (C : axC X l D Y cX12_spellGoes 4 RX12 wsX12_spellGoes rmX12_spellGoes none) (hQ : axQ X 0 0 (fun r9 w9 => r9 = none ∧ w9 = [oX12 ao io_thrown io_rows io_cells io_children io_changes io_taped io_at io_to io_nest io_readMany io_codeLong io_readLong io_undos res.1 io_tideLevel io_acts io_firstBreaks io_bestCrew io_sights io_wayMany io_random, rI Y (ao 4) 8 co_age, rI Y (ao 5) 8 co_skill, rI Y (ao 6) 8 co_friend, rI Y (ao 17) 12 res.2.1, rI Y qp1 43 res.2.2])) {k103 : Int32 × (Nat → Int32) × Int32 → Option (Int32 × (Nat → Int32) × (Nat → Int32))} (hk103 : ∀ s : Int32 × (Nat → Int32) × Int32, k103 s = some res → ax X 0 0 103 [some (.ref (ao 0)), some (.ref qp1), some (.int s.2.2), none] [oX12 ao io_thrown io_rows io_cells io_children io_changes io_taped io_at io_to io_nest io_readMany io_codeLong io_readLong io_undos s.1 io_tideLevel io_acts io_firstBreaks io_bestCrew io_sights io_wayMany io_random, rI Y (ao 4) 8 co_age, rI Y (ao 5) 8 co_skill, rI Y (ao 6) 8 co_friend, rI Y (ao 17) 12 co_gets, rI Y qp1 43 s.2.1] []) (hf : fX12_spellGoes_b168 io_cells io_children io_wentHome co_age co_skill co_friend co_gets cp1 x2 k103 = some res) : ax X 0 0 168 [some (.ref (ao 0)), some (.ref qp1), some (.int x2), none] [oX12 ao io_thrown io_rows io_cells io_children io_changes io_taped io_at io_to io_nest io_readMany io_codeLong io_readLong io_undos io_wentHome io_tideLevel io_acts io_firstBreaks io_bestCrew io_sights io_wayMany io_random, rI Y (ao 4) 8 co_age, rI Y (ao 5) 8 co_skill, rI Y (ao 6) 8 co_friend, rI Y (ao 17) 12 co_gets, rI Y qp1 43 cp1] [] := by
  unfold fX12_spellGoes_b168 at hf
  refine a_iinc C (1 : Int32) dX12_spellGoes_168 (by decide) rfl (by decide) rfl ?_
  refine a_goto C 103 dX12_spellGoes_171 (by decide) ?_
  exact hk103 (io_wentHome, cp1, (x2 + (1 : Int32))) hf
def fX12_spellGoes_l103 (io_cells : Int32) (io_children : Int32) (co_age : Nat → Int32) (co_skill : Nat → Int32) (co_friend : Nat → Int32) (co_gets : Nat → Int32) (k103 : Int32 × (Nat → Int32) × Int32 → Option (Int32 × (Nat → Int32) × (Nat → Int32))) (io_wentHome : Int32) (cp1 : Nat → Int32) (x2 : Int32) : Option (Int32 × (Nat → Int32) × (Nat → Int32)) :=
  if io_children ≤ x2 then (fX12_spellGoes_b174 io_cells io_children io_wentHome co_age co_skill co_friend co_gets cp1) else (if inb (((25 : Int32) + ((2 : Int32) * x2)) + (0 : Int32)) 43 then if (cp1 (Int32.toNatClampNeg (((25 : Int32) + ((2 : Int32) * x2)) + (0 : Int32)))) < (0 : Int32) then (fX12_spellGoes_b168 io_cells io_children io_wentHome co_age co_skill co_friend co_gets cp1 x2 k103) else (if inb (((25 : Int32) + ((2 : Int32) * x2)) + (1 : Int32)) 43 then if ((upd cp1 (Int32.toNatClampNeg (((25 : Int32) + ((2 : Int32) * x2)) + (1 : Int32))) (jmax (0 : Int32) ((cp1 (Int32.toNatClampNeg (((25 : Int32) + ((2 : Int32) * x2)) + (1 : Int32)))) - (1 : Int32)))) (Int32.toNatClampNeg (((25 : Int32) + ((2 : Int32) * x2)) + (1 : Int32)))) = (0 : Int32) then (fX12_spellGoes_b168 io_cells io_children (io_wentHome ||| (jshl (1 : Int32) x2)) co_age co_skill co_friend co_gets (upd (upd cp1 (Int32.toNatClampNeg (((25 : Int32) + ((2 : Int32) * x2)) + (1 : Int32))) (jmax (0 : Int32) ((cp1 (Int32.toNatClampNeg (((25 : Int32) + ((2 : Int32) * x2)) + (1 : Int32)))) - (1 : Int32)))) (Int32.toNatClampNeg (((25 : Int32) + ((2 : Int32) * x2)) + (0 : Int32))) (-1 : Int32)) x2 k103) else (fX12_spellGoes_b168 io_cells io_children io_wentHome co_age co_skill co_friend co_gets (upd cp1 (Int32.toNatClampNeg (((25 : Int32) + ((2 : Int32) * x2)) + (1 : Int32))) (jmax (0 : Int32) ((cp1 (Int32.toNatClampNeg (((25 : Int32) + ((2 : Int32) * x2)) + (1 : Int32)))) - (1 : Int32)))) x2 k103) else none) else none)
def fX12_spellGoes_b103 (io_cells : Int32) (io_children : Int32) (io_wentHome : Int32) (co_age : Nat → Int32) (co_skill : Nat → Int32) (co_friend : Nat → Int32) (co_gets : Nat → Int32) (cp1 : Nat → Int32) (x2 : Int32) : Option (Int32 × (Nat → Int32) × (Nat → Int32)) :=
  loopN (fun (s : Int32 × (Nat → Int32) × Int32) k103 => fX12_spellGoes_l103 io_cells io_children co_age co_skill co_friend co_gets k103 s.1 s.2.1 s.2.2) FUEL (io_wentHome, cp1, x2)
set_option maxHeartbeats 400000 in
set_option maxRecDepth 100000 in
theorem kX12_spellGoes_l103 {X : cxT} {l : Launch} {D : va_G} {Y : Nat → ClassId} {ao : Nat → Nat} {qp1 : Nat} {io_thrown : Int32} {io_rows : Int32} {io_cells : Int32} {io_children : Int32} {io_changes : Int32} {io_taped : Int32} {io_at : Int32} {io_to : Int32} {io_nest : Int32} {io_readMany : Int32} {io_codeLong : Int32} {io_readLong : Int32} {io_undos : Int32} {io_wentHome : Int32} {io_tideLevel : Int32} {io_acts : Int32} {io_firstBreaks : Int32} {io_bestCrew : Int32} {io_sights : Int32} {io_wayMany : Int32} {io_random : Int32} {co_age : Nat → Int32} {co_skill : Nat → Int32} {co_friend : Nat → Int32} {co_gets : Nat → Int32} {cp1 : Nat → Int32} {x2 : Int32} {res : Int32 × (Nat → Int32) × (Nat → Int32)} (C : axC X l D Y cX12_spellGoes 4 RX12 wsX12_spellGoes rmX12_spellGoes none) (hQ : axQ X 0 0 (fun r9 w9 => r9 = none ∧ w9 = [oX12 ao io_thrown io_rows io_cells io_children io_changes io_taped io_at io_to io_nest io_readMany io_codeLong io_readLong io_undos res.1 io_tideLevel io_acts io_firstBreaks io_bestCrew io_sights io_wayMany io_random, rI Y (ao 4) 8 co_age, rI Y (ao 5) 8 co_skill, rI Y (ao 6) 8 co_friend, rI Y (ao 17) 12 res.2.1, rI Y qp1 43 res.2.2])) {k103 : Int32 × (Nat → Int32) × Int32 → Option (Int32 × (Nat → Int32) × (Nat → Int32))} (hk103 : ∀ s : Int32 × (Nat → Int32) × Int32, k103 s = some res → ax X 0 0 103 [some (.ref (ao 0)), some (.ref qp1), some (.int s.2.2), none] [oX12 ao io_thrown io_rows io_cells io_children io_changes io_taped io_at io_to io_nest io_readMany io_codeLong io_readLong io_undos s.1 io_tideLevel io_acts io_firstBreaks io_bestCrew io_sights io_wayMany io_random, rI Y (ao 4) 8 co_age, rI Y (ao 5) 8 co_skill, rI Y (ao 6) 8 co_friend, rI Y (ao 17) 12 co_gets, rI Y qp1 43 s.2.1] []) (hf : fX12_spellGoes_l103 io_cells io_children co_age co_skill co_friend co_gets k103 io_wentHome cp1 x2 = some res) : ax X 0 0 103 [some (.ref (ao 0)), some (.ref qp1), some (.int x2), none] [oX12 ao io_thrown io_rows io_cells io_children io_changes io_taped io_at io_to io_nest io_readMany io_codeLong io_readLong io_undos io_wentHome io_tideLevel io_acts io_firstBreaks io_bestCrew io_sights io_wayMany io_random, rI Y (ao 4) 8 co_age, rI Y (ao 5) 8 co_skill, rI Y (ao 6) 8 co_friend, rI Y (ao 17) 12 co_gets, rI Y qp1 43 cp1] [] := by
  unfold fX12_spellGoes_l103 at hf
  refine a_iload_n C dX12_spellGoes_103 rfl ?_
  refine a_aload_n C dX12_spellGoes_104 rfl ?_
  refine a_get C (eB_X12_126 _) dX12_spellGoes_105 0 rfl rfl ?_
  refine a_icmp_ge C 174 dX12_spellGoes_108 (by decide) (fun h1 => ?_) (fun h1 => ?_)
  · have hf := fx_t h1 hf
    refine a_kill [0, 1, 2] ?_
    exact kX12_spellGoes_b174 C hQ hf
  · have hf := fx_f h1 hf
    refine a_bipush C (25 : Int32) dX12_spellGoes_111 (by decide) ?_
    refine a_iconst C (2 : Int32) dX12_spellGoes_113 (by decide) ?_
    refine a_iload_n C dX12_spellGoes_114 rfl ?_
    refine a_imul C dX12_spellGoes_115 ?_
    refine a_iadd C dX12_spellGoes_116 ?_
    refine a_istore_n C dX12_spellGoes_117 (by decide) rfl ?_
    refine a_aload_n C dX12_spellGoes_118 rfl ?_
    refine a_iload_n C dX12_spellGoes_119 rfl ?_
    refine a_iconst C (0 : Int32) dX12_spellGoes_120 (by decide) ?_
    refine a_iadd C dX12_spellGoes_121 ?_
    obtain ⟨h2, hf⟩ := fx_ite hf
    refine a_iald C dX12_spellGoes_122 5 rfl h2 ?_
    refine a_if_lt C 168 dX12_spellGoes_123 (by decide) (fun h3 => ?_) (fun h3 => ?_)
    · have hf := fx_t h3 hf
      refine a_kill [3] ?_
      exact kX12_spellGoes_b168 C hQ hk103 hf
    · have hf := fx_f h3 hf
      refine a_aload_n C dX12_spellGoes_126 rfl ?_
      refine a_iload_n C dX12_spellGoes_127 rfl ?_
      refine a_iconst C (1 : Int32) dX12_spellGoes_128 (by decide) ?_
      refine a_iadd C dX12_spellGoes_129 ?_
      refine a_iconst C (0 : Int32) dX12_spellGoes_130 (by decide) ?_
      refine a_aload_n C dX12_spellGoes_131 rfl ?_
      refine a_iload_n C dX12_spellGoes_132 rfl ?_
      refine a_iconst C (1 : Int32) dX12_spellGoes_133 (by decide) ?_
      refine a_iadd C dX12_spellGoes_134 ?_
      obtain ⟨h4, hf⟩ := fx_ite hf
      refine a_iald C dX12_spellGoes_135 5 rfl h4 ?_
      refine a_iconst C (1 : Int32) dX12_spellGoes_136 (by decide) ?_
      refine a_isub C dX12_spellGoes_137 ?_
      refine a_mmax C dX12_spellGoes_138 (mB_X12_259 _) ⟨⟨Nat.le_of_ble_eq_true rfl, Nat.le_of_ble_eq_true rfl⟩, ⟨Nat.le_of_ble_eq_true rfl, Nat.le_of_ble_eq_true rfl⟩⟩ (Nat.le_of_ble_eq_true rfl) ?_
      refine a_iast C dX12_spellGoes_141 5 rfl h4 ?_
      refine a_aload_n C dX12_spellGoes_142 rfl ?_
      refine a_iload_n C dX12_spellGoes_143 rfl ?_
      refine a_iconst C (1 : Int32) dX12_spellGoes_144 (by decide) ?_
      refine a_iadd C dX12_spellGoes_145 ?_
      refine a_iald C dX12_spellGoes_146 5 rfl h4 ?_
      refine a_if_ne C 168 dX12_spellGoes_147 (by decide) (fun h5 => ?_) (fun h5 => ?_)
      · have hf := fx_f h5 hf
        refine a_kill [3] ?_
        exact kX12_spellGoes_b168 C hQ hk103 hf
      · have hf := fx_t h5 hf
        refine a_aload_n C dX12_spellGoes_150 rfl ?_
        refine a_dup C dX12_spellGoes_151 rfl ?_
        refine a_get C (eB_X12_309 _) dX12_spellGoes_152 0 rfl rfl ?_
        refine a_iconst C (1 : Int32) dX12_spellGoes_155 (by decide) ?_
        refine a_iload_n C dX12_spellGoes_156 rfl ?_
        refine a_ishl C dX12_spellGoes_157 ?_
        refine a_ior C dX12_spellGoes_158 ?_
        refine a_put C (eB_X12_309 _) tfX12_29 dX12_spellGoes_159 0 rfl rfl rfl (Nat.le_of_ble_eq_true rfl) ?_
        refine a_aload_n C dX12_spellGoes_162 rfl ?_
        refine a_iload_n C dX12_spellGoes_163 rfl ?_
        refine a_iconst C (0 : Int32) dX12_spellGoes_164 (by decide) ?_
        refine a_iadd C dX12_spellGoes_165 ?_
        refine a_iconst C (-1 : Int32) dX12_spellGoes_166 (by decide) ?_
        refine a_iast C dX12_spellGoes_167 5 rfl h2 ?_
        refine a_kill [3] ?_
        exact kX12_spellGoes_b168 C hQ hk103 hf
set_option maxHeartbeats 400000 in
set_option maxRecDepth 100000 in
theorem kX12_spellGoes_b103 {X : cxT} {l : Launch} {D : va_G} {Y : Nat → ClassId} {ao : Nat → Nat} {qp1 : Nat} {io_thrown : Int32} {io_rows : Int32} {io_cells : Int32} {io_children : Int32} {io_changes : Int32} {io_taped : Int32} {io_at : Int32} {io_to : Int32} {io_nest : Int32} {io_readMany : Int32} {io_codeLong : Int32} {io_readLong : Int32} {io_undos : Int32} {io_wentHome : Int32} {io_tideLevel : Int32} {io_acts : Int32} {io_firstBreaks : Int32} {io_bestCrew : Int32} {io_sights : Int32} {io_wayMany : Int32} {io_random : Int32} {co_age : Nat → Int32} {co_skill : Nat → Int32} {co_friend : Nat → Int32} {co_gets : Nat → Int32} {cp1 : Nat → Int32} {x2 : Int32} {res : Int32 × (Nat → Int32) × (Nat → Int32)} (C : axC X l D Y cX12_spellGoes 4 RX12 wsX12_spellGoes rmX12_spellGoes none) (hQ : axQ X 0 0 (fun r9 w9 => r9 = none ∧ w9 = [oX12 ao io_thrown io_rows io_cells io_children io_changes io_taped io_at io_to io_nest io_readMany io_codeLong io_readLong io_undos res.1 io_tideLevel io_acts io_firstBreaks io_bestCrew io_sights io_wayMany io_random, rI Y (ao 4) 8 co_age, rI Y (ao 5) 8 co_skill, rI Y (ao 6) 8 co_friend, rI Y (ao 17) 12 res.2.1, rI Y qp1 43 res.2.2])) (hf : fX12_spellGoes_b103 io_cells io_children io_wentHome co_age co_skill co_friend co_gets cp1 x2 = some res) : ax X 0 0 103 [some (.ref (ao 0)), some (.ref qp1), some (.int x2), none] [oX12 ao io_thrown io_rows io_cells io_children io_changes io_taped io_at io_to io_nest io_readMany io_codeLong io_readLong io_undos io_wentHome io_tideLevel io_acts io_firstBreaks io_bestCrew io_sights io_wayMany io_random, rI Y (ao 4) 8 co_age, rI Y (ao 5) 8 co_skill, rI Y (ao 6) 8 co_friend, rI Y (ao 17) 12 co_gets, rI Y qp1 43 cp1] [] := by
  unfold fX12_spellGoes_b103 at hf
  exact fx_loop (P := fun s : Int32 × (Nat → Int32) × Int32 => ax X 0 0 103 [some (.ref (ao 0)), some (.ref qp1), some (.int s.2.2), none] [oX12 ao io_thrown io_rows io_cells io_children io_changes io_taped io_at io_to io_nest io_readMany io_codeLong io_readLong io_undos s.1 io_tideLevel io_acts io_firstBreaks io_bestCrew io_sights io_wayMany io_random, rI Y (ao 4) 8 co_age, rI Y (ao 5) 8 co_skill, rI Y (ao 6) 8 co_friend, rI Y (ao 17) 12 co_gets, rI Y qp1 43 s.2.1] []) (fun s k103 hk103 h => kX12_spellGoes_l103 C hQ hk103 h) FUEL (io_wentHome, cp1, x2) hf
def fX12_spellGoes_b101 (io_cells : Int32) (io_children : Int32) (io_wentHome : Int32) (co_age : Nat → Int32) (co_skill : Nat → Int32) (co_friend : Nat → Int32) (co_gets : Nat → Int32) (cp1 : Nat → Int32) : Option (Int32 × (Nat → Int32) × (Nat → Int32)) :=
  fX12_spellGoes_b103 io_cells io_children io_wentHome co_age co_skill co_friend co_gets cp1 (0 : Int32)
set_option maxHeartbeats 400000 in
set_option maxRecDepth 100000 in
theorem kX12_spellGoes_b101 {X : cxT} {l : Launch} {D : va_G} {Y : Nat → ClassId} {ao : Nat → Nat} {qp1 : Nat} {io_thrown : Int32} {io_rows : Int32} {io_cells : Int32} {io_children : Int32} {io_changes : Int32} {io_taped : Int32} {io_at : Int32} {io_to : Int32} {io_nest : Int32} {io_readMany : Int32} {io_codeLong : Int32} {io_readLong : Int32} {io_undos : Int32} {io_wentHome : Int32} {io_tideLevel : Int32} {io_acts : Int32} {io_firstBreaks : Int32} {io_bestCrew : Int32} {io_sights : Int32} {io_wayMany : Int32} {io_random : Int32} {co_age : Nat → Int32} {co_skill : Nat → Int32} {co_friend : Nat → Int32} {co_gets : Nat → Int32} {cp1 : Nat → Int32} {res : Int32 × (Nat → Int32) × (Nat → Int32)} (C : axC X l D Y cX12_spellGoes 4 RX12 wsX12_spellGoes rmX12_spellGoes none) (hQ : axQ X 0 0 (fun r9 w9 => r9 = none ∧ w9 = [oX12 ao io_thrown io_rows io_cells io_children io_changes io_taped io_at io_to io_nest io_readMany io_codeLong io_readLong io_undos res.1 io_tideLevel io_acts io_firstBreaks io_bestCrew io_sights io_wayMany io_random, rI Y (ao 4) 8 co_age, rI Y (ao 5) 8 co_skill, rI Y (ao 6) 8 co_friend, rI Y (ao 17) 12 res.2.1, rI Y qp1 43 res.2.2])) (hf : fX12_spellGoes_b101 io_cells io_children io_wentHome co_age co_skill co_friend co_gets cp1 = some res) : ax X 0 0 101 [some (.ref (ao 0)), some (.ref qp1), none, none] [oX12 ao io_thrown io_rows io_cells io_children io_changes io_taped io_at io_to io_nest io_readMany io_codeLong io_readLong io_undos io_wentHome io_tideLevel io_acts io_firstBreaks io_bestCrew io_sights io_wayMany io_random, rI Y (ao 4) 8 co_age, rI Y (ao 5) 8 co_skill, rI Y (ao 6) 8 co_friend, rI Y (ao 17) 12 co_gets, rI Y qp1 43 cp1] [] := by
  unfold fX12_spellGoes_b101 at hf
  refine a_iconst C (0 : Int32) dX12_spellGoes_101 (by decide) ?_
  refine a_istore_n C dX12_spellGoes_102 (by decide) rfl ?_
  exact kX12_spellGoes_b103 C hQ hf
def fX12_spellGoes_l68 (io_cells : Int32) (io_children : Int32) (io_wentHome : Int32) (co_age : Nat → Int32) (co_skill : Nat → Int32) (co_friend : Nat → Int32) (co_gets : Nat → Int32) (k68 : (Nat → Int32) × Int32 → Option (Int32 × (Nat → Int32) × (Nat → Int32))) (cp1 : Nat → Int32) (x2 : Int32) : Option (Int32 × (Nat → Int32) × (Nat → Int32)) :=
  if io_cells ≤ x2 then (fX12_spellGoes_b101 io_cells io_children io_wentHome co_age co_skill co_friend co_gets cp1) else (if inb x2 43 then if inb x2 12 then k68 ((upd cp1 (Int32.toNatClampNeg x2) (jmin (999 : Int32) ((cp1 (Int32.toNatClampNeg x2)) + (co_gets (Int32.toNatClampNeg x2))))), (x2 + (1 : Int32))) else none else none)
def fX12_spellGoes_b68 (io_cells : Int32) (io_children : Int32) (io_wentHome : Int32) (co_age : Nat → Int32) (co_skill : Nat → Int32) (co_friend : Nat → Int32) (co_gets : Nat → Int32) (cp1 : Nat → Int32) (x2 : Int32) : Option (Int32 × (Nat → Int32) × (Nat → Int32)) :=
  loopN (fun (s : (Nat → Int32) × Int32) k68 => fX12_spellGoes_l68 io_cells io_children io_wentHome co_age co_skill co_friend co_gets k68 s.1 s.2) FUEL (cp1, x2)
set_option maxHeartbeats 400000 in
set_option maxRecDepth 100000 in
theorem kX12_spellGoes_l68 {X : cxT} {l : Launch} {D : va_G} {Y : Nat → ClassId} {ao : Nat → Nat} {qp1 : Nat} {io_thrown : Int32} {io_rows : Int32} {io_cells : Int32} {io_children : Int32} {io_changes : Int32} {io_taped : Int32} {io_at : Int32} {io_to : Int32} {io_nest : Int32} {io_readMany : Int32} {io_codeLong : Int32} {io_readLong : Int32} {io_undos : Int32} {io_wentHome : Int32} {io_tideLevel : Int32} {io_acts : Int32} {io_firstBreaks : Int32} {io_bestCrew : Int32} {io_sights : Int32} {io_wayMany : Int32} {io_random : Int32} {co_age : Nat → Int32} {co_skill : Nat → Int32} {co_friend : Nat → Int32} {co_gets : Nat → Int32} {cp1 : Nat → Int32} {x2 : Int32} {res : Int32 × (Nat → Int32) × (Nat → Int32)} (C : axC X l D Y cX12_spellGoes 4 RX12 wsX12_spellGoes rmX12_spellGoes none) (hQ : axQ X 0 0 (fun r9 w9 => r9 = none ∧ w9 = [oX12 ao io_thrown io_rows io_cells io_children io_changes io_taped io_at io_to io_nest io_readMany io_codeLong io_readLong io_undos res.1 io_tideLevel io_acts io_firstBreaks io_bestCrew io_sights io_wayMany io_random, rI Y (ao 4) 8 co_age, rI Y (ao 5) 8 co_skill, rI Y (ao 6) 8 co_friend, rI Y (ao 17) 12 res.2.1, rI Y qp1 43 res.2.2])) {k68 : (Nat → Int32) × Int32 → Option (Int32 × (Nat → Int32) × (Nat → Int32))} (hk68 : ∀ s : (Nat → Int32) × Int32, k68 s = some res → ax X 0 0 68 [some (.ref (ao 0)), some (.ref qp1), some (.int s.2), none] [oX12 ao io_thrown io_rows io_cells io_children io_changes io_taped io_at io_to io_nest io_readMany io_codeLong io_readLong io_undos io_wentHome io_tideLevel io_acts io_firstBreaks io_bestCrew io_sights io_wayMany io_random, rI Y (ao 4) 8 co_age, rI Y (ao 5) 8 co_skill, rI Y (ao 6) 8 co_friend, rI Y (ao 17) 12 co_gets, rI Y qp1 43 s.1] []) (hf : fX12_spellGoes_l68 io_cells io_children io_wentHome co_age co_skill co_friend co_gets k68 cp1 x2 = some res) : ax X 0 0 68 [some (.ref (ao 0)), some (.ref qp1), some (.int x2), none] [oX12 ao io_thrown io_rows io_cells io_children io_changes io_taped io_at io_to io_nest io_readMany io_codeLong io_readLong io_undos io_wentHome io_tideLevel io_acts io_firstBreaks io_bestCrew io_sights io_wayMany io_random, rI Y (ao 4) 8 co_age, rI Y (ao 5) 8 co_skill, rI Y (ao 6) 8 co_friend, rI Y (ao 17) 12 co_gets, rI Y qp1 43 cp1] [] := by
  unfold fX12_spellGoes_l68 at hf
  refine a_iload_n C dX12_spellGoes_68 rfl ?_
  refine a_aload_n C dX12_spellGoes_69 rfl ?_
  refine a_get C (eB_X12_13 _) dX12_spellGoes_70 0 rfl rfl ?_
  refine a_icmp_ge C 101 dX12_spellGoes_73 (by decide) (fun h6 => ?_) (fun h6 => ?_)
  · have hf := fx_t h6 hf
    refine a_kill [2] ?_
    exact kX12_spellGoes_b101 C hQ hf
  · have hf := fx_f h6 hf
    refine a_aload_n C dX12_spellGoes_76 rfl ?_
    refine a_iload_n C dX12_spellGoes_77 rfl ?_
    refine a_sipush C (999 : Int32) dX12_spellGoes_78 (by decide) ?_
    refine a_aload_n C dX12_spellGoes_81 rfl ?_
    refine a_iload_n C dX12_spellGoes_82 rfl ?_
    obtain ⟨h7, hf⟩ := fx_ite hf
    refine a_iald C dX12_spellGoes_83 5 rfl h7 ?_
    refine a_aload_n C dX12_spellGoes_84 rfl ?_
    refine a_get C (eB_X12_63 _) dX12_spellGoes_85 0 rfl rfl ?_
    refine a_iload_n C dX12_spellGoes_88 rfl ?_
    obtain ⟨h8, hf⟩ := fx_ite hf
    refine a_iald C dX12_spellGoes_89 4 rfl h8 ?_
    refine a_iadd C dX12_spellGoes_90 ?_
    refine a_mmin C dX12_spellGoes_91 (mB_X12_142 _) ⟨⟨Nat.le_of_ble_eq_true rfl, Nat.le_of_ble_eq_true rfl⟩, ⟨Nat.le_of_ble_eq_true rfl, Nat.le_of_ble_eq_true rfl⟩⟩ (Nat.le_of_ble_eq_true rfl) ?_
    refine a_iast C dX12_spellGoes_94 5 rfl h7 ?_
    refine a_iinc C (1 : Int32) dX12_spellGoes_95 (by decide) rfl (by decide) rfl ?_
    refine a_goto C 68 dX12_spellGoes_98 (by decide) ?_
    exact hk68 ((upd cp1 (Int32.toNatClampNeg x2) (jmin (999 : Int32) ((cp1 (Int32.toNatClampNeg x2)) + (co_gets (Int32.toNatClampNeg x2))))), (x2 + (1 : Int32))) hf
set_option maxHeartbeats 400000 in
set_option maxRecDepth 100000 in
theorem kX12_spellGoes_b68 {X : cxT} {l : Launch} {D : va_G} {Y : Nat → ClassId} {ao : Nat → Nat} {qp1 : Nat} {io_thrown : Int32} {io_rows : Int32} {io_cells : Int32} {io_children : Int32} {io_changes : Int32} {io_taped : Int32} {io_at : Int32} {io_to : Int32} {io_nest : Int32} {io_readMany : Int32} {io_codeLong : Int32} {io_readLong : Int32} {io_undos : Int32} {io_wentHome : Int32} {io_tideLevel : Int32} {io_acts : Int32} {io_firstBreaks : Int32} {io_bestCrew : Int32} {io_sights : Int32} {io_wayMany : Int32} {io_random : Int32} {co_age : Nat → Int32} {co_skill : Nat → Int32} {co_friend : Nat → Int32} {co_gets : Nat → Int32} {cp1 : Nat → Int32} {x2 : Int32} {res : Int32 × (Nat → Int32) × (Nat → Int32)} (C : axC X l D Y cX12_spellGoes 4 RX12 wsX12_spellGoes rmX12_spellGoes none) (hQ : axQ X 0 0 (fun r9 w9 => r9 = none ∧ w9 = [oX12 ao io_thrown io_rows io_cells io_children io_changes io_taped io_at io_to io_nest io_readMany io_codeLong io_readLong io_undos res.1 io_tideLevel io_acts io_firstBreaks io_bestCrew io_sights io_wayMany io_random, rI Y (ao 4) 8 co_age, rI Y (ao 5) 8 co_skill, rI Y (ao 6) 8 co_friend, rI Y (ao 17) 12 res.2.1, rI Y qp1 43 res.2.2])) (hf : fX12_spellGoes_b68 io_cells io_children io_wentHome co_age co_skill co_friend co_gets cp1 x2 = some res) : ax X 0 0 68 [some (.ref (ao 0)), some (.ref qp1), some (.int x2), none] [oX12 ao io_thrown io_rows io_cells io_children io_changes io_taped io_at io_to io_nest io_readMany io_codeLong io_readLong io_undos io_wentHome io_tideLevel io_acts io_firstBreaks io_bestCrew io_sights io_wayMany io_random, rI Y (ao 4) 8 co_age, rI Y (ao 5) 8 co_skill, rI Y (ao 6) 8 co_friend, rI Y (ao 17) 12 co_gets, rI Y qp1 43 cp1] [] := by
  unfold fX12_spellGoes_b68 at hf
  exact fx_loop (P := fun s : (Nat → Int32) × Int32 => ax X 0 0 68 [some (.ref (ao 0)), some (.ref qp1), some (.int s.2), none] [oX12 ao io_thrown io_rows io_cells io_children io_changes io_taped io_at io_to io_nest io_readMany io_codeLong io_readLong io_undos io_wentHome io_tideLevel io_acts io_firstBreaks io_bestCrew io_sights io_wayMany io_random, rI Y (ao 4) 8 co_age, rI Y (ao 5) 8 co_skill, rI Y (ao 6) 8 co_friend, rI Y (ao 17) 12 co_gets, rI Y qp1 43 s.1] []) (fun s k68 hk68 h => kX12_spellGoes_l68 C hQ hk68 h) FUEL (cp1, x2) hf
def fX12_spellGoes_b66 (io_cells : Int32) (io_children : Int32) (io_wentHome : Int32) (co_age : Nat → Int32) (co_skill : Nat → Int32) (co_friend : Nat → Int32) (co_gets : Nat → Int32) (cp1 : Nat → Int32) : Option (Int32 × (Nat → Int32) × (Nat → Int32)) :=
  fX12_spellGoes_b68 io_cells io_children io_wentHome co_age co_skill co_friend co_gets cp1 (0 : Int32)
set_option maxHeartbeats 400000 in
set_option maxRecDepth 100000 in
theorem kX12_spellGoes_b66 {X : cxT} {l : Launch} {D : va_G} {Y : Nat → ClassId} {ao : Nat → Nat} {qp1 : Nat} {io_thrown : Int32} {io_rows : Int32} {io_cells : Int32} {io_children : Int32} {io_changes : Int32} {io_taped : Int32} {io_at : Int32} {io_to : Int32} {io_nest : Int32} {io_readMany : Int32} {io_codeLong : Int32} {io_readLong : Int32} {io_undos : Int32} {io_wentHome : Int32} {io_tideLevel : Int32} {io_acts : Int32} {io_firstBreaks : Int32} {io_bestCrew : Int32} {io_sights : Int32} {io_wayMany : Int32} {io_random : Int32} {co_age : Nat → Int32} {co_skill : Nat → Int32} {co_friend : Nat → Int32} {co_gets : Nat → Int32} {cp1 : Nat → Int32} {res : Int32 × (Nat → Int32) × (Nat → Int32)} (C : axC X l D Y cX12_spellGoes 4 RX12 wsX12_spellGoes rmX12_spellGoes none) (hQ : axQ X 0 0 (fun r9 w9 => r9 = none ∧ w9 = [oX12 ao io_thrown io_rows io_cells io_children io_changes io_taped io_at io_to io_nest io_readMany io_codeLong io_readLong io_undos res.1 io_tideLevel io_acts io_firstBreaks io_bestCrew io_sights io_wayMany io_random, rI Y (ao 4) 8 co_age, rI Y (ao 5) 8 co_skill, rI Y (ao 6) 8 co_friend, rI Y (ao 17) 12 res.2.1, rI Y qp1 43 res.2.2])) (hf : fX12_spellGoes_b66 io_cells io_children io_wentHome co_age co_skill co_friend co_gets cp1 = some res) : ax X 0 0 66 [some (.ref (ao 0)), some (.ref qp1), none, none] [oX12 ao io_thrown io_rows io_cells io_children io_changes io_taped io_at io_to io_nest io_readMany io_codeLong io_readLong io_undos io_wentHome io_tideLevel io_acts io_firstBreaks io_bestCrew io_sights io_wayMany io_random, rI Y (ao 4) 8 co_age, rI Y (ao 5) 8 co_skill, rI Y (ao 6) 8 co_friend, rI Y (ao 17) 12 co_gets, rI Y qp1 43 cp1] [] := by
  unfold fX12_spellGoes_b66 at hf
  refine a_iconst C (0 : Int32) dX12_spellGoes_66 (by decide) ?_
  refine a_istore_n C dX12_spellGoes_67 (by decide) rfl ?_
  exact kX12_spellGoes_b68 C hQ hf
def fX12_spellGoes_b60 (io_cells : Int32) (io_children : Int32) (io_wentHome : Int32) (co_age : Nat → Int32) (co_skill : Nat → Int32) (co_friend : Nat → Int32) (co_gets : Nat → Int32) (cp1 : Nat → Int32) (x2 : Int32) (k25 : (Nat → Int32) × Int32 → Option (Int32 × (Nat → Int32) × (Nat → Int32))) : Option (Int32 × (Nat → Int32) × (Nat → Int32)) :=
  k25 (co_gets, (x2 + (1 : Int32)))
set_option maxHeartbeats 400000 in
set_option maxRecDepth 100000 in
theorem kX12_spellGoes_b60 {X : cxT} {l : Launch} {D : va_G} {Y : Nat → ClassId} {ao : Nat → Nat} {qp1 : Nat} {io_thrown : Int32} {io_rows : Int32} {io_cells : Int32} {io_children : Int32} {io_changes : Int32} {io_taped : Int32} {io_at : Int32} {io_to : Int32} {io_nest : Int32} {io_readMany : Int32} {io_codeLong : Int32} {io_readLong : Int32} {io_undos : Int32} {io_wentHome : Int32} {io_tideLevel : Int32} {io_acts : Int32} {io_firstBreaks : Int32} {io_bestCrew : Int32} {io_sights : Int32} {io_wayMany : Int32} {io_random : Int32} {co_age : Nat → Int32} {co_skill : Nat → Int32} {co_friend : Nat → Int32} {co_gets : Nat → Int32} {cp1 : Nat → Int32} {x2 : Int32} {res : Int32 × (Nat → Int32) × (Nat → Int32)} (C : axC X l D Y cX12_spellGoes 4 RX12 wsX12_spellGoes rmX12_spellGoes none) (hQ : axQ X 0 0 (fun r9 w9 => r9 = none ∧ w9 = [oX12 ao io_thrown io_rows io_cells io_children io_changes io_taped io_at io_to io_nest io_readMany io_codeLong io_readLong io_undos res.1 io_tideLevel io_acts io_firstBreaks io_bestCrew io_sights io_wayMany io_random, rI Y (ao 4) 8 co_age, rI Y (ao 5) 8 co_skill, rI Y (ao 6) 8 co_friend, rI Y (ao 17) 12 res.2.1, rI Y qp1 43 res.2.2])) {k25 : (Nat → Int32) × Int32 → Option (Int32 × (Nat → Int32) × (Nat → Int32))} (hk25 : ∀ s : (Nat → Int32) × Int32, k25 s = some res → ax X 0 0 25 [some (.ref (ao 0)), some (.ref qp1), some (.int s.2), none] [oX12 ao io_thrown io_rows io_cells io_children io_changes io_taped io_at io_to io_nest io_readMany io_codeLong io_readLong io_undos io_wentHome io_tideLevel io_acts io_firstBreaks io_bestCrew io_sights io_wayMany io_random, rI Y (ao 4) 8 co_age, rI Y (ao 5) 8 co_skill, rI Y (ao 6) 8 co_friend, rI Y (ao 17) 12 s.1, rI Y qp1 43 cp1] []) (hf : fX12_spellGoes_b60 io_cells io_children io_wentHome co_age co_skill co_friend co_gets cp1 x2 k25 = some res) : ax X 0 0 60 [some (.ref (ao 0)), some (.ref qp1), some (.int x2), none] [oX12 ao io_thrown io_rows io_cells io_children io_changes io_taped io_at io_to io_nest io_readMany io_codeLong io_readLong io_undos io_wentHome io_tideLevel io_acts io_firstBreaks io_bestCrew io_sights io_wayMany io_random, rI Y (ao 4) 8 co_age, rI Y (ao 5) 8 co_skill, rI Y (ao 6) 8 co_friend, rI Y (ao 17) 12 co_gets, rI Y qp1 43 cp1] [] := by
  unfold fX12_spellGoes_b60 at hf
  refine a_iinc C (1 : Int32) dX12_spellGoes_60 (by decide) rfl (by decide) rfl ?_
  refine a_goto C 25 dX12_spellGoes_63 (by decide) ?_
  exact hk25 (co_gets, (x2 + (1 : Int32))) hf
def fX12_spellGoes_l25 (io_cells : Int32) (io_children : Int32) (io_wentHome : Int32) (co_age : Nat → Int32) (co_skill : Nat → Int32) (co_friend : Nat → Int32) (cp1 : Nat → Int32) (k25 : (Nat → Int32) × Int32 → Option (Int32 × (Nat → Int32) × (Nat → Int32))) (co_gets : Nat → Int32) (x2 : Int32) : Option (Int32 × (Nat → Int32) × (Nat → Int32)) :=
  if io_children ≤ x2 then (fX12_spellGoes_b66 io_cells io_children io_wentHome co_age co_skill co_friend co_gets cp1) else ((fX12_atOf cp1 x2).bind (fun r10 => if r10 < (0 : Int32) then (fX12_spellGoes_b60 io_cells io_children io_wentHome co_age co_skill co_friend co_gets cp1 x2 k25) else ((fX12_atOf cp1 x2).bind (fun r12 => if inb r12 12 then (fX12_bucketsOf io_children co_age co_skill co_friend cp1 x2).bind (fun r14 => fX12_spellGoes_b60 io_cells io_children io_wentHome co_age co_skill co_friend (upd co_gets (Int32.toNatClampNeg r12) ((co_gets (Int32.toNatClampNeg r12)) + r14)) cp1 x2 k25) else none))))
def fX12_spellGoes_b25 (io_cells : Int32) (io_children : Int32) (io_wentHome : Int32) (co_age : Nat → Int32) (co_skill : Nat → Int32) (co_friend : Nat → Int32) (co_gets : Nat → Int32) (cp1 : Nat → Int32) (x2 : Int32) : Option (Int32 × (Nat → Int32) × (Nat → Int32)) :=
  loopN (fun (s : (Nat → Int32) × Int32) k25 => fX12_spellGoes_l25 io_cells io_children io_wentHome co_age co_skill co_friend cp1 k25 s.1 s.2) FUEL (co_gets, x2)
set_option maxHeartbeats 400000 in
set_option maxRecDepth 100000 in
theorem kX12_spellGoes_l25 {X : cxT} {l : Launch} {D : va_G} {Y : Nat → ClassId} {ao : Nat → Nat} {qp1 : Nat} {io_thrown : Int32} {io_rows : Int32} {io_cells : Int32} {io_children : Int32} {io_changes : Int32} {io_taped : Int32} {io_at : Int32} {io_to : Int32} {io_nest : Int32} {io_readMany : Int32} {io_codeLong : Int32} {io_readLong : Int32} {io_undos : Int32} {io_wentHome : Int32} {io_tideLevel : Int32} {io_acts : Int32} {io_firstBreaks : Int32} {io_bestCrew : Int32} {io_sights : Int32} {io_wayMany : Int32} {io_random : Int32} {co_age : Nat → Int32} {co_skill : Nat → Int32} {co_friend : Nat → Int32} {co_gets : Nat → Int32} {cp1 : Nat → Int32} {x2 : Int32} {res : Int32 × (Nat → Int32) × (Nat → Int32)} (C : axC X l D Y cX12_spellGoes 4 RX12 wsX12_spellGoes rmX12_spellGoes none) (hQ : axQ X 0 0 (fun r9 w9 => r9 = none ∧ w9 = [oX12 ao io_thrown io_rows io_cells io_children io_changes io_taped io_at io_to io_nest io_readMany io_codeLong io_readLong io_undos res.1 io_tideLevel io_acts io_firstBreaks io_bestCrew io_sights io_wayMany io_random, rI Y (ao 4) 8 co_age, rI Y (ao 5) 8 co_skill, rI Y (ao 6) 8 co_friend, rI Y (ao 17) 12 res.2.1, rI Y qp1 43 res.2.2])) {k25 : (Nat → Int32) × Int32 → Option (Int32 × (Nat → Int32) × (Nat → Int32))} (hk25 : ∀ s : (Nat → Int32) × Int32, k25 s = some res → ax X 0 0 25 [some (.ref (ao 0)), some (.ref qp1), some (.int s.2), none] [oX12 ao io_thrown io_rows io_cells io_children io_changes io_taped io_at io_to io_nest io_readMany io_codeLong io_readLong io_undos io_wentHome io_tideLevel io_acts io_firstBreaks io_bestCrew io_sights io_wayMany io_random, rI Y (ao 4) 8 co_age, rI Y (ao 5) 8 co_skill, rI Y (ao 6) 8 co_friend, rI Y (ao 17) 12 s.1, rI Y qp1 43 cp1] []) (hf : fX12_spellGoes_l25 io_cells io_children io_wentHome co_age co_skill co_friend cp1 k25 co_gets x2 = some res) : ax X 0 0 25 [some (.ref (ao 0)), some (.ref qp1), some (.int x2), none] [oX12 ao io_thrown io_rows io_cells io_children io_changes io_taped io_at io_to io_nest io_readMany io_codeLong io_readLong io_undos io_wentHome io_tideLevel io_acts io_firstBreaks io_bestCrew io_sights io_wayMany io_random, rI Y (ao 4) 8 co_age, rI Y (ao 5) 8 co_skill, rI Y (ao 6) 8 co_friend, rI Y (ao 17) 12 co_gets, rI Y qp1 43 cp1] [] := by
  unfold fX12_spellGoes_l25 at hf
  refine a_iload_n C dX12_spellGoes_25 rfl ?_
  refine a_aload_n C dX12_spellGoes_26 rfl ?_
  refine a_get C (eB_X12_126 _) dX12_spellGoes_27 0 rfl rfl ?_
  refine a_icmp_ge C 66 dX12_spellGoes_30 (by decide) (fun h9 => ?_) (fun h9 => ?_)
  · have hf := fx_t h9 hf
    refine a_kill [2] ?_
    exact kX12_spellGoes_b66 C hQ hf
  · have hf := fx_f h9 hf
    refine a_aload_n C dX12_spellGoes_33 rfl ?_
    refine a_iload_n C dX12_spellGoes_34 rfl ?_
    obtain ⟨r10, h10, hf⟩ := fx_bind hf
    refine a_fS C (kX12_atOf l D Y qp1 cp1 x2 r10 h10) (gB_X12_129 _) rfl dvX12_atOf ⟨⟨rfl, rfl⟩, ⟨Nat.le_of_ble_eq_true rfl, Nat.le_of_ble_eq_true rfl⟩, ⟨Nat.le_of_ble_eq_true rfl, Nat.le_of_ble_eq_true rfl⟩⟩ rfl (Nat.le_of_ble_eq_true rfl) dX12_spellGoes_35 [5] [0, 1, 2, 3, 4] ⟨rfl, trivial⟩ (by decide +kernel) rfl [oX12 ao io_thrown io_rows io_cells io_children io_changes io_taped io_at io_to io_nest io_readMany io_codeLong io_readLong io_undos io_wentHome io_tideLevel io_acts io_firstBreaks io_bestCrew io_sights io_wayMany io_random, rI Y (ao 4) 8 co_age, rI Y (ao 5) 8 co_skill, rI Y (ao 6) 8 co_friend, rI Y (ao 17) 12 co_gets, rI Y qp1 43 cp1] ⟨rfl, trivial⟩ ⟨rfl, rfl, rfl, rfl, rfl, trivial⟩ 6 rfl (by decide +kernel) ?_
    refine a_if_lt C 60 dX12_spellGoes_38 (by decide) (fun h11 => ?_) (fun h11 => ?_)
    · have hf := fx_t h11 hf
      exact kX12_spellGoes_b60 C hQ hk25 hf
    · have hf := fx_f h11 hf
      refine a_aload_n C dX12_spellGoes_41 rfl ?_
      refine a_get C (eB_X12_63 _) dX12_spellGoes_42 0 rfl rfl ?_
      refine a_aload_n C dX12_spellGoes_45 rfl ?_
      refine a_iload_n C dX12_spellGoes_46 rfl ?_
      obtain ⟨r12, h12, hf⟩ := fx_bind hf
      refine a_fS C (kX12_atOf l D Y qp1 cp1 x2 r12 h12) (gB_X12_129 _) rfl dvX12_atOf ⟨⟨rfl, rfl⟩, ⟨Nat.le_of_ble_eq_true rfl, Nat.le_of_ble_eq_true rfl⟩, ⟨Nat.le_of_ble_eq_true rfl, Nat.le_of_ble_eq_true rfl⟩⟩ rfl (Nat.le_of_ble_eq_true rfl) dX12_spellGoes_47 [5] [0, 1, 2, 3, 4] ⟨rfl, trivial⟩ (by decide +kernel) rfl [oX12 ao io_thrown io_rows io_cells io_children io_changes io_taped io_at io_to io_nest io_readMany io_codeLong io_readLong io_undos io_wentHome io_tideLevel io_acts io_firstBreaks io_bestCrew io_sights io_wayMany io_random, rI Y (ao 4) 8 co_age, rI Y (ao 5) 8 co_skill, rI Y (ao 6) 8 co_friend, rI Y (ao 17) 12 co_gets, rI Y qp1 43 cp1] ⟨rfl, trivial⟩ ⟨rfl, rfl, rfl, rfl, rfl, trivial⟩ 6 rfl (by decide +kernel) ?_
      refine a_dup2 C dX12_spellGoes_50 rfl rfl ?_
      obtain ⟨h13, hf⟩ := fx_ite hf
      refine a_iald C dX12_spellGoes_51 4 rfl h13 ?_
      refine a_aload_n C dX12_spellGoes_52 rfl ?_
      refine a_aload_n C dX12_spellGoes_53 rfl ?_
      refine a_iload_n C dX12_spellGoes_54 rfl ?_
      obtain ⟨r14, h14, hf⟩ := fx_bind hf
      refine a_fV C (kX12_bucketsOf l D Y ao qp1 io_thrown io_rows io_cells io_children io_changes io_taped io_at io_to io_nest io_readMany io_codeLong io_readLong io_undos io_wentHome io_tideLevel io_acts io_firstBreaks io_bestCrew io_sights io_wayMany io_random co_age co_skill co_friend cp1 x2 r14 h14) (gB_X12_297 _) rfl dvX12_bucketsOf ⟨⟨rfl, rfl⟩, ⟨Nat.le_of_ble_eq_true rfl, Nat.le_of_ble_eq_true rfl⟩, ⟨Nat.le_of_ble_eq_true rfl, Nat.le_of_ble_eq_true rfl⟩⟩ rfl (Nat.le_of_ble_eq_true rfl) dX12_spellGoes_55 rfl rfl [0, 1, 2, 3, 5] [4] ⟨rfl, rfl, rfl, rfl, rfl, trivial⟩ (by decide +kernel) rfl [oX12 ao io_thrown io_rows io_cells io_children io_changes io_taped io_at io_to io_nest io_readMany io_codeLong io_readLong io_undos io_wentHome io_tideLevel io_acts io_firstBreaks io_bestCrew io_sights io_wayMany io_random, rI Y (ao 4) 8 co_age, rI Y (ao 5) 8 co_skill, rI Y (ao 6) 8 co_friend, rI Y (ao 17) 12 co_gets, rI Y qp1 43 cp1] ⟨rfl, rfl, rfl, rfl, rfl, trivial⟩ ⟨rfl, trivial⟩ 6 rfl (by decide +kernel) ?_
      refine a_iadd C dX12_spellGoes_58 ?_
      refine a_iast C dX12_spellGoes_59 4 rfl h13 ?_
      exact kX12_spellGoes_b60 C hQ hk25 hf
set_option maxHeartbeats 400000 in
set_option maxRecDepth 100000 in
theorem kX12_spellGoes_b25 {X : cxT} {l : Launch} {D : va_G} {Y : Nat → ClassId} {ao : Nat → Nat} {qp1 : Nat} {io_thrown : Int32} {io_rows : Int32} {io_cells : Int32} {io_children : Int32} {io_changes : Int32} {io_taped : Int32} {io_at : Int32} {io_to : Int32} {io_nest : Int32} {io_readMany : Int32} {io_codeLong : Int32} {io_readLong : Int32} {io_undos : Int32} {io_wentHome : Int32} {io_tideLevel : Int32} {io_acts : Int32} {io_firstBreaks : Int32} {io_bestCrew : Int32} {io_sights : Int32} {io_wayMany : Int32} {io_random : Int32} {co_age : Nat → Int32} {co_skill : Nat → Int32} {co_friend : Nat → Int32} {co_gets : Nat → Int32} {cp1 : Nat → Int32} {x2 : Int32} {res : Int32 × (Nat → Int32) × (Nat → Int32)} (C : axC X l D Y cX12_spellGoes 4 RX12 wsX12_spellGoes rmX12_spellGoes none) (hQ : axQ X 0 0 (fun r9 w9 => r9 = none ∧ w9 = [oX12 ao io_thrown io_rows io_cells io_children io_changes io_taped io_at io_to io_nest io_readMany io_codeLong io_readLong io_undos res.1 io_tideLevel io_acts io_firstBreaks io_bestCrew io_sights io_wayMany io_random, rI Y (ao 4) 8 co_age, rI Y (ao 5) 8 co_skill, rI Y (ao 6) 8 co_friend, rI Y (ao 17) 12 res.2.1, rI Y qp1 43 res.2.2])) (hf : fX12_spellGoes_b25 io_cells io_children io_wentHome co_age co_skill co_friend co_gets cp1 x2 = some res) : ax X 0 0 25 [some (.ref (ao 0)), some (.ref qp1), some (.int x2), none] [oX12 ao io_thrown io_rows io_cells io_children io_changes io_taped io_at io_to io_nest io_readMany io_codeLong io_readLong io_undos io_wentHome io_tideLevel io_acts io_firstBreaks io_bestCrew io_sights io_wayMany io_random, rI Y (ao 4) 8 co_age, rI Y (ao 5) 8 co_skill, rI Y (ao 6) 8 co_friend, rI Y (ao 17) 12 co_gets, rI Y qp1 43 cp1] [] := by
  unfold fX12_spellGoes_b25 at hf
  exact fx_loop (P := fun s : (Nat → Int32) × Int32 => ax X 0 0 25 [some (.ref (ao 0)), some (.ref qp1), some (.int s.2), none] [oX12 ao io_thrown io_rows io_cells io_children io_changes io_taped io_at io_to io_nest io_readMany io_codeLong io_readLong io_undos io_wentHome io_tideLevel io_acts io_firstBreaks io_bestCrew io_sights io_wayMany io_random, rI Y (ao 4) 8 co_age, rI Y (ao 5) 8 co_skill, rI Y (ao 6) 8 co_friend, rI Y (ao 17) 12 s.1, rI Y qp1 43 cp1] []) (fun s k25 hk25 h => kX12_spellGoes_l25 C hQ hk25 h) FUEL (co_gets, x2) hf
def fX12_spellGoes_b23 (io_cells : Int32) (io_children : Int32) (io_wentHome : Int32) (co_age : Nat → Int32) (co_skill : Nat → Int32) (co_friend : Nat → Int32) (co_gets : Nat → Int32) (cp1 : Nat → Int32) : Option (Int32 × (Nat → Int32) × (Nat → Int32)) :=
  fX12_spellGoes_b25 io_cells io_children io_wentHome co_age co_skill co_friend co_gets cp1 (0 : Int32)
set_option maxHeartbeats 400000 in
set_option maxRecDepth 100000 in
theorem kX12_spellGoes_b23 {X : cxT} {l : Launch} {D : va_G} {Y : Nat → ClassId} {ao : Nat → Nat} {qp1 : Nat} {io_thrown : Int32} {io_rows : Int32} {io_cells : Int32} {io_children : Int32} {io_changes : Int32} {io_taped : Int32} {io_at : Int32} {io_to : Int32} {io_nest : Int32} {io_readMany : Int32} {io_codeLong : Int32} {io_readLong : Int32} {io_undos : Int32} {io_wentHome : Int32} {io_tideLevel : Int32} {io_acts : Int32} {io_firstBreaks : Int32} {io_bestCrew : Int32} {io_sights : Int32} {io_wayMany : Int32} {io_random : Int32} {co_age : Nat → Int32} {co_skill : Nat → Int32} {co_friend : Nat → Int32} {co_gets : Nat → Int32} {cp1 : Nat → Int32} {res : Int32 × (Nat → Int32) × (Nat → Int32)} (C : axC X l D Y cX12_spellGoes 4 RX12 wsX12_spellGoes rmX12_spellGoes none) (hQ : axQ X 0 0 (fun r9 w9 => r9 = none ∧ w9 = [oX12 ao io_thrown io_rows io_cells io_children io_changes io_taped io_at io_to io_nest io_readMany io_codeLong io_readLong io_undos res.1 io_tideLevel io_acts io_firstBreaks io_bestCrew io_sights io_wayMany io_random, rI Y (ao 4) 8 co_age, rI Y (ao 5) 8 co_skill, rI Y (ao 6) 8 co_friend, rI Y (ao 17) 12 res.2.1, rI Y qp1 43 res.2.2])) (hf : fX12_spellGoes_b23 io_cells io_children io_wentHome co_age co_skill co_friend co_gets cp1 = some res) : ax X 0 0 23 [some (.ref (ao 0)), some (.ref qp1), none, none] [oX12 ao io_thrown io_rows io_cells io_children io_changes io_taped io_at io_to io_nest io_readMany io_codeLong io_readLong io_undos io_wentHome io_tideLevel io_acts io_firstBreaks io_bestCrew io_sights io_wayMany io_random, rI Y (ao 4) 8 co_age, rI Y (ao 5) 8 co_skill, rI Y (ao 6) 8 co_friend, rI Y (ao 17) 12 co_gets, rI Y qp1 43 cp1] [] := by
  unfold fX12_spellGoes_b23 at hf
  refine a_iconst C (0 : Int32) dX12_spellGoes_23 (by decide) ?_
  refine a_istore_n C dX12_spellGoes_24 (by decide) rfl ?_
  exact kX12_spellGoes_b25 C hQ hf
def fX12_spellGoes_l2 (io_cells : Int32) (io_children : Int32) (io_wentHome : Int32) (co_age : Nat → Int32) (co_skill : Nat → Int32) (co_friend : Nat → Int32) (cp1 : Nat → Int32) (k2 : (Nat → Int32) × Int32 → Option (Int32 × (Nat → Int32) × (Nat → Int32))) (co_gets : Nat → Int32) (x2 : Int32) : Option (Int32 × (Nat → Int32) × (Nat → Int32)) :=
  if io_cells ≤ x2 then (fX12_spellGoes_b23 io_cells io_children io_wentHome co_age co_skill co_friend co_gets cp1) else (if inb x2 12 then k2 ((upd co_gets (Int32.toNatClampNeg x2) (0 : Int32)), (x2 + (1 : Int32))) else none)
def fX12_spellGoes_b2 (io_cells : Int32) (io_children : Int32) (io_wentHome : Int32) (co_age : Nat → Int32) (co_skill : Nat → Int32) (co_friend : Nat → Int32) (co_gets : Nat → Int32) (cp1 : Nat → Int32) (x2 : Int32) : Option (Int32 × (Nat → Int32) × (Nat → Int32)) :=
  loopN (fun (s : (Nat → Int32) × Int32) k2 => fX12_spellGoes_l2 io_cells io_children io_wentHome co_age co_skill co_friend cp1 k2 s.1 s.2) FUEL (co_gets, x2)
set_option maxHeartbeats 400000 in
set_option maxRecDepth 100000 in
theorem kX12_spellGoes_l2 {X : cxT} {l : Launch} {D : va_G} {Y : Nat → ClassId} {ao : Nat → Nat} {qp1 : Nat} {io_thrown : Int32} {io_rows : Int32} {io_cells : Int32} {io_children : Int32} {io_changes : Int32} {io_taped : Int32} {io_at : Int32} {io_to : Int32} {io_nest : Int32} {io_readMany : Int32} {io_codeLong : Int32} {io_readLong : Int32} {io_undos : Int32} {io_wentHome : Int32} {io_tideLevel : Int32} {io_acts : Int32} {io_firstBreaks : Int32} {io_bestCrew : Int32} {io_sights : Int32} {io_wayMany : Int32} {io_random : Int32} {co_age : Nat → Int32} {co_skill : Nat → Int32} {co_friend : Nat → Int32} {co_gets : Nat → Int32} {cp1 : Nat → Int32} {x2 : Int32} {res : Int32 × (Nat → Int32) × (Nat → Int32)} (C : axC X l D Y cX12_spellGoes 4 RX12 wsX12_spellGoes rmX12_spellGoes none) (hQ : axQ X 0 0 (fun r9 w9 => r9 = none ∧ w9 = [oX12 ao io_thrown io_rows io_cells io_children io_changes io_taped io_at io_to io_nest io_readMany io_codeLong io_readLong io_undos res.1 io_tideLevel io_acts io_firstBreaks io_bestCrew io_sights io_wayMany io_random, rI Y (ao 4) 8 co_age, rI Y (ao 5) 8 co_skill, rI Y (ao 6) 8 co_friend, rI Y (ao 17) 12 res.2.1, rI Y qp1 43 res.2.2])) {k2 : (Nat → Int32) × Int32 → Option (Int32 × (Nat → Int32) × (Nat → Int32))} (hk2 : ∀ s : (Nat → Int32) × Int32, k2 s = some res → ax X 0 0 2 [some (.ref (ao 0)), some (.ref qp1), some (.int s.2), none] [oX12 ao io_thrown io_rows io_cells io_children io_changes io_taped io_at io_to io_nest io_readMany io_codeLong io_readLong io_undos io_wentHome io_tideLevel io_acts io_firstBreaks io_bestCrew io_sights io_wayMany io_random, rI Y (ao 4) 8 co_age, rI Y (ao 5) 8 co_skill, rI Y (ao 6) 8 co_friend, rI Y (ao 17) 12 s.1, rI Y qp1 43 cp1] []) (hf : fX12_spellGoes_l2 io_cells io_children io_wentHome co_age co_skill co_friend cp1 k2 co_gets x2 = some res) : ax X 0 0 2 [some (.ref (ao 0)), some (.ref qp1), some (.int x2), none] [oX12 ao io_thrown io_rows io_cells io_children io_changes io_taped io_at io_to io_nest io_readMany io_codeLong io_readLong io_undos io_wentHome io_tideLevel io_acts io_firstBreaks io_bestCrew io_sights io_wayMany io_random, rI Y (ao 4) 8 co_age, rI Y (ao 5) 8 co_skill, rI Y (ao 6) 8 co_friend, rI Y (ao 17) 12 co_gets, rI Y qp1 43 cp1] [] := by
  unfold fX12_spellGoes_l2 at hf
  refine a_iload_n C dX12_spellGoes_2 rfl ?_
  refine a_aload_n C dX12_spellGoes_3 rfl ?_
  refine a_get C (eB_X12_13 _) dX12_spellGoes_4 0 rfl rfl ?_
  refine a_icmp_ge C 23 dX12_spellGoes_7 (by decide) (fun h15 => ?_) (fun h15 => ?_)
  · have hf := fx_t h15 hf
    refine a_kill [2] ?_
    exact kX12_spellGoes_b23 C hQ hf
  · have hf := fx_f h15 hf
    refine a_aload_n C dX12_spellGoes_10 rfl ?_
    refine a_get C (eB_X12_63 _) dX12_spellGoes_11 0 rfl rfl ?_
    refine a_iload_n C dX12_spellGoes_14 rfl ?_
    refine a_iconst C (0 : Int32) dX12_spellGoes_15 (by decide) ?_
    obtain ⟨h16, hf⟩ := fx_ite hf
    refine a_iast C dX12_spellGoes_16 4 rfl h16 ?_
    refine a_iinc C (1 : Int32) dX12_spellGoes_17 (by decide) rfl (by decide) rfl ?_
    refine a_goto C 2 dX12_spellGoes_20 (by decide) ?_
    exact hk2 ((upd co_gets (Int32.toNatClampNeg x2) (0 : Int32)), (x2 + (1 : Int32))) hf
set_option maxHeartbeats 400000 in
set_option maxRecDepth 100000 in
theorem kX12_spellGoes_b2 {X : cxT} {l : Launch} {D : va_G} {Y : Nat → ClassId} {ao : Nat → Nat} {qp1 : Nat} {io_thrown : Int32} {io_rows : Int32} {io_cells : Int32} {io_children : Int32} {io_changes : Int32} {io_taped : Int32} {io_at : Int32} {io_to : Int32} {io_nest : Int32} {io_readMany : Int32} {io_codeLong : Int32} {io_readLong : Int32} {io_undos : Int32} {io_wentHome : Int32} {io_tideLevel : Int32} {io_acts : Int32} {io_firstBreaks : Int32} {io_bestCrew : Int32} {io_sights : Int32} {io_wayMany : Int32} {io_random : Int32} {co_age : Nat → Int32} {co_skill : Nat → Int32} {co_friend : Nat → Int32} {co_gets : Nat → Int32} {cp1 : Nat → Int32} {x2 : Int32} {res : Int32 × (Nat → Int32) × (Nat → Int32)} (C : axC X l D Y cX12_spellGoes 4 RX12 wsX12_spellGoes rmX12_spellGoes none) (hQ : axQ X 0 0 (fun r9 w9 => r9 = none ∧ w9 = [oX12 ao io_thrown io_rows io_cells io_children io_changes io_taped io_at io_to io_nest io_readMany io_codeLong io_readLong io_undos res.1 io_tideLevel io_acts io_firstBreaks io_bestCrew io_sights io_wayMany io_random, rI Y (ao 4) 8 co_age, rI Y (ao 5) 8 co_skill, rI Y (ao 6) 8 co_friend, rI Y (ao 17) 12 res.2.1, rI Y qp1 43 res.2.2])) (hf : fX12_spellGoes_b2 io_cells io_children io_wentHome co_age co_skill co_friend co_gets cp1 x2 = some res) : ax X 0 0 2 [some (.ref (ao 0)), some (.ref qp1), some (.int x2), none] [oX12 ao io_thrown io_rows io_cells io_children io_changes io_taped io_at io_to io_nest io_readMany io_codeLong io_readLong io_undos io_wentHome io_tideLevel io_acts io_firstBreaks io_bestCrew io_sights io_wayMany io_random, rI Y (ao 4) 8 co_age, rI Y (ao 5) 8 co_skill, rI Y (ao 6) 8 co_friend, rI Y (ao 17) 12 co_gets, rI Y qp1 43 cp1] [] := by
  unfold fX12_spellGoes_b2 at hf
  exact fx_loop (P := fun s : (Nat → Int32) × Int32 => ax X 0 0 2 [some (.ref (ao 0)), some (.ref qp1), some (.int s.2), none] [oX12 ao io_thrown io_rows io_cells io_children io_changes io_taped io_at io_to io_nest io_readMany io_codeLong io_readLong io_undos io_wentHome io_tideLevel io_acts io_firstBreaks io_bestCrew io_sights io_wayMany io_random, rI Y (ao 4) 8 co_age, rI Y (ao 5) 8 co_skill, rI Y (ao 6) 8 co_friend, rI Y (ao 17) 12 s.1, rI Y qp1 43 cp1] []) (fun s k2 hk2 h => kX12_spellGoes_l2 C hQ hk2 h) FUEL (co_gets, x2) hf
def fX12_spellGoes (io_cells : Int32) (io_children : Int32) (io_wentHome : Int32) (co_age : Nat → Int32) (co_skill : Nat → Int32) (co_friend : Nat → Int32) (co_gets : Nat → Int32) (cp1 : Nat → Int32) : Option (Int32 × (Nat → Int32) × (Nat → Int32)) :=
  fX12_spellGoes_b2 io_cells io_children io_wentHome co_age co_skill co_friend co_gets cp1 (0 : Int32)
set_option maxHeartbeats 400000 in
set_option maxRecDepth 100000 in
theorem kX12_spellGoes (l : Launch) (D : va_G) (Y : Nat → ClassId) (ao : Nat → Nat) (qp1 : Nat) (io_thrown : Int32) (io_rows : Int32) (io_cells : Int32) (io_children : Int32) (io_changes : Int32) (io_taped : Int32) (io_at : Int32) (io_to : Int32) (io_nest : Int32) (io_readMany : Int32) (io_codeLong : Int32) (io_readLong : Int32) (io_undos : Int32) (io_wentHome : Int32) (io_tideLevel : Int32) (io_acts : Int32) (io_firstBreaks : Int32) (io_bestCrew : Int32) (io_sights : Int32) (io_wayMany : Int32) (io_random : Int32) (co_age : Nat → Int32) (co_skill : Nat → Int32) (co_friend : Nat → Int32) (co_gets : Nat → Int32) (cp1 : Nat → Int32) (res : Int32 × (Nat → Int32) × (Nat → Int32)) (hf : fX12_spellGoes io_cells io_children io_wentHome co_age co_skill co_friend co_gets cp1 = some res) : amf l D Y yX12_spellGoes wsX12_spellGoes rmX12_spellGoes [.ref (ao 0), .ref qp1] [oX12 ao io_thrown io_rows io_cells io_children io_changes io_taped io_at io_to io_nest io_readMany io_codeLong io_readLong io_undos io_wentHome io_tideLevel io_acts io_firstBreaks io_bestCrew io_sights io_wayMany io_random, rI Y (ao 4) 8 co_age, rI Y (ao 5) 8 co_skill, rI Y (ao 6) 8 co_friend, rI Y (ao 17) 12 co_gets, rI Y qp1 43 cp1] none [oX12 ao io_thrown io_rows io_cells io_children io_changes io_taped io_at io_to io_nest io_readMany io_codeLong io_readLong io_undos res.1 io_tideLevel io_acts io_firstBreaks io_bestCrew io_sights io_wayMany io_random, rI Y (ao 4) 8 co_age, rI Y (ao 5) 8 co_skill, rI Y (ao 6) 8 co_friend, rI Y (ao 17) 12 res.2.1, rI Y qp1 43 res.2.2] := by
  refine amf.of (cc := cX12_spellGoes) (maxL := 4) (rt := none) (by decide) rfl RX12 rfl (Nat.le_of_ble_eq_true rfl) [some (.ref (ao 0)), some (.ref qp1), none, none] rfl ?_
  intro X C hQ
  unfold fX12_spellGoes at hf
  refine a_iconst C (0 : Int32) dX12_spellGoes_0 (by decide) ?_
  refine a_istore_n C dX12_spellGoes_1 (by decide) rfl ?_
  exact kX12_spellGoes_b2 C hQ hf
