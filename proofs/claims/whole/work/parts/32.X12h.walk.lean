-- X12_ways
abbrev rmX12_ways : Room := { frames := 26, cells := 0, slots := 0, locals := 559 }
theorem dvX12_ways : yX12_ways.cls = RX12 ∧ yX12_ways.cls ≠ "java/lang/invoke/MethodHandle" ∧ yX12_ways.cls ≠ "java/lang/invoke/VarHandle" ∧ (parseMethodDescriptor yX12_ways.desc).map (fun d => d.parameters.length) = some 0 := by decide +kernel
def fX12_ways_b48 (io_thrown : Int32) (io_rows : Int32) (io_cells : Int32) (io_children : Int32) (io_sights : Int32) (io_wayMany : Int32) (co_row : Nat → Int64) (co_skill : Nat → Int32) (co_sightOf : Nat → Int32) (co_built : Nat → Int32) (co_place : Nat → Int32) (co_firstPlace : Nat → Int32) (co_canBe : Nat → Int32) : Option (Int32 × Int32 × Int32 × Int32 × (Nat → Int64) × (Nat → Int32) × (Nat → Int32) × (Nat → Int32) × (Nat → Int32)) :=
  some (io_wayMany, io_thrown, io_rows, io_wayMany, co_row, co_built, co_place, co_firstPlace, co_canBe)
set_option maxHeartbeats 400000 in
set_option maxRecDepth 100000 in
theorem kX12_ways_b48 {X : cxT} {l : Launch} {D : va_G} {Y : Nat → ClassId} {ao : Nat → Nat} {io_thrown : Int32} {io_rows : Int32} {io_cells : Int32} {io_children : Int32} {io_changes : Int32} {io_taped : Int32} {io_at : Int32} {io_to : Int32} {io_nest : Int32} {io_readMany : Int32} {io_codeLong : Int32} {io_readLong : Int32} {io_undos : Int32} {io_wentHome : Int32} {io_tideLevel : Int32} {io_acts : Int32} {io_firstBreaks : Int32} {io_bestCrew : Int32} {io_sights : Int32} {io_wayMany : Int32} {io_random : Int32} {co_row : Nat → Int64} {co_skill : Nat → Int32} {co_sightOf : Nat → Int32} {co_built : Nat → Int32} {co_place : Nat → Int32} {co_firstPlace : Nat → Int32} {co_canBe : Nat → Int32} {res : Int32 × Int32 × Int32 × Int32 × (Nat → Int64) × (Nat → Int32) × (Nat → Int32) × (Nat → Int32) × (Nat → Int32)} (C : axC X l D Y cX12_ways 2 RX12 wsX12_ways rmX12_ways (some .int)) (hQ : axQ X 0 0 (fun r9 w9 => r9 = (some (.int res.1)) ∧ w9 = [oX12 ao res.2.1 res.2.2.1 io_cells io_children io_changes io_taped io_at io_to io_nest io_readMany io_codeLong io_readLong io_undos io_wentHome io_tideLevel io_acts io_firstBreaks io_bestCrew io_sights res.2.2.2.1 io_random, rJ Y (ao 1) 24 res.2.2.2.2.1, rI Y (ao 5) 8 co_skill, rI Y (ao 25) 12 co_sightOf, rI Y (ao 26) 12 res.2.2.2.2.2.1, rI Y (ao 27) 8 res.2.2.2.2.2.2.1, rI Y (ao 28) 8 res.2.2.2.2.2.2.2.1, rI Y (ao 29) 8 res.2.2.2.2.2.2.2.2])) (hf : fX12_ways_b48 io_thrown io_rows io_cells io_children io_sights io_wayMany co_row co_skill co_sightOf co_built co_place co_firstPlace co_canBe = some res) : ax X 0 0 48 [some (.ref (ao 0)), none] [oX12 ao io_thrown io_rows io_cells io_children io_changes io_taped io_at io_to io_nest io_readMany io_codeLong io_readLong io_undos io_wentHome io_tideLevel io_acts io_firstBreaks io_bestCrew io_sights io_wayMany io_random, rJ Y (ao 1) 24 co_row, rI Y (ao 5) 8 co_skill, rI Y (ao 25) 12 co_sightOf, rI Y (ao 26) 12 co_built, rI Y (ao 27) 8 co_place, rI Y (ao 28) 8 co_firstPlace, rI Y (ao 29) 8 co_canBe] [] := by
  unfold fX12_ways_b48 at hf
  refine a_aload_n C dX12_ways_48 rfl ?_
  refine a_get C (eB_X12_436 _) dX12_ways_49 0 rfl rfl ?_
  obtain rfl := fx_some hf
  exact a_iret C hQ dX12_ways_52 ⟨rfl, rfl⟩
def fX12_ways_l16 (io_thrown : Int32) (io_cells : Int32) (io_children : Int32) (io_sights : Int32) (io_wayMany : Int32) (co_skill : Nat → Int32) (co_sightOf : Nat → Int32) (co_built : Nat → Int32) (co_place : Nat → Int32) (co_firstPlace : Nat → Int32) (co_canBe : Nat → Int32) (k16 : Int32 × (Nat → Int64) × Int32 → Option (Int32 × Int32 × Int32 × Int32 × (Nat → Int64) × (Nat → Int32) × (Nat → Int32) × (Nat → Int32) × (Nat → Int32))) (io_rows : Int32) (co_row : Nat → Int64) (x1 : Int32) : Option (Int32 × Int32 × Int32 × Int32 × (Nat → Int64) × (Nat → Int32) × (Nat → Int32) × (Nat → Int32) × (Nat → Int32)) :=
  if io_children ≤ x1 then (fX12_ways_b48 io_thrown io_rows io_cells io_children io_sights io_wayMany co_row co_skill co_sightOf co_built co_place co_firstPlace co_canBe) else (if io_wayMany ≤ (0 : Int32) then (fX12_ways_b48 io_thrown io_rows io_cells io_children io_sights io_wayMany co_row co_skill co_sightOf co_built co_place co_firstPlace co_canBe) else (if inb x1 8 then (fX12_enters io_rows co_row ((co_firstPlace (Int32.toNatClampNeg x1)).toInt64)).bind (fun r4 => k16 (r4.1, r4.2, (x1 + (1 : Int32)))) else none))
def fX12_ways_b16 (io_thrown : Int32) (io_rows : Int32) (io_cells : Int32) (io_children : Int32) (io_sights : Int32) (io_wayMany : Int32) (co_row : Nat → Int64) (co_skill : Nat → Int32) (co_sightOf : Nat → Int32) (co_built : Nat → Int32) (co_place : Nat → Int32) (co_firstPlace : Nat → Int32) (co_canBe : Nat → Int32) (x1 : Int32) : Option (Int32 × Int32 × Int32 × Int32 × (Nat → Int64) × (Nat → Int32) × (Nat → Int32) × (Nat → Int32) × (Nat → Int32)) :=
  loopN (fun (s : Int32 × (Nat → Int64) × Int32) k16 => fX12_ways_l16 io_thrown io_cells io_children io_sights io_wayMany co_skill co_sightOf co_built co_place co_firstPlace co_canBe k16 s.1 s.2.1 s.2.2) FUEL (io_rows, co_row, x1)
set_option maxHeartbeats 400000 in
set_option maxRecDepth 100000 in
theorem kX12_ways_l16 {X : cxT} {l : Launch} {D : va_G} {Y : Nat → ClassId} {ao : Nat → Nat} {io_thrown : Int32} {io_rows : Int32} {io_cells : Int32} {io_children : Int32} {io_changes : Int32} {io_taped : Int32} {io_at : Int32} {io_to : Int32} {io_nest : Int32} {io_readMany : Int32} {io_codeLong : Int32} {io_readLong : Int32} {io_undos : Int32} {io_wentHome : Int32} {io_tideLevel : Int32} {io_acts : Int32} {io_firstBreaks : Int32} {io_bestCrew : Int32} {io_sights : Int32} {io_wayMany : Int32} {io_random : Int32} {co_row : Nat → Int64} {co_skill : Nat → Int32} {co_sightOf : Nat → Int32} {co_built : Nat → Int32} {co_place : Nat → Int32} {co_firstPlace : Nat → Int32} {co_canBe : Nat → Int32} {x1 : Int32} {res : Int32 × Int32 × Int32 × Int32 × (Nat → Int64) × (Nat → Int32) × (Nat → Int32) × (Nat → Int32) × (Nat → Int32)} (C : axC X l D Y cX12_ways 2 RX12 wsX12_ways rmX12_ways (some .int)) (hQ : axQ X 0 0 (fun r9 w9 => r9 = (some (.int res.1)) ∧ w9 = [oX12 ao res.2.1 res.2.2.1 io_cells io_children io_changes io_taped io_at io_to io_nest io_readMany io_codeLong io_readLong io_undos io_wentHome io_tideLevel io_acts io_firstBreaks io_bestCrew io_sights res.2.2.2.1 io_random, rJ Y (ao 1) 24 res.2.2.2.2.1, rI Y (ao 5) 8 co_skill, rI Y (ao 25) 12 co_sightOf, rI Y (ao 26) 12 res.2.2.2.2.2.1, rI Y (ao 27) 8 res.2.2.2.2.2.2.1, rI Y (ao 28) 8 res.2.2.2.2.2.2.2.1, rI Y (ao 29) 8 res.2.2.2.2.2.2.2.2])) {k16 : Int32 × (Nat → Int64) × Int32 → Option (Int32 × Int32 × Int32 × Int32 × (Nat → Int64) × (Nat → Int32) × (Nat → Int32) × (Nat → Int32) × (Nat → Int32))} (hk16 : ∀ s : Int32 × (Nat → Int64) × Int32, k16 s = some res → ax X 0 0 16 [some (.ref (ao 0)), some (.int s.2.2)] [oX12 ao io_thrown s.1 io_cells io_children io_changes io_taped io_at io_to io_nest io_readMany io_codeLong io_readLong io_undos io_wentHome io_tideLevel io_acts io_firstBreaks io_bestCrew io_sights io_wayMany io_random, rJ Y (ao 1) 24 s.2.1, rI Y (ao 5) 8 co_skill, rI Y (ao 25) 12 co_sightOf, rI Y (ao 26) 12 co_built, rI Y (ao 27) 8 co_place, rI Y (ao 28) 8 co_firstPlace, rI Y (ao 29) 8 co_canBe] []) (hf : fX12_ways_l16 io_thrown io_cells io_children io_sights io_wayMany co_skill co_sightOf co_built co_place co_firstPlace co_canBe k16 io_rows co_row x1 = some res) : ax X 0 0 16 [some (.ref (ao 0)), some (.int x1)] [oX12 ao io_thrown io_rows io_cells io_children io_changes io_taped io_at io_to io_nest io_readMany io_codeLong io_readLong io_undos io_wentHome io_tideLevel io_acts io_firstBreaks io_bestCrew io_sights io_wayMany io_random, rJ Y (ao 1) 24 co_row, rI Y (ao 5) 8 co_skill, rI Y (ao 25) 12 co_sightOf, rI Y (ao 26) 12 co_built, rI Y (ao 27) 8 co_place, rI Y (ao 28) 8 co_firstPlace, rI Y (ao 29) 8 co_canBe] [] := by
  unfold fX12_ways_l16 at hf
  refine a_iload_n C dX12_ways_16 rfl ?_
  refine a_aload_n C dX12_ways_17 rfl ?_
  refine a_get C (eB_X12_126 _) dX12_ways_18 0 rfl rfl ?_
  refine a_icmp_ge C 48 dX12_ways_21 (by decide) (fun h1 => ?_) (fun h1 => ?_)
  · have hf := fx_t h1 hf
    refine a_kill [1] ?_
    exact kX12_ways_b48 C hQ hf
  · have hf := fx_f h1 hf
    refine a_aload_n C dX12_ways_24 rfl ?_
    refine a_get C (eB_X12_436 _) dX12_ways_25 0 rfl rfl ?_
    refine a_if_le C 48 dX12_ways_28 (by decide) (fun h2 => ?_) (fun h2 => ?_)
    · have hf := fx_t h2 hf
      refine a_kill [1] ?_
      exact kX12_ways_b48 C hQ hf
    · have hf := fx_f h2 hf
      refine a_aload_n C dX12_ways_31 rfl ?_
      refine a_aload_n C dX12_ways_32 rfl ?_
      refine a_get C (eB_X12_96 _) dX12_ways_33 0 rfl rfl ?_
      refine a_iload_n C dX12_ways_36 rfl ?_
      obtain ⟨h3, hf⟩ := fx_ite hf
      refine a_iald C dX12_ways_37 6 rfl h3 ?_
      refine a_i2l C dX12_ways_38 ?_
      obtain ⟨r4, h4, hf⟩ := fx_bind hf
      refine a_fV C (kX12_enters l D Y ao io_thrown io_rows io_cells io_children io_changes io_taped io_at io_to io_nest io_readMany io_codeLong io_readLong io_undos io_wentHome io_tideLevel io_acts io_firstBreaks io_bestCrew io_sights io_wayMany io_random co_row ((co_firstPlace (Int32.toNatClampNeg x1)).toInt64) r4 h4) (gB_X12_359 _) rfl dvX12_enters ⟨⟨rfl, rfl⟩, ⟨Nat.le_of_ble_eq_true rfl, Nat.le_of_ble_eq_true rfl⟩, ⟨Nat.le_of_ble_eq_true rfl, Nat.le_of_ble_eq_true rfl⟩⟩ rfl (Nat.le_of_ble_eq_true rfl) dX12_ways_39 rfl rfl [0, 1] [2, 3, 4, 5, 6, 7] ⟨rfl, rfl, trivial⟩ (by decide +kernel) rfl [oX12 ao io_thrown r4.1 io_cells io_children io_changes io_taped io_at io_to io_nest io_readMany io_codeLong io_readLong io_undos io_wentHome io_tideLevel io_acts io_firstBreaks io_bestCrew io_sights io_wayMany io_random, rJ Y (ao 1) 24 r4.2, rI Y (ao 5) 8 co_skill, rI Y (ao 25) 12 co_sightOf, rI Y (ao 26) 12 co_built, rI Y (ao 27) 8 co_place, rI Y (ao 28) 8 co_firstPlace, rI Y (ao 29) 8 co_canBe] ⟨rfl, rfl, trivial⟩ ⟨rfl, rfl, rfl, rfl, rfl, rfl, trivial⟩ 8 rfl (by decide +kernel) ?_
      refine a_iinc C (1 : Int32) dX12_ways_42 (by decide) rfl (by decide) rfl ?_
      refine a_goto C 16 dX12_ways_45 (by decide) ?_
      exact hk16 (r4.1, r4.2, (x1 + (1 : Int32))) hf
set_option maxHeartbeats 400000 in
set_option maxRecDepth 100000 in
theorem kX12_ways_b16 {X : cxT} {l : Launch} {D : va_G} {Y : Nat → ClassId} {ao : Nat → Nat} {io_thrown : Int32} {io_rows : Int32} {io_cells : Int32} {io_children : Int32} {io_changes : Int32} {io_taped : Int32} {io_at : Int32} {io_to : Int32} {io_nest : Int32} {io_readMany : Int32} {io_codeLong : Int32} {io_readLong : Int32} {io_undos : Int32} {io_wentHome : Int32} {io_tideLevel : Int32} {io_acts : Int32} {io_firstBreaks : Int32} {io_bestCrew : Int32} {io_sights : Int32} {io_wayMany : Int32} {io_random : Int32} {co_row : Nat → Int64} {co_skill : Nat → Int32} {co_sightOf : Nat → Int32} {co_built : Nat → Int32} {co_place : Nat → Int32} {co_firstPlace : Nat → Int32} {co_canBe : Nat → Int32} {x1 : Int32} {res : Int32 × Int32 × Int32 × Int32 × (Nat → Int64) × (Nat → Int32) × (Nat → Int32) × (Nat → Int32) × (Nat → Int32)} (C : axC X l D Y cX12_ways 2 RX12 wsX12_ways rmX12_ways (some .int)) (hQ : axQ X 0 0 (fun r9 w9 => r9 = (some (.int res.1)) ∧ w9 = [oX12 ao res.2.1 res.2.2.1 io_cells io_children io_changes io_taped io_at io_to io_nest io_readMany io_codeLong io_readLong io_undos io_wentHome io_tideLevel io_acts io_firstBreaks io_bestCrew io_sights res.2.2.2.1 io_random, rJ Y (ao 1) 24 res.2.2.2.2.1, rI Y (ao 5) 8 co_skill, rI Y (ao 25) 12 co_sightOf, rI Y (ao 26) 12 res.2.2.2.2.2.1, rI Y (ao 27) 8 res.2.2.2.2.2.2.1, rI Y (ao 28) 8 res.2.2.2.2.2.2.2.1, rI Y (ao 29) 8 res.2.2.2.2.2.2.2.2])) (hf : fX12_ways_b16 io_thrown io_rows io_cells io_children io_sights io_wayMany co_row co_skill co_sightOf co_built co_place co_firstPlace co_canBe x1 = some res) : ax X 0 0 16 [some (.ref (ao 0)), some (.int x1)] [oX12 ao io_thrown io_rows io_cells io_children io_changes io_taped io_at io_to io_nest io_readMany io_codeLong io_readLong io_undos io_wentHome io_tideLevel io_acts io_firstBreaks io_bestCrew io_sights io_wayMany io_random, rJ Y (ao 1) 24 co_row, rI Y (ao 5) 8 co_skill, rI Y (ao 25) 12 co_sightOf, rI Y (ao 26) 12 co_built, rI Y (ao 27) 8 co_place, rI Y (ao 28) 8 co_firstPlace, rI Y (ao 29) 8 co_canBe] [] := by
  unfold fX12_ways_b16 at hf
  exact fx_loop (P := fun s : Int32 × (Nat → Int64) × Int32 => ax X 0 0 16 [some (.ref (ao 0)), some (.int s.2.2)] [oX12 ao io_thrown s.1 io_cells io_children io_changes io_taped io_at io_to io_nest io_readMany io_codeLong io_readLong io_undos io_wentHome io_tideLevel io_acts io_firstBreaks io_bestCrew io_sights io_wayMany io_random, rJ Y (ao 1) 24 s.2.1, rI Y (ao 5) 8 co_skill, rI Y (ao 25) 12 co_sightOf, rI Y (ao 26) 12 co_built, rI Y (ao 27) 8 co_place, rI Y (ao 28) 8 co_firstPlace, rI Y (ao 29) 8 co_canBe] []) (fun s k16 hk16 h => kX12_ways_l16 C hQ hk16 h) FUEL (io_rows, co_row, x1) hf
def fX12_ways (io_thrown : Int32) (io_rows : Int32) (io_cells : Int32) (io_children : Int32) (io_sights : Int32) (io_wayMany : Int32) (co_row : Nat → Int64) (co_skill : Nat → Int32) (co_sightOf : Nat → Int32) (co_built : Nat → Int32) (co_place : Nat → Int32) (co_firstPlace : Nat → Int32) (co_canBe : Nat → Int32) : Option (Int32 × Int32 × Int32 × Int32 × (Nat → Int64) × (Nat → Int32) × (Nat → Int32) × (Nat → Int32) × (Nat → Int32)) :=
  (fX12_laysPlaces io_cells io_children io_sights io_wayMany co_skill co_sightOf co_built co_place co_firstPlace co_canBe).bind (fun r5 => fX12_ways_b16 (0 : Int32) (0 : Int32) io_cells io_children io_sights r5.1 co_row co_skill co_sightOf r5.2.1 r5.2.2.1 r5.2.2.2.1 r5.2.2.2.2 (0 : Int32))
set_option maxHeartbeats 400000 in
set_option maxRecDepth 100000 in
theorem kX12_ways (l : Launch) (D : va_G) (Y : Nat → ClassId) (ao : Nat → Nat) (io_thrown : Int32) (io_rows : Int32) (io_cells : Int32) (io_children : Int32) (io_changes : Int32) (io_taped : Int32) (io_at : Int32) (io_to : Int32) (io_nest : Int32) (io_readMany : Int32) (io_codeLong : Int32) (io_readLong : Int32) (io_undos : Int32) (io_wentHome : Int32) (io_tideLevel : Int32) (io_acts : Int32) (io_firstBreaks : Int32) (io_bestCrew : Int32) (io_sights : Int32) (io_wayMany : Int32) (io_random : Int32) (co_row : Nat → Int64) (co_skill : Nat → Int32) (co_sightOf : Nat → Int32) (co_built : Nat → Int32) (co_place : Nat → Int32) (co_firstPlace : Nat → Int32) (co_canBe : Nat → Int32) (res : Int32 × Int32 × Int32 × Int32 × (Nat → Int64) × (Nat → Int32) × (Nat → Int32) × (Nat → Int32) × (Nat → Int32)) (hf : fX12_ways io_thrown io_rows io_cells io_children io_sights io_wayMany co_row co_skill co_sightOf co_built co_place co_firstPlace co_canBe = some res) : amf l D Y yX12_ways wsX12_ways rmX12_ways [.ref (ao 0)] [oX12 ao io_thrown io_rows io_cells io_children io_changes io_taped io_at io_to io_nest io_readMany io_codeLong io_readLong io_undos io_wentHome io_tideLevel io_acts io_firstBreaks io_bestCrew io_sights io_wayMany io_random, rJ Y (ao 1) 24 co_row, rI Y (ao 5) 8 co_skill, rI Y (ao 25) 12 co_sightOf, rI Y (ao 26) 12 co_built, rI Y (ao 27) 8 co_place, rI Y (ao 28) 8 co_firstPlace, rI Y (ao 29) 8 co_canBe] (some (.int res.1)) [oX12 ao res.2.1 res.2.2.1 io_cells io_children io_changes io_taped io_at io_to io_nest io_readMany io_codeLong io_readLong io_undos io_wentHome io_tideLevel io_acts io_firstBreaks io_bestCrew io_sights res.2.2.2.1 io_random, rJ Y (ao 1) 24 res.2.2.2.2.1, rI Y (ao 5) 8 co_skill, rI Y (ao 25) 12 co_sightOf, rI Y (ao 26) 12 res.2.2.2.2.2.1, rI Y (ao 27) 8 res.2.2.2.2.2.2.1, rI Y (ao 28) 8 res.2.2.2.2.2.2.2.1, rI Y (ao 29) 8 res.2.2.2.2.2.2.2.2] := by
  refine amf.of (cc := cX12_ways) (maxL := 2) (rt := (some .int)) (by decide) rfl RX12 rfl (Nat.le_of_ble_eq_true rfl) [some (.ref (ao 0)), none] rfl ?_
  intro X C hQ
  unfold fX12_ways at hf
  refine a_aload_n C dX12_ways_0 rfl ?_
  refine a_iconst C (0 : Int32) dX12_ways_1 (by decide) ?_
  refine a_put C (eB_X12_112 _) tfX12_0 dX12_ways_2 0 rfl rfl rfl (Nat.le_of_ble_eq_true rfl) ?_
  refine a_aload_n C dX12_ways_5 rfl ?_
  obtain ⟨r5, h5, hf⟩ := fx_bind hf
  refine a_fV C (kX12_laysPlaces l D Y ao (0 : Int32) io_rows io_cells io_children io_changes io_taped io_at io_to io_nest io_readMany io_codeLong io_readLong io_undos io_wentHome io_tideLevel io_acts io_firstBreaks io_bestCrew io_sights io_wayMany io_random co_skill co_sightOf co_built co_place co_firstPlace co_canBe r5 h5) (gB_X12_442 _) rfl dvX12_laysPlaces ⟨⟨rfl, rfl⟩, ⟨Nat.le_of_ble_eq_true rfl, Nat.le_of_ble_eq_true rfl⟩, ⟨Nat.le_of_ble_eq_true rfl, Nat.le_of_ble_eq_true rfl⟩⟩ rfl (Nat.le_of_ble_eq_true rfl) dX12_ways_6 rfl rfl [0, 2, 3, 4, 5, 6, 7] [1] ⟨rfl, rfl, rfl, rfl, rfl, rfl, rfl, trivial⟩ (by decide +kernel) rfl [oX12 ao (0 : Int32) io_rows io_cells io_children io_changes io_taped io_at io_to io_nest io_readMany io_codeLong io_readLong io_undos io_wentHome io_tideLevel io_acts io_firstBreaks io_bestCrew io_sights r5.1 io_random, rJ Y (ao 1) 24 co_row, rI Y (ao 5) 8 co_skill, rI Y (ao 25) 12 co_sightOf, rI Y (ao 26) 12 r5.2.1, rI Y (ao 27) 8 r5.2.2.1, rI Y (ao 28) 8 r5.2.2.2.1, rI Y (ao 29) 8 r5.2.2.2.2] ⟨rfl, rfl, rfl, rfl, rfl, rfl, rfl, trivial⟩ ⟨rfl, trivial⟩ 8 rfl (by decide +kernel) ?_
  refine a_aload_n C dX12_ways_9 rfl ?_
  refine a_iconst C (0 : Int32) dX12_ways_10 (by decide) ?_
  refine a_put C (eB_X12_119 _) tfX12_1 dX12_ways_11 0 rfl rfl rfl (Nat.le_of_ble_eq_true rfl) ?_
  refine a_iconst C (0 : Int32) dX12_ways_14 (by decide) ?_
  refine a_istore_n C dX12_ways_15 (by decide) rfl ?_
  exact kX12_ways_b16 C hQ hf
-- X12_was
abbrev rmX12_was : Room := { frames := 26, cells := 0, slots := 0, locals := 559 }
theorem dvX12_was : yX12_was.cls = RX12 ∧ yX12_was.cls ≠ "java/lang/invoke/MethodHandle" ∧ yX12_was.cls ≠ "java/lang/invoke/VarHandle" ∧ (parseMethodDescriptor yX12_was.desc).map (fun d => d.parameters.length) = some 1 := by decide +kernel
def fX12_was (io_thrown : Int32) (io_rows : Int32) (io_cells : Int32) (io_children : Int32) (io_sights : Int32) (io_wayMany : Int32) (co_row : Nat → Int64) (co_skill : Nat → Int32) (co_sightOf : Nat → Int32) (co_built : Nat → Int32) (co_place : Nat → Int32) (co_firstPlace : Nat → Int32) (co_canBe : Nat → Int32) (x1 : Int32) : Option (Int32 × Int32 × Int32 × Int32 × (Nat → Int64) × (Nat → Int32) × (Nat → Int32) × (Nat → Int32) × (Nat → Int32)) :=
  (fX12_isChild io_children x1).bind (fun r1 => if r1 = (0 : Int32) then (some ((-1 : Int32), (0 : Int32), io_rows, io_wayMany, co_row, co_built, co_place, co_firstPlace, co_canBe)) else ((fX12_laysPlaces io_cells io_children io_sights io_wayMany co_skill co_sightOf co_built co_place co_firstPlace co_canBe).bind (fun r3 => if inb x1 8 then (fX12_enters (0 : Int32) co_row (((r3.2.2.2.2 (Int32.toNatClampNeg x1)) &&& (1 : Int32)).toInt64)).bind (fun r5 => some ((jshr (r3.2.2.2.2 (Int32.toNatClampNeg x1)) (1 : Int32)), (0 : Int32), r5.1, r3.1, r5.2, r3.2.1, r3.2.2.1, r3.2.2.2.1, r3.2.2.2.2)) else none)))
set_option maxHeartbeats 400000 in
set_option maxRecDepth 100000 in
theorem kX12_was (l : Launch) (D : va_G) (Y : Nat → ClassId) (ao : Nat → Nat) (io_thrown : Int32) (io_rows : Int32) (io_cells : Int32) (io_children : Int32) (io_changes : Int32) (io_taped : Int32) (io_at : Int32) (io_to : Int32) (io_nest : Int32) (io_readMany : Int32) (io_codeLong : Int32) (io_readLong : Int32) (io_undos : Int32) (io_wentHome : Int32) (io_tideLevel : Int32) (io_acts : Int32) (io_firstBreaks : Int32) (io_bestCrew : Int32) (io_sights : Int32) (io_wayMany : Int32) (io_random : Int32) (co_row : Nat → Int64) (co_skill : Nat → Int32) (co_sightOf : Nat → Int32) (co_built : Nat → Int32) (co_place : Nat → Int32) (co_firstPlace : Nat → Int32) (co_canBe : Nat → Int32) (x1 : Int32) (res : Int32 × Int32 × Int32 × Int32 × (Nat → Int64) × (Nat → Int32) × (Nat → Int32) × (Nat → Int32) × (Nat → Int32)) (hf : fX12_was io_thrown io_rows io_cells io_children io_sights io_wayMany co_row co_skill co_sightOf co_built co_place co_firstPlace co_canBe x1 = some res) : amf l D Y yX12_was wsX12_was rmX12_was [.ref (ao 0), .int x1] [oX12 ao io_thrown io_rows io_cells io_children io_changes io_taped io_at io_to io_nest io_readMany io_codeLong io_readLong io_undos io_wentHome io_tideLevel io_acts io_firstBreaks io_bestCrew io_sights io_wayMany io_random, rJ Y (ao 1) 24 co_row, rI Y (ao 5) 8 co_skill, rI Y (ao 25) 12 co_sightOf, rI Y (ao 26) 12 co_built, rI Y (ao 27) 8 co_place, rI Y (ao 28) 8 co_firstPlace, rI Y (ao 29) 8 co_canBe] (some (.int res.1)) [oX12 ao res.2.1 res.2.2.1 io_cells io_children io_changes io_taped io_at io_to io_nest io_readMany io_codeLong io_readLong io_undos io_wentHome io_tideLevel io_acts io_firstBreaks io_bestCrew io_sights res.2.2.2.1 io_random, rJ Y (ao 1) 24 res.2.2.2.2.1, rI Y (ao 5) 8 co_skill, rI Y (ao 25) 12 co_sightOf, rI Y (ao 26) 12 res.2.2.2.2.2.1, rI Y (ao 27) 8 res.2.2.2.2.2.2.1, rI Y (ao 28) 8 res.2.2.2.2.2.2.2.1, rI Y (ao 29) 8 res.2.2.2.2.2.2.2.2] := by
  refine amf.of (cc := cX12_was) (maxL := 2) (rt := (some .int)) (by decide) rfl RX12 rfl (Nat.le_of_ble_eq_true rfl) [some (.ref (ao 0)), some (.int x1)] rfl ?_
  intro X C hQ
  unfold fX12_was at hf
  refine a_aload_n C dX12_was_0 rfl ?_
  refine a_iconst C (0 : Int32) dX12_was_1 (by decide) ?_
  refine a_put C (eB_X12_112 _) tfX12_0 dX12_was_2 0 rfl rfl rfl (Nat.le_of_ble_eq_true rfl) ?_
  refine a_aload_n C dX12_was_5 rfl ?_
  refine a_iload_n C dX12_was_6 rfl ?_
  obtain ⟨r1, h1, hf⟩ := fx_bind hf
  refine a_fV C (kX12_isChild l D Y ao (0 : Int32) io_rows io_cells io_children io_changes io_taped io_at io_to io_nest io_readMany io_codeLong io_readLong io_undos io_wentHome io_tideLevel io_acts io_firstBreaks io_bestCrew io_sights io_wayMany io_random x1 r1 h1) (gB_X12_294 _) rfl dvX12_isChild ⟨⟨rfl, rfl⟩, ⟨Nat.le_of_ble_eq_true rfl, Nat.le_of_ble_eq_true rfl⟩, ⟨Nat.le_of_ble_eq_true rfl, Nat.le_of_ble_eq_true rfl⟩⟩ rfl (Nat.le_of_ble_eq_true rfl) dX12_was_7 rfl rfl [0] [1, 2, 3, 4, 5, 6, 7] ⟨rfl, trivial⟩ (by decide +kernel) rfl [oX12 ao (0 : Int32) io_rows io_cells io_children io_changes io_taped io_at io_to io_nest io_readMany io_codeLong io_readLong io_undos io_wentHome io_tideLevel io_acts io_firstBreaks io_bestCrew io_sights io_wayMany io_random, rJ Y (ao 1) 24 co_row, rI Y (ao 5) 8 co_skill, rI Y (ao 25) 12 co_sightOf, rI Y (ao 26) 12 co_built, rI Y (ao 27) 8 co_place, rI Y (ao 28) 8 co_firstPlace, rI Y (ao 29) 8 co_canBe] ⟨rfl, trivial⟩ ⟨rfl, rfl, rfl, rfl, rfl, rfl, rfl, trivial⟩ 8 rfl (by decide +kernel) ?_
  refine a_if_ne C 15 dX12_was_10 (by decide) (fun h2 => ?_) (fun h2 => ?_)
  · have hf := fx_f h2 hf
    refine a_aload_n C dX12_was_15 rfl ?_
    obtain ⟨r3, h3, hf⟩ := fx_bind hf
    refine a_fV C (kX12_laysPlaces l D Y ao (0 : Int32) io_rows io_cells io_children io_changes io_taped io_at io_to io_nest io_readMany io_codeLong io_readLong io_undos io_wentHome io_tideLevel io_acts io_firstBreaks io_bestCrew io_sights io_wayMany io_random co_skill co_sightOf co_built co_place co_firstPlace co_canBe r3 h3) (gB_X12_442 _) rfl dvX12_laysPlaces ⟨⟨rfl, rfl⟩, ⟨Nat.le_of_ble_eq_true rfl, Nat.le_of_ble_eq_true rfl⟩, ⟨Nat.le_of_ble_eq_true rfl, Nat.le_of_ble_eq_true rfl⟩⟩ rfl (Nat.le_of_ble_eq_true rfl) dX12_was_16 rfl rfl [0, 2, 3, 4, 5, 6, 7] [1] ⟨rfl, rfl, rfl, rfl, rfl, rfl, rfl, trivial⟩ (by decide +kernel) rfl [oX12 ao (0 : Int32) io_rows io_cells io_children io_changes io_taped io_at io_to io_nest io_readMany io_codeLong io_readLong io_undos io_wentHome io_tideLevel io_acts io_firstBreaks io_bestCrew io_sights r3.1 io_random, rJ Y (ao 1) 24 co_row, rI Y (ao 5) 8 co_skill, rI Y (ao 25) 12 co_sightOf, rI Y (ao 26) 12 r3.2.1, rI Y (ao 27) 8 r3.2.2.1, rI Y (ao 28) 8 r3.2.2.2.1, rI Y (ao 29) 8 r3.2.2.2.2] ⟨rfl, rfl, rfl, rfl, rfl, rfl, rfl, trivial⟩ ⟨rfl, trivial⟩ 8 rfl (by decide +kernel) ?_
    refine a_aload_n C dX12_was_19 rfl ?_
    refine a_iconst C (0 : Int32) dX12_was_20 (by decide) ?_
    refine a_put C (eB_X12_119 _) tfX12_1 dX12_was_21 0 rfl rfl rfl (Nat.le_of_ble_eq_true rfl) ?_
    refine a_aload_n C dX12_was_24 rfl ?_
    refine a_aload_n C dX12_was_25 rfl ?_
    refine a_get C (eB_X12_99 _) dX12_was_26 0 rfl rfl ?_
    refine a_iload_n C dX12_was_29 rfl ?_
    obtain ⟨h4, hf⟩ := fx_ite hf
    refine a_iald C dX12_was_30 7 rfl h4 ?_
    refine a_iconst C (1 : Int32) dX12_was_31 (by decide) ?_
    refine a_iand C dX12_was_32 ?_
    refine a_i2l C dX12_was_33 ?_
    obtain ⟨r5, h5, hf⟩ := fx_bind hf
    refine a_fV C (kX12_enters l D Y ao (0 : Int32) (0 : Int32) io_cells io_children io_changes io_taped io_at io_to io_nest io_readMany io_codeLong io_readLong io_undos io_wentHome io_tideLevel io_acts io_firstBreaks io_bestCrew io_sights r3.1 io_random co_row (((r3.2.2.2.2 (Int32.toNatClampNeg x1)) &&& (1 : Int32)).toInt64) r5 h5) (gB_X12_359 _) rfl dvX12_enters ⟨⟨rfl, rfl⟩, ⟨Nat.le_of_ble_eq_true rfl, Nat.le_of_ble_eq_true rfl⟩, ⟨Nat.le_of_ble_eq_true rfl, Nat.le_of_ble_eq_true rfl⟩⟩ rfl (Nat.le_of_ble_eq_true rfl) dX12_was_34 rfl rfl [0, 1] [2, 3, 4, 5, 6, 7] ⟨rfl, rfl, trivial⟩ (by decide +kernel) rfl [oX12 ao (0 : Int32) r5.1 io_cells io_children io_changes io_taped io_at io_to io_nest io_readMany io_codeLong io_readLong io_undos io_wentHome io_tideLevel io_acts io_firstBreaks io_bestCrew io_sights r3.1 io_random, rJ Y (ao 1) 24 r5.2, rI Y (ao 5) 8 co_skill, rI Y (ao 25) 12 co_sightOf, rI Y (ao 26) 12 r3.2.1, rI Y (ao 27) 8 r3.2.2.1, rI Y (ao 28) 8 r3.2.2.2.1, rI Y (ao 29) 8 r3.2.2.2.2] ⟨rfl, rfl, trivial⟩ ⟨rfl, rfl, rfl, rfl, rfl, rfl, trivial⟩ 8 rfl (by decide +kernel) ?_
    refine a_aload_n C dX12_was_37 rfl ?_
    refine a_get C (eB_X12_99 _) dX12_was_38 0 rfl rfl ?_
    refine a_iload_n C dX12_was_41 rfl ?_
    refine a_iald C dX12_was_42 7 rfl h4 ?_
    refine a_iconst C (1 : Int32) dX12_was_43 (by decide) ?_
    refine a_ishr C dX12_was_44 ?_
    obtain rfl := fx_some hf
    exact a_iret C hQ dX12_was_45 ⟨rfl, rfl⟩
  · have hf := fx_t h2 hf
    refine a_iconst C (-1 : Int32) dX12_was_13 (by decide) ?_
    obtain rfl := fx_some hf
    exact a_iret C hQ dX12_was_14 ⟨rfl, rfl⟩
-- X12_hasRun
abbrev rmX12_hasRun : Room := { frames := 1, cells := 0, slots := 0, locals := 21 }
theorem dvX12_hasRun : yX12_hasRun.cls ≠ "java/lang/invoke/MethodHandle" ∧ yX12_hasRun.cls ≠ "java/lang/invoke/VarHandle" ∧ (parseMethodDescriptor yX12_hasRun.desc).map (fun d => d.parameters.length) = some 3 := by decide +kernel
def fX12_hasRun_b54 (x4 : Int32) : Option (Int32) :=
  if x4 = 0 ∨ x4 = 1 then some x4 else none
set_option maxHeartbeats 400000 in
set_option maxRecDepth 100000 in
theorem kX12_hasRun_b54 {X : cxT} {l : Launch} {D : va_G} {Y : Nat → ClassId} {x4 : Int32} {res : Int32} (C : axC X l D Y cX12_hasRun 6 RX12 wsX12_hasRun rmX12_hasRun (some .boolean)) (hQ : axQ X 0 0 (fun r9 w9 => r9 = (some (.int res)) ∧ w9 = [])) (hf : fX12_hasRun_b54 x4 = some res) : ax X 0 0 54 [none, none, none, none, some (.int x4), none] [] [] := by
  unfold fX12_hasRun_b54 at hf
  refine a_iload C dX12_hasRun_54 rfl ?_
  obtain ⟨h1, hf⟩ := fx_ite hf
  obtain rfl := fx_some hf
  exact a_zret C hQ h1 dX12_hasRun_56 ⟨rfl, rfl⟩
def fX12_hasRun_b46 (x0 : Int32) (x1 : Int32) (x2 : Int32) (x3 : Int32) (x5 : Int32) (s0 : Int32) (k8 : Int32 × Int32 × Int32 → Option (Int32)) : Option (Int32) :=
  k8 (x3, s0, (x5 + (1 : Int32)))
set_option maxHeartbeats 400000 in
set_option maxRecDepth 100000 in
theorem kX12_hasRun_b46 {X : cxT} {l : Launch} {D : va_G} {Y : Nat → ClassId} {x0 : Int32} {x1 : Int32} {x2 : Int32} {x3 : Int32} {x5 : Int32} {s0 : Int32} {res : Int32} (C : axC X l D Y cX12_hasRun 6 RX12 wsX12_hasRun rmX12_hasRun (some .boolean)) (hQ : axQ X 0 0 (fun r9 w9 => r9 = (some (.int res)) ∧ w9 = [])) {k8 : Int32 × Int32 × Int32 → Option (Int32)} (hk8 : ∀ s : Int32 × Int32 × Int32, k8 s = some res → ax X 0 0 8 [some (.int x0), some (.int x1), some (.int x2), some (.int s.1), some (.int s.2.1), some (.int s.2.2)] [] []) (hf : fX12_hasRun_b46 x0 x1 x2 x3 x5 s0 k8 = some res) : ax X 0 0 46 [some (.int x0), some (.int x1), some (.int x2), some (.int x3), none, some (.int x5)] [] [.int s0] := by
  unfold fX12_hasRun_b46 at hf
  refine a_istore C dX12_hasRun_46 (by decide) rfl ?_
  refine a_iinc C (1 : Int32) dX12_hasRun_48 (by decide) rfl (by decide) rfl ?_
  refine a_goto C 8 dX12_hasRun_51 (by decide) ?_
  exact hk8 (x3, s0, (x5 + (1 : Int32))) hf
def fX12_hasRun_b41 (x0 : Int32) (x1 : Int32) (x2 : Int32) (x3 : Int32) (x5 : Int32) (k8 : Int32 × Int32 × Int32 → Option (Int32)) : Option (Int32) :=
  fX12_hasRun_b46 x0 x1 x2 x3 x5 (1 : Int32) k8
set_option maxHeartbeats 400000 in
set_option maxRecDepth 100000 in
theorem kX12_hasRun_b41 {X : cxT} {l : Launch} {D : va_G} {Y : Nat → ClassId} {x0 : Int32} {x1 : Int32} {x2 : Int32} {x3 : Int32} {x5 : Int32} {res : Int32} (C : axC X l D Y cX12_hasRun 6 RX12 wsX12_hasRun rmX12_hasRun (some .boolean)) (hQ : axQ X 0 0 (fun r9 w9 => r9 = (some (.int res)) ∧ w9 = [])) {k8 : Int32 × Int32 × Int32 → Option (Int32)} (hk8 : ∀ s : Int32 × Int32 × Int32, k8 s = some res → ax X 0 0 8 [some (.int x0), some (.int x1), some (.int x2), some (.int s.1), some (.int s.2.1), some (.int s.2.2)] [] []) (hf : fX12_hasRun_b41 x0 x1 x2 x3 x5 k8 = some res) : ax X 0 0 41 [some (.int x0), some (.int x1), some (.int x2), some (.int x3), none, some (.int x5)] [] [] := by
  unfold fX12_hasRun_b41 at hf
  refine a_iconst C (1 : Int32) dX12_hasRun_41 (by decide) ?_
  refine a_goto C 46 dX12_hasRun_42 (by decide) ?_
  exact kX12_hasRun_b46 C hQ hk8 hf
def fX12_hasRun_b30 (x0 : Int32) (x1 : Int32) (x2 : Int32) (x4 : Int32) (x5 : Int32) (s0 : Int32) (k8 : Int32 × Int32 × Int32 → Option (Int32)) : Option (Int32) :=
  if x4 = (0 : Int32) then (if s0 < x2 then (fX12_hasRun_b46 x0 x1 x2 s0 x5 (0 : Int32) k8) else (fX12_hasRun_b41 x0 x1 x2 s0 x5 k8)) else (fX12_hasRun_b41 x0 x1 x2 s0 x5 k8)
set_option maxHeartbeats 400000 in
set_option maxRecDepth 100000 in
theorem kX12_hasRun_b30 {X : cxT} {l : Launch} {D : va_G} {Y : Nat → ClassId} {x0 : Int32} {x1 : Int32} {x2 : Int32} {x4 : Int32} {x5 : Int32} {s0 : Int32} {res : Int32} (C : axC X l D Y cX12_hasRun 6 RX12 wsX12_hasRun rmX12_hasRun (some .boolean)) (hQ : axQ X 0 0 (fun r9 w9 => r9 = (some (.int res)) ∧ w9 = [])) {k8 : Int32 × Int32 × Int32 → Option (Int32)} (hk8 : ∀ s : Int32 × Int32 × Int32, k8 s = some res → ax X 0 0 8 [some (.int x0), some (.int x1), some (.int x2), some (.int s.1), some (.int s.2.1), some (.int s.2.2)] [] []) (hf : fX12_hasRun_b30 x0 x1 x2 x4 x5 s0 k8 = some res) : ax X 0 0 30 [some (.int x0), some (.int x1), some (.int x2), none, some (.int x4), some (.int x5)] [] [.int s0] := by
  unfold fX12_hasRun_b30 at hf
  refine a_istore_n C dX12_hasRun_30 (by decide) rfl ?_
  refine a_iload C dX12_hasRun_31 rfl ?_
  refine a_if_ne C 41 dX12_hasRun_33 (by decide) (fun h2 => ?_) (fun h2 => ?_)
  · have hf := fx_f h2 hf
    refine a_kill [4] ?_
    exact kX12_hasRun_b41 C hQ hk8 hf
  · have hf := fx_t h2 hf
    refine a_iload_n C dX12_hasRun_36 rfl ?_
    refine a_iload_n C dX12_hasRun_37 rfl ?_
    refine a_icmp_lt C 45 dX12_hasRun_38 (by decide) (fun h3 => ?_) (fun h3 => ?_)
    · have hf := fx_t h3 hf
      refine a_iconst C (0 : Int32) dX12_hasRun_45 (by decide) ?_
      refine a_kill [4] ?_
      exact kX12_hasRun_b46 C hQ hk8 hf
    · have hf := fx_f h3 hf
      refine a_kill [4] ?_
      exact kX12_hasRun_b41 C hQ hk8 hf
def fX12_hasRun_l8 (x0 : Int32) (x1 : Int32) (x2 : Int32) (k8 : Int32 × Int32 × Int32 → Option (Int32)) (x3 : Int32) (x4 : Int32) (x5 : Int32) : Option (Int32) :=
  if x1 ≤ x5 then (fX12_hasRun_b54 x4) else ((fX12_has x0 x5).bind (fun r5 => if r5 = (0 : Int32) then (fX12_hasRun_b30 x0 x1 x2 x4 x5 (0 : Int32) k8) else (fX12_hasRun_b30 x0 x1 x2 x4 x5 (x3 + (1 : Int32)) k8)))
def fX12_hasRun_b8 (x0 : Int32) (x1 : Int32) (x2 : Int32) (x3 : Int32) (x4 : Int32) (x5 : Int32) : Option (Int32) :=
  loopN (fun (s : Int32 × Int32 × Int32) k8 => fX12_hasRun_l8 x0 x1 x2 k8 s.1 s.2.1 s.2.2) FUEL (x3, x4, x5)
set_option maxHeartbeats 400000 in
set_option maxRecDepth 100000 in
theorem kX12_hasRun_l8 {X : cxT} {l : Launch} {D : va_G} {Y : Nat → ClassId} {x0 : Int32} {x1 : Int32} {x2 : Int32} {x3 : Int32} {x4 : Int32} {x5 : Int32} {res : Int32} (C : axC X l D Y cX12_hasRun 6 RX12 wsX12_hasRun rmX12_hasRun (some .boolean)) (hQ : axQ X 0 0 (fun r9 w9 => r9 = (some (.int res)) ∧ w9 = [])) {k8 : Int32 × Int32 × Int32 → Option (Int32)} (hk8 : ∀ s : Int32 × Int32 × Int32, k8 s = some res → ax X 0 0 8 [some (.int x0), some (.int x1), some (.int x2), some (.int s.1), some (.int s.2.1), some (.int s.2.2)] [] []) (hf : fX12_hasRun_l8 x0 x1 x2 k8 x3 x4 x5 = some res) : ax X 0 0 8 [some (.int x0), some (.int x1), some (.int x2), some (.int x3), some (.int x4), some (.int x5)] [] [] := by
  unfold fX12_hasRun_l8 at hf
  refine a_iload C dX12_hasRun_8 rfl ?_
  refine a_iload_n C dX12_hasRun_10 rfl ?_
  refine a_icmp_ge C 54 dX12_hasRun_11 (by decide) (fun h4 => ?_) (fun h4 => ?_)
  · have hf := fx_t h4 hf
    refine a_kill [0, 1, 2, 3, 5] ?_
    exact kX12_hasRun_b54 C hQ hf
  · have hf := fx_f h4 hf
    refine a_iload_n C dX12_hasRun_14 rfl ?_
    refine a_iload C dX12_hasRun_15 rfl ?_
    obtain ⟨r5, h5, hf⟩ := fx_bind hf
    refine a_fS C (kX12_has l D Y x0 x5 r5 h5) (gB_X12_269 _) rfl dvX12_has ⟨⟨rfl, rfl⟩, ⟨Nat.le_of_ble_eq_true rfl, Nat.le_of_ble_eq_true rfl⟩, ⟨Nat.le_of_ble_eq_true rfl, Nat.le_of_ble_eq_true rfl⟩⟩ rfl (Nat.le_of_ble_eq_true rfl) dX12_hasRun_17 [] [] trivial (by decide +kernel) rfl [] trivial trivial 0 rfl (by decide +kernel) ?_
    refine a_if_eq C 29 dX12_hasRun_20 (by decide) (fun h6 => ?_) (fun h6 => ?_)
    · have hf := fx_t h6 hf
      refine a_iconst C (0 : Int32) dX12_hasRun_29 (by decide) ?_
      refine a_kill [3] ?_
      exact kX12_hasRun_b30 C hQ hk8 hf
    · have hf := fx_f h6 hf
      refine a_iload_n C dX12_hasRun_23 rfl ?_
      refine a_iconst C (1 : Int32) dX12_hasRun_24 (by decide) ?_
      refine a_iadd C dX12_hasRun_25 ?_
      refine a_goto C 30 dX12_hasRun_26 (by decide) ?_
      refine a_kill [3] ?_
      exact kX12_hasRun_b30 C hQ hk8 hf
set_option maxHeartbeats 400000 in
set_option maxRecDepth 100000 in
theorem kX12_hasRun_b8 {X : cxT} {l : Launch} {D : va_G} {Y : Nat → ClassId} {x0 : Int32} {x1 : Int32} {x2 : Int32} {x3 : Int32} {x4 : Int32} {x5 : Int32} {res : Int32} (C : axC X l D Y cX12_hasRun 6 RX12 wsX12_hasRun rmX12_hasRun (some .boolean)) (hQ : axQ X 0 0 (fun r9 w9 => r9 = (some (.int res)) ∧ w9 = [])) (hf : fX12_hasRun_b8 x0 x1 x2 x3 x4 x5 = some res) : ax X 0 0 8 [some (.int x0), some (.int x1), some (.int x2), some (.int x3), some (.int x4), some (.int x5)] [] [] := by
  unfold fX12_hasRun_b8 at hf
  exact fx_loop (P := fun s : Int32 × Int32 × Int32 => ax X 0 0 8 [some (.int x0), some (.int x1), some (.int x2), some (.int s.1), some (.int s.2.1), some (.int s.2.2)] [] []) (fun s k8 hk8 h => kX12_hasRun_l8 C hQ hk8 h) FUEL (x3, x4, x5) hf
def fX12_hasRun (x0 : Int32) (x1 : Int32) (x2 : Int32) : Option (Int32) :=
  fX12_hasRun_b8 x0 x1 x2 (0 : Int32) (0 : Int32) (0 : Int32)
set_option maxHeartbeats 400000 in
set_option maxRecDepth 100000 in
theorem kX12_hasRun (l : Launch) (D : va_G) (Y : Nat → ClassId) (x0 : Int32) (x1 : Int32) (x2 : Int32) (res : Int32) (hf : fX12_hasRun x0 x1 x2 = some res) : amf l D Y yX12_hasRun wsX12_hasRun rmX12_hasRun [.int x0, .int x1, .int x2] [] (some (.int res)) [] := by
  refine amf.of (cc := cX12_hasRun) (maxL := 6) (rt := (some .boolean)) (by decide) rfl RX12 rfl (Nat.le_of_ble_eq_true rfl) [some (.int x0), some (.int x1), some (.int x2), none, none, none] rfl ?_
  intro X C hQ
  unfold fX12_hasRun at hf
  refine a_iconst C (0 : Int32) dX12_hasRun_0 (by decide) ?_
  refine a_istore_n C dX12_hasRun_1 (by decide) rfl ?_
  refine a_iconst C (0 : Int32) dX12_hasRun_2 (by decide) ?_
  refine a_istore C dX12_hasRun_3 (by decide) rfl ?_
  refine a_iconst C (0 : Int32) dX12_hasRun_5 (by decide) ?_
  refine a_istore C dX12_hasRun_6 (by decide) rfl ?_
  exact kX12_hasRun_b8 C hQ hf
-- X12_rain
abbrev rmX12_rain : Room := { frames := 101, cells := 0, slots := 0, locals := 2323 }
theorem dvX12_rain : yX12_rain.cls = RX12 ∧ yX12_rain.cls ≠ "java/lang/invoke/MethodHandle" ∧ yX12_rain.cls ≠ "java/lang/invoke/VarHandle" ∧ (parseMethodDescriptor yX12_rain.desc).map (fun d => d.parameters.length) = some 3 := by decide +kernel
def fX12_rain_b41 (io_thrown : Int32) (io_rows : Int32) (co_row : Nat → Int64) : Option (Int32 × Int32 × Int32 × (Nat → Int64)) :=
  some ((-1 : Int32), io_thrown, io_rows, co_row)
set_option maxHeartbeats 400000 in
set_option maxRecDepth 100000 in
theorem kX12_rain_b41 {X : cxT} {l : Launch} {D : va_G} {Y : Nat → ClassId} {ao : Nat → Nat} {io_thrown : Int32} {io_rows : Int32} {io_cells : Int32} {io_children : Int32} {io_changes : Int32} {io_taped : Int32} {io_at : Int32} {io_to : Int32} {io_nest : Int32} {io_readMany : Int32} {io_codeLong : Int32} {io_readLong : Int32} {io_undos : Int32} {io_wentHome : Int32} {io_tideLevel : Int32} {io_acts : Int32} {io_firstBreaks : Int32} {io_bestCrew : Int32} {io_sights : Int32} {io_wayMany : Int32} {io_random : Int32} {co_row : Nat → Int64} {res : Int32 × Int32 × Int32 × (Nat → Int64)} (C : axC X l D Y cX12_rain 12 RX12 wsX12_rain rmX12_rain (some .int)) (hQ : axQ X 0 0 (fun r9 w9 => r9 = (some (.int res.1)) ∧ w9 = [oX12 ao res.2.1 res.2.2.1 io_cells io_children io_changes io_taped io_at io_to io_nest io_readMany io_codeLong io_readLong io_undos io_wentHome io_tideLevel io_acts io_firstBreaks io_bestCrew io_sights io_wayMany io_random, rJ Y (ao 1) 24 res.2.2.2])) (hf : fX12_rain_b41 io_thrown io_rows co_row = some res) : ax X 0 0 41 [none, none, none, none, none, none, none, none, none, none, none, none] [oX12 ao io_thrown io_rows io_cells io_children io_changes io_taped io_at io_to io_nest io_readMany io_codeLong io_readLong io_undos io_wentHome io_tideLevel io_acts io_firstBreaks io_bestCrew io_sights io_wayMany io_random, rJ Y (ao 1) 24 co_row] [] := by
  unfold fX12_rain_b41 at hf
  refine a_iconst C (-1 : Int32) dX12_rain_41 (by decide) ?_
  obtain rfl := fx_some hf
  exact a_iret C hQ dX12_rain_42 ⟨rfl, rfl⟩
def fX12_rain_b149 (io_thrown : Int32) (io_rows : Int32) (co_row : Nat → Int64) (x4 : Int64) (x6 : Int64) : Option (Int32 × Int32 × Int32 × (Nat → Int64)) :=
  (fX12_common 100 x4 x6).bind (fun r1 => if ¬ r1 = 0 then (fX12_enters (0 : Int32) co_row (x4 / r1)).bind (fun r3 => (fX12_enters r3.1 r3.2 (x6 / r1)).bind (fun r4 => some ((0 : Int32), io_thrown, r4.1, r4.2))) else none)
set_option maxHeartbeats 400000 in
set_option maxRecDepth 100000 in
theorem kX12_rain_b149 {X : cxT} {l : Launch} {D : va_G} {Y : Nat → ClassId} {ao : Nat → Nat} {io_thrown : Int32} {io_rows : Int32} {io_cells : Int32} {io_children : Int32} {io_changes : Int32} {io_taped : Int32} {io_at : Int32} {io_to : Int32} {io_nest : Int32} {io_readMany : Int32} {io_codeLong : Int32} {io_readLong : Int32} {io_undos : Int32} {io_wentHome : Int32} {io_tideLevel : Int32} {io_acts : Int32} {io_firstBreaks : Int32} {io_bestCrew : Int32} {io_sights : Int32} {io_wayMany : Int32} {io_random : Int32} {co_row : Nat → Int64} {x4 : Int64} {x6 : Int64} {res : Int32 × Int32 × Int32 × (Nat → Int64)} (C : axC X l D Y cX12_rain 12 RX12 wsX12_rain rmX12_rain (some .int)) (hQ : axQ X 0 0 (fun r9 w9 => r9 = (some (.int res.1)) ∧ w9 = [oX12 ao res.2.1 res.2.2.1 io_cells io_children io_changes io_taped io_at io_to io_nest io_readMany io_codeLong io_readLong io_undos io_wentHome io_tideLevel io_acts io_firstBreaks io_bestCrew io_sights io_wayMany io_random, rJ Y (ao 1) 24 res.2.2.2])) (hf : fX12_rain_b149 io_thrown io_rows co_row x4 x6 = some res) : ax X 0 0 149 [some (.ref (ao 0)), none, none, none, some (.long x4), none, some (.long x6), none, none, none, none, none] [oX12 ao io_thrown io_rows io_cells io_children io_changes io_taped io_at io_to io_nest io_readMany io_codeLong io_readLong io_undos io_wentHome io_tideLevel io_acts io_firstBreaks io_bestCrew io_sights io_wayMany io_random, rJ Y (ao 1) 24 co_row] [] := by
  unfold fX12_rain_b149 at hf
  refine a_lload C dX12_rain_149 rfl ?_
  refine a_lload C dX12_rain_151 rfl ?_
  obtain ⟨r1, h1, hf⟩ := fx_bind hf
  refine a_fS C (kX12_common l D Y 100 x4 x6 r1 h1) (gB_X12_115 _) rfl dvX12_common ⟨⟨rfl, rfl⟩, ⟨Nat.le_of_ble_eq_true rfl, Nat.le_of_ble_eq_true rfl⟩, ⟨Nat.le_of_ble_eq_true rfl, Nat.le_of_ble_eq_true rfl⟩⟩ rfl (Nat.le_of_ble_eq_true rfl) dX12_rain_153 [] [0, 1] trivial (by decide +kernel) rfl [oX12 ao io_thrown io_rows io_cells io_children io_changes io_taped io_at io_to io_nest io_readMany io_codeLong io_readLong io_undos io_wentHome io_tideLevel io_acts io_firstBreaks io_bestCrew io_sights io_wayMany io_random, rJ Y (ao 1) 24 co_row] trivial ⟨rfl, rfl, trivial⟩ 2 rfl (by decide +kernel) ?_
  refine a_lstore C dX12_rain_156 (by decide) rfl ?_
  refine a_aload_n C dX12_rain_158 rfl ?_
  refine a_iconst C (0 : Int32) dX12_rain_159 (by decide) ?_
  refine a_put C (eB_X12_119 _) tfX12_1 dX12_rain_160 0 rfl rfl rfl (Nat.le_of_ble_eq_true rfl) ?_
  refine a_aload_n C dX12_rain_163 rfl ?_
  refine a_lload C dX12_rain_164 rfl ?_
  refine a_lload C dX12_rain_166 rfl ?_
  obtain ⟨h2, hf⟩ := fx_ite hf
  refine a_ldiv C dX12_rain_168 h2 ?_
  obtain ⟨r3, h3, hf⟩ := fx_bind hf
  refine a_fV C (kX12_enters l D Y ao io_thrown (0 : Int32) io_cells io_children io_changes io_taped io_at io_to io_nest io_readMany io_codeLong io_readLong io_undos io_wentHome io_tideLevel io_acts io_firstBreaks io_bestCrew io_sights io_wayMany io_random co_row (x4 / r1) r3 h3) (gB_X12_359 _) rfl dvX12_enters ⟨⟨rfl, rfl⟩, ⟨Nat.le_of_ble_eq_true rfl, Nat.le_of_ble_eq_true rfl⟩, ⟨Nat.le_of_ble_eq_true rfl, Nat.le_of_ble_eq_true rfl⟩⟩ rfl (Nat.le_of_ble_eq_true rfl) dX12_rain_169 rfl rfl [0, 1] [] ⟨rfl, rfl, trivial⟩ (by decide +kernel) rfl [oX12 ao io_thrown r3.1 io_cells io_children io_changes io_taped io_at io_to io_nest io_readMany io_codeLong io_readLong io_undos io_wentHome io_tideLevel io_acts io_firstBreaks io_bestCrew io_sights io_wayMany io_random, rJ Y (ao 1) 24 r3.2] ⟨rfl, rfl, trivial⟩ trivial 2 rfl (by decide +kernel) ?_
  refine a_aload_n C dX12_rain_172 rfl ?_
  refine a_lload C dX12_rain_173 rfl ?_
  refine a_lload C dX12_rain_175 rfl ?_
  refine a_ldiv C dX12_rain_177 h2 ?_
  obtain ⟨r4, h4, hf⟩ := fx_bind hf
  refine a_fV C (kX12_enters l D Y ao io_thrown r3.1 io_cells io_children io_changes io_taped io_at io_to io_nest io_readMany io_codeLong io_readLong io_undos io_wentHome io_tideLevel io_acts io_firstBreaks io_bestCrew io_sights io_wayMany io_random r3.2 (x6 / r1) r4 h4) (gB_X12_359 _) rfl dvX12_enters ⟨⟨rfl, rfl⟩, ⟨Nat.le_of_ble_eq_true rfl, Nat.le_of_ble_eq_true rfl⟩, ⟨Nat.le_of_ble_eq_true rfl, Nat.le_of_ble_eq_true rfl⟩⟩ rfl (Nat.le_of_ble_eq_true rfl) dX12_rain_178 rfl rfl [0, 1] [] ⟨rfl, rfl, trivial⟩ (by decide +kernel) rfl [oX12 ao io_thrown r4.1 io_cells io_children io_changes io_taped io_at io_to io_nest io_readMany io_codeLong io_readLong io_undos io_wentHome io_tideLevel io_acts io_firstBreaks io_bestCrew io_sights io_wayMany io_random, rJ Y (ao 1) 24 r4.2] ⟨rfl, rfl, trivial⟩ trivial 2 rfl (by decide +kernel) ?_
  refine a_iconst C (0 : Int32) dX12_rain_181 (by decide) ?_
  obtain rfl := fx_some hf
  exact a_iret C hQ dX12_rain_182 ⟨rfl, rfl⟩
def fX12_rain_b136 (io_thrown : Int32) (io_rows : Int32) (co_row : Nat → Int64) (x1 : Int32) (x2 : Int32) (x3 : Int32) (x4 : Int64) (x6 : Int64) (x8 : Int32) (x9 : Int64) (k75 : Int64 × Int32 → Option (Int32 × Int32 × Int32 × (Nat → Int64))) : Option (Int32 × Int32 × Int32 × (Nat → Int64)) :=
  k75 ((x4 + x9), (x8 + (1 : Int32)))
set_option maxHeartbeats 400000 in
set_option maxRecDepth 100000 in
theorem kX12_rain_b136 {X : cxT} {l : Launch} {D : va_G} {Y : Nat → ClassId} {ao : Nat → Nat} {io_thrown : Int32} {io_rows : Int32} {io_cells : Int32} {io_children : Int32} {io_changes : Int32} {io_taped : Int32} {io_at : Int32} {io_to : Int32} {io_nest : Int32} {io_readMany : Int32} {io_codeLong : Int32} {io_readLong : Int32} {io_undos : Int32} {io_wentHome : Int32} {io_tideLevel : Int32} {io_acts : Int32} {io_firstBreaks : Int32} {io_bestCrew : Int32} {io_sights : Int32} {io_wayMany : Int32} {io_random : Int32} {co_row : Nat → Int64} {x1 : Int32} {x2 : Int32} {x3 : Int32} {x4 : Int64} {x6 : Int64} {x8 : Int32} {x9 : Int64} {res : Int32 × Int32 × Int32 × (Nat → Int64)} (C : axC X l D Y cX12_rain 12 RX12 wsX12_rain rmX12_rain (some .int)) (hQ : axQ X 0 0 (fun r9 w9 => r9 = (some (.int res.1)) ∧ w9 = [oX12 ao res.2.1 res.2.2.1 io_cells io_children io_changes io_taped io_at io_to io_nest io_readMany io_codeLong io_readLong io_undos io_wentHome io_tideLevel io_acts io_firstBreaks io_bestCrew io_sights io_wayMany io_random, rJ Y (ao 1) 24 res.2.2.2])) {k75 : Int64 × Int32 → Option (Int32 × Int32 × Int32 × (Nat → Int64))} (hk75 : ∀ s : Int64 × Int32, k75 s = some res → ax X 0 0 75 [some (.ref (ao 0)), some (.int x1), some (.int x2), some (.int x3), some (.long s.1), none, some (.long x6), none, some (.int s.2), none, none, none] [oX12 ao io_thrown io_rows io_cells io_children io_changes io_taped io_at io_to io_nest io_readMany io_codeLong io_readLong io_undos io_wentHome io_tideLevel io_acts io_firstBreaks io_bestCrew io_sights io_wayMany io_random, rJ Y (ao 1) 24 co_row] []) (hf : fX12_rain_b136 io_thrown io_rows co_row x1 x2 x3 x4 x6 x8 x9 k75 = some res) : ax X 0 0 136 [some (.ref (ao 0)), some (.int x1), some (.int x2), some (.int x3), some (.long x4), none, some (.long x6), none, some (.int x8), some (.long x9), none, none] [oX12 ao io_thrown io_rows io_cells io_children io_changes io_taped io_at io_to io_nest io_readMany io_codeLong io_readLong io_undos io_wentHome io_tideLevel io_acts io_firstBreaks io_bestCrew io_sights io_wayMany io_random, rJ Y (ao 1) 24 co_row] [] := by
  unfold fX12_rain_b136 at hf
  refine a_lload C dX12_rain_136 rfl ?_
  refine a_lload C dX12_rain_138 rfl ?_
  refine a_ladd C dX12_rain_140 ?_
  refine a_lstore C dX12_rain_141 (by decide) rfl ?_
  refine a_iinc C (1 : Int32) dX12_rain_143 (by decide) rfl (by decide) rfl ?_
  refine a_goto C 75 dX12_rain_146 (by decide) ?_
  refine a_kill [9] ?_
  exact hk75 ((x4 + x9), (x8 + (1 : Int32))) hf
def fX12_rain_b127 (io_thrown : Int32) (io_rows : Int32) (co_row : Nat → Int64) (x1 : Int32) (x2 : Int32) (x3 : Int32) (x4 : Int64) (x6 : Int64) (x8 : Int32) (x11 : Int32) (s0 : Int64) (s1 : Int64) (k75 : Int64 × Int32 → Option (Int32 × Int32 × Int32 × (Nat → Int64))) (k99 : Int64 × Int32 → Option (Int32 × Int32 × Int32 × (Nat → Int64))) : Option (Int32 × Int32 × Int32 × (Nat → Int64)) :=
  k99 ((s0 * s1), (x11 + (1 : Int32)))
set_option maxHeartbeats 400000 in
set_option maxRecDepth 100000 in
theorem kX12_rain_b127 {X : cxT} {l : Launch} {D : va_G} {Y : Nat → ClassId} {ao : Nat → Nat} {io_thrown : Int32} {io_rows : Int32} {io_cells : Int32} {io_children : Int32} {io_changes : Int32} {io_taped : Int32} {io_at : Int32} {io_to : Int32} {io_nest : Int32} {io_readMany : Int32} {io_codeLong : Int32} {io_readLong : Int32} {io_undos : Int32} {io_wentHome : Int32} {io_tideLevel : Int32} {io_acts : Int32} {io_firstBreaks : Int32} {io_bestCrew : Int32} {io_sights : Int32} {io_wayMany : Int32} {io_random : Int32} {co_row : Nat → Int64} {x1 : Int32} {x2 : Int32} {x3 : Int32} {x4 : Int64} {x6 : Int64} {x8 : Int32} {x11 : Int32} {s0 : Int64} {s1 : Int64} {res : Int32 × Int32 × Int32 × (Nat → Int64)} (C : axC X l D Y cX12_rain 12 RX12 wsX12_rain rmX12_rain (some .int)) (hQ : axQ X 0 0 (fun r9 w9 => r9 = (some (.int res.1)) ∧ w9 = [oX12 ao res.2.1 res.2.2.1 io_cells io_children io_changes io_taped io_at io_to io_nest io_readMany io_codeLong io_readLong io_undos io_wentHome io_tideLevel io_acts io_firstBreaks io_bestCrew io_sights io_wayMany io_random, rJ Y (ao 1) 24 res.2.2.2])) {k75 : Int64 × Int32 → Option (Int32 × Int32 × Int32 × (Nat → Int64))} (hk75 : ∀ s : Int64 × Int32, k75 s = some res → ax X 0 0 75 [some (.ref (ao 0)), some (.int x1), some (.int x2), some (.int x3), some (.long s.1), none, some (.long x6), none, some (.int s.2), none, none, none] [oX12 ao io_thrown io_rows io_cells io_children io_changes io_taped io_at io_to io_nest io_readMany io_codeLong io_readLong io_undos io_wentHome io_tideLevel io_acts io_firstBreaks io_bestCrew io_sights io_wayMany io_random, rJ Y (ao 1) 24 co_row] []) {k99 : Int64 × Int32 → Option (Int32 × Int32 × Int32 × (Nat → Int64))} (hk99 : ∀ s : Int64 × Int32, k99 s = some res → ax X 0 0 99 [some (.ref (ao 0)), some (.int x1), some (.int x2), some (.int x3), some (.long x4), none, some (.long x6), none, some (.int x8), some (.long s.1), none, some (.int s.2)] [oX12 ao io_thrown io_rows io_cells io_children io_changes io_taped io_at io_to io_nest io_readMany io_codeLong io_readLong io_undos io_wentHome io_tideLevel io_acts io_firstBreaks io_bestCrew io_sights io_wayMany io_random, rJ Y (ao 1) 24 co_row] []) (hf : fX12_rain_b127 io_thrown io_rows co_row x1 x2 x3 x4 x6 x8 x11 s0 s1 k75 k99 = some res) : ax X 0 0 127 [some (.ref (ao 0)), some (.int x1), some (.int x2), some (.int x3), some (.long x4), none, some (.long x6), none, some (.int x8), none, none, some (.int x11)] [oX12 ao io_thrown io_rows io_cells io_children io_changes io_taped io_at io_to io_nest io_readMany io_codeLong io_readLong io_undos io_wentHome io_tideLevel io_acts io_firstBreaks io_bestCrew io_sights io_wayMany io_random, rJ Y (ao 1) 24 co_row] [.long s1, .long s0] := by
  unfold fX12_rain_b127 at hf
  refine a_lmul C dX12_rain_127 ?_
  refine a_lstore C dX12_rain_128 (by decide) rfl ?_
  refine a_iinc C (1 : Int32) dX12_rain_130 (by decide) rfl (by decide) rfl ?_
  refine a_goto C 99 dX12_rain_133 (by decide) ?_
  exact hk99 ((s0 * s1), (x11 + (1 : Int32))) hf
def fX12_rain_l99 (io_thrown : Int32) (io_rows : Int32) (co_row : Nat → Int64) (x1 : Int32) (x2 : Int32) (x3 : Int32) (x4 : Int64) (x6 : Int64) (x8 : Int32) (k75 : Int64 × Int32 → Option (Int32 × Int32 × Int32 × (Nat → Int64))) (k99 : Int64 × Int32 → Option (Int32 × Int32 × Int32 × (Nat → Int64))) (x9 : Int64) (x11 : Int32) : Option (Int32 × Int32 × Int32 × (Nat → Int64)) :=
  if x1 ≤ x11 then (fX12_rain_b136 io_thrown io_rows co_row x1 x2 x3 x4 x6 x8 x9 k75) else ((fX12_has x8 x11).bind (fun r6 => if r6 = (0 : Int32) then (fX12_rain_b127 io_thrown io_rows co_row x1 x2 x3 x4 x6 x8 x11 x9 (((10 : Int32) - x3).toInt64) k75 k99) else (fX12_rain_b127 io_thrown io_rows co_row x1 x2 x3 x4 x6 x8 x11 x9 (x3.toInt64) k75 k99)))
def fX12_rain_b99 (io_thrown : Int32) (io_rows : Int32) (co_row : Nat → Int64) (x1 : Int32) (x2 : Int32) (x3 : Int32) (x4 : Int64) (x6 : Int64) (x8 : Int32) (x9 : Int64) (x11 : Int32) (k75 : Int64 × Int32 → Option (Int32 × Int32 × Int32 × (Nat → Int64))) : Option (Int32 × Int32 × Int32 × (Nat → Int64)) :=
  loopN (fun (s : Int64 × Int32) k99 => fX12_rain_l99 io_thrown io_rows co_row x1 x2 x3 x4 x6 x8 k75 k99 s.1 s.2) FUEL (x9, x11)
set_option maxHeartbeats 400000 in
set_option maxRecDepth 100000 in
theorem kX12_rain_l99 {X : cxT} {l : Launch} {D : va_G} {Y : Nat → ClassId} {ao : Nat → Nat} {io_thrown : Int32} {io_rows : Int32} {io_cells : Int32} {io_children : Int32} {io_changes : Int32} {io_taped : Int32} {io_at : Int32} {io_to : Int32} {io_nest : Int32} {io_readMany : Int32} {io_codeLong : Int32} {io_readLong : Int32} {io_undos : Int32} {io_wentHome : Int32} {io_tideLevel : Int32} {io_acts : Int32} {io_firstBreaks : Int32} {io_bestCrew : Int32} {io_sights : Int32} {io_wayMany : Int32} {io_random : Int32} {co_row : Nat → Int64} {x1 : Int32} {x2 : Int32} {x3 : Int32} {x4 : Int64} {x6 : Int64} {x8 : Int32} {x9 : Int64} {x11 : Int32} {res : Int32 × Int32 × Int32 × (Nat → Int64)} (C : axC X l D Y cX12_rain 12 RX12 wsX12_rain rmX12_rain (some .int)) (hQ : axQ X 0 0 (fun r9 w9 => r9 = (some (.int res.1)) ∧ w9 = [oX12 ao res.2.1 res.2.2.1 io_cells io_children io_changes io_taped io_at io_to io_nest io_readMany io_codeLong io_readLong io_undos io_wentHome io_tideLevel io_acts io_firstBreaks io_bestCrew io_sights io_wayMany io_random, rJ Y (ao 1) 24 res.2.2.2])) {k75 : Int64 × Int32 → Option (Int32 × Int32 × Int32 × (Nat → Int64))} (hk75 : ∀ s : Int64 × Int32, k75 s = some res → ax X 0 0 75 [some (.ref (ao 0)), some (.int x1), some (.int x2), some (.int x3), some (.long s.1), none, some (.long x6), none, some (.int s.2), none, none, none] [oX12 ao io_thrown io_rows io_cells io_children io_changes io_taped io_at io_to io_nest io_readMany io_codeLong io_readLong io_undos io_wentHome io_tideLevel io_acts io_firstBreaks io_bestCrew io_sights io_wayMany io_random, rJ Y (ao 1) 24 co_row] []) {k99 : Int64 × Int32 → Option (Int32 × Int32 × Int32 × (Nat → Int64))} (hk99 : ∀ s : Int64 × Int32, k99 s = some res → ax X 0 0 99 [some (.ref (ao 0)), some (.int x1), some (.int x2), some (.int x3), some (.long x4), none, some (.long x6), none, some (.int x8), some (.long s.1), none, some (.int s.2)] [oX12 ao io_thrown io_rows io_cells io_children io_changes io_taped io_at io_to io_nest io_readMany io_codeLong io_readLong io_undos io_wentHome io_tideLevel io_acts io_firstBreaks io_bestCrew io_sights io_wayMany io_random, rJ Y (ao 1) 24 co_row] []) (hf : fX12_rain_l99 io_thrown io_rows co_row x1 x2 x3 x4 x6 x8 k75 k99 x9 x11 = some res) : ax X 0 0 99 [some (.ref (ao 0)), some (.int x1), some (.int x2), some (.int x3), some (.long x4), none, some (.long x6), none, some (.int x8), some (.long x9), none, some (.int x11)] [oX12 ao io_thrown io_rows io_cells io_children io_changes io_taped io_at io_to io_nest io_readMany io_codeLong io_readLong io_undos io_wentHome io_tideLevel io_acts io_firstBreaks io_bestCrew io_sights io_wayMany io_random, rJ Y (ao 1) 24 co_row] [] := by
  unfold fX12_rain_l99 at hf
  refine a_iload C dX12_rain_99 rfl ?_
  refine a_iload_n C dX12_rain_101 rfl ?_
  refine a_icmp_ge C 136 dX12_rain_102 (by decide) (fun h5 => ?_) (fun h5 => ?_)
  · have hf := fx_t h5 hf
    refine a_kill [11] ?_
    exact kX12_rain_b136 C hQ hk75 hf
  · have hf := fx_f h5 hf
    refine a_lload C dX12_rain_105 rfl ?_
    refine a_iload C dX12_rain_107 rfl ?_
    refine a_iload C dX12_rain_109 rfl ?_
    obtain ⟨r6, h6, hf⟩ := fx_bind hf
    refine a_fS C (kX12_has l D Y x8 x11 r6 h6) (gB_X12_269 _) rfl dvX12_has ⟨⟨rfl, rfl⟩, ⟨Nat.le_of_ble_eq_true rfl, Nat.le_of_ble_eq_true rfl⟩, ⟨Nat.le_of_ble_eq_true rfl, Nat.le_of_ble_eq_true rfl⟩⟩ rfl (Nat.le_of_ble_eq_true rfl) dX12_rain_111 [] [0, 1] trivial (by decide +kernel) rfl [oX12 ao io_thrown io_rows io_cells io_children io_changes io_taped io_at io_to io_nest io_readMany io_codeLong io_readLong io_undos io_wentHome io_tideLevel io_acts io_firstBreaks io_bestCrew io_sights io_wayMany io_random, rJ Y (ao 1) 24 co_row] trivial ⟨rfl, rfl, trivial⟩ 2 rfl (by decide +kernel) ?_
    refine a_if_eq C 122 dX12_rain_114 (by decide) (fun h7 => ?_) (fun h7 => ?_)
    · have hf := fx_t h7 hf
      refine a_bipush C (10 : Int32) dX12_rain_122 (by decide) ?_
      refine a_iload_n C dX12_rain_124 rfl ?_
      refine a_isub C dX12_rain_125 ?_
      refine a_i2l C dX12_rain_126 ?_
      refine a_kill [9] ?_
      exact kX12_rain_b127 C hQ hk75 hk99 hf
    · have hf := fx_f h7 hf
      refine a_iload_n C dX12_rain_117 rfl ?_
      refine a_i2l C dX12_rain_118 ?_
      refine a_goto C 127 dX12_rain_119 (by decide) ?_
      refine a_kill [9] ?_
      exact kX12_rain_b127 C hQ hk75 hk99 hf
set_option maxHeartbeats 400000 in
set_option maxRecDepth 100000 in
theorem kX12_rain_b99 {X : cxT} {l : Launch} {D : va_G} {Y : Nat → ClassId} {ao : Nat → Nat} {io_thrown : Int32} {io_rows : Int32} {io_cells : Int32} {io_children : Int32} {io_changes : Int32} {io_taped : Int32} {io_at : Int32} {io_to : Int32} {io_nest : Int32} {io_readMany : Int32} {io_codeLong : Int32} {io_readLong : Int32} {io_undos : Int32} {io_wentHome : Int32} {io_tideLevel : Int32} {io_acts : Int32} {io_firstBreaks : Int32} {io_bestCrew : Int32} {io_sights : Int32} {io_wayMany : Int32} {io_random : Int32} {co_row : Nat → Int64} {x1 : Int32} {x2 : Int32} {x3 : Int32} {x4 : Int64} {x6 : Int64} {x8 : Int32} {x9 : Int64} {x11 : Int32} {res : Int32 × Int32 × Int32 × (Nat → Int64)} (C : axC X l D Y cX12_rain 12 RX12 wsX12_rain rmX12_rain (some .int)) (hQ : axQ X 0 0 (fun r9 w9 => r9 = (some (.int res.1)) ∧ w9 = [oX12 ao res.2.1 res.2.2.1 io_cells io_children io_changes io_taped io_at io_to io_nest io_readMany io_codeLong io_readLong io_undos io_wentHome io_tideLevel io_acts io_firstBreaks io_bestCrew io_sights io_wayMany io_random, rJ Y (ao 1) 24 res.2.2.2])) {k75 : Int64 × Int32 → Option (Int32 × Int32 × Int32 × (Nat → Int64))} (hk75 : ∀ s : Int64 × Int32, k75 s = some res → ax X 0 0 75 [some (.ref (ao 0)), some (.int x1), some (.int x2), some (.int x3), some (.long s.1), none, some (.long x6), none, some (.int s.2), none, none, none] [oX12 ao io_thrown io_rows io_cells io_children io_changes io_taped io_at io_to io_nest io_readMany io_codeLong io_readLong io_undos io_wentHome io_tideLevel io_acts io_firstBreaks io_bestCrew io_sights io_wayMany io_random, rJ Y (ao 1) 24 co_row] []) (hf : fX12_rain_b99 io_thrown io_rows co_row x1 x2 x3 x4 x6 x8 x9 x11 k75 = some res) : ax X 0 0 99 [some (.ref (ao 0)), some (.int x1), some (.int x2), some (.int x3), some (.long x4), none, some (.long x6), none, some (.int x8), some (.long x9), none, some (.int x11)] [oX12 ao io_thrown io_rows io_cells io_children io_changes io_taped io_at io_to io_nest io_readMany io_codeLong io_readLong io_undos io_wentHome io_tideLevel io_acts io_firstBreaks io_bestCrew io_sights io_wayMany io_random, rJ Y (ao 1) 24 co_row] [] := by
  unfold fX12_rain_b99 at hf
  exact fx_loop (P := fun s : Int64 × Int32 => ax X 0 0 99 [some (.ref (ao 0)), some (.int x1), some (.int x2), some (.int x3), some (.long x4), none, some (.long x6), none, some (.int x8), some (.long s.1), none, some (.int s.2)] [oX12 ao io_thrown io_rows io_cells io_children io_changes io_taped io_at io_to io_nest io_readMany io_codeLong io_readLong io_undos io_wentHome io_tideLevel io_acts io_firstBreaks io_bestCrew io_sights io_wayMany io_random, rJ Y (ao 1) 24 co_row] []) (fun s k99 hk99 h => kX12_rain_l99 C hQ hk75 hk99 h) FUEL (x9, x11) hf
def fX12_rain_l75 (io_thrown : Int32) (io_rows : Int32) (co_row : Nat → Int64) (x1 : Int32) (x2 : Int32) (x3 : Int32) (x6 : Int64) (k75 : Int64 × Int32 → Option (Int32 × Int32 × Int32 × (Nat → Int64))) (x4 : Int64) (x8 : Int32) : Option (Int32 × Int32 × Int32 × (Nat → Int64)) :=
  if (jshl (1 : Int32) x1) ≤ x8 then (fX12_rain_b149 io_thrown io_rows co_row x4 x6) else ((fX12_hasRun x8 x1 x2).bind (fun r9 => (fX12_flag r9).bind (fun r10 => fX12_rain_b99 io_thrown io_rows co_row x1 x2 x3 x4 x6 x8 (r10.toInt64) (0 : Int32) k75)))
def fX12_rain_b75 (io_thrown : Int32) (io_rows : Int32) (co_row : Nat → Int64) (x1 : Int32) (x2 : Int32) (x3 : Int32) (x4 : Int64) (x6 : Int64) (x8 : Int32) : Option (Int32 × Int32 × Int32 × (Nat → Int64)) :=
  loopN (fun (s : Int64 × Int32) k75 => fX12_rain_l75 io_thrown io_rows co_row x1 x2 x3 x6 k75 s.1 s.2) FUEL (x4, x8)
set_option maxHeartbeats 400000 in
set_option maxRecDepth 100000 in
theorem kX12_rain_l75 {X : cxT} {l : Launch} {D : va_G} {Y : Nat → ClassId} {ao : Nat → Nat} {io_thrown : Int32} {io_rows : Int32} {io_cells : Int32} {io_children : Int32} {io_changes : Int32} {io_taped : Int32} {io_at : Int32} {io_to : Int32} {io_nest : Int32} {io_readMany : Int32} {io_codeLong : Int32} {io_readLong : Int32} {io_undos : Int32} {io_wentHome : Int32} {io_tideLevel : Int32} {io_acts : Int32} {io_firstBreaks : Int32} {io_bestCrew : Int32} {io_sights : Int32} {io_wayMany : Int32} {io_random : Int32} {co_row : Nat → Int64} {x1 : Int32} {x2 : Int32} {x3 : Int32} {x4 : Int64} {x6 : Int64} {x8 : Int32} {res : Int32 × Int32 × Int32 × (Nat → Int64)} (C : axC X l D Y cX12_rain 12 RX12 wsX12_rain rmX12_rain (some .int)) (hQ : axQ X 0 0 (fun r9 w9 => r9 = (some (.int res.1)) ∧ w9 = [oX12 ao res.2.1 res.2.2.1 io_cells io_children io_changes io_taped io_at io_to io_nest io_readMany io_codeLong io_readLong io_undos io_wentHome io_tideLevel io_acts io_firstBreaks io_bestCrew io_sights io_wayMany io_random, rJ Y (ao 1) 24 res.2.2.2])) {k75 : Int64 × Int32 → Option (Int32 × Int32 × Int32 × (Nat → Int64))} (hk75 : ∀ s : Int64 × Int32, k75 s = some res → ax X 0 0 75 [some (.ref (ao 0)), some (.int x1), some (.int x2), some (.int x3), some (.long s.1), none, some (.long x6), none, some (.int s.2), none, none, none] [oX12 ao io_thrown io_rows io_cells io_children io_changes io_taped io_at io_to io_nest io_readMany io_codeLong io_readLong io_undos io_wentHome io_tideLevel io_acts io_firstBreaks io_bestCrew io_sights io_wayMany io_random, rJ Y (ao 1) 24 co_row] []) (hf : fX12_rain_l75 io_thrown io_rows co_row x1 x2 x3 x6 k75 x4 x8 = some res) : ax X 0 0 75 [some (.ref (ao 0)), some (.int x1), some (.int x2), some (.int x3), some (.long x4), none, some (.long x6), none, some (.int x8), none, none, none] [oX12 ao io_thrown io_rows io_cells io_children io_changes io_taped io_at io_to io_nest io_readMany io_codeLong io_readLong io_undos io_wentHome io_tideLevel io_acts io_firstBreaks io_bestCrew io_sights io_wayMany io_random, rJ Y (ao 1) 24 co_row] [] := by
  unfold fX12_rain_l75 at hf
  refine a_iload C dX12_rain_75 rfl ?_
  refine a_iconst C (1 : Int32) dX12_rain_77 (by decide) ?_
  refine a_iload_n C dX12_rain_78 rfl ?_
  refine a_ishl C dX12_rain_79 ?_
  refine a_icmp_ge C 149 dX12_rain_80 (by decide) (fun h8 => ?_) (fun h8 => ?_)
  · have hf := fx_t h8 hf
    refine a_kill [1, 2, 3, 8] ?_
    exact kX12_rain_b149 C hQ hf
  · have hf := fx_f h8 hf
    refine a_iload C dX12_rain_83 rfl ?_
    refine a_iload_n C dX12_rain_85 rfl ?_
    refine a_iload_n C dX12_rain_86 rfl ?_
    obtain ⟨r9, h9, hf⟩ := fx_bind hf
    refine a_fS C (kX12_hasRun l D Y x8 x1 x2 r9 h9) (gB_X12_449 _) rfl dvX12_hasRun ⟨⟨rfl, rfl⟩, ⟨Nat.le_of_ble_eq_true rfl, Nat.le_of_ble_eq_true rfl⟩, ⟨Nat.le_of_ble_eq_true rfl, Nat.le_of_ble_eq_true rfl⟩⟩ rfl (Nat.le_of_ble_eq_true rfl) dX12_rain_87 [] [0, 1] trivial (by decide +kernel) rfl [oX12 ao io_thrown io_rows io_cells io_children io_changes io_taped io_at io_to io_nest io_readMany io_codeLong io_readLong io_undos io_wentHome io_tideLevel io_acts io_firstBreaks io_bestCrew io_sights io_wayMany io_random, rJ Y (ao 1) 24 co_row] trivial ⟨rfl, rfl, trivial⟩ 2 rfl (by decide +kernel) ?_
    obtain ⟨r10, h10, hf⟩ := fx_bind hf
    refine a_fS C (kX12_flag l D Y r9 r10 h10) (gB_X12_151 _) rfl dvX12_flag ⟨⟨rfl, rfl⟩, ⟨Nat.le_of_ble_eq_true rfl, Nat.le_of_ble_eq_true rfl⟩, ⟨Nat.le_of_ble_eq_true rfl, Nat.le_of_ble_eq_true rfl⟩⟩ rfl (Nat.le_of_ble_eq_true rfl) dX12_rain_90 [] [0, 1] trivial (by decide +kernel) rfl [oX12 ao io_thrown io_rows io_cells io_children io_changes io_taped io_at io_to io_nest io_readMany io_codeLong io_readLong io_undos io_wentHome io_tideLevel io_acts io_firstBreaks io_bestCrew io_sights io_wayMany io_random, rJ Y (ao 1) 24 co_row] trivial ⟨rfl, rfl, trivial⟩ 2 rfl (by decide +kernel) ?_
    refine a_i2l C dX12_rain_93 ?_
    refine a_lstore C dX12_rain_94 (by decide) rfl ?_
    refine a_iconst C (0 : Int32) dX12_rain_96 (by decide) ?_
    refine a_istore C dX12_rain_97 (by decide) rfl ?_
    exact kX12_rain_b99 C hQ hk75 hf
set_option maxHeartbeats 400000 in
set_option maxRecDepth 100000 in
theorem kX12_rain_b75 {X : cxT} {l : Launch} {D : va_G} {Y : Nat → ClassId} {ao : Nat → Nat} {io_thrown : Int32} {io_rows : Int32} {io_cells : Int32} {io_children : Int32} {io_changes : Int32} {io_taped : Int32} {io_at : Int32} {io_to : Int32} {io_nest : Int32} {io_readMany : Int32} {io_codeLong : Int32} {io_readLong : Int32} {io_undos : Int32} {io_wentHome : Int32} {io_tideLevel : Int32} {io_acts : Int32} {io_firstBreaks : Int32} {io_bestCrew : Int32} {io_sights : Int32} {io_wayMany : Int32} {io_random : Int32} {co_row : Nat → Int64} {x1 : Int32} {x2 : Int32} {x3 : Int32} {x4 : Int64} {x6 : Int64} {x8 : Int32} {res : Int32 × Int32 × Int32 × (Nat → Int64)} (C : axC X l D Y cX12_rain 12 RX12 wsX12_rain rmX12_rain (some .int)) (hQ : axQ X 0 0 (fun r9 w9 => r9 = (some (.int res.1)) ∧ w9 = [oX12 ao res.2.1 res.2.2.1 io_cells io_children io_changes io_taped io_at io_to io_nest io_readMany io_codeLong io_readLong io_undos io_wentHome io_tideLevel io_acts io_firstBreaks io_bestCrew io_sights io_wayMany io_random, rJ Y (ao 1) 24 res.2.2.2])) (hf : fX12_rain_b75 io_thrown io_rows co_row x1 x2 x3 x4 x6 x8 = some res) : ax X 0 0 75 [some (.ref (ao 0)), some (.int x1), some (.int x2), some (.int x3), some (.long x4), none, some (.long x6), none, some (.int x8), none, none, none] [oX12 ao io_thrown io_rows io_cells io_children io_changes io_taped io_at io_to io_nest io_readMany io_codeLong io_readLong io_undos io_wentHome io_tideLevel io_acts io_firstBreaks io_bestCrew io_sights io_wayMany io_random, rJ Y (ao 1) 24 co_row] [] := by
  unfold fX12_rain_b75 at hf
  exact fx_loop (P := fun s : Int64 × Int32 => ax X 0 0 75 [some (.ref (ao 0)), some (.int x1), some (.int x2), some (.int x3), some (.long s.1), none, some (.long x6), none, some (.int s.2), none, none, none] [oX12 ao io_thrown io_rows io_cells io_children io_changes io_taped io_at io_to io_nest io_readMany io_codeLong io_readLong io_undos io_wentHome io_tideLevel io_acts io_firstBreaks io_bestCrew io_sights io_wayMany io_random, rJ Y (ao 1) 24 co_row] []) (fun s k75 hk75 h => kX12_rain_l75 C hQ hk75 h) FUEL (x4, x8) hf
def fX12_rain_b72 (io_thrown : Int32) (io_rows : Int32) (co_row : Nat → Int64) (x1 : Int32) (x2 : Int32) (x3 : Int32) (x4 : Int64) (x6 : Int64) : Option (Int32 × Int32 × Int32 × (Nat → Int64)) :=
  fX12_rain_b75 io_thrown io_rows co_row x1 x2 x3 x4 x6 (0 : Int32)
set_option maxHeartbeats 400000 in
set_option maxRecDepth 100000 in
theorem kX12_rain_b72 {X : cxT} {l : Launch} {D : va_G} {Y : Nat → ClassId} {ao : Nat → Nat} {io_thrown : Int32} {io_rows : Int32} {io_cells : Int32} {io_children : Int32} {io_changes : Int32} {io_taped : Int32} {io_at : Int32} {io_to : Int32} {io_nest : Int32} {io_readMany : Int32} {io_codeLong : Int32} {io_readLong : Int32} {io_undos : Int32} {io_wentHome : Int32} {io_tideLevel : Int32} {io_acts : Int32} {io_firstBreaks : Int32} {io_bestCrew : Int32} {io_sights : Int32} {io_wayMany : Int32} {io_random : Int32} {co_row : Nat → Int64} {x1 : Int32} {x2 : Int32} {x3 : Int32} {x4 : Int64} {x6 : Int64} {res : Int32 × Int32 × Int32 × (Nat → Int64)} (C : axC X l D Y cX12_rain 12 RX12 wsX12_rain rmX12_rain (some .int)) (hQ : axQ X 0 0 (fun r9 w9 => r9 = (some (.int res.1)) ∧ w9 = [oX12 ao res.2.1 res.2.2.1 io_cells io_children io_changes io_taped io_at io_to io_nest io_readMany io_codeLong io_readLong io_undos io_wentHome io_tideLevel io_acts io_firstBreaks io_bestCrew io_sights io_wayMany io_random, rJ Y (ao 1) 24 res.2.2.2])) (hf : fX12_rain_b72 io_thrown io_rows co_row x1 x2 x3 x4 x6 = some res) : ax X 0 0 72 [some (.ref (ao 0)), some (.int x1), some (.int x2), some (.int x3), some (.long x4), none, some (.long x6), none, none, none, none, none] [oX12 ao io_thrown io_rows io_cells io_children io_changes io_taped io_at io_to io_nest io_readMany io_codeLong io_readLong io_undos io_wentHome io_tideLevel io_acts io_firstBreaks io_bestCrew io_sights io_wayMany io_random, rJ Y (ao 1) 24 co_row] [] := by
  unfold fX12_rain_b72 at hf
  refine a_iconst C (0 : Int32) dX12_rain_72 (by decide) ?_
  refine a_istore C dX12_rain_73 (by decide) rfl ?_
  exact kX12_rain_b75 C hQ hf
def fX12_rain_l52 (io_thrown : Int32) (io_rows : Int32) (co_row : Nat → Int64) (x1 : Int32) (x2 : Int32) (x3 : Int32) (x4 : Int64) (k52 : Int64 × Int32 → Option (Int32 × Int32 × Int32 × (Nat → Int64))) (x6 : Int64) (x8 : Int32) : Option (Int32 × Int32 × Int32 × (Nat → Int64)) :=
  if x1 ≤ x8 then (fX12_rain_b72 io_thrown io_rows co_row x1 x2 x3 x4 x6) else (k52 ((x6 * (10 : Int64)), (x8 + (1 : Int32))))
def fX12_rain_b52 (io_thrown : Int32) (io_rows : Int32) (co_row : Nat → Int64) (x1 : Int32) (x2 : Int32) (x3 : Int32) (x4 : Int64) (x6 : Int64) (x8 : Int32) : Option (Int32 × Int32 × Int32 × (Nat → Int64)) :=
  loopN (fun (s : Int64 × Int32) k52 => fX12_rain_l52 io_thrown io_rows co_row x1 x2 x3 x4 k52 s.1 s.2) FUEL (x6, x8)
set_option maxHeartbeats 400000 in
set_option maxRecDepth 100000 in
theorem kX12_rain_l52 {X : cxT} {l : Launch} {D : va_G} {Y : Nat → ClassId} {ao : Nat → Nat} {io_thrown : Int32} {io_rows : Int32} {io_cells : Int32} {io_children : Int32} {io_changes : Int32} {io_taped : Int32} {io_at : Int32} {io_to : Int32} {io_nest : Int32} {io_readMany : Int32} {io_codeLong : Int32} {io_readLong : Int32} {io_undos : Int32} {io_wentHome : Int32} {io_tideLevel : Int32} {io_acts : Int32} {io_firstBreaks : Int32} {io_bestCrew : Int32} {io_sights : Int32} {io_wayMany : Int32} {io_random : Int32} {co_row : Nat → Int64} {x1 : Int32} {x2 : Int32} {x3 : Int32} {x4 : Int64} {x6 : Int64} {x8 : Int32} {res : Int32 × Int32 × Int32 × (Nat → Int64)} (C : axC X l D Y cX12_rain 12 RX12 wsX12_rain rmX12_rain (some .int)) (hQ : axQ X 0 0 (fun r9 w9 => r9 = (some (.int res.1)) ∧ w9 = [oX12 ao res.2.1 res.2.2.1 io_cells io_children io_changes io_taped io_at io_to io_nest io_readMany io_codeLong io_readLong io_undos io_wentHome io_tideLevel io_acts io_firstBreaks io_bestCrew io_sights io_wayMany io_random, rJ Y (ao 1) 24 res.2.2.2])) {k52 : Int64 × Int32 → Option (Int32 × Int32 × Int32 × (Nat → Int64))} (hk52 : ∀ s : Int64 × Int32, k52 s = some res → ax X 0 0 52 [some (.ref (ao 0)), some (.int x1), some (.int x2), some (.int x3), some (.long x4), none, some (.long s.1), none, some (.int s.2), none, none, none] [oX12 ao io_thrown io_rows io_cells io_children io_changes io_taped io_at io_to io_nest io_readMany io_codeLong io_readLong io_undos io_wentHome io_tideLevel io_acts io_firstBreaks io_bestCrew io_sights io_wayMany io_random, rJ Y (ao 1) 24 co_row] []) (hf : fX12_rain_l52 io_thrown io_rows co_row x1 x2 x3 x4 k52 x6 x8 = some res) : ax X 0 0 52 [some (.ref (ao 0)), some (.int x1), some (.int x2), some (.int x3), some (.long x4), none, some (.long x6), none, some (.int x8), none, none, none] [oX12 ao io_thrown io_rows io_cells io_children io_changes io_taped io_at io_to io_nest io_readMany io_codeLong io_readLong io_undos io_wentHome io_tideLevel io_acts io_firstBreaks io_bestCrew io_sights io_wayMany io_random, rJ Y (ao 1) 24 co_row] [] := by
  unfold fX12_rain_l52 at hf
  refine a_iload C dX12_rain_52 rfl ?_
  refine a_iload_n C dX12_rain_54 rfl ?_
  refine a_icmp_ge C 72 dX12_rain_55 (by decide) (fun h11 => ?_) (fun h11 => ?_)
  · have hf := fx_t h11 hf
    refine a_kill [8] ?_
    exact kX12_rain_b72 C hQ hf
  · have hf := fx_f h11 hf
    refine a_lload C dX12_rain_58 rfl ?_
    refine a_ldc2 C (10 : Int64) dX12_rain_60 (kB_X12_447 _) ?_
    refine a_lmul C dX12_rain_63 ?_
    refine a_lstore C dX12_rain_64 (by decide) rfl ?_
    refine a_iinc C (1 : Int32) dX12_rain_66 (by decide) rfl (by decide) rfl ?_
    refine a_goto C 52 dX12_rain_69 (by decide) ?_
    exact hk52 ((x6 * (10 : Int64)), (x8 + (1 : Int32))) hf
set_option maxHeartbeats 400000 in
set_option maxRecDepth 100000 in
theorem kX12_rain_b52 {X : cxT} {l : Launch} {D : va_G} {Y : Nat → ClassId} {ao : Nat → Nat} {io_thrown : Int32} {io_rows : Int32} {io_cells : Int32} {io_children : Int32} {io_changes : Int32} {io_taped : Int32} {io_at : Int32} {io_to : Int32} {io_nest : Int32} {io_readMany : Int32} {io_codeLong : Int32} {io_readLong : Int32} {io_undos : Int32} {io_wentHome : Int32} {io_tideLevel : Int32} {io_acts : Int32} {io_firstBreaks : Int32} {io_bestCrew : Int32} {io_sights : Int32} {io_wayMany : Int32} {io_random : Int32} {co_row : Nat → Int64} {x1 : Int32} {x2 : Int32} {x3 : Int32} {x4 : Int64} {x6 : Int64} {x8 : Int32} {res : Int32 × Int32 × Int32 × (Nat → Int64)} (C : axC X l D Y cX12_rain 12 RX12 wsX12_rain rmX12_rain (some .int)) (hQ : axQ X 0 0 (fun r9 w9 => r9 = (some (.int res.1)) ∧ w9 = [oX12 ao res.2.1 res.2.2.1 io_cells io_children io_changes io_taped io_at io_to io_nest io_readMany io_codeLong io_readLong io_undos io_wentHome io_tideLevel io_acts io_firstBreaks io_bestCrew io_sights io_wayMany io_random, rJ Y (ao 1) 24 res.2.2.2])) (hf : fX12_rain_b52 io_thrown io_rows co_row x1 x2 x3 x4 x6 x8 = some res) : ax X 0 0 52 [some (.ref (ao 0)), some (.int x1), some (.int x2), some (.int x3), some (.long x4), none, some (.long x6), none, some (.int x8), none, none, none] [oX12 ao io_thrown io_rows io_cells io_children io_changes io_taped io_at io_to io_nest io_readMany io_codeLong io_readLong io_undos io_wentHome io_tideLevel io_acts io_firstBreaks io_bestCrew io_sights io_wayMany io_random, rJ Y (ao 1) 24 co_row] [] := by
  unfold fX12_rain_b52 at hf
  exact fx_loop (P := fun s : Int64 × Int32 => ax X 0 0 52 [some (.ref (ao 0)), some (.int x1), some (.int x2), some (.int x3), some (.long x4), none, some (.long s.1), none, some (.int s.2), none, none, none] [oX12 ao io_thrown io_rows io_cells io_children io_changes io_taped io_at io_to io_nest io_readMany io_codeLong io_readLong io_undos io_wentHome io_tideLevel io_acts io_firstBreaks io_bestCrew io_sights io_wayMany io_random, rJ Y (ao 1) 24 co_row] []) (fun s k52 hk52 h => kX12_rain_l52 C hQ hk52 h) FUEL (x6, x8) hf
def fX12_rain (io_thrown : Int32) (io_rows : Int32) (co_row : Nat → Int64) (x1 : Int32) (x2 : Int32) (x3 : Int32) : Option (Int32 × Int32 × Int32 × (Nat → Int64)) :=
  (fX12_in (x1.toInt64) (1 : Int64) (12 : Int64)).bind (fun r12 => if r12 = (0 : Int32) then (fX12_rain_b41 (0 : Int32) io_rows co_row) else ((fX12_in (x2.toInt64) (1 : Int64) (12 : Int64)).bind (fun r14 => if r14 = (0 : Int32) then (fX12_rain_b41 (0 : Int32) io_rows co_row) else ((fX12_in (x3.toInt64) (0 : Int64) (10 : Int64)).bind (fun r16 => if r16 = (0 : Int32) then (fX12_rain_b41 (0 : Int32) io_rows co_row) else (fX12_rain_b52 (0 : Int32) io_rows co_row x1 x2 x3 (0 : Int64) (1 : Int64) (0 : Int32)))))))
set_option maxHeartbeats 400000 in
set_option maxRecDepth 100000 in
theorem kX12_rain (l : Launch) (D : va_G) (Y : Nat → ClassId) (ao : Nat → Nat) (io_thrown : Int32) (io_rows : Int32) (io_cells : Int32) (io_children : Int32) (io_changes : Int32) (io_taped : Int32) (io_at : Int32) (io_to : Int32) (io_nest : Int32) (io_readMany : Int32) (io_codeLong : Int32) (io_readLong : Int32) (io_undos : Int32) (io_wentHome : Int32) (io_tideLevel : Int32) (io_acts : Int32) (io_firstBreaks : Int32) (io_bestCrew : Int32) (io_sights : Int32) (io_wayMany : Int32) (io_random : Int32) (co_row : Nat → Int64) (x1 : Int32) (x2 : Int32) (x3 : Int32) (res : Int32 × Int32 × Int32 × (Nat → Int64)) (hf : fX12_rain io_thrown io_rows co_row x1 x2 x3 = some res) : amf l D Y yX12_rain wsX12_rain rmX12_rain [.ref (ao 0), .int x1, .int x2, .int x3] [oX12 ao io_thrown io_rows io_cells io_children io_changes io_taped io_at io_to io_nest io_readMany io_codeLong io_readLong io_undos io_wentHome io_tideLevel io_acts io_firstBreaks io_bestCrew io_sights io_wayMany io_random, rJ Y (ao 1) 24 co_row] (some (.int res.1)) [oX12 ao res.2.1 res.2.2.1 io_cells io_children io_changes io_taped io_at io_to io_nest io_readMany io_codeLong io_readLong io_undos io_wentHome io_tideLevel io_acts io_firstBreaks io_bestCrew io_sights io_wayMany io_random, rJ Y (ao 1) 24 res.2.2.2] := by
  refine amf.of (cc := cX12_rain) (maxL := 12) (rt := (some .int)) (by decide) rfl RX12 rfl (Nat.le_of_ble_eq_true rfl) [some (.ref (ao 0)), some (.int x1), some (.int x2), some (.int x3), none, none, none, none, none, none, none, none] rfl ?_
  intro X C hQ
  unfold fX12_rain at hf
  refine a_aload_n C dX12_rain_0 rfl ?_
  refine a_iconst C (0 : Int32) dX12_rain_1 (by decide) ?_
  refine a_put C (eB_X12_112 _) tfX12_0 dX12_rain_2 0 rfl rfl rfl (Nat.le_of_ble_eq_true rfl) ?_
  refine a_iload_n C dX12_rain_5 rfl ?_
  refine a_i2l C dX12_rain_6 ?_
  refine a_lconst C (1 : Int64) dX12_rain_7 (by decide) ?_
  refine a_ldc2 C (12 : Int64) dX12_rain_8 (kB_X12_445 _) ?_
  obtain ⟨r12, h12, hf⟩ := fx_bind hf
  refine a_fS C (kX12_in l D Y (x1.toInt64) (1 : Int64) (12 : Int64) r12 h12) (gB_X12_122 _) rfl dvX12_in ⟨⟨rfl, rfl⟩, ⟨Nat.le_of_ble_eq_true rfl, Nat.le_of_ble_eq_true rfl⟩, ⟨Nat.le_of_ble_eq_true rfl, Nat.le_of_ble_eq_true rfl⟩⟩ rfl (Nat.le_of_ble_eq_true rfl) dX12_rain_11 [] [0, 1] trivial (by decide +kernel) rfl [oX12 ao (0 : Int32) io_rows io_cells io_children io_changes io_taped io_at io_to io_nest io_readMany io_codeLong io_readLong io_undos io_wentHome io_tideLevel io_acts io_firstBreaks io_bestCrew io_sights io_wayMany io_random, rJ Y (ao 1) 24 co_row] trivial ⟨rfl, rfl, trivial⟩ 2 rfl (by decide +kernel) ?_
  refine a_if_eq C 41 dX12_rain_14 (by decide) (fun h13 => ?_) (fun h13 => ?_)
  · have hf := fx_t h13 hf
    refine a_kill [0, 1, 2, 3] ?_
    exact kX12_rain_b41 C hQ hf
  · have hf := fx_f h13 hf
    refine a_iload_n C dX12_rain_17 rfl ?_
    refine a_i2l C dX12_rain_18 ?_
    refine a_lconst C (1 : Int64) dX12_rain_19 (by decide) ?_
    refine a_ldc2 C (12 : Int64) dX12_rain_20 (kB_X12_445 _) ?_
    obtain ⟨r14, h14, hf⟩ := fx_bind hf
    refine a_fS C (kX12_in l D Y (x2.toInt64) (1 : Int64) (12 : Int64) r14 h14) (gB_X12_122 _) rfl dvX12_in ⟨⟨rfl, rfl⟩, ⟨Nat.le_of_ble_eq_true rfl, Nat.le_of_ble_eq_true rfl⟩, ⟨Nat.le_of_ble_eq_true rfl, Nat.le_of_ble_eq_true rfl⟩⟩ rfl (Nat.le_of_ble_eq_true rfl) dX12_rain_23 [] [0, 1] trivial (by decide +kernel) rfl [oX12 ao (0 : Int32) io_rows io_cells io_children io_changes io_taped io_at io_to io_nest io_readMany io_codeLong io_readLong io_undos io_wentHome io_tideLevel io_acts io_firstBreaks io_bestCrew io_sights io_wayMany io_random, rJ Y (ao 1) 24 co_row] trivial ⟨rfl, rfl, trivial⟩ 2 rfl (by decide +kernel) ?_
    refine a_if_eq C 41 dX12_rain_26 (by decide) (fun h15 => ?_) (fun h15 => ?_)
    · have hf := fx_t h15 hf
      refine a_kill [0, 1, 2, 3] ?_
      exact kX12_rain_b41 C hQ hf
    · have hf := fx_f h15 hf
      refine a_iload_n C dX12_rain_29 rfl ?_
      refine a_i2l C dX12_rain_30 ?_
      refine a_lconst C (0 : Int64) dX12_rain_31 (by decide) ?_
      refine a_ldc2 C (10 : Int64) dX12_rain_32 (kB_X12_447 _) ?_
      obtain ⟨r16, h16, hf⟩ := fx_bind hf
      refine a_fS C (kX12_in l D Y (x3.toInt64) (0 : Int64) (10 : Int64) r16 h16) (gB_X12_122 _) rfl dvX12_in ⟨⟨rfl, rfl⟩, ⟨Nat.le_of_ble_eq_true rfl, Nat.le_of_ble_eq_true rfl⟩, ⟨Nat.le_of_ble_eq_true rfl, Nat.le_of_ble_eq_true rfl⟩⟩ rfl (Nat.le_of_ble_eq_true rfl) dX12_rain_35 [] [0, 1] trivial (by decide +kernel) rfl [oX12 ao (0 : Int32) io_rows io_cells io_children io_changes io_taped io_at io_to io_nest io_readMany io_codeLong io_readLong io_undos io_wentHome io_tideLevel io_acts io_firstBreaks io_bestCrew io_sights io_wayMany io_random, rJ Y (ao 1) 24 co_row] trivial ⟨rfl, rfl, trivial⟩ 2 rfl (by decide +kernel) ?_
      refine a_if_ne C 43 dX12_rain_38 (by decide) (fun h17 => ?_) (fun h17 => ?_)
      · have hf := fx_f h17 hf
        refine a_lconst C (0 : Int64) dX12_rain_43 (by decide) ?_
        refine a_lstore C dX12_rain_44 (by decide) rfl ?_
        refine a_lconst C (1 : Int64) dX12_rain_46 (by decide) ?_
        refine a_lstore C dX12_rain_47 (by decide) rfl ?_
        refine a_iconst C (0 : Int32) dX12_rain_49 (by decide) ?_
        refine a_istore C dX12_rain_50 (by decide) rfl ?_
        exact kX12_rain_b52 C hQ hf
      · have hf := fx_t h17 hf
        refine a_kill [0, 1, 2, 3] ?_
        exact kX12_rain_b41 C hQ hf
-- X12_earns
abbrev rmX12_earns : Room := { frames := 0, cells := 0, slots := 0, locals := 0 }
theorem dvX12_earns : yX12_earns.cls ≠ "java/lang/invoke/MethodHandle" ∧ yX12_earns.cls ≠ "java/lang/invoke/VarHandle" ∧ (parseMethodDescriptor yX12_earns.desc).map (fun d => d.parameters.length) = some 4 := by decide +kernel
def fX12_earns_b21 (s0 : Int32) : Option (Int32) :=
  some s0
set_option maxHeartbeats 400000 in
set_option maxRecDepth 100000 in
theorem kX12_earns_b21 {X : cxT} {l : Launch} {D : va_G} {Y : Nat → ClassId} {s0 : Int32} {res : Int32} (C : axC X l D Y cX12_earns 4 RX12 wsX12_earns rmX12_earns (some .int)) (hQ : axQ X 0 0 (fun r9 w9 => r9 = (some (.int res)) ∧ w9 = [])) (hf : fX12_earns_b21 s0 = some res) : ax X 0 0 21 [none, none, none, none] [] [.int s0] := by
  unfold fX12_earns_b21 at hf
  obtain rfl := fx_some hf
  exact a_iret C hQ dX12_earns_21 ⟨rfl, rfl⟩
def fX12_earns (x0 : Int32) (x1 : Int32) (x2 : Int32) (x3 : Int32) : Option (Int32) :=
  if (x0 + x1) = (0 : Int32) then (fX12_earns_b21 (0 : Int32)) else (if ¬ (x0 + x1) = 0 then fX12_earns_b21 (((x2 * x0) / (x0 + x1)) - (x3 * x0)) else none)
set_option maxHeartbeats 400000 in
set_option maxRecDepth 100000 in
theorem kX12_earns (l : Launch) (D : va_G) (Y : Nat → ClassId) (x0 : Int32) (x1 : Int32) (x2 : Int32) (x3 : Int32) (res : Int32) (hf : fX12_earns x0 x1 x2 x3 = some res) : amf l D Y yX12_earns wsX12_earns rmX12_earns [.int x0, .int x1, .int x2, .int x3] [] (some (.int res)) [] := by
  refine amf.of (cc := cX12_earns) (maxL := 4) (rt := (some .int)) (by decide) rfl RX12 rfl (Nat.le_of_ble_eq_true rfl) [some (.int x0), some (.int x1), some (.int x2), some (.int x3)] rfl ?_
  intro X C hQ
  unfold fX12_earns at hf
  refine a_iload_n C dX12_earns_0 rfl ?_
  refine a_iload_n C dX12_earns_1 rfl ?_
  refine a_iadd C dX12_earns_2 ?_
  refine a_if_ne C 10 dX12_earns_3 (by decide) (fun h1 => ?_) (fun h1 => ?_)
  · have hf := fx_f h1 hf
    refine a_iload_n C dX12_earns_10 rfl ?_
    refine a_iload_n C dX12_earns_11 rfl ?_
    refine a_imul C dX12_earns_12 ?_
    refine a_iload_n C dX12_earns_13 rfl ?_
    refine a_iload_n C dX12_earns_14 rfl ?_
    refine a_iadd C dX12_earns_15 ?_
    obtain ⟨h2, hf⟩ := fx_ite hf
    refine a_idiv C dX12_earns_16 h2 ?_
    refine a_iload_n C dX12_earns_17 rfl ?_
    refine a_iload_n C dX12_earns_18 rfl ?_
    refine a_imul C dX12_earns_19 ?_
    refine a_isub C dX12_earns_20 ?_
    refine a_kill [0, 1, 2, 3] ?_
    exact kX12_earns_b21 C hQ hf
  · have hf := fx_t h1 hf
    refine a_iconst C (0 : Int32) dX12_earns_6 (by decide) ?_
    refine a_goto C 21 dX12_earns_7 (by decide) ?_
    refine a_kill [0, 1, 2, 3] ?_
    exact kX12_earns_b21 C hQ hf
-- X12_isRest
abbrev rmX12_isRest : Room := { frames := 1, cells := 0, slots := 0, locals := 23 }
theorem dvX12_isRest : yX12_isRest.cls ≠ "java/lang/invoke/MethodHandle" ∧ yX12_isRest.cls ≠ "java/lang/invoke/VarHandle" ∧ (parseMethodDescriptor yX12_isRest.desc).map (fun d => d.parameters.length) = some 4 := by decide +kernel
def fX12_isRest_b49 (x4 : Int32) : Option (Int32) :=
  if x4 = 0 ∨ x4 = 1 then some x4 else none
set_option maxHeartbeats 400000 in
set_option maxRecDepth 100000 in
theorem kX12_isRest_b49 {X : cxT} {l : Launch} {D : va_G} {Y : Nat → ClassId} {x4 : Int32} {res : Int32} (C : axC X l D Y cX12_isRest 6 RX12 wsX12_isRest rmX12_isRest (some .boolean)) (hQ : axQ X 0 0 (fun r9 w9 => r9 = (some (.int res)) ∧ w9 = [])) (hf : fX12_isRest_b49 x4 = some res) : ax X 0 0 49 [none, none, none, none, some (.int x4), none] [] [] := by
  unfold fX12_isRest_b49 at hf
  refine a_iload C dX12_isRest_49 rfl ?_
  obtain ⟨h1, hf⟩ := fx_ite hf
  obtain rfl := fx_some hf
  exact a_zret C hQ h1 dX12_isRest_51 ⟨rfl, rfl⟩
def fX12_isRest_b41 (x0 : Int32) (x1 : Int32) (x2 : Int32) (x3 : Int32) (x5 : Int32) (s0 : Int32) (k6 : Int32 × Int32 → Option (Int32)) : Option (Int32) :=
  k6 (s0, (x5 + (1 : Int32)))
set_option maxHeartbeats 400000 in
set_option maxRecDepth 100000 in
theorem kX12_isRest_b41 {X : cxT} {l : Launch} {D : va_G} {Y : Nat → ClassId} {x0 : Int32} {x1 : Int32} {x2 : Int32} {x3 : Int32} {x5 : Int32} {s0 : Int32} {res : Int32} (C : axC X l D Y cX12_isRest 6 RX12 wsX12_isRest rmX12_isRest (some .boolean)) (hQ : axQ X 0 0 (fun r9 w9 => r9 = (some (.int res)) ∧ w9 = [])) {k6 : Int32 × Int32 → Option (Int32)} (hk6 : ∀ s : Int32 × Int32, k6 s = some res → ax X 0 0 6 [some (.int x0), some (.int x1), some (.int x2), some (.int x3), some (.int s.1), some (.int s.2)] [] []) (hf : fX12_isRest_b41 x0 x1 x2 x3 x5 s0 k6 = some res) : ax X 0 0 41 [some (.int x0), some (.int x1), some (.int x2), some (.int x3), none, some (.int x5)] [] [.int s0] := by
  unfold fX12_isRest_b41 at hf
  refine a_istore C dX12_isRest_41 (by decide) rfl ?_
  refine a_iinc C (1 : Int32) dX12_isRest_43 (by decide) rfl (by decide) rfl ?_
  refine a_goto C 6 dX12_isRest_46 (by decide) ?_
  exact hk6 (s0, (x5 + (1 : Int32))) hf
def fX12_isRest_b40 (x0 : Int32) (x1 : Int32) (x2 : Int32) (x3 : Int32) (x5 : Int32) (k6 : Int32 × Int32 → Option (Int32)) : Option (Int32) :=
  fX12_isRest_b41 x0 x1 x2 x3 x5 (0 : Int32) k6
set_option maxHeartbeats 400000 in
set_option maxRecDepth 100000 in
theorem kX12_isRest_b40 {X : cxT} {l : Launch} {D : va_G} {Y : Nat → ClassId} {x0 : Int32} {x1 : Int32} {x2 : Int32} {x3 : Int32} {x5 : Int32} {res : Int32} (C : axC X l D Y cX12_isRest 6 RX12 wsX12_isRest rmX12_isRest (some .boolean)) (hQ : axQ X 0 0 (fun r9 w9 => r9 = (some (.int res)) ∧ w9 = [])) {k6 : Int32 × Int32 → Option (Int32)} (hk6 : ∀ s : Int32 × Int32, k6 s = some res → ax X 0 0 6 [some (.int x0), some (.int x1), some (.int x2), some (.int x3), some (.int s.1), some (.int s.2)] [] []) (hf : fX12_isRest_b40 x0 x1 x2 x3 x5 k6 = some res) : ax X 0 0 40 [some (.int x0), some (.int x1), some (.int x2), some (.int x3), none, some (.int x5)] [] [] := by
  unfold fX12_isRest_b40 at hf
  refine a_iconst C (0 : Int32) dX12_isRest_40 (by decide) ?_
  exact kX12_isRest_b41 C hQ hk6 hf
def fX12_isRest_l6 (x0 : Int32) (x1 : Int32) (x2 : Int32) (x3 : Int32) (k6 : Int32 × Int32 → Option (Int32)) (x4 : Int32) (x5 : Int32) : Option (Int32) :=
  if (9 : Int32) < x5 then (fX12_isRest_b49 x4) else (if x4 = (0 : Int32) then (fX12_isRest_b40 x0 x1 x2 x3 x5 k6) else ((fX12_earns x5 x1 x2 x3).bind (fun r4 => (fX12_earns x0 x1 x2 x3).bind (fun r5 => if r5 < r4 then (fX12_isRest_b40 x0 x1 x2 x3 x5 k6) else (fX12_isRest_b41 x0 x1 x2 x3 x5 (1 : Int32) k6)))))
def fX12_isRest_b6 (x0 : Int32) (x1 : Int32) (x2 : Int32) (x3 : Int32) (x4 : Int32) (x5 : Int32) : Option (Int32) :=
  loopN (fun (s : Int32 × Int32) k6 => fX12_isRest_l6 x0 x1 x2 x3 k6 s.1 s.2) FUEL (x4, x5)
set_option maxHeartbeats 400000 in
set_option maxRecDepth 100000 in
theorem kX12_isRest_l6 {X : cxT} {l : Launch} {D : va_G} {Y : Nat → ClassId} {x0 : Int32} {x1 : Int32} {x2 : Int32} {x3 : Int32} {x4 : Int32} {x5 : Int32} {res : Int32} (C : axC X l D Y cX12_isRest 6 RX12 wsX12_isRest rmX12_isRest (some .boolean)) (hQ : axQ X 0 0 (fun r9 w9 => r9 = (some (.int res)) ∧ w9 = [])) {k6 : Int32 × Int32 → Option (Int32)} (hk6 : ∀ s : Int32 × Int32, k6 s = some res → ax X 0 0 6 [some (.int x0), some (.int x1), some (.int x2), some (.int x3), some (.int s.1), some (.int s.2)] [] []) (hf : fX12_isRest_l6 x0 x1 x2 x3 k6 x4 x5 = some res) : ax X 0 0 6 [some (.int x0), some (.int x1), some (.int x2), some (.int x3), some (.int x4), some (.int x5)] [] [] := by
  unfold fX12_isRest_l6 at hf
  refine a_iload C dX12_isRest_6 rfl ?_
  refine a_bipush C (9 : Int32) dX12_isRest_8 (by decide) ?_
  refine a_icmp_gt C 49 dX12_isRest_10 (by decide) (fun h2 => ?_) (fun h2 => ?_)
  · have hf := fx_t h2 hf
    refine a_kill [0, 1, 2, 3, 5] ?_
    exact kX12_isRest_b49 C hQ hf
  · have hf := fx_f h2 hf
    refine a_iload C dX12_isRest_13 rfl ?_
    refine a_if_eq C 40 dX12_isRest_15 (by decide) (fun h3 => ?_) (fun h3 => ?_)
    · have hf := fx_t h3 hf
      refine a_kill [4] ?_
      exact kX12_isRest_b40 C hQ hk6 hf
    · have hf := fx_f h3 hf
      refine a_iload C dX12_isRest_18 rfl ?_
      refine a_iload_n C dX12_isRest_20 rfl ?_
      refine a_iload_n C dX12_isRest_21 rfl ?_
      refine a_iload_n C dX12_isRest_22 rfl ?_
      obtain ⟨r4, h4, hf⟩ := fx_bind hf
      refine a_fS C (kX12_earns l D Y x5 x1 x2 x3 r4 h4) (gB_X12_453 _) rfl dvX12_earns ⟨⟨rfl, rfl⟩, ⟨Nat.le_of_ble_eq_true rfl, Nat.le_of_ble_eq_true rfl⟩, ⟨Nat.le_of_ble_eq_true rfl, Nat.le_of_ble_eq_true rfl⟩⟩ rfl (Nat.le_of_ble_eq_true rfl) dX12_isRest_23 [] [] trivial (by decide +kernel) rfl [] trivial trivial 0 rfl (by decide +kernel) ?_
      refine a_iload_n C dX12_isRest_26 rfl ?_
      refine a_iload_n C dX12_isRest_27 rfl ?_
      refine a_iload_n C dX12_isRest_28 rfl ?_
      refine a_iload_n C dX12_isRest_29 rfl ?_
      obtain ⟨r5, h5, hf⟩ := fx_bind hf
      refine a_fS C (kX12_earns l D Y x0 x1 x2 x3 r5 h5) (gB_X12_453 _) rfl dvX12_earns ⟨⟨rfl, rfl⟩, ⟨Nat.le_of_ble_eq_true rfl, Nat.le_of_ble_eq_true rfl⟩, ⟨Nat.le_of_ble_eq_true rfl, Nat.le_of_ble_eq_true rfl⟩⟩ rfl (Nat.le_of_ble_eq_true rfl) dX12_isRest_30 [] [] trivial (by decide +kernel) rfl [] trivial trivial 0 rfl (by decide +kernel) ?_
      refine a_icmp_gt C 40 dX12_isRest_33 (by decide) (fun h6 => ?_) (fun h6 => ?_)
      · have hf := fx_t h6 hf
        refine a_kill [4] ?_
        exact kX12_isRest_b40 C hQ hk6 hf
      · have hf := fx_f h6 hf
        refine a_iconst C (1 : Int32) dX12_isRest_36 (by decide) ?_
        refine a_goto C 41 dX12_isRest_37 (by decide) ?_
        refine a_kill [4] ?_
        exact kX12_isRest_b41 C hQ hk6 hf
set_option maxHeartbeats 400000 in
set_option maxRecDepth 100000 in
theorem kX12_isRest_b6 {X : cxT} {l : Launch} {D : va_G} {Y : Nat → ClassId} {x0 : Int32} {x1 : Int32} {x2 : Int32} {x3 : Int32} {x4 : Int32} {x5 : Int32} {res : Int32} (C : axC X l D Y cX12_isRest 6 RX12 wsX12_isRest rmX12_isRest (some .boolean)) (hQ : axQ X 0 0 (fun r9 w9 => r9 = (some (.int res)) ∧ w9 = [])) (hf : fX12_isRest_b6 x0 x1 x2 x3 x4 x5 = some res) : ax X 0 0 6 [some (.int x0), some (.int x1), some (.int x2), some (.int x3), some (.int x4), some (.int x5)] [] [] := by
  unfold fX12_isRest_b6 at hf
  exact fx_loop (P := fun s : Int32 × Int32 => ax X 0 0 6 [some (.int x0), some (.int x1), some (.int x2), some (.int x3), some (.int s.1), some (.int s.2)] [] []) (fun s k6 hk6 h => kX12_isRest_l6 C hQ hk6 h) FUEL (x4, x5) hf
def fX12_isRest (x0 : Int32) (x1 : Int32) (x2 : Int32) (x3 : Int32) : Option (Int32) :=
  fX12_isRest_b6 x0 x1 x2 x3 (1 : Int32) (0 : Int32)
set_option maxHeartbeats 400000 in
set_option maxRecDepth 100000 in
theorem kX12_isRest (l : Launch) (D : va_G) (Y : Nat → ClassId) (x0 : Int32) (x1 : Int32) (x2 : Int32) (x3 : Int32) (res : Int32) (hf : fX12_isRest x0 x1 x2 x3 = some res) : amf l D Y yX12_isRest wsX12_isRest rmX12_isRest [.int x0, .int x1, .int x2, .int x3] [] (some (.int res)) [] := by
  refine amf.of (cc := cX12_isRest) (maxL := 6) (rt := (some .boolean)) (by decide) rfl RX12 rfl (Nat.le_of_ble_eq_true rfl) [some (.int x0), some (.int x1), some (.int x2), some (.int x3), none, none] rfl ?_
  intro X C hQ
  unfold fX12_isRest at hf
  refine a_iconst C (1 : Int32) dX12_isRest_0 (by decide) ?_
  refine a_istore C dX12_isRest_1 (by decide) rfl ?_
  refine a_iconst C (0 : Int32) dX12_isRest_3 (by decide) ?_
  refine a_istore C dX12_isRest_4 (by decide) rfl ?_
  exact kX12_isRest_b6 C hQ hf
-- X12_rests
abbrev rmX12_rests : Room := { frames := 2, cells := 0, slots := 0, locals := 48 }
theorem dvX12_rests : yX12_rests.cls = RX12 ∧ yX12_rests.cls ≠ "java/lang/invoke/MethodHandle" ∧ yX12_rests.cls ≠ "java/lang/invoke/VarHandle" ∧ (parseMethodDescriptor yX12_rests.desc).map (fun d => d.parameters.length) = some 2 := by decide +kernel
def fX12_rests_b29 (io_thrown : Int32) (io_rows : Int32) (co_row : Nat → Int64) : Option (Int32 × Int32 × Int32 × (Nat → Int64)) :=
  some ((-1 : Int32), io_thrown, io_rows, co_row)
set_option maxHeartbeats 400000 in
set_option maxRecDepth 100000 in
theorem kX12_rests_b29 {X : cxT} {l : Launch} {D : va_G} {Y : Nat → ClassId} {ao : Nat → Nat} {io_thrown : Int32} {io_rows : Int32} {io_cells : Int32} {io_children : Int32} {io_changes : Int32} {io_taped : Int32} {io_at : Int32} {io_to : Int32} {io_nest : Int32} {io_readMany : Int32} {io_codeLong : Int32} {io_readLong : Int32} {io_undos : Int32} {io_wentHome : Int32} {io_tideLevel : Int32} {io_acts : Int32} {io_firstBreaks : Int32} {io_bestCrew : Int32} {io_sights : Int32} {io_wayMany : Int32} {io_random : Int32} {co_row : Nat → Int64} {res : Int32 × Int32 × Int32 × (Nat → Int64)} (C : axC X l D Y cX12_rests 6 RX12 wsX12_rests rmX12_rests (some .int)) (hQ : axQ X 0 0 (fun r9 w9 => r9 = (some (.int res.1)) ∧ w9 = [oX12 ao res.2.1 res.2.2.1 io_cells io_children io_changes io_taped io_at io_to io_nest io_readMany io_codeLong io_readLong io_undos io_wentHome io_tideLevel io_acts io_firstBreaks io_bestCrew io_sights io_wayMany io_random, rJ Y (ao 1) 24 res.2.2.2])) (hf : fX12_rests_b29 io_thrown io_rows co_row = some res) : ax X 0 0 29 [none, none, none, none, none, none] [oX12 ao io_thrown io_rows io_cells io_children io_changes io_taped io_at io_to io_nest io_readMany io_codeLong io_readLong io_undos io_wentHome io_tideLevel io_acts io_firstBreaks io_bestCrew io_sights io_wayMany io_random, rJ Y (ao 1) 24 co_row] [] := by
  unfold fX12_rests_b29 at hf
  refine a_iconst C (-1 : Int32) dX12_rests_29 (by decide) ?_
  obtain rfl := fx_some hf
  exact a_iret C hQ dX12_rests_30 ⟨rfl, rfl⟩
def fX12_rests_b115 (io_thrown : Int32) (io_rows : Int32) (co_row : Nat → Int64) (x3 : Int32) : Option (Int32 × Int32 × Int32 × (Nat → Int64)) :=
  some (x3, io_thrown, io_rows, co_row)
set_option maxHeartbeats 400000 in
set_option maxRecDepth 100000 in
theorem kX12_rests_b115 {X : cxT} {l : Launch} {D : va_G} {Y : Nat → ClassId} {ao : Nat → Nat} {io_thrown : Int32} {io_rows : Int32} {io_cells : Int32} {io_children : Int32} {io_changes : Int32} {io_taped : Int32} {io_at : Int32} {io_to : Int32} {io_nest : Int32} {io_readMany : Int32} {io_codeLong : Int32} {io_readLong : Int32} {io_undos : Int32} {io_wentHome : Int32} {io_tideLevel : Int32} {io_acts : Int32} {io_firstBreaks : Int32} {io_bestCrew : Int32} {io_sights : Int32} {io_wayMany : Int32} {io_random : Int32} {co_row : Nat → Int64} {x3 : Int32} {res : Int32 × Int32 × Int32 × (Nat → Int64)} (C : axC X l D Y cX12_rests 6 RX12 wsX12_rests rmX12_rests (some .int)) (hQ : axQ X 0 0 (fun r9 w9 => r9 = (some (.int res.1)) ∧ w9 = [oX12 ao res.2.1 res.2.2.1 io_cells io_children io_changes io_taped io_at io_to io_nest io_readMany io_codeLong io_readLong io_undos io_wentHome io_tideLevel io_acts io_firstBreaks io_bestCrew io_sights io_wayMany io_random, rJ Y (ao 1) 24 res.2.2.2])) (hf : fX12_rests_b115 io_thrown io_rows co_row x3 = some res) : ax X 0 0 115 [none, none, none, some (.int x3), none, none] [oX12 ao io_thrown io_rows io_cells io_children io_changes io_taped io_at io_to io_nest io_readMany io_codeLong io_readLong io_undos io_wentHome io_tideLevel io_acts io_firstBreaks io_bestCrew io_sights io_wayMany io_random, rJ Y (ao 1) 24 co_row] [] := by
  unfold fX12_rests_b115 at hf
  refine a_iload_n C dX12_rests_115 rfl ?_
  obtain rfl := fx_some hf
  exact a_iret C hQ dX12_rests_116 ⟨rfl, rfl⟩
def fX12_rests_b109 (io_thrown : Int32) (io_rows : Int32) (co_row : Nat → Int64) (x1 : Int32) (x2 : Int32) (x3 : Int32) (x4 : Int32) (k41 : Int32 × (Nat → Int64) × Int32 × Int32 → Option (Int32 × Int32 × Int32 × (Nat → Int64))) : Option (Int32 × Int32 × Int32 × (Nat → Int64)) :=
  k41 (io_rows, co_row, x3, (x4 + (1 : Int32)))
set_option maxHeartbeats 400000 in
set_option maxRecDepth 100000 in
theorem kX12_rests_b109 {X : cxT} {l : Launch} {D : va_G} {Y : Nat → ClassId} {ao : Nat → Nat} {io_thrown : Int32} {io_rows : Int32} {io_cells : Int32} {io_children : Int32} {io_changes : Int32} {io_taped : Int32} {io_at : Int32} {io_to : Int32} {io_nest : Int32} {io_readMany : Int32} {io_codeLong : Int32} {io_readLong : Int32} {io_undos : Int32} {io_wentHome : Int32} {io_tideLevel : Int32} {io_acts : Int32} {io_firstBreaks : Int32} {io_bestCrew : Int32} {io_sights : Int32} {io_wayMany : Int32} {io_random : Int32} {co_row : Nat → Int64} {x1 : Int32} {x2 : Int32} {x3 : Int32} {x4 : Int32} {res : Int32 × Int32 × Int32 × (Nat → Int64)} (C : axC X l D Y cX12_rests 6 RX12 wsX12_rests rmX12_rests (some .int)) (hQ : axQ X 0 0 (fun r9 w9 => r9 = (some (.int res.1)) ∧ w9 = [oX12 ao res.2.1 res.2.2.1 io_cells io_children io_changes io_taped io_at io_to io_nest io_readMany io_codeLong io_readLong io_undos io_wentHome io_tideLevel io_acts io_firstBreaks io_bestCrew io_sights io_wayMany io_random, rJ Y (ao 1) 24 res.2.2.2])) {k41 : Int32 × (Nat → Int64) × Int32 × Int32 → Option (Int32 × Int32 × Int32 × (Nat → Int64))} (hk41 : ∀ s : Int32 × (Nat → Int64) × Int32 × Int32, k41 s = some res → ax X 0 0 41 [some (.ref (ao 0)), some (.int x1), some (.int x2), some (.int s.2.2.1), some (.int s.2.2.2), none] [oX12 ao io_thrown s.1 io_cells io_children io_changes io_taped io_at io_to io_nest io_readMany io_codeLong io_readLong io_undos io_wentHome io_tideLevel io_acts io_firstBreaks io_bestCrew io_sights io_wayMany io_random, rJ Y (ao 1) 24 s.2.1] []) (hf : fX12_rests_b109 io_thrown io_rows co_row x1 x2 x3 x4 k41 = some res) : ax X 0 0 109 [some (.ref (ao 0)), some (.int x1), some (.int x2), some (.int x3), some (.int x4), none] [oX12 ao io_thrown io_rows io_cells io_children io_changes io_taped io_at io_to io_nest io_readMany io_codeLong io_readLong io_undos io_wentHome io_tideLevel io_acts io_firstBreaks io_bestCrew io_sights io_wayMany io_random, rJ Y (ao 1) 24 co_row] [] := by
  unfold fX12_rests_b109 at hf
  refine a_iinc C (1 : Int32) dX12_rests_109 (by decide) rfl (by decide) rfl ?_
  refine a_goto C 41 dX12_rests_112 (by decide) ?_
  exact hk41 (io_rows, co_row, x3, (x4 + (1 : Int32))) hf
def fX12_rests_b103 (io_thrown : Int32) (io_rows : Int32) (co_row : Nat → Int64) (x1 : Int32) (x2 : Int32) (x3 : Int32) (x4 : Int32) (x5 : Int32) (k41 : Int32 × (Nat → Int64) × Int32 × Int32 → Option (Int32 × Int32 × Int32 × (Nat → Int64))) (k51 : Int32 × (Nat → Int64) × Int32 × Int32 → Option (Int32 × Int32 × Int32 × (Nat → Int64))) : Option (Int32 × Int32 × Int32 × (Nat → Int64)) :=
  k51 (io_rows, co_row, x3, (x5 + (1 : Int32)))
set_option maxHeartbeats 400000 in
set_option maxRecDepth 100000 in
theorem kX12_rests_b103 {X : cxT} {l : Launch} {D : va_G} {Y : Nat → ClassId} {ao : Nat → Nat} {io_thrown : Int32} {io_rows : Int32} {io_cells : Int32} {io_children : Int32} {io_changes : Int32} {io_taped : Int32} {io_at : Int32} {io_to : Int32} {io_nest : Int32} {io_readMany : Int32} {io_codeLong : Int32} {io_readLong : Int32} {io_undos : Int32} {io_wentHome : Int32} {io_tideLevel : Int32} {io_acts : Int32} {io_firstBreaks : Int32} {io_bestCrew : Int32} {io_sights : Int32} {io_wayMany : Int32} {io_random : Int32} {co_row : Nat → Int64} {x1 : Int32} {x2 : Int32} {x3 : Int32} {x4 : Int32} {x5 : Int32} {res : Int32 × Int32 × Int32 × (Nat → Int64)} (C : axC X l D Y cX12_rests 6 RX12 wsX12_rests rmX12_rests (some .int)) (hQ : axQ X 0 0 (fun r9 w9 => r9 = (some (.int res.1)) ∧ w9 = [oX12 ao res.2.1 res.2.2.1 io_cells io_children io_changes io_taped io_at io_to io_nest io_readMany io_codeLong io_readLong io_undos io_wentHome io_tideLevel io_acts io_firstBreaks io_bestCrew io_sights io_wayMany io_random, rJ Y (ao 1) 24 res.2.2.2])) {k41 : Int32 × (Nat → Int64) × Int32 × Int32 → Option (Int32 × Int32 × Int32 × (Nat → Int64))} (hk41 : ∀ s : Int32 × (Nat → Int64) × Int32 × Int32, k41 s = some res → ax X 0 0 41 [some (.ref (ao 0)), some (.int x1), some (.int x2), some (.int s.2.2.1), some (.int s.2.2.2), none] [oX12 ao io_thrown s.1 io_cells io_children io_changes io_taped io_at io_to io_nest io_readMany io_codeLong io_readLong io_undos io_wentHome io_tideLevel io_acts io_firstBreaks io_bestCrew io_sights io_wayMany io_random, rJ Y (ao 1) 24 s.2.1] []) {k51 : Int32 × (Nat → Int64) × Int32 × Int32 → Option (Int32 × Int32 × Int32 × (Nat → Int64))} (hk51 : ∀ s : Int32 × (Nat → Int64) × Int32 × Int32, k51 s = some res → ax X 0 0 51 [some (.ref (ao 0)), some (.int x1), some (.int x2), some (.int s.2.2.1), some (.int x4), some (.int s.2.2.2)] [oX12 ao io_thrown s.1 io_cells io_children io_changes io_taped io_at io_to io_nest io_readMany io_codeLong io_readLong io_undos io_wentHome io_tideLevel io_acts io_firstBreaks io_bestCrew io_sights io_wayMany io_random, rJ Y (ao 1) 24 s.2.1] []) (hf : fX12_rests_b103 io_thrown io_rows co_row x1 x2 x3 x4 x5 k41 k51 = some res) : ax X 0 0 103 [some (.ref (ao 0)), some (.int x1), some (.int x2), some (.int x3), some (.int x4), some (.int x5)] [oX12 ao io_thrown io_rows io_cells io_children io_changes io_taped io_at io_to io_nest io_readMany io_codeLong io_readLong io_undos io_wentHome io_tideLevel io_acts io_firstBreaks io_bestCrew io_sights io_wayMany io_random, rJ Y (ao 1) 24 co_row] [] := by
  unfold fX12_rests_b103 at hf
  refine a_iinc C (1 : Int32) dX12_rests_103 (by decide) rfl (by decide) rfl ?_
  refine a_goto C 51 dX12_rests_106 (by decide) ?_
  exact hk51 (io_rows, co_row, x3, (x5 + (1 : Int32))) hf
def fX12_rests_b100 (io_thrown : Int32) (io_rows : Int32) (co_row : Nat → Int64) (x1 : Int32) (x2 : Int32) (x3 : Int32) (x4 : Int32) (x5 : Int32) (k41 : Int32 × (Nat → Int64) × Int32 × Int32 → Option (Int32 × Int32 × Int32 × (Nat → Int64))) (k51 : Int32 × (Nat → Int64) × Int32 × Int32 → Option (Int32 × Int32 × Int32 × (Nat → Int64))) : Option (Int32 × Int32 × Int32 × (Nat → Int64)) :=
  fX12_rests_b103 io_thrown io_rows co_row x1 x2 (x3 + (1 : Int32)) x4 x5 k41 k51
set_option maxHeartbeats 400000 in
set_option maxRecDepth 100000 in
theorem kX12_rests_b100 {X : cxT} {l : Launch} {D : va_G} {Y : Nat → ClassId} {ao : Nat → Nat} {io_thrown : Int32} {io_rows : Int32} {io_cells : Int32} {io_children : Int32} {io_changes : Int32} {io_taped : Int32} {io_at : Int32} {io_to : Int32} {io_nest : Int32} {io_readMany : Int32} {io_codeLong : Int32} {io_readLong : Int32} {io_undos : Int32} {io_wentHome : Int32} {io_tideLevel : Int32} {io_acts : Int32} {io_firstBreaks : Int32} {io_bestCrew : Int32} {io_sights : Int32} {io_wayMany : Int32} {io_random : Int32} {co_row : Nat → Int64} {x1 : Int32} {x2 : Int32} {x3 : Int32} {x4 : Int32} {x5 : Int32} {res : Int32 × Int32 × Int32 × (Nat → Int64)} (C : axC X l D Y cX12_rests 6 RX12 wsX12_rests rmX12_rests (some .int)) (hQ : axQ X 0 0 (fun r9 w9 => r9 = (some (.int res.1)) ∧ w9 = [oX12 ao res.2.1 res.2.2.1 io_cells io_children io_changes io_taped io_at io_to io_nest io_readMany io_codeLong io_readLong io_undos io_wentHome io_tideLevel io_acts io_firstBreaks io_bestCrew io_sights io_wayMany io_random, rJ Y (ao 1) 24 res.2.2.2])) {k41 : Int32 × (Nat → Int64) × Int32 × Int32 → Option (Int32 × Int32 × Int32 × (Nat → Int64))} (hk41 : ∀ s : Int32 × (Nat → Int64) × Int32 × Int32, k41 s = some res → ax X 0 0 41 [some (.ref (ao 0)), some (.int x1), some (.int x2), some (.int s.2.2.1), some (.int s.2.2.2), none] [oX12 ao io_thrown s.1 io_cells io_children io_changes io_taped io_at io_to io_nest io_readMany io_codeLong io_readLong io_undos io_wentHome io_tideLevel io_acts io_firstBreaks io_bestCrew io_sights io_wayMany io_random, rJ Y (ao 1) 24 s.2.1] []) {k51 : Int32 × (Nat → Int64) × Int32 × Int32 → Option (Int32 × Int32 × Int32 × (Nat → Int64))} (hk51 : ∀ s : Int32 × (Nat → Int64) × Int32 × Int32, k51 s = some res → ax X 0 0 51 [some (.ref (ao 0)), some (.int x1), some (.int x2), some (.int s.2.2.1), some (.int x4), some (.int s.2.2.2)] [oX12 ao io_thrown s.1 io_cells io_children io_changes io_taped io_at io_to io_nest io_readMany io_codeLong io_readLong io_undos io_wentHome io_tideLevel io_acts io_firstBreaks io_bestCrew io_sights io_wayMany io_random, rJ Y (ao 1) 24 s.2.1] []) (hf : fX12_rests_b100 io_thrown io_rows co_row x1 x2 x3 x4 x5 k41 k51 = some res) : ax X 0 0 100 [some (.ref (ao 0)), some (.int x1), some (.int x2), some (.int x3), some (.int x4), some (.int x5)] [oX12 ao io_thrown io_rows io_cells io_children io_changes io_taped io_at io_to io_nest io_readMany io_codeLong io_readLong io_undos io_wentHome io_tideLevel io_acts io_firstBreaks io_bestCrew io_sights io_wayMany io_random, rJ Y (ao 1) 24 co_row] [] := by
  unfold fX12_rests_b100 at hf
  refine a_iinc C (1 : Int32) dX12_rests_100 (by decide) rfl (by decide) rfl ?_
  exact kX12_rests_b103 C hQ hk41 hk51 hf
def fX12_rests_l51 (io_thrown : Int32) (x1 : Int32) (x2 : Int32) (x4 : Int32) (k41 : Int32 × (Nat → Int64) × Int32 × Int32 → Option (Int32 × Int32 × Int32 × (Nat → Int64))) (k51 : Int32 × (Nat → Int64) × Int32 × Int32 → Option (Int32 × Int32 × Int32 × (Nat → Int64))) (io_rows : Int32) (co_row : Nat → Int64) (x3 : Int32) (x5 : Int32) : Option (Int32 × Int32 × Int32 × (Nat → Int64)) :=
  if (9 : Int32) < x5 then (fX12_rests_b109 io_thrown io_rows co_row x1 x2 x3 x4 k41) else ((fX12_isRest x4 x5 x1 x2).bind (fun r2 => if r2 = (0 : Int32) then (fX12_rests_b103 io_thrown io_rows co_row x1 x2 x3 x4 x5 k41 k51) else ((fX12_isRest x5 x4 x1 x2).bind (fun r4 => if r4 = (0 : Int32) then (fX12_rests_b103 io_thrown io_rows co_row x1 x2 x3 x4 x5 k41 k51) else (if x3 = (0 : Int32) then ((fX12_enters io_rows co_row (x4.toInt64)).bind (fun r7 => (fX12_enters r7.1 r7.2 (x5.toInt64)).bind (fun r8 => fX12_rests_b100 io_thrown r8.1 r8.2 x1 x2 x3 x4 x5 k41 k51))) else (fX12_rests_b100 io_thrown io_rows co_row x1 x2 x3 x4 x5 k41 k51))))))
def fX12_rests_b51 (io_thrown : Int32) (io_rows : Int32) (co_row : Nat → Int64) (x1 : Int32) (x2 : Int32) (x3 : Int32) (x4 : Int32) (x5 : Int32) (k41 : Int32 × (Nat → Int64) × Int32 × Int32 → Option (Int32 × Int32 × Int32 × (Nat → Int64))) : Option (Int32 × Int32 × Int32 × (Nat → Int64)) :=
  loopN (fun (s : Int32 × (Nat → Int64) × Int32 × Int32) k51 => fX12_rests_l51 io_thrown x1 x2 x4 k41 k51 s.1 s.2.1 s.2.2.1 s.2.2.2) FUEL (io_rows, co_row, x3, x5)
set_option maxHeartbeats 400000 in
set_option maxRecDepth 100000 in
theorem kX12_rests_l51 {X : cxT} {l : Launch} {D : va_G} {Y : Nat → ClassId} {ao : Nat → Nat} {io_thrown : Int32} {io_rows : Int32} {io_cells : Int32} {io_children : Int32} {io_changes : Int32} {io_taped : Int32} {io_at : Int32} {io_to : Int32} {io_nest : Int32} {io_readMany : Int32} {io_codeLong : Int32} {io_readLong : Int32} {io_undos : Int32} {io_wentHome : Int32} {io_tideLevel : Int32} {io_acts : Int32} {io_firstBreaks : Int32} {io_bestCrew : Int32} {io_sights : Int32} {io_wayMany : Int32} {io_random : Int32} {co_row : Nat → Int64} {x1 : Int32} {x2 : Int32} {x3 : Int32} {x4 : Int32} {x5 : Int32} {res : Int32 × Int32 × Int32 × (Nat → Int64)} (C : axC X l D Y cX12_rests 6 RX12 wsX12_rests rmX12_rests (some .int)) (hQ : axQ X 0 0 (fun r9 w9 => r9 = (some (.int res.1)) ∧ w9 = [oX12 ao res.2.1 res.2.2.1 io_cells io_children io_changes io_taped io_at io_to io_nest io_readMany io_codeLong io_readLong io_undos io_wentHome io_tideLevel io_acts io_firstBreaks io_bestCrew io_sights io_wayMany io_random, rJ Y (ao 1) 24 res.2.2.2])) {k41 : Int32 × (Nat → Int64) × Int32 × Int32 → Option (Int32 × Int32 × Int32 × (Nat → Int64))} (hk41 : ∀ s : Int32 × (Nat → Int64) × Int32 × Int32, k41 s = some res → ax X 0 0 41 [some (.ref (ao 0)), some (.int x1), some (.int x2), some (.int s.2.2.1), some (.int s.2.2.2), none] [oX12 ao io_thrown s.1 io_cells io_children io_changes io_taped io_at io_to io_nest io_readMany io_codeLong io_readLong io_undos io_wentHome io_tideLevel io_acts io_firstBreaks io_bestCrew io_sights io_wayMany io_random, rJ Y (ao 1) 24 s.2.1] []) {k51 : Int32 × (Nat → Int64) × Int32 × Int32 → Option (Int32 × Int32 × Int32 × (Nat → Int64))} (hk51 : ∀ s : Int32 × (Nat → Int64) × Int32 × Int32, k51 s = some res → ax X 0 0 51 [some (.ref (ao 0)), some (.int x1), some (.int x2), some (.int s.2.2.1), some (.int x4), some (.int s.2.2.2)] [oX12 ao io_thrown s.1 io_cells io_children io_changes io_taped io_at io_to io_nest io_readMany io_codeLong io_readLong io_undos io_wentHome io_tideLevel io_acts io_firstBreaks io_bestCrew io_sights io_wayMany io_random, rJ Y (ao 1) 24 s.2.1] []) (hf : fX12_rests_l51 io_thrown x1 x2 x4 k41 k51 io_rows co_row x3 x5 = some res) : ax X 0 0 51 [some (.ref (ao 0)), some (.int x1), some (.int x2), some (.int x3), some (.int x4), some (.int x5)] [oX12 ao io_thrown io_rows io_cells io_children io_changes io_taped io_at io_to io_nest io_readMany io_codeLong io_readLong io_undos io_wentHome io_tideLevel io_acts io_firstBreaks io_bestCrew io_sights io_wayMany io_random, rJ Y (ao 1) 24 co_row] [] := by
  unfold fX12_rests_l51 at hf
  refine a_iload C dX12_rests_51 rfl ?_
  refine a_bipush C (9 : Int32) dX12_rests_53 (by decide) ?_
  refine a_icmp_gt C 109 dX12_rests_55 (by decide) (fun h1 => ?_) (fun h1 => ?_)
  · have hf := fx_t h1 hf
    refine a_kill [5] ?_
    exact kX12_rests_b109 C hQ hk41 hf
  · have hf := fx_f h1 hf
    refine a_iload C dX12_rests_58 rfl ?_
    refine a_iload C dX12_rests_60 rfl ?_
    refine a_iload_n C dX12_rests_62 rfl ?_
    refine a_iload_n C dX12_rests_63 rfl ?_
    obtain ⟨r2, h2, hf⟩ := fx_bind hf
    refine a_fS C (kX12_isRest l D Y x4 x5 x1 x2 r2 h2) (gB_X12_457 _) rfl dvX12_isRest ⟨⟨rfl, rfl⟩, ⟨Nat.le_of_ble_eq_true rfl, Nat.le_of_ble_eq_true rfl⟩, ⟨Nat.le_of_ble_eq_true rfl, Nat.le_of_ble_eq_true rfl⟩⟩ rfl (Nat.le_of_ble_eq_true rfl) dX12_rests_64 [] [0, 1] trivial (by decide +kernel) rfl [oX12 ao io_thrown io_rows io_cells io_children io_changes io_taped io_at io_to io_nest io_readMany io_codeLong io_readLong io_undos io_wentHome io_tideLevel io_acts io_firstBreaks io_bestCrew io_sights io_wayMany io_random, rJ Y (ao 1) 24 co_row] trivial ⟨rfl, rfl, trivial⟩ 2 rfl (by decide +kernel) ?_
    refine a_if_eq C 103 dX12_rests_67 (by decide) (fun h3 => ?_) (fun h3 => ?_)
    · have hf := fx_t h3 hf
      exact kX12_rests_b103 C hQ hk41 hk51 hf
    · have hf := fx_f h3 hf
      refine a_iload C dX12_rests_70 rfl ?_
      refine a_iload C dX12_rests_72 rfl ?_
      refine a_iload_n C dX12_rests_74 rfl ?_
      refine a_iload_n C dX12_rests_75 rfl ?_
      obtain ⟨r4, h4, hf⟩ := fx_bind hf
      refine a_fS C (kX12_isRest l D Y x5 x4 x1 x2 r4 h4) (gB_X12_457 _) rfl dvX12_isRest ⟨⟨rfl, rfl⟩, ⟨Nat.le_of_ble_eq_true rfl, Nat.le_of_ble_eq_true rfl⟩, ⟨Nat.le_of_ble_eq_true rfl, Nat.le_of_ble_eq_true rfl⟩⟩ rfl (Nat.le_of_ble_eq_true rfl) dX12_rests_76 [] [0, 1] trivial (by decide +kernel) rfl [oX12 ao io_thrown io_rows io_cells io_children io_changes io_taped io_at io_to io_nest io_readMany io_codeLong io_readLong io_undos io_wentHome io_tideLevel io_acts io_firstBreaks io_bestCrew io_sights io_wayMany io_random, rJ Y (ao 1) 24 co_row] trivial ⟨rfl, rfl, trivial⟩ 2 rfl (by decide +kernel) ?_
      refine a_if_eq C 103 dX12_rests_79 (by decide) (fun h5 => ?_) (fun h5 => ?_)
      · have hf := fx_t h5 hf
        exact kX12_rests_b103 C hQ hk41 hk51 hf
      · have hf := fx_f h5 hf
        refine a_iload_n C dX12_rests_82 rfl ?_
        refine a_if_ne C 100 dX12_rests_83 (by decide) (fun h6 => ?_) (fun h6 => ?_)
        · have hf := fx_f h6 hf
          exact kX12_rests_b100 C hQ hk41 hk51 hf
        · have hf := fx_t h6 hf
          refine a_aload_n C dX12_rests_86 rfl ?_
          refine a_iload C dX12_rests_87 rfl ?_
          refine a_i2l C dX12_rests_89 ?_
          obtain ⟨r7, h7, hf⟩ := fx_bind hf
          refine a_fV C (kX12_enters l D Y ao io_thrown io_rows io_cells io_children io_changes io_taped io_at io_to io_nest io_readMany io_codeLong io_readLong io_undos io_wentHome io_tideLevel io_acts io_firstBreaks io_bestCrew io_sights io_wayMany io_random co_row (x4.toInt64) r7 h7) (gB_X12_359 _) rfl dvX12_enters ⟨⟨rfl, rfl⟩, ⟨Nat.le_of_ble_eq_true rfl, Nat.le_of_ble_eq_true rfl⟩, ⟨Nat.le_of_ble_eq_true rfl, Nat.le_of_ble_eq_true rfl⟩⟩ rfl (Nat.le_of_ble_eq_true rfl) dX12_rests_90 rfl rfl [0, 1] [] ⟨rfl, rfl, trivial⟩ (by decide +kernel) rfl [oX12 ao io_thrown r7.1 io_cells io_children io_changes io_taped io_at io_to io_nest io_readMany io_codeLong io_readLong io_undos io_wentHome io_tideLevel io_acts io_firstBreaks io_bestCrew io_sights io_wayMany io_random, rJ Y (ao 1) 24 r7.2] ⟨rfl, rfl, trivial⟩ trivial 2 rfl (by decide +kernel) ?_
          refine a_aload_n C dX12_rests_93 rfl ?_
          refine a_iload C dX12_rests_94 rfl ?_
          refine a_i2l C dX12_rests_96 ?_
          obtain ⟨r8, h8, hf⟩ := fx_bind hf
          refine a_fV C (kX12_enters l D Y ao io_thrown r7.1 io_cells io_children io_changes io_taped io_at io_to io_nest io_readMany io_codeLong io_readLong io_undos io_wentHome io_tideLevel io_acts io_firstBreaks io_bestCrew io_sights io_wayMany io_random r7.2 (x5.toInt64) r8 h8) (gB_X12_359 _) rfl dvX12_enters ⟨⟨rfl, rfl⟩, ⟨Nat.le_of_ble_eq_true rfl, Nat.le_of_ble_eq_true rfl⟩, ⟨Nat.le_of_ble_eq_true rfl, Nat.le_of_ble_eq_true rfl⟩⟩ rfl (Nat.le_of_ble_eq_true rfl) dX12_rests_97 rfl rfl [0, 1] [] ⟨rfl, rfl, trivial⟩ (by decide +kernel) rfl [oX12 ao io_thrown r8.1 io_cells io_children io_changes io_taped io_at io_to io_nest io_readMany io_codeLong io_readLong io_undos io_wentHome io_tideLevel io_acts io_firstBreaks io_bestCrew io_sights io_wayMany io_random, rJ Y (ao 1) 24 r8.2] ⟨rfl, rfl, trivial⟩ trivial 2 rfl (by decide +kernel) ?_
          exact kX12_rests_b100 C hQ hk41 hk51 hf
set_option maxHeartbeats 400000 in
set_option maxRecDepth 100000 in
theorem kX12_rests_b51 {X : cxT} {l : Launch} {D : va_G} {Y : Nat → ClassId} {ao : Nat → Nat} {io_thrown : Int32} {io_rows : Int32} {io_cells : Int32} {io_children : Int32} {io_changes : Int32} {io_taped : Int32} {io_at : Int32} {io_to : Int32} {io_nest : Int32} {io_readMany : Int32} {io_codeLong : Int32} {io_readLong : Int32} {io_undos : Int32} {io_wentHome : Int32} {io_tideLevel : Int32} {io_acts : Int32} {io_firstBreaks : Int32} {io_bestCrew : Int32} {io_sights : Int32} {io_wayMany : Int32} {io_random : Int32} {co_row : Nat → Int64} {x1 : Int32} {x2 : Int32} {x3 : Int32} {x4 : Int32} {x5 : Int32} {res : Int32 × Int32 × Int32 × (Nat → Int64)} (C : axC X l D Y cX12_rests 6 RX12 wsX12_rests rmX12_rests (some .int)) (hQ : axQ X 0 0 (fun r9 w9 => r9 = (some (.int res.1)) ∧ w9 = [oX12 ao res.2.1 res.2.2.1 io_cells io_children io_changes io_taped io_at io_to io_nest io_readMany io_codeLong io_readLong io_undos io_wentHome io_tideLevel io_acts io_firstBreaks io_bestCrew io_sights io_wayMany io_random, rJ Y (ao 1) 24 res.2.2.2])) {k41 : Int32 × (Nat → Int64) × Int32 × Int32 → Option (Int32 × Int32 × Int32 × (Nat → Int64))} (hk41 : ∀ s : Int32 × (Nat → Int64) × Int32 × Int32, k41 s = some res → ax X 0 0 41 [some (.ref (ao 0)), some (.int x1), some (.int x2), some (.int s.2.2.1), some (.int s.2.2.2), none] [oX12 ao io_thrown s.1 io_cells io_children io_changes io_taped io_at io_to io_nest io_readMany io_codeLong io_readLong io_undos io_wentHome io_tideLevel io_acts io_firstBreaks io_bestCrew io_sights io_wayMany io_random, rJ Y (ao 1) 24 s.2.1] []) (hf : fX12_rests_b51 io_thrown io_rows co_row x1 x2 x3 x4 x5 k41 = some res) : ax X 0 0 51 [some (.ref (ao 0)), some (.int x1), some (.int x2), some (.int x3), some (.int x4), some (.int x5)] [oX12 ao io_thrown io_rows io_cells io_children io_changes io_taped io_at io_to io_nest io_readMany io_codeLong io_readLong io_undos io_wentHome io_tideLevel io_acts io_firstBreaks io_bestCrew io_sights io_wayMany io_random, rJ Y (ao 1) 24 co_row] [] := by
  unfold fX12_rests_b51 at hf
  exact fx_loop (P := fun s : Int32 × (Nat → Int64) × Int32 × Int32 => ax X 0 0 51 [some (.ref (ao 0)), some (.int x1), some (.int x2), some (.int s.2.2.1), some (.int x4), some (.int s.2.2.2)] [oX12 ao io_thrown s.1 io_cells io_children io_changes io_taped io_at io_to io_nest io_readMany io_codeLong io_readLong io_undos io_wentHome io_tideLevel io_acts io_firstBreaks io_bestCrew io_sights io_wayMany io_random, rJ Y (ao 1) 24 s.2.1] []) (fun s k51 hk51 h => kX12_rests_l51 C hQ hk41 hk51 h) FUEL (io_rows, co_row, x3, x5) hf
def fX12_rests_l41 (io_thrown : Int32) (x1 : Int32) (x2 : Int32) (k41 : Int32 × (Nat → Int64) × Int32 × Int32 → Option (Int32 × Int32 × Int32 × (Nat → Int64))) (io_rows : Int32) (co_row : Nat → Int64) (x3 : Int32) (x4 : Int32) : Option (Int32 × Int32 × Int32 × (Nat → Int64)) :=
  if (9 : Int32) < x4 then (fX12_rests_b115 io_thrown io_rows co_row x3) else (fX12_rests_b51 io_thrown io_rows co_row x1 x2 x3 x4 (0 : Int32) k41)
def fX12_rests_b41 (io_thrown : Int32) (io_rows : Int32) (co_row : Nat → Int64) (x1 : Int32) (x2 : Int32) (x3 : Int32) (x4 : Int32) : Option (Int32 × Int32 × Int32 × (Nat → Int64)) :=
  loopN (fun (s : Int32 × (Nat → Int64) × Int32 × Int32) k41 => fX12_rests_l41 io_thrown x1 x2 k41 s.1 s.2.1 s.2.2.1 s.2.2.2) FUEL (io_rows, co_row, x3, x4)
set_option maxHeartbeats 400000 in
set_option maxRecDepth 100000 in
theorem kX12_rests_l41 {X : cxT} {l : Launch} {D : va_G} {Y : Nat → ClassId} {ao : Nat → Nat} {io_thrown : Int32} {io_rows : Int32} {io_cells : Int32} {io_children : Int32} {io_changes : Int32} {io_taped : Int32} {io_at : Int32} {io_to : Int32} {io_nest : Int32} {io_readMany : Int32} {io_codeLong : Int32} {io_readLong : Int32} {io_undos : Int32} {io_wentHome : Int32} {io_tideLevel : Int32} {io_acts : Int32} {io_firstBreaks : Int32} {io_bestCrew : Int32} {io_sights : Int32} {io_wayMany : Int32} {io_random : Int32} {co_row : Nat → Int64} {x1 : Int32} {x2 : Int32} {x3 : Int32} {x4 : Int32} {res : Int32 × Int32 × Int32 × (Nat → Int64)} (C : axC X l D Y cX12_rests 6 RX12 wsX12_rests rmX12_rests (some .int)) (hQ : axQ X 0 0 (fun r9 w9 => r9 = (some (.int res.1)) ∧ w9 = [oX12 ao res.2.1 res.2.2.1 io_cells io_children io_changes io_taped io_at io_to io_nest io_readMany io_codeLong io_readLong io_undos io_wentHome io_tideLevel io_acts io_firstBreaks io_bestCrew io_sights io_wayMany io_random, rJ Y (ao 1) 24 res.2.2.2])) {k41 : Int32 × (Nat → Int64) × Int32 × Int32 → Option (Int32 × Int32 × Int32 × (Nat → Int64))} (hk41 : ∀ s : Int32 × (Nat → Int64) × Int32 × Int32, k41 s = some res → ax X 0 0 41 [some (.ref (ao 0)), some (.int x1), some (.int x2), some (.int s.2.2.1), some (.int s.2.2.2), none] [oX12 ao io_thrown s.1 io_cells io_children io_changes io_taped io_at io_to io_nest io_readMany io_codeLong io_readLong io_undos io_wentHome io_tideLevel io_acts io_firstBreaks io_bestCrew io_sights io_wayMany io_random, rJ Y (ao 1) 24 s.2.1] []) (hf : fX12_rests_l41 io_thrown x1 x2 k41 io_rows co_row x3 x4 = some res) : ax X 0 0 41 [some (.ref (ao 0)), some (.int x1), some (.int x2), some (.int x3), some (.int x4), none] [oX12 ao io_thrown io_rows io_cells io_children io_changes io_taped io_at io_to io_nest io_readMany io_codeLong io_readLong io_undos io_wentHome io_tideLevel io_acts io_firstBreaks io_bestCrew io_sights io_wayMany io_random, rJ Y (ao 1) 24 co_row] [] := by
  unfold fX12_rests_l41 at hf
  refine a_iload C dX12_rests_41 rfl ?_
  refine a_bipush C (9 : Int32) dX12_rests_43 (by decide) ?_
  refine a_icmp_gt C 115 dX12_rests_45 (by decide) (fun h9 => ?_) (fun h9 => ?_)
  · have hf := fx_t h9 hf
    refine a_kill [0, 1, 2, 4] ?_
    exact kX12_rests_b115 C hQ hf
  · have hf := fx_f h9 hf
    refine a_iconst C (0 : Int32) dX12_rests_48 (by decide) ?_
    refine a_istore C dX12_rests_49 (by decide) rfl ?_
    exact kX12_rests_b51 C hQ hk41 hf
set_option maxHeartbeats 400000 in
set_option maxRecDepth 100000 in
theorem kX12_rests_b41 {X : cxT} {l : Launch} {D : va_G} {Y : Nat → ClassId} {ao : Nat → Nat} {io_thrown : Int32} {io_rows : Int32} {io_cells : Int32} {io_children : Int32} {io_changes : Int32} {io_taped : Int32} {io_at : Int32} {io_to : Int32} {io_nest : Int32} {io_readMany : Int32} {io_codeLong : Int32} {io_readLong : Int32} {io_undos : Int32} {io_wentHome : Int32} {io_tideLevel : Int32} {io_acts : Int32} {io_firstBreaks : Int32} {io_bestCrew : Int32} {io_sights : Int32} {io_wayMany : Int32} {io_random : Int32} {co_row : Nat → Int64} {x1 : Int32} {x2 : Int32} {x3 : Int32} {x4 : Int32} {res : Int32 × Int32 × Int32 × (Nat → Int64)} (C : axC X l D Y cX12_rests 6 RX12 wsX12_rests rmX12_rests (some .int)) (hQ : axQ X 0 0 (fun r9 w9 => r9 = (some (.int res.1)) ∧ w9 = [oX12 ao res.2.1 res.2.2.1 io_cells io_children io_changes io_taped io_at io_to io_nest io_readMany io_codeLong io_readLong io_undos io_wentHome io_tideLevel io_acts io_firstBreaks io_bestCrew io_sights io_wayMany io_random, rJ Y (ao 1) 24 res.2.2.2])) (hf : fX12_rests_b41 io_thrown io_rows co_row x1 x2 x3 x4 = some res) : ax X 0 0 41 [some (.ref (ao 0)), some (.int x1), some (.int x2), some (.int x3), some (.int x4), none] [oX12 ao io_thrown io_rows io_cells io_children io_changes io_taped io_at io_to io_nest io_readMany io_codeLong io_readLong io_undos io_wentHome io_tideLevel io_acts io_firstBreaks io_bestCrew io_sights io_wayMany io_random, rJ Y (ao 1) 24 co_row] [] := by
  unfold fX12_rests_b41 at hf
  exact fx_loop (P := fun s : Int32 × (Nat → Int64) × Int32 × Int32 => ax X 0 0 41 [some (.ref (ao 0)), some (.int x1), some (.int x2), some (.int s.2.2.1), some (.int s.2.2.2), none] [oX12 ao io_thrown s.1 io_cells io_children io_changes io_taped io_at io_to io_nest io_readMany io_codeLong io_readLong io_undos io_wentHome io_tideLevel io_acts io_firstBreaks io_bestCrew io_sights io_wayMany io_random, rJ Y (ao 1) 24 s.2.1] []) (fun s k41 hk41 h => kX12_rests_l41 C hQ hk41 h) FUEL (io_rows, co_row, x3, x4) hf
def fX12_rests (io_thrown : Int32) (io_rows : Int32) (co_row : Nat → Int64) (x1 : Int32) (x2 : Int32) : Option (Int32 × Int32 × Int32 × (Nat → Int64)) :=
  (fX12_in (x1.toInt64) (1 : Int64) (99 : Int64)).bind (fun r10 => if r10 = (0 : Int32) then (fX12_rests_b29 (0 : Int32) io_rows co_row) else ((fX12_in (x2.toInt64) (0 : Int64) (9 : Int64)).bind (fun r12 => if r12 = (0 : Int32) then (fX12_rests_b29 (0 : Int32) io_rows co_row) else (fX12_rests_b41 (0 : Int32) (0 : Int32) co_row x1 x2 (0 : Int32) (0 : Int32)))))
set_option maxHeartbeats 400000 in
set_option maxRecDepth 100000 in
theorem kX12_rests (l : Launch) (D : va_G) (Y : Nat → ClassId) (ao : Nat → Nat) (io_thrown : Int32) (io_rows : Int32) (io_cells : Int32) (io_children : Int32) (io_changes : Int32) (io_taped : Int32) (io_at : Int32) (io_to : Int32) (io_nest : Int32) (io_readMany : Int32) (io_codeLong : Int32) (io_readLong : Int32) (io_undos : Int32) (io_wentHome : Int32) (io_tideLevel : Int32) (io_acts : Int32) (io_firstBreaks : Int32) (io_bestCrew : Int32) (io_sights : Int32) (io_wayMany : Int32) (io_random : Int32) (co_row : Nat → Int64) (x1 : Int32) (x2 : Int32) (res : Int32 × Int32 × Int32 × (Nat → Int64)) (hf : fX12_rests io_thrown io_rows co_row x1 x2 = some res) : amf l D Y yX12_rests wsX12_rests rmX12_rests [.ref (ao 0), .int x1, .int x2] [oX12 ao io_thrown io_rows io_cells io_children io_changes io_taped io_at io_to io_nest io_readMany io_codeLong io_readLong io_undos io_wentHome io_tideLevel io_acts io_firstBreaks io_bestCrew io_sights io_wayMany io_random, rJ Y (ao 1) 24 co_row] (some (.int res.1)) [oX12 ao res.2.1 res.2.2.1 io_cells io_children io_changes io_taped io_at io_to io_nest io_readMany io_codeLong io_readLong io_undos io_wentHome io_tideLevel io_acts io_firstBreaks io_bestCrew io_sights io_wayMany io_random, rJ Y (ao 1) 24 res.2.2.2] := by
  refine amf.of (cc := cX12_rests) (maxL := 6) (rt := (some .int)) (by decide) rfl RX12 rfl (Nat.le_of_ble_eq_true rfl) [some (.ref (ao 0)), some (.int x1), some (.int x2), none, none, none] rfl ?_
  intro X C hQ
  unfold fX12_rests at hf
  refine a_aload_n C dX12_rests_0 rfl ?_
  refine a_iconst C (0 : Int32) dX12_rests_1 (by decide) ?_
  refine a_put C (eB_X12_112 _) tfX12_0 dX12_rests_2 0 rfl rfl rfl (Nat.le_of_ble_eq_true rfl) ?_
  refine a_iload_n C dX12_rests_5 rfl ?_
  refine a_i2l C dX12_rests_6 ?_
  refine a_lconst C (1 : Int64) dX12_rests_7 (by decide) ?_
  refine a_ldc2 C (99 : Int64) dX12_rests_8 (kB_X12_369 _) ?_
  obtain ⟨r10, h10, hf⟩ := fx_bind hf
  refine a_fS C (kX12_in l D Y (x1.toInt64) (1 : Int64) (99 : Int64) r10 h10) (gB_X12_122 _) rfl dvX12_in ⟨⟨rfl, rfl⟩, ⟨Nat.le_of_ble_eq_true rfl, Nat.le_of_ble_eq_true rfl⟩, ⟨Nat.le_of_ble_eq_true rfl, Nat.le_of_ble_eq_true rfl⟩⟩ rfl (Nat.le_of_ble_eq_true rfl) dX12_rests_11 [] [0, 1] trivial (by decide +kernel) rfl [oX12 ao (0 : Int32) io_rows io_cells io_children io_changes io_taped io_at io_to io_nest io_readMany io_codeLong io_readLong io_undos io_wentHome io_tideLevel io_acts io_firstBreaks io_bestCrew io_sights io_wayMany io_random, rJ Y (ao 1) 24 co_row] trivial ⟨rfl, rfl, trivial⟩ 2 rfl (by decide +kernel) ?_
  refine a_if_eq C 29 dX12_rests_14 (by decide) (fun h11 => ?_) (fun h11 => ?_)
  · have hf := fx_t h11 hf
    refine a_kill [0, 1, 2] ?_
    exact kX12_rests_b29 C hQ hf
  · have hf := fx_f h11 hf
    refine a_iload_n C dX12_rests_17 rfl ?_
    refine a_i2l C dX12_rests_18 ?_
    refine a_lconst C (0 : Int64) dX12_rests_19 (by decide) ?_
    refine a_ldc2 C (9 : Int64) dX12_rests_20 (kB_X12_302 _) ?_
    obtain ⟨r12, h12, hf⟩ := fx_bind hf
    refine a_fS C (kX12_in l D Y (x2.toInt64) (0 : Int64) (9 : Int64) r12 h12) (gB_X12_122 _) rfl dvX12_in ⟨⟨rfl, rfl⟩, ⟨Nat.le_of_ble_eq_true rfl, Nat.le_of_ble_eq_true rfl⟩, ⟨Nat.le_of_ble_eq_true rfl, Nat.le_of_ble_eq_true rfl⟩⟩ rfl (Nat.le_of_ble_eq_true rfl) dX12_rests_23 [] [0, 1] trivial (by decide +kernel) rfl [oX12 ao (0 : Int32) io_rows io_cells io_children io_changes io_taped io_at io_to io_nest io_readMany io_codeLong io_readLong io_undos io_wentHome io_tideLevel io_acts io_firstBreaks io_bestCrew io_sights io_wayMany io_random, rJ Y (ao 1) 24 co_row] trivial ⟨rfl, rfl, trivial⟩ 2 rfl (by decide +kernel) ?_
    refine a_if_ne C 31 dX12_rests_26 (by decide) (fun h13 => ?_) (fun h13 => ?_)
    · have hf := fx_f h13 hf
      refine a_iconst C (0 : Int32) dX12_rests_31 (by decide) ?_
      refine a_istore_n C dX12_rests_32 (by decide) rfl ?_
      refine a_aload_n C dX12_rests_33 rfl ?_
      refine a_iconst C (0 : Int32) dX12_rests_34 (by decide) ?_
      refine a_put C (eB_X12_119 _) tfX12_1 dX12_rests_35 0 rfl rfl rfl (Nat.le_of_ble_eq_true rfl) ?_
      refine a_iconst C (0 : Int32) dX12_rests_38 (by decide) ?_
      refine a_istore C dX12_rests_39 (by decide) rfl ?_
      exact kX12_rests_b41 C hQ hf
    · have hf := fx_t h13 hf
      refine a_kill [0, 1, 2] ?_
      exact kX12_rests_b29 C hQ hf
-- X12_draws
abbrev rmX12_draws : Room := { frames := 0, cells := 0, slots := 0, locals := 0 }
theorem dvX12_draws : yX12_draws.cls = RX12 ∧ yX12_draws.cls ≠ "java/lang/invoke/MethodHandle" ∧ yX12_draws.cls ≠ "java/lang/invoke/VarHandle" ∧ (parseMethodDescriptor yX12_draws.desc).map (fun d => d.parameters.length) = some 1 := by decide +kernel
def fX12_draws (io_random : Int32) (x1 : Int32) : Option (Int32 × Int32) :=
  if ¬ x1 = 0 then some ((jrem (jushr ((io_random * (1103515245 : Int32)) + (12345 : Int32)) (16 : Int32)) x1), ((io_random * (1103515245 : Int32)) + (12345 : Int32))) else none
set_option maxHeartbeats 400000 in
set_option maxRecDepth 100000 in
theorem kX12_draws (l : Launch) (D : va_G) (Y : Nat → ClassId) (ao : Nat → Nat) (io_thrown : Int32) (io_rows : Int32) (io_cells : Int32) (io_children : Int32) (io_changes : Int32) (io_taped : Int32) (io_at : Int32) (io_to : Int32) (io_nest : Int32) (io_readMany : Int32) (io_codeLong : Int32) (io_readLong : Int32) (io_undos : Int32) (io_wentHome : Int32) (io_tideLevel : Int32) (io_acts : Int32) (io_firstBreaks : Int32) (io_bestCrew : Int32) (io_sights : Int32) (io_wayMany : Int32) (io_random : Int32) (x1 : Int32) (res : Int32 × Int32) (hf : fX12_draws io_random x1 = some res) : amf l D Y yX12_draws wsX12_draws rmX12_draws [.ref (ao 0), .int x1] [oX12 ao io_thrown io_rows io_cells io_children io_changes io_taped io_at io_to io_nest io_readMany io_codeLong io_readLong io_undos io_wentHome io_tideLevel io_acts io_firstBreaks io_bestCrew io_sights io_wayMany io_random] (some (.int res.1)) [oX12 ao io_thrown io_rows io_cells io_children io_changes io_taped io_at io_to io_nest io_readMany io_codeLong io_readLong io_undos io_wentHome io_tideLevel io_acts io_firstBreaks io_bestCrew io_sights io_wayMany res.2] := by
  refine amf.of (cc := cX12_draws) (maxL := 2) (rt := (some .int)) (by decide) rfl RX12 rfl (Nat.le_of_ble_eq_true rfl) [some (.ref (ao 0)), some (.int x1)] rfl ?_
  intro X C hQ
  unfold fX12_draws at hf
  refine a_aload_n C dX12_draws_0 rfl ?_
  refine a_aload_n C dX12_draws_1 rfl ?_
  refine a_get C (eB_X12_461 _) dX12_draws_2 0 rfl rfl ?_
  refine a_ldcw C (1103515245 : Int32) dX12_draws_5 (kB_X12_464 _) ?_
  refine a_imul C dX12_draws_8 ?_
  refine a_sipush C (12345 : Int32) dX12_draws_9 (by decide) ?_
  refine a_iadd C dX12_draws_12 ?_
  refine a_put C (eB_X12_461 _) tfX12_49 dX12_draws_13 0 rfl rfl rfl (Nat.le_of_ble_eq_true rfl) ?_
  refine a_aload_n C dX12_draws_16 rfl ?_
  refine a_get C (eB_X12_461 _) dX12_draws_17 0 rfl rfl ?_
  refine a_bipush C (16 : Int32) dX12_draws_20 (by decide) ?_
  refine a_iushr C dX12_draws_22 ?_
  refine a_iload_n C dX12_draws_23 rfl ?_
  obtain ⟨h1, hf⟩ := fx_ite hf
  refine a_irem C dX12_draws_24 h1 ?_
  obtain rfl := fx_some hf
  exact a_iret C hQ dX12_draws_25 ⟨rfl, rfl⟩
-- X12_summers
abbrev rmX12_summers : Room := { frames := 5, cells := 0, slots := 0, locals := 114 }
theorem dvX12_summers : yX12_summers.cls = RX12 ∧ yX12_summers.cls ≠ "java/lang/invoke/MethodHandle" ∧ yX12_summers.cls ≠ "java/lang/invoke/VarHandle" ∧ (parseMethodDescriptor yX12_summers.desc).map (fun d => d.parameters.length) = some 2 := by decide +kernel
def fX12_summers_b136 (io_thrown : Int32) (io_rows : Int32) (io_cells : Int32) (io_children : Int32) (io_codeLong : Int32) (io_wentHome : Int32) (io_tideLevel : Int32) (io_random : Int32) (co_row : Nat → Int64) (co_base : Nat → Int32) (co_dyke : Nat → Int32) (co_age : Nat → Int32) (co_skill : Nat → Int32) (co_friend : Nat → Int32) (co_fixed : Nat → Int32) (co_now : Nat → Int32) (co_then : Nat → Int32) (co_code : Nat → Int32) (co_stack : Nat → Int32) (co_asked : Nat → Int32) (co_gets : Nat → Int32) (x3 : Int32) : Option (Int32 × Int32 × Int32 × Int32 × Int32 × Int32 × (Nat → Int64) × (Nat → Int32) × (Nat → Int32) × (Nat → Int32) × (Nat → Int32)) :=
  (fX12_wet io_cells co_then).bind (fun r1 => (fJ6_bitCount_0f7a4 r1).bind (fun r2 => (fX12_enters (0 : Int32) co_row (r2.toInt64)).bind (fun r3 => (fX12_childrenAt io_children co_then (-1 : Int32)).bind (fun r4 => (fJ6_bitCount_0f7a4 r4).bind (fun r5 => (fX12_enters r3.1 r3.2 (r5.toInt64)).bind (fun r6 => some (x3, io_thrown, r6.1, io_wentHome, io_tideLevel, io_random, r6.2, co_then, co_stack, co_asked, co_gets)))))))
set_option maxHeartbeats 400000 in
set_option maxRecDepth 100000 in
theorem kX12_summers_b136 {X : cxT} {l : Launch} {D : va_G} {Y : Nat → ClassId} {ao : Nat → Nat} {io_thrown : Int32} {io_rows : Int32} {io_cells : Int32} {io_children : Int32} {io_changes : Int32} {io_taped : Int32} {io_at : Int32} {io_to : Int32} {io_nest : Int32} {io_readMany : Int32} {io_codeLong : Int32} {io_readLong : Int32} {io_undos : Int32} {io_wentHome : Int32} {io_tideLevel : Int32} {io_acts : Int32} {io_firstBreaks : Int32} {io_bestCrew : Int32} {io_sights : Int32} {io_wayMany : Int32} {io_random : Int32} {co_row : Nat → Int64} {co_base : Nat → Int32} {co_dyke : Nat → Int32} {co_age : Nat → Int32} {co_skill : Nat → Int32} {co_friend : Nat → Int32} {co_fixed : Nat → Int32} {co_now : Nat → Int32} {co_then : Nat → Int32} {co_code : Nat → Int32} {co_stack : Nat → Int32} {co_asked : Nat → Int32} {co_gets : Nat → Int32} {x3 : Int32} {res : Int32 × Int32 × Int32 × Int32 × Int32 × Int32 × (Nat → Int64) × (Nat → Int32) × (Nat → Int32) × (Nat → Int32) × (Nat → Int32)} (C : axC X l D Y cX12_summers 7 RX12 wsX12_summers rmX12_summers (some .int)) (hQ : axQ X 0 0 (fun r9 w9 => r9 = (some (.int res.1)) ∧ w9 = [oX12 ao res.2.1 res.2.2.1 io_cells io_children io_changes io_taped io_at io_to io_nest io_readMany io_codeLong io_readLong io_undos res.2.2.2.1 res.2.2.2.2.1 io_acts io_firstBreaks io_bestCrew io_sights io_wayMany res.2.2.2.2.2.1, rJ Y (ao 1) 24 res.2.2.2.2.2.2.1, rI Y (ao 2) 12 co_base, rI Y (ao 3) 12 co_dyke, rI Y (ao 4) 8 co_age, rI Y (ao 5) 8 co_skill, rI Y (ao 6) 8 co_friend, rI Y (ao 7) 2 co_fixed, rI Y (ao 8) 43 co_now, rI Y (ao 9) 43 res.2.2.2.2.2.2.2.1, rI Y (ao 12) 80 co_code, rI Y (ao 14) 80 res.2.2.2.2.2.2.2.2.1, rI Y (ao 15) 4 res.2.2.2.2.2.2.2.2.2.1, rI Y (ao 17) 12 res.2.2.2.2.2.2.2.2.2.2])) (hf : fX12_summers_b136 io_thrown io_rows io_cells io_children io_codeLong io_wentHome io_tideLevel io_random co_row co_base co_dyke co_age co_skill co_friend co_fixed co_now co_then co_code co_stack co_asked co_gets x3 = some res) : ax X 0 0 136 [some (.ref (ao 0)), none, none, some (.int x3), none, none, none] [oX12 ao io_thrown io_rows io_cells io_children io_changes io_taped io_at io_to io_nest io_readMany io_codeLong io_readLong io_undos io_wentHome io_tideLevel io_acts io_firstBreaks io_bestCrew io_sights io_wayMany io_random, rJ Y (ao 1) 24 co_row, rI Y (ao 2) 12 co_base, rI Y (ao 3) 12 co_dyke, rI Y (ao 4) 8 co_age, rI Y (ao 5) 8 co_skill, rI Y (ao 6) 8 co_friend, rI Y (ao 7) 2 co_fixed, rI Y (ao 8) 43 co_now, rI Y (ao 9) 43 co_then, rI Y (ao 12) 80 co_code, rI Y (ao 14) 80 co_stack, rI Y (ao 15) 4 co_asked, rI Y (ao 17) 12 co_gets] [] := by
  unfold fX12_summers_b136 at hf
  refine a_aload_n C dX12_summers_136 rfl ?_
  refine a_iconst C (0 : Int32) dX12_summers_137 (by decide) ?_
  refine a_put C (eB_X12_119 _) tfX12_1 dX12_summers_138 0 rfl rfl rfl (Nat.le_of_ble_eq_true rfl) ?_
  refine a_aload_n C dX12_summers_141 rfl ?_
  refine a_aload_n C dX12_summers_142 rfl ?_
  refine a_aload_n C dX12_summers_143 rfl ?_
  refine a_get C (eB_X12_39 _) dX12_summers_144 0 rfl rfl ?_
  obtain ⟨r1, h1, hf⟩ := fx_bind hf
  refine a_fV C (kX12_wet l D Y ao (ao 9) io_thrown (0 : Int32) io_cells io_children io_changes io_taped io_at io_to io_nest io_readMany io_codeLong io_readLong io_undos io_wentHome io_tideLevel io_acts io_firstBreaks io_bestCrew io_sights io_wayMany io_random co_then r1 h1) (gB_X12_371 _) rfl dvX12_wet ⟨⟨rfl, rfl⟩, ⟨Nat.le_of_ble_eq_true rfl, Nat.le_of_ble_eq_true rfl⟩, ⟨Nat.le_of_ble_eq_true rfl, Nat.le_of_ble_eq_true rfl⟩⟩ rfl (Nat.le_of_ble_eq_true rfl) dX12_summers_147 rfl rfl [0, 9] [1, 2, 3, 4, 5, 6, 7, 8, 10, 11, 12, 13] ⟨rfl, rfl, trivial⟩ (by decide +kernel) rfl [oX12 ao io_thrown (0 : Int32) io_cells io_children io_changes io_taped io_at io_to io_nest io_readMany io_codeLong io_readLong io_undos io_wentHome io_tideLevel io_acts io_firstBreaks io_bestCrew io_sights io_wayMany io_random, rJ Y (ao 1) 24 co_row, rI Y (ao 2) 12 co_base, rI Y (ao 3) 12 co_dyke, rI Y (ao 4) 8 co_age, rI Y (ao 5) 8 co_skill, rI Y (ao 6) 8 co_friend, rI Y (ao 7) 2 co_fixed, rI Y (ao 8) 43 co_now, rI Y (ao 9) 43 co_then, rI Y (ao 12) 80 co_code, rI Y (ao 14) 80 co_stack, rI Y (ao 15) 4 co_asked, rI Y (ao 17) 12 co_gets] ⟨rfl, rfl, trivial⟩ ⟨rfl, rfl, rfl, rfl, rfl, rfl, rfl, rfl, rfl, rfl, rfl, rfl, trivial⟩ 14 rfl (by decide +kernel) ?_
  obtain ⟨r2, h2, hf⟩ := fx_bind hf
  refine a_fS C (kJ6_bitCount_0f7a4 l D Y r1 r2 h2) (gB_X12_251 _) rfl dvJ6_bitCount_0f7a4 ⟨⟨rfl, rfl⟩, ⟨Nat.le_of_ble_eq_true rfl, Nat.le_of_ble_eq_true rfl⟩, ⟨Nat.le_of_ble_eq_true rfl, Nat.le_of_ble_eq_true rfl⟩⟩ rfl (Nat.le_of_ble_eq_true rfl) dX12_summers_150 [] [0, 1, 2, 3, 4, 5, 6, 7, 8, 9, 10, 11, 12, 13] trivial (by decide +kernel) rfl [oX12 ao io_thrown (0 : Int32) io_cells io_children io_changes io_taped io_at io_to io_nest io_readMany io_codeLong io_readLong io_undos io_wentHome io_tideLevel io_acts io_firstBreaks io_bestCrew io_sights io_wayMany io_random, rJ Y (ao 1) 24 co_row, rI Y (ao 2) 12 co_base, rI Y (ao 3) 12 co_dyke, rI Y (ao 4) 8 co_age, rI Y (ao 5) 8 co_skill, rI Y (ao 6) 8 co_friend, rI Y (ao 7) 2 co_fixed, rI Y (ao 8) 43 co_now, rI Y (ao 9) 43 co_then, rI Y (ao 12) 80 co_code, rI Y (ao 14) 80 co_stack, rI Y (ao 15) 4 co_asked, rI Y (ao 17) 12 co_gets] trivial ⟨rfl, rfl, rfl, rfl, rfl, rfl, rfl, rfl, rfl, rfl, rfl, rfl, rfl, rfl, trivial⟩ 14 rfl (by decide +kernel) ?_
  refine a_i2l C dX12_summers_153 ?_
  obtain ⟨r3, h3, hf⟩ := fx_bind hf
  refine a_fV C (kX12_enters l D Y ao io_thrown (0 : Int32) io_cells io_children io_changes io_taped io_at io_to io_nest io_readMany io_codeLong io_readLong io_undos io_wentHome io_tideLevel io_acts io_firstBreaks io_bestCrew io_sights io_wayMany io_random co_row (r2.toInt64) r3 h3) (gB_X12_359 _) rfl dvX12_enters ⟨⟨rfl, rfl⟩, ⟨Nat.le_of_ble_eq_true rfl, Nat.le_of_ble_eq_true rfl⟩, ⟨Nat.le_of_ble_eq_true rfl, Nat.le_of_ble_eq_true rfl⟩⟩ rfl (Nat.le_of_ble_eq_true rfl) dX12_summers_154 rfl rfl [0, 1] [2, 3, 4, 5, 6, 7, 8, 9, 10, 11, 12, 13] ⟨rfl, rfl, trivial⟩ (by decide +kernel) rfl [oX12 ao io_thrown r3.1 io_cells io_children io_changes io_taped io_at io_to io_nest io_readMany io_codeLong io_readLong io_undos io_wentHome io_tideLevel io_acts io_firstBreaks io_bestCrew io_sights io_wayMany io_random, rJ Y (ao 1) 24 r3.2, rI Y (ao 2) 12 co_base, rI Y (ao 3) 12 co_dyke, rI Y (ao 4) 8 co_age, rI Y (ao 5) 8 co_skill, rI Y (ao 6) 8 co_friend, rI Y (ao 7) 2 co_fixed, rI Y (ao 8) 43 co_now, rI Y (ao 9) 43 co_then, rI Y (ao 12) 80 co_code, rI Y (ao 14) 80 co_stack, rI Y (ao 15) 4 co_asked, rI Y (ao 17) 12 co_gets] ⟨rfl, rfl, trivial⟩ ⟨rfl, rfl, rfl, rfl, rfl, rfl, rfl, rfl, rfl, rfl, rfl, rfl, trivial⟩ 14 rfl (by decide +kernel) ?_
  refine a_aload_n C dX12_summers_157 rfl ?_
  refine a_aload_n C dX12_summers_158 rfl ?_
  refine a_aload_n C dX12_summers_159 rfl ?_
  refine a_get C (eB_X12_39 _) dX12_summers_160 0 rfl rfl ?_
  refine a_iconst C (-1 : Int32) dX12_summers_163 (by decide) ?_
  obtain ⟨r4, h4, hf⟩ := fx_bind hf
  refine a_fV C (kX12_childrenAt l D Y ao (ao 9) io_thrown r3.1 io_cells io_children io_changes io_taped io_at io_to io_nest io_readMany io_codeLong io_readLong io_undos io_wentHome io_tideLevel io_acts io_firstBreaks io_bestCrew io_sights io_wayMany io_random co_then (-1 : Int32) r4 h4) (gB_X12_288 _) rfl dvX12_childrenAt ⟨⟨rfl, rfl⟩, ⟨Nat.le_of_ble_eq_true rfl, Nat.le_of_ble_eq_true rfl⟩, ⟨Nat.le_of_ble_eq_true rfl, Nat.le_of_ble_eq_true rfl⟩⟩ rfl (Nat.le_of_ble_eq_true rfl) dX12_summers_164 rfl rfl [0, 9] [1, 2, 3, 4, 5, 6, 7, 8, 10, 11, 12, 13] ⟨rfl, rfl, trivial⟩ (by decide +kernel) rfl [oX12 ao io_thrown r3.1 io_cells io_children io_changes io_taped io_at io_to io_nest io_readMany io_codeLong io_readLong io_undos io_wentHome io_tideLevel io_acts io_firstBreaks io_bestCrew io_sights io_wayMany io_random, rJ Y (ao 1) 24 r3.2, rI Y (ao 2) 12 co_base, rI Y (ao 3) 12 co_dyke, rI Y (ao 4) 8 co_age, rI Y (ao 5) 8 co_skill, rI Y (ao 6) 8 co_friend, rI Y (ao 7) 2 co_fixed, rI Y (ao 8) 43 co_now, rI Y (ao 9) 43 co_then, rI Y (ao 12) 80 co_code, rI Y (ao 14) 80 co_stack, rI Y (ao 15) 4 co_asked, rI Y (ao 17) 12 co_gets] ⟨rfl, rfl, trivial⟩ ⟨rfl, rfl, rfl, rfl, rfl, rfl, rfl, rfl, rfl, rfl, rfl, rfl, trivial⟩ 14 rfl (by decide +kernel) ?_
  obtain ⟨r5, h5, hf⟩ := fx_bind hf
  refine a_fS C (kJ6_bitCount_0f7a4 l D Y r4 r5 h5) (gB_X12_251 _) rfl dvJ6_bitCount_0f7a4 ⟨⟨rfl, rfl⟩, ⟨Nat.le_of_ble_eq_true rfl, Nat.le_of_ble_eq_true rfl⟩, ⟨Nat.le_of_ble_eq_true rfl, Nat.le_of_ble_eq_true rfl⟩⟩ rfl (Nat.le_of_ble_eq_true rfl) dX12_summers_167 [] [0, 1, 2, 3, 4, 5, 6, 7, 8, 9, 10, 11, 12, 13] trivial (by decide +kernel) rfl [oX12 ao io_thrown r3.1 io_cells io_children io_changes io_taped io_at io_to io_nest io_readMany io_codeLong io_readLong io_undos io_wentHome io_tideLevel io_acts io_firstBreaks io_bestCrew io_sights io_wayMany io_random, rJ Y (ao 1) 24 r3.2, rI Y (ao 2) 12 co_base, rI Y (ao 3) 12 co_dyke, rI Y (ao 4) 8 co_age, rI Y (ao 5) 8 co_skill, rI Y (ao 6) 8 co_friend, rI Y (ao 7) 2 co_fixed, rI Y (ao 8) 43 co_now, rI Y (ao 9) 43 co_then, rI Y (ao 12) 80 co_code, rI Y (ao 14) 80 co_stack, rI Y (ao 15) 4 co_asked, rI Y (ao 17) 12 co_gets] trivial ⟨rfl, rfl, rfl, rfl, rfl, rfl, rfl, rfl, rfl, rfl, rfl, rfl, rfl, rfl, trivial⟩ 14 rfl (by decide +kernel) ?_
  refine a_i2l C dX12_summers_170 ?_
  obtain ⟨r6, h6, hf⟩ := fx_bind hf
  refine a_fV C (kX12_enters l D Y ao io_thrown r3.1 io_cells io_children io_changes io_taped io_at io_to io_nest io_readMany io_codeLong io_readLong io_undos io_wentHome io_tideLevel io_acts io_firstBreaks io_bestCrew io_sights io_wayMany io_random r3.2 (r5.toInt64) r6 h6) (gB_X12_359 _) rfl dvX12_enters ⟨⟨rfl, rfl⟩, ⟨Nat.le_of_ble_eq_true rfl, Nat.le_of_ble_eq_true rfl⟩, ⟨Nat.le_of_ble_eq_true rfl, Nat.le_of_ble_eq_true rfl⟩⟩ rfl (Nat.le_of_ble_eq_true rfl) dX12_summers_171 rfl rfl [0, 1] [2, 3, 4, 5, 6, 7, 8, 9, 10, 11, 12, 13] ⟨rfl, rfl, trivial⟩ (by decide +kernel) rfl [oX12 ao io_thrown r6.1 io_cells io_children io_changes io_taped io_at io_to io_nest io_readMany io_codeLong io_readLong io_undos io_wentHome io_tideLevel io_acts io_firstBreaks io_bestCrew io_sights io_wayMany io_random, rJ Y (ao 1) 24 r6.2, rI Y (ao 2) 12 co_base, rI Y (ao 3) 12 co_dyke, rI Y (ao 4) 8 co_age, rI Y (ao 5) 8 co_skill, rI Y (ao 6) 8 co_friend, rI Y (ao 7) 2 co_fixed, rI Y (ao 8) 43 co_now, rI Y (ao 9) 43 co_then, rI Y (ao 12) 80 co_code, rI Y (ao 14) 80 co_stack, rI Y (ao 15) 4 co_asked, rI Y (ao 17) 12 co_gets] ⟨rfl, rfl, trivial⟩ ⟨rfl, rfl, rfl, rfl, rfl, rfl, rfl, rfl, rfl, rfl, rfl, rfl, trivial⟩ 14 rfl (by decide +kernel) ?_
  refine a_iload_n C dX12_summers_174 rfl ?_
  obtain rfl := fx_some hf
  exact a_iret C hQ dX12_summers_175 ⟨rfl, rfl⟩
def fX12_summers_b130 (io_thrown : Int32) (io_rows : Int32) (io_cells : Int32) (io_children : Int32) (io_codeLong : Int32) (io_wentHome : Int32) (io_tideLevel : Int32) (io_random : Int32) (co_row : Nat → Int64) (co_base : Nat → Int32) (co_dyke : Nat → Int32) (co_age : Nat → Int32) (co_skill : Nat → Int32) (co_friend : Nat → Int32) (co_fixed : Nat → Int32) (co_now : Nat → Int32) (co_then : Nat → Int32) (co_code : Nat → Int32) (co_stack : Nat → Int32) (co_asked : Nat → Int32) (co_gets : Nat → Int32) (x2 : Int32) (x3 : Int32) (x4 : Int32) (k33 : Int32 × Int32 × Int32 × (Nat → Int32) × (Nat → Int32) × (Nat → Int32) × (Nat → Int32) × Int32 × Int32 → Option (Int32 × Int32 × Int32 × Int32 × Int32 × Int32 × (Nat → Int64) × (Nat → Int32) × (Nat → Int32) × (Nat → Int32) × (Nat → Int32))) : Option (Int32 × Int32 × Int32 × Int32 × Int32 × Int32 × (Nat → Int64) × (Nat → Int32) × (Nat → Int32) × (Nat → Int32) × (Nat → Int32)) :=
  k33 (io_wentHome, io_tideLevel, io_random, co_then, co_stack, co_asked, co_gets, x3, (x4 + (1 : Int32)))
set_option maxHeartbeats 400000 in
set_option maxRecDepth 100000 in
theorem kX12_summers_b130 {X : cxT} {l : Launch} {D : va_G} {Y : Nat → ClassId} {ao : Nat → Nat} {io_thrown : Int32} {io_rows : Int32} {io_cells : Int32} {io_children : Int32} {io_changes : Int32} {io_taped : Int32} {io_at : Int32} {io_to : Int32} {io_nest : Int32} {io_readMany : Int32} {io_codeLong : Int32} {io_readLong : Int32} {io_undos : Int32} {io_wentHome : Int32} {io_tideLevel : Int32} {io_acts : Int32} {io_firstBreaks : Int32} {io_bestCrew : Int32} {io_sights : Int32} {io_wayMany : Int32} {io_random : Int32} {co_row : Nat → Int64} {co_base : Nat → Int32} {co_dyke : Nat → Int32} {co_age : Nat → Int32} {co_skill : Nat → Int32} {co_friend : Nat → Int32} {co_fixed : Nat → Int32} {co_now : Nat → Int32} {co_then : Nat → Int32} {co_code : Nat → Int32} {co_stack : Nat → Int32} {co_asked : Nat → Int32} {co_gets : Nat → Int32} {x2 : Int32} {x3 : Int32} {x4 : Int32} {res : Int32 × Int32 × Int32 × Int32 × Int32 × Int32 × (Nat → Int64) × (Nat → Int32) × (Nat → Int32) × (Nat → Int32) × (Nat → Int32)} (C : axC X l D Y cX12_summers 7 RX12 wsX12_summers rmX12_summers (some .int)) (hQ : axQ X 0 0 (fun r9 w9 => r9 = (some (.int res.1)) ∧ w9 = [oX12 ao res.2.1 res.2.2.1 io_cells io_children io_changes io_taped io_at io_to io_nest io_readMany io_codeLong io_readLong io_undos res.2.2.2.1 res.2.2.2.2.1 io_acts io_firstBreaks io_bestCrew io_sights io_wayMany res.2.2.2.2.2.1, rJ Y (ao 1) 24 res.2.2.2.2.2.2.1, rI Y (ao 2) 12 co_base, rI Y (ao 3) 12 co_dyke, rI Y (ao 4) 8 co_age, rI Y (ao 5) 8 co_skill, rI Y (ao 6) 8 co_friend, rI Y (ao 7) 2 co_fixed, rI Y (ao 8) 43 co_now, rI Y (ao 9) 43 res.2.2.2.2.2.2.2.1, rI Y (ao 12) 80 co_code, rI Y (ao 14) 80 res.2.2.2.2.2.2.2.2.1, rI Y (ao 15) 4 res.2.2.2.2.2.2.2.2.2.1, rI Y (ao 17) 12 res.2.2.2.2.2.2.2.2.2.2])) {k33 : Int32 × Int32 × Int32 × (Nat → Int32) × (Nat → Int32) × (Nat → Int32) × (Nat → Int32) × Int32 × Int32 → Option (Int32 × Int32 × Int32 × Int32 × Int32 × Int32 × (Nat → Int64) × (Nat → Int32) × (Nat → Int32) × (Nat → Int32) × (Nat → Int32))} (hk33 : ∀ s : Int32 × Int32 × Int32 × (Nat → Int32) × (Nat → Int32) × (Nat → Int32) × (Nat → Int32) × Int32 × Int32, k33 s = some res → ax X 0 0 33 [some (.ref (ao 0)), none, some (.int x2), some (.int s.2.2.2.2.2.2.2.1), some (.int s.2.2.2.2.2.2.2.2), none, none] [oX12 ao io_thrown io_rows io_cells io_children io_changes io_taped io_at io_to io_nest io_readMany io_codeLong io_readLong io_undos s.1 s.2.1 io_acts io_firstBreaks io_bestCrew io_sights io_wayMany s.2.2.1, rJ Y (ao 1) 24 co_row, rI Y (ao 2) 12 co_base, rI Y (ao 3) 12 co_dyke, rI Y (ao 4) 8 co_age, rI Y (ao 5) 8 co_skill, rI Y (ao 6) 8 co_friend, rI Y (ao 7) 2 co_fixed, rI Y (ao 8) 43 co_now, rI Y (ao 9) 43 s.2.2.2.1, rI Y (ao 12) 80 co_code, rI Y (ao 14) 80 s.2.2.2.2.1, rI Y (ao 15) 4 s.2.2.2.2.2.1, rI Y (ao 17) 12 s.2.2.2.2.2.2.1] []) (hf : fX12_summers_b130 io_thrown io_rows io_cells io_children io_codeLong io_wentHome io_tideLevel io_random co_row co_base co_dyke co_age co_skill co_friend co_fixed co_now co_then co_code co_stack co_asked co_gets x2 x3 x4 k33 = some res) : ax X 0 0 130 [some (.ref (ao 0)), none, some (.int x2), some (.int x3), some (.int x4), none, none] [oX12 ao io_thrown io_rows io_cells io_children io_changes io_taped io_at io_to io_nest io_readMany io_codeLong io_readLong io_undos io_wentHome io_tideLevel io_acts io_firstBreaks io_bestCrew io_sights io_wayMany io_random, rJ Y (ao 1) 24 co_row, rI Y (ao 2) 12 co_base, rI Y (ao 3) 12 co_dyke, rI Y (ao 4) 8 co_age, rI Y (ao 5) 8 co_skill, rI Y (ao 6) 8 co_friend, rI Y (ao 7) 2 co_fixed, rI Y (ao 8) 43 co_now, rI Y (ao 9) 43 co_then, rI Y (ao 12) 80 co_code, rI Y (ao 14) 80 co_stack, rI Y (ao 15) 4 co_asked, rI Y (ao 17) 12 co_gets] [] := by
  unfold fX12_summers_b130 at hf
  refine a_iinc C (1 : Int32) dX12_summers_130 (by decide) rfl (by decide) rfl ?_
  refine a_goto C 33 dX12_summers_133 (by decide) ?_
  exact hk33 (io_wentHome, io_tideLevel, io_random, co_then, co_stack, co_asked, co_gets, x3, (x4 + (1 : Int32))) hf
def fX12_summers_b86 (io_thrown : Int32) (io_rows : Int32) (io_cells : Int32) (io_children : Int32) (io_codeLong : Int32) (io_wentHome : Int32) (io_tideLevel : Int32) (io_random : Int32) (co_row : Nat → Int64) (co_base : Nat → Int32) (co_dyke : Nat → Int32) (co_age : Nat → Int32) (co_skill : Nat → Int32) (co_friend : Nat → Int32) (co_fixed : Nat → Int32) (co_now : Nat → Int32) (co_then : Nat → Int32) (co_code : Nat → Int32) (co_stack : Nat → Int32) (co_asked : Nat → Int32) (co_gets : Nat → Int32) (x2 : Int32) (x4 : Int32) (s0 : Int32) (s1 : Int32) (k33 : Int32 × Int32 × Int32 × (Nat → Int32) × (Nat → Int32) × (Nat → Int32) × (Nat → Int32) × Int32 × Int32 → Option (Int32 × Int32 × Int32 × Int32 × Int32 × Int32 × (Nat → Int64) × (Nat → Int32) × (Nat → Int32) × (Nat → Int32) × (Nat → Int32))) : Option (Int32 × Int32 × Int32 × Int32 × Int32 × Int32 × (Nat → Int64) × (Nat → Int32) × (Nat → Int32) × (Nat → Int32) × (Nat → Int32)) :=
  (fX12_flag s1).bind (fun r7 => fX12_summers_b130 io_thrown io_rows io_cells io_children io_codeLong io_wentHome io_tideLevel io_random co_row co_base co_dyke co_age co_skill co_friend co_fixed co_now co_then co_code co_stack co_asked co_gets x2 (s0 + r7) x4 k33)
set_option maxHeartbeats 400000 in
set_option maxRecDepth 100000 in
theorem kX12_summers_b86 {X : cxT} {l : Launch} {D : va_G} {Y : Nat → ClassId} {ao : Nat → Nat} {io_thrown : Int32} {io_rows : Int32} {io_cells : Int32} {io_children : Int32} {io_changes : Int32} {io_taped : Int32} {io_at : Int32} {io_to : Int32} {io_nest : Int32} {io_readMany : Int32} {io_codeLong : Int32} {io_readLong : Int32} {io_undos : Int32} {io_wentHome : Int32} {io_tideLevel : Int32} {io_acts : Int32} {io_firstBreaks : Int32} {io_bestCrew : Int32} {io_sights : Int32} {io_wayMany : Int32} {io_random : Int32} {co_row : Nat → Int64} {co_base : Nat → Int32} {co_dyke : Nat → Int32} {co_age : Nat → Int32} {co_skill : Nat → Int32} {co_friend : Nat → Int32} {co_fixed : Nat → Int32} {co_now : Nat → Int32} {co_then : Nat → Int32} {co_code : Nat → Int32} {co_stack : Nat → Int32} {co_asked : Nat → Int32} {co_gets : Nat → Int32} {x2 : Int32} {x4 : Int32} {s0 : Int32} {s1 : Int32} {res : Int32 × Int32 × Int32 × Int32 × Int32 × Int32 × (Nat → Int64) × (Nat → Int32) × (Nat → Int32) × (Nat → Int32) × (Nat → Int32)} (C : axC X l D Y cX12_summers 7 RX12 wsX12_summers rmX12_summers (some .int)) (hQ : axQ X 0 0 (fun r9 w9 => r9 = (some (.int res.1)) ∧ w9 = [oX12 ao res.2.1 res.2.2.1 io_cells io_children io_changes io_taped io_at io_to io_nest io_readMany io_codeLong io_readLong io_undos res.2.2.2.1 res.2.2.2.2.1 io_acts io_firstBreaks io_bestCrew io_sights io_wayMany res.2.2.2.2.2.1, rJ Y (ao 1) 24 res.2.2.2.2.2.2.1, rI Y (ao 2) 12 co_base, rI Y (ao 3) 12 co_dyke, rI Y (ao 4) 8 co_age, rI Y (ao 5) 8 co_skill, rI Y (ao 6) 8 co_friend, rI Y (ao 7) 2 co_fixed, rI Y (ao 8) 43 co_now, rI Y (ao 9) 43 res.2.2.2.2.2.2.2.1, rI Y (ao 12) 80 co_code, rI Y (ao 14) 80 res.2.2.2.2.2.2.2.2.1, rI Y (ao 15) 4 res.2.2.2.2.2.2.2.2.2.1, rI Y (ao 17) 12 res.2.2.2.2.2.2.2.2.2.2])) {k33 : Int32 × Int32 × Int32 × (Nat → Int32) × (Nat → Int32) × (Nat → Int32) × (Nat → Int32) × Int32 × Int32 → Option (Int32 × Int32 × Int32 × Int32 × Int32 × Int32 × (Nat → Int64) × (Nat → Int32) × (Nat → Int32) × (Nat → Int32) × (Nat → Int32))} (hk33 : ∀ s : Int32 × Int32 × Int32 × (Nat → Int32) × (Nat → Int32) × (Nat → Int32) × (Nat → Int32) × Int32 × Int32, k33 s = some res → ax X 0 0 33 [some (.ref (ao 0)), none, some (.int x2), some (.int s.2.2.2.2.2.2.2.1), some (.int s.2.2.2.2.2.2.2.2), none, none] [oX12 ao io_thrown io_rows io_cells io_children io_changes io_taped io_at io_to io_nest io_readMany io_codeLong io_readLong io_undos s.1 s.2.1 io_acts io_firstBreaks io_bestCrew io_sights io_wayMany s.2.2.1, rJ Y (ao 1) 24 co_row, rI Y (ao 2) 12 co_base, rI Y (ao 3) 12 co_dyke, rI Y (ao 4) 8 co_age, rI Y (ao 5) 8 co_skill, rI Y (ao 6) 8 co_friend, rI Y (ao 7) 2 co_fixed, rI Y (ao 8) 43 co_now, rI Y (ao 9) 43 s.2.2.2.1, rI Y (ao 12) 80 co_code, rI Y (ao 14) 80 s.2.2.2.2.1, rI Y (ao 15) 4 s.2.2.2.2.2.1, rI Y (ao 17) 12 s.2.2.2.2.2.2.1] []) (hf : fX12_summers_b86 io_thrown io_rows io_cells io_children io_codeLong io_wentHome io_tideLevel io_random co_row co_base co_dyke co_age co_skill co_friend co_fixed co_now co_then co_code co_stack co_asked co_gets x2 x4 s0 s1 k33 = some res) : ax X 0 0 86 [some (.ref (ao 0)), none, some (.int x2), none, some (.int x4), none, none] [oX12 ao io_thrown io_rows io_cells io_children io_changes io_taped io_at io_to io_nest io_readMany io_codeLong io_readLong io_undos io_wentHome io_tideLevel io_acts io_firstBreaks io_bestCrew io_sights io_wayMany io_random, rJ Y (ao 1) 24 co_row, rI Y (ao 2) 12 co_base, rI Y (ao 3) 12 co_dyke, rI Y (ao 4) 8 co_age, rI Y (ao 5) 8 co_skill, rI Y (ao 6) 8 co_friend, rI Y (ao 7) 2 co_fixed, rI Y (ao 8) 43 co_now, rI Y (ao 9) 43 co_then, rI Y (ao 12) 80 co_code, rI Y (ao 14) 80 co_stack, rI Y (ao 15) 4 co_asked, rI Y (ao 17) 12 co_gets] [.int s1, .int s0] := by
  unfold fX12_summers_b86 at hf
  obtain ⟨r7, h7, hf⟩ := fx_bind hf
  refine a_fS C (kX12_flag l D Y s1 r7 h7) (gB_X12_151 _) rfl dvX12_flag ⟨⟨rfl, rfl⟩, ⟨Nat.le_of_ble_eq_true rfl, Nat.le_of_ble_eq_true rfl⟩, ⟨Nat.le_of_ble_eq_true rfl, Nat.le_of_ble_eq_true rfl⟩⟩ rfl (Nat.le_of_ble_eq_true rfl) dX12_summers_86 [] [0, 1, 2, 3, 4, 5, 6, 7, 8, 9, 10, 11, 12, 13] trivial (by decide +kernel) rfl [oX12 ao io_thrown io_rows io_cells io_children io_changes io_taped io_at io_to io_nest io_readMany io_codeLong io_readLong io_undos io_wentHome io_tideLevel io_acts io_firstBreaks io_bestCrew io_sights io_wayMany io_random, rJ Y (ao 1) 24 co_row, rI Y (ao 2) 12 co_base, rI Y (ao 3) 12 co_dyke, rI Y (ao 4) 8 co_age, rI Y (ao 5) 8 co_skill, rI Y (ao 6) 8 co_friend, rI Y (ao 7) 2 co_fixed, rI Y (ao 8) 43 co_now, rI Y (ao 9) 43 co_then, rI Y (ao 12) 80 co_code, rI Y (ao 14) 80 co_stack, rI Y (ao 15) 4 co_asked, rI Y (ao 17) 12 co_gets] trivial ⟨rfl, rfl, rfl, rfl, rfl, rfl, rfl, rfl, rfl, rfl, rfl, rfl, rfl, rfl, trivial⟩ 14 rfl (by decide +kernel) ?_
  refine a_iadd C dX12_summers_89 ?_
  refine a_istore_n C dX12_summers_90 (by decide) rfl ?_
  refine a_goto C 130 dX12_summers_91 (by decide) ?_
  exact kX12_summers_b130 C hQ hk33 hf
def fX12_summers_l33 (io_thrown : Int32) (io_rows : Int32) (io_cells : Int32) (io_children : Int32) (io_codeLong : Int32) (co_row : Nat → Int64) (co_base : Nat → Int32) (co_dyke : Nat → Int32) (co_age : Nat → Int32) (co_skill : Nat → Int32) (co_friend : Nat → Int32) (co_fixed : Nat → Int32) (co_now : Nat → Int32) (co_code : Nat → Int32) (x2 : Int32) (k33 : Int32 × Int32 × Int32 × (Nat → Int32) × (Nat → Int32) × (Nat → Int32) × (Nat → Int32) × Int32 × Int32 → Option (Int32 × Int32 × Int32 × Int32 × Int32 × Int32 × (Nat → Int64) × (Nat → Int32) × (Nat → Int32) × (Nat → Int32) × (Nat → Int32))) (io_wentHome : Int32) (io_tideLevel : Int32) (io_random : Int32) (co_then : Nat → Int32) (co_stack : Nat → Int32) (co_asked : Nat → Int32) (co_gets : Nat → Int32) (x3 : Int32) (x4 : Int32) : Option (Int32 × Int32 × Int32 × Int32 × Int32 × Int32 × (Nat → Int64) × (Nat → Int32) × (Nat → Int32) × (Nat → Int32) × (Nat → Int32)) :=
  if x2 ≤ x4 then (fX12_summers_b136 io_thrown io_rows io_cells io_children io_codeLong io_wentHome io_tideLevel io_random co_row co_base co_dyke co_age co_skill co_friend co_fixed co_now co_then co_code co_stack co_asked co_gets x3) else ((fX12_draws io_random (4 : Int32)).bind (fun r9 => if (2 : Int32) ≤ r9.1 then (if r9.1 = (3 : Int32) then ((fX12_tideComes io_cells io_codeLong io_tideLevel co_base co_dyke co_fixed co_code co_stack co_asked co_then).bind (fun r16 => if r16.1 = (0 : Int32) then (fX12_summers_b86 io_thrown io_rows io_cells io_children io_codeLong io_wentHome r16.2.1 r9.2 co_row co_base co_dyke co_age co_skill co_friend co_fixed co_now r16.2.2.2.2 co_code r16.2.2.1 r16.2.2.2.1 co_gets x2 x4 x3 (0 : Int32) k33) else (fX12_summers_b86 io_thrown io_rows io_cells io_children io_codeLong io_wentHome r16.2.1 r9.2 co_row co_base co_dyke co_age co_skill co_friend co_fixed co_now r16.2.2.2.2 co_code r16.2.2.1 r16.2.2.2.1 co_gets x2 x4 x3 (1 : Int32) k33))) else (if io_children ≤ (0 : Int32) then (fX12_summers_b130 io_thrown io_rows io_cells io_children io_codeLong io_wentHome io_tideLevel r9.2 co_row co_base co_dyke co_age co_skill co_friend co_fixed co_now co_then co_code co_stack co_asked co_gets x2 x3 x4 k33) else ((fX12_draws r9.2 io_children).bind (fun r13 => (fX12_draws r13.2 io_cells).bind (fun r14 => (fX12_goes io_cells io_children co_then r13.1 r14.1).bind (fun r15 => fX12_summers_b130 io_thrown io_rows io_cells io_children io_codeLong io_wentHome io_tideLevel r14.2 co_row co_base co_dyke co_age co_skill co_friend co_fixed co_now r15.2 co_code co_stack co_asked co_gets x2 x3 x4 k33)))))) else ((fX12_spellGoes io_cells io_children io_wentHome co_age co_skill co_friend co_gets co_then).bind (fun r18 => fX12_summers_b130 io_thrown io_rows io_cells io_children io_codeLong r18.1 io_tideLevel r9.2 co_row co_base co_dyke co_age co_skill co_friend co_fixed co_now r18.2.2 co_code co_stack co_asked r18.2.1 x2 x3 x4 k33))))
def fX12_summers_b33 (io_thrown : Int32) (io_rows : Int32) (io_cells : Int32) (io_children : Int32) (io_codeLong : Int32) (io_wentHome : Int32) (io_tideLevel : Int32) (io_random : Int32) (co_row : Nat → Int64) (co_base : Nat → Int32) (co_dyke : Nat → Int32) (co_age : Nat → Int32) (co_skill : Nat → Int32) (co_friend : Nat → Int32) (co_fixed : Nat → Int32) (co_now : Nat → Int32) (co_then : Nat → Int32) (co_code : Nat → Int32) (co_stack : Nat → Int32) (co_asked : Nat → Int32) (co_gets : Nat → Int32) (x2 : Int32) (x3 : Int32) (x4 : Int32) : Option (Int32 × Int32 × Int32 × Int32 × Int32 × Int32 × (Nat → Int64) × (Nat → Int32) × (Nat → Int32) × (Nat → Int32) × (Nat → Int32)) :=
  loopN (fun (s : Int32 × Int32 × Int32 × (Nat → Int32) × (Nat → Int32) × (Nat → Int32) × (Nat → Int32) × Int32 × Int32) k33 => fX12_summers_l33 io_thrown io_rows io_cells io_children io_codeLong co_row co_base co_dyke co_age co_skill co_friend co_fixed co_now co_code x2 k33 s.1 s.2.1 s.2.2.1 s.2.2.2.1 s.2.2.2.2.1 s.2.2.2.2.2.1 s.2.2.2.2.2.2.1 s.2.2.2.2.2.2.2.1 s.2.2.2.2.2.2.2.2) FUEL (io_wentHome, io_tideLevel, io_random, co_then, co_stack, co_asked, co_gets, x3, x4)
set_option maxHeartbeats 400000 in
set_option maxRecDepth 100000 in
theorem kX12_summers_l33 {X : cxT} {l : Launch} {D : va_G} {Y : Nat → ClassId} {ao : Nat → Nat} {io_thrown : Int32} {io_rows : Int32} {io_cells : Int32} {io_children : Int32} {io_changes : Int32} {io_taped : Int32} {io_at : Int32} {io_to : Int32} {io_nest : Int32} {io_readMany : Int32} {io_codeLong : Int32} {io_readLong : Int32} {io_undos : Int32} {io_wentHome : Int32} {io_tideLevel : Int32} {io_acts : Int32} {io_firstBreaks : Int32} {io_bestCrew : Int32} {io_sights : Int32} {io_wayMany : Int32} {io_random : Int32} {co_row : Nat → Int64} {co_base : Nat → Int32} {co_dyke : Nat → Int32} {co_age : Nat → Int32} {co_skill : Nat → Int32} {co_friend : Nat → Int32} {co_fixed : Nat → Int32} {co_now : Nat → Int32} {co_then : Nat → Int32} {co_code : Nat → Int32} {co_stack : Nat → Int32} {co_asked : Nat → Int32} {co_gets : Nat → Int32} {x2 : Int32} {x3 : Int32} {x4 : Int32} {res : Int32 × Int32 × Int32 × Int32 × Int32 × Int32 × (Nat → Int64) × (Nat → Int32) × (Nat → Int32) × (Nat → Int32) × (Nat → Int32)} (C : axC X l D Y cX12_summers 7 RX12 wsX12_summers rmX12_summers (some .int)) (hQ : axQ X 0 0 (fun r9 w9 => r9 = (some (.int res.1)) ∧ w9 = [oX12 ao res.2.1 res.2.2.1 io_cells io_children io_changes io_taped io_at io_to io_nest io_readMany io_codeLong io_readLong io_undos res.2.2.2.1 res.2.2.2.2.1 io_acts io_firstBreaks io_bestCrew io_sights io_wayMany res.2.2.2.2.2.1, rJ Y (ao 1) 24 res.2.2.2.2.2.2.1, rI Y (ao 2) 12 co_base, rI Y (ao 3) 12 co_dyke, rI Y (ao 4) 8 co_age, rI Y (ao 5) 8 co_skill, rI Y (ao 6) 8 co_friend, rI Y (ao 7) 2 co_fixed, rI Y (ao 8) 43 co_now, rI Y (ao 9) 43 res.2.2.2.2.2.2.2.1, rI Y (ao 12) 80 co_code, rI Y (ao 14) 80 res.2.2.2.2.2.2.2.2.1, rI Y (ao 15) 4 res.2.2.2.2.2.2.2.2.2.1, rI Y (ao 17) 12 res.2.2.2.2.2.2.2.2.2.2])) {k33 : Int32 × Int32 × Int32 × (Nat → Int32) × (Nat → Int32) × (Nat → Int32) × (Nat → Int32) × Int32 × Int32 → Option (Int32 × Int32 × Int32 × Int32 × Int32 × Int32 × (Nat → Int64) × (Nat → Int32) × (Nat → Int32) × (Nat → Int32) × (Nat → Int32))} (hk33 : ∀ s : Int32 × Int32 × Int32 × (Nat → Int32) × (Nat → Int32) × (Nat → Int32) × (Nat → Int32) × Int32 × Int32, k33 s = some res → ax X 0 0 33 [some (.ref (ao 0)), none, some (.int x2), some (.int s.2.2.2.2.2.2.2.1), some (.int s.2.2.2.2.2.2.2.2), none, none] [oX12 ao io_thrown io_rows io_cells io_children io_changes io_taped io_at io_to io_nest io_readMany io_codeLong io_readLong io_undos s.1 s.2.1 io_acts io_firstBreaks io_bestCrew io_sights io_wayMany s.2.2.1, rJ Y (ao 1) 24 co_row, rI Y (ao 2) 12 co_base, rI Y (ao 3) 12 co_dyke, rI Y (ao 4) 8 co_age, rI Y (ao 5) 8 co_skill, rI Y (ao 6) 8 co_friend, rI Y (ao 7) 2 co_fixed, rI Y (ao 8) 43 co_now, rI Y (ao 9) 43 s.2.2.2.1, rI Y (ao 12) 80 co_code, rI Y (ao 14) 80 s.2.2.2.2.1, rI Y (ao 15) 4 s.2.2.2.2.2.1, rI Y (ao 17) 12 s.2.2.2.2.2.2.1] []) (hf : fX12_summers_l33 io_thrown io_rows io_cells io_children io_codeLong co_row co_base co_dyke co_age co_skill co_friend co_fixed co_now co_code x2 k33 io_wentHome io_tideLevel io_random co_then co_stack co_asked co_gets x3 x4 = some res) : ax X 0 0 33 [some (.ref (ao 0)), none, some (.int x2), some (.int x3), some (.int x4), none, none] [oX12 ao io_thrown io_rows io_cells io_children io_changes io_taped io_at io_to io_nest io_readMany io_codeLong io_readLong io_undos io_wentHome io_tideLevel io_acts io_firstBreaks io_bestCrew io_sights io_wayMany io_random, rJ Y (ao 1) 24 co_row, rI Y (ao 2) 12 co_base, rI Y (ao 3) 12 co_dyke, rI Y (ao 4) 8 co_age, rI Y (ao 5) 8 co_skill, rI Y (ao 6) 8 co_friend, rI Y (ao 7) 2 co_fixed, rI Y (ao 8) 43 co_now, rI Y (ao 9) 43 co_then, rI Y (ao 12) 80 co_code, rI Y (ao 14) 80 co_stack, rI Y (ao 15) 4 co_asked, rI Y (ao 17) 12 co_gets] [] := by
  unfold fX12_summers_l33 at hf
  refine a_iload C dX12_summers_33 rfl ?_
  refine a_iload_n C dX12_summers_35 rfl ?_
  refine a_icmp_ge C 136 dX12_summers_36 (by decide) (fun h8 => ?_) (fun h8 => ?_)
  · have hf := fx_t h8 hf
    refine a_kill [2, 4] ?_
    exact kX12_summers_b136 C hQ hf
  · have hf := fx_f h8 hf
    refine a_aload_n C dX12_summers_39 rfl ?_
    refine a_iconst C (4 : Int32) dX12_summers_40 (by decide) ?_
    obtain ⟨r9, h9, hf⟩ := fx_bind hf
    refine a_fV C (kX12_draws l D Y ao io_thrown io_rows io_cells io_children io_changes io_taped io_at io_to io_nest io_readMany io_codeLong io_readLong io_undos io_wentHome io_tideLevel io_acts io_firstBreaks io_bestCrew io_sights io_wayMany io_random (4 : Int32) r9 h9) (gB_X12_465 _) rfl dvX12_draws ⟨⟨rfl, rfl⟩, ⟨Nat.le_of_ble_eq_true rfl, Nat.le_of_ble_eq_true rfl⟩, ⟨Nat.le_of_ble_eq_true rfl, Nat.le_of_ble_eq_true rfl⟩⟩ rfl (Nat.le_of_ble_eq_true rfl) dX12_summers_41 rfl rfl [0] [1, 2, 3, 4, 5, 6, 7, 8, 9, 10, 11, 12, 13] ⟨rfl, trivial⟩ (by decide +kernel) rfl [oX12 ao io_thrown io_rows io_cells io_children io_changes io_taped io_at io_to io_nest io_readMany io_codeLong io_readLong io_undos io_wentHome io_tideLevel io_acts io_firstBreaks io_bestCrew io_sights io_wayMany r9.2, rJ Y (ao 1) 24 co_row, rI Y (ao 2) 12 co_base, rI Y (ao 3) 12 co_dyke, rI Y (ao 4) 8 co_age, rI Y (ao 5) 8 co_skill, rI Y (ao 6) 8 co_friend, rI Y (ao 7) 2 co_fixed, rI Y (ao 8) 43 co_now, rI Y (ao 9) 43 co_then, rI Y (ao 12) 80 co_code, rI Y (ao 14) 80 co_stack, rI Y (ao 15) 4 co_asked, rI Y (ao 17) 12 co_gets] ⟨rfl, trivial⟩ ⟨rfl, rfl, rfl, rfl, rfl, rfl, rfl, rfl, rfl, rfl, rfl, rfl, rfl, trivial⟩ 14 rfl (by decide +kernel) ?_
    refine a_istore C dX12_summers_44 (by decide) rfl ?_
    refine a_iload C dX12_summers_46 rfl ?_
    refine a_iconst C (2 : Int32) dX12_summers_48 (by decide) ?_
    refine a_icmp_ge C 63 dX12_summers_49 (by decide) (fun h10 => ?_) (fun h10 => ?_)
    · have hf := fx_t h10 hf
      refine a_iload C dX12_summers_63 rfl ?_
      refine a_iconst C (3 : Int32) dX12_summers_65 (by decide) ?_
      refine a_icmp_ne C 94 dX12_summers_66 (by decide) (fun h11 => ?_) (fun h11 => ?_)
      · have hf := fx_f h11 hf
        refine a_aload_n C dX12_summers_94 rfl ?_
        refine a_get C (eB_X12_126 _) dX12_summers_95 0 rfl rfl ?_
        refine a_if_le C 130 dX12_summers_98 (by decide) (fun h12 => ?_) (fun h12 => ?_)
        · have hf := fx_t h12 hf
          refine a_kill [5] ?_
          exact kX12_summers_b130 C hQ hk33 hf
        · have hf := fx_f h12 hf
          refine a_aload_n C dX12_summers_101 rfl ?_
          refine a_aload_n C dX12_summers_102 rfl ?_
          refine a_get C (eB_X12_126 _) dX12_summers_103 0 rfl rfl ?_
          obtain ⟨r13, h13, hf⟩ := fx_bind hf
          refine a_fV C (kX12_draws l D Y ao io_thrown io_rows io_cells io_children io_changes io_taped io_at io_to io_nest io_readMany io_codeLong io_readLong io_undos io_wentHome io_tideLevel io_acts io_firstBreaks io_bestCrew io_sights io_wayMany r9.2 io_children r13 h13) (gB_X12_465 _) rfl dvX12_draws ⟨⟨rfl, rfl⟩, ⟨Nat.le_of_ble_eq_true rfl, Nat.le_of_ble_eq_true rfl⟩, ⟨Nat.le_of_ble_eq_true rfl, Nat.le_of_ble_eq_true rfl⟩⟩ rfl (Nat.le_of_ble_eq_true rfl) dX12_summers_106 rfl rfl [0] [1, 2, 3, 4, 5, 6, 7, 8, 9, 10, 11, 12, 13] ⟨rfl, trivial⟩ (by decide +kernel) rfl [oX12 ao io_thrown io_rows io_cells io_children io_changes io_taped io_at io_to io_nest io_readMany io_codeLong io_readLong io_undos io_wentHome io_tideLevel io_acts io_firstBreaks io_bestCrew io_sights io_wayMany r13.2, rJ Y (ao 1) 24 co_row, rI Y (ao 2) 12 co_base, rI Y (ao 3) 12 co_dyke, rI Y (ao 4) 8 co_age, rI Y (ao 5) 8 co_skill, rI Y (ao 6) 8 co_friend, rI Y (ao 7) 2 co_fixed, rI Y (ao 8) 43 co_now, rI Y (ao 9) 43 co_then, rI Y (ao 12) 80 co_code, rI Y (ao 14) 80 co_stack, rI Y (ao 15) 4 co_asked, rI Y (ao 17) 12 co_gets] ⟨rfl, trivial⟩ ⟨rfl, rfl, rfl, rfl, rfl, rfl, rfl, rfl, rfl, rfl, rfl, rfl, rfl, trivial⟩ 14 rfl (by decide +kernel) ?_
          refine a_istore C dX12_summers_109 (by decide) rfl ?_
          refine a_aload_n C dX12_summers_111 rfl ?_
          refine a_aload_n C dX12_summers_112 rfl ?_
          refine a_get C (eB_X12_39 _) dX12_summers_113 0 rfl rfl ?_
          refine a_iload C dX12_summers_116 rfl ?_
          refine a_aload_n C dX12_summers_118 rfl ?_
          refine a_aload_n C dX12_summers_119 rfl ?_
          refine a_get C (eB_X12_13 _) dX12_summers_120 0 rfl rfl ?_
          obtain ⟨r14, h14, hf⟩ := fx_bind hf
          refine a_fV C (kX12_draws l D Y ao io_thrown io_rows io_cells io_children io_changes io_taped io_at io_to io_nest io_readMany io_codeLong io_readLong io_undos io_wentHome io_tideLevel io_acts io_firstBreaks io_bestCrew io_sights io_wayMany r13.2 io_cells r14 h14) (gB_X12_465 _) rfl dvX12_draws ⟨⟨rfl, rfl⟩, ⟨Nat.le_of_ble_eq_true rfl, Nat.le_of_ble_eq_true rfl⟩, ⟨Nat.le_of_ble_eq_true rfl, Nat.le_of_ble_eq_true rfl⟩⟩ rfl (Nat.le_of_ble_eq_true rfl) dX12_summers_123 rfl rfl [0] [1, 2, 3, 4, 5, 6, 7, 8, 9, 10, 11, 12, 13] ⟨rfl, trivial⟩ (by decide +kernel) rfl [oX12 ao io_thrown io_rows io_cells io_children io_changes io_taped io_at io_to io_nest io_readMany io_codeLong io_readLong io_undos io_wentHome io_tideLevel io_acts io_firstBreaks io_bestCrew io_sights io_wayMany r14.2, rJ Y (ao 1) 24 co_row, rI Y (ao 2) 12 co_base, rI Y (ao 3) 12 co_dyke, rI Y (ao 4) 8 co_age, rI Y (ao 5) 8 co_skill, rI Y (ao 6) 8 co_friend, rI Y (ao 7) 2 co_fixed, rI Y (ao 8) 43 co_now, rI Y (ao 9) 43 co_then, rI Y (ao 12) 80 co_code, rI Y (ao 14) 80 co_stack, rI Y (ao 15) 4 co_asked, rI Y (ao 17) 12 co_gets] ⟨rfl, trivial⟩ ⟨rfl, rfl, rfl, rfl, rfl, rfl, rfl, rfl, rfl, rfl, rfl, rfl, rfl, trivial⟩ 14 rfl (by decide +kernel) ?_
          obtain ⟨r15, h15, hf⟩ := fx_bind hf
          refine a_fV C (kX12_goes l D Y ao (ao 9) io_thrown io_rows io_cells io_children io_changes io_taped io_at io_to io_nest io_readMany io_codeLong io_readLong io_undos io_wentHome io_tideLevel io_acts io_firstBreaks io_bestCrew io_sights io_wayMany r14.2 co_then r13.1 r14.1 r15 h15) (gB_X12_331 _) rfl dvX12_goes ⟨⟨rfl, rfl⟩, ⟨Nat.le_of_ble_eq_true rfl, Nat.le_of_ble_eq_true rfl⟩, ⟨Nat.le_of_ble_eq_true rfl, Nat.le_of_ble_eq_true rfl⟩⟩ rfl (Nat.le_of_ble_eq_true rfl) dX12_summers_126 rfl rfl [0, 9] [1, 2, 3, 4, 5, 6, 7, 8, 10, 11, 12, 13] ⟨rfl, rfl, trivial⟩ (by decide +kernel) rfl [oX12 ao io_thrown io_rows io_cells io_children io_changes io_taped io_at io_to io_nest io_readMany io_codeLong io_readLong io_undos io_wentHome io_tideLevel io_acts io_firstBreaks io_bestCrew io_sights io_wayMany r14.2, rJ Y (ao 1) 24 co_row, rI Y (ao 2) 12 co_base, rI Y (ao 3) 12 co_dyke, rI Y (ao 4) 8 co_age, rI Y (ao 5) 8 co_skill, rI Y (ao 6) 8 co_friend, rI Y (ao 7) 2 co_fixed, rI Y (ao 8) 43 co_now, rI Y (ao 9) 43 r15.2, rI Y (ao 12) 80 co_code, rI Y (ao 14) 80 co_stack, rI Y (ao 15) 4 co_asked, rI Y (ao 17) 12 co_gets] ⟨rfl, rfl, trivial⟩ ⟨rfl, rfl, rfl, rfl, rfl, rfl, rfl, rfl, rfl, rfl, rfl, rfl, trivial⟩ 14 rfl (by decide +kernel) ?_
          refine a_pop C dX12_summers_129 rfl ?_
          refine a_kill [5, 6] ?_
          exact kX12_summers_b130 C hQ hk33 hf
      · have hf := fx_t h11 hf
        refine a_iload_n C dX12_summers_69 rfl ?_
        refine a_aload_n C dX12_summers_70 rfl ?_
        refine a_aload_n C dX12_summers_71 rfl ?_
        refine a_get C (eB_X12_39 _) dX12_summers_72 0 rfl rfl ?_
        obtain ⟨r16, h16, hf⟩ := fx_bind hf
        refine a_fV C (kX12_tideComes l D Y ao (ao 9) io_thrown io_rows io_cells io_children io_changes io_taped io_at io_to io_nest io_readMany io_codeLong io_readLong io_undos io_wentHome io_tideLevel io_acts io_firstBreaks io_bestCrew io_sights io_wayMany r9.2 co_base co_dyke co_fixed co_code co_stack co_asked co_then r16 h16) (gB_X12_366 _) rfl dvX12_tideComes ⟨⟨rfl, rfl⟩, ⟨Nat.le_of_ble_eq_true rfl, Nat.le_of_ble_eq_true rfl⟩, ⟨Nat.le_of_ble_eq_true rfl, Nat.le_of_ble_eq_true rfl⟩⟩ rfl (Nat.le_of_ble_eq_true rfl) dX12_summers_75 rfl rfl [0, 2, 3, 7, 10, 11, 12, 9] [1, 4, 5, 6, 8, 13] ⟨rfl, rfl, rfl, rfl, rfl, rfl, rfl, rfl, trivial⟩ (by decide +kernel) rfl [oX12 ao io_thrown io_rows io_cells io_children io_changes io_taped io_at io_to io_nest io_readMany io_codeLong io_readLong io_undos io_wentHome r16.2.1 io_acts io_firstBreaks io_bestCrew io_sights io_wayMany r9.2, rJ Y (ao 1) 24 co_row, rI Y (ao 2) 12 co_base, rI Y (ao 3) 12 co_dyke, rI Y (ao 4) 8 co_age, rI Y (ao 5) 8 co_skill, rI Y (ao 6) 8 co_friend, rI Y (ao 7) 2 co_fixed, rI Y (ao 8) 43 co_now, rI Y (ao 9) 43 r16.2.2.2.2, rI Y (ao 12) 80 co_code, rI Y (ao 14) 80 r16.2.2.1, rI Y (ao 15) 4 r16.2.2.2.1, rI Y (ao 17) 12 co_gets] ⟨rfl, rfl, rfl, rfl, rfl, rfl, rfl, rfl, trivial⟩ ⟨rfl, rfl, rfl, rfl, rfl, rfl, trivial⟩ 14 rfl (by decide +kernel) ?_
        refine a_if_eq C 85 dX12_summers_78 (by decide) (fun h17 => ?_) (fun h17 => ?_)
        · have hf := fx_t h17 hf
          refine a_iconst C (0 : Int32) dX12_summers_85 (by decide) ?_
          refine a_kill [3, 5] ?_
          exact kX12_summers_b86 C hQ hk33 hf
        · have hf := fx_f h17 hf
          refine a_iconst C (1 : Int32) dX12_summers_81 (by decide) ?_
          refine a_goto C 86 dX12_summers_82 (by decide) ?_
          refine a_kill [3, 5] ?_
          exact kX12_summers_b86 C hQ hk33 hf
    · have hf := fx_f h10 hf
      refine a_aload_n C dX12_summers_52 rfl ?_
      refine a_aload_n C dX12_summers_53 rfl ?_
      refine a_get C (eB_X12_39 _) dX12_summers_54 0 rfl rfl ?_
      obtain ⟨r18, h18, hf⟩ := fx_bind hf
      refine a_fV C (kX12_spellGoes l D Y ao (ao 9) io_thrown io_rows io_cells io_children io_changes io_taped io_at io_to io_nest io_readMany io_codeLong io_readLong io_undos io_wentHome io_tideLevel io_acts io_firstBreaks io_bestCrew io_sights io_wayMany r9.2 co_age co_skill co_friend co_gets co_then r18 h18) (gB_X12_312 _) rfl dvX12_spellGoes ⟨⟨rfl, rfl⟩, ⟨Nat.le_of_ble_eq_true rfl, Nat.le_of_ble_eq_true rfl⟩, ⟨Nat.le_of_ble_eq_true rfl, Nat.le_of_ble_eq_true rfl⟩⟩ rfl (Nat.le_of_ble_eq_true rfl) dX12_summers_57 rfl rfl [0, 4, 5, 6, 13, 9] [1, 2, 3, 7, 8, 10, 11, 12] ⟨rfl, rfl, rfl, rfl, rfl, rfl, trivial⟩ (by decide +kernel) rfl [oX12 ao io_thrown io_rows io_cells io_children io_changes io_taped io_at io_to io_nest io_readMany io_codeLong io_readLong io_undos r18.1 io_tideLevel io_acts io_firstBreaks io_bestCrew io_sights io_wayMany r9.2, rJ Y (ao 1) 24 co_row, rI Y (ao 2) 12 co_base, rI Y (ao 3) 12 co_dyke, rI Y (ao 4) 8 co_age, rI Y (ao 5) 8 co_skill, rI Y (ao 6) 8 co_friend, rI Y (ao 7) 2 co_fixed, rI Y (ao 8) 43 co_now, rI Y (ao 9) 43 r18.2.2, rI Y (ao 12) 80 co_code, rI Y (ao 14) 80 co_stack, rI Y (ao 15) 4 co_asked, rI Y (ao 17) 12 r18.2.1] ⟨rfl, rfl, rfl, rfl, rfl, rfl, trivial⟩ ⟨rfl, rfl, rfl, rfl, rfl, rfl, rfl, rfl, trivial⟩ 14 rfl (by decide +kernel) ?_
      refine a_goto C 130 dX12_summers_60 (by decide) ?_
      refine a_kill [5] ?_
      exact kX12_summers_b130 C hQ hk33 hf
set_option maxHeartbeats 400000 in
set_option maxRecDepth 100000 in
theorem kX12_summers_b33 {X : cxT} {l : Launch} {D : va_G} {Y : Nat → ClassId} {ao : Nat → Nat} {io_thrown : Int32} {io_rows : Int32} {io_cells : Int32} {io_children : Int32} {io_changes : Int32} {io_taped : Int32} {io_at : Int32} {io_to : Int32} {io_nest : Int32} {io_readMany : Int32} {io_codeLong : Int32} {io_readLong : Int32} {io_undos : Int32} {io_wentHome : Int32} {io_tideLevel : Int32} {io_acts : Int32} {io_firstBreaks : Int32} {io_bestCrew : Int32} {io_sights : Int32} {io_wayMany : Int32} {io_random : Int32} {co_row : Nat → Int64} {co_base : Nat → Int32} {co_dyke : Nat → Int32} {co_age : Nat → Int32} {co_skill : Nat → Int32} {co_friend : Nat → Int32} {co_fixed : Nat → Int32} {co_now : Nat → Int32} {co_then : Nat → Int32} {co_code : Nat → Int32} {co_stack : Nat → Int32} {co_asked : Nat → Int32} {co_gets : Nat → Int32} {x2 : Int32} {x3 : Int32} {x4 : Int32} {res : Int32 × Int32 × Int32 × Int32 × Int32 × Int32 × (Nat → Int64) × (Nat → Int32) × (Nat → Int32) × (Nat → Int32) × (Nat → Int32)} (C : axC X l D Y cX12_summers 7 RX12 wsX12_summers rmX12_summers (some .int)) (hQ : axQ X 0 0 (fun r9 w9 => r9 = (some (.int res.1)) ∧ w9 = [oX12 ao res.2.1 res.2.2.1 io_cells io_children io_changes io_taped io_at io_to io_nest io_readMany io_codeLong io_readLong io_undos res.2.2.2.1 res.2.2.2.2.1 io_acts io_firstBreaks io_bestCrew io_sights io_wayMany res.2.2.2.2.2.1, rJ Y (ao 1) 24 res.2.2.2.2.2.2.1, rI Y (ao 2) 12 co_base, rI Y (ao 3) 12 co_dyke, rI Y (ao 4) 8 co_age, rI Y (ao 5) 8 co_skill, rI Y (ao 6) 8 co_friend, rI Y (ao 7) 2 co_fixed, rI Y (ao 8) 43 co_now, rI Y (ao 9) 43 res.2.2.2.2.2.2.2.1, rI Y (ao 12) 80 co_code, rI Y (ao 14) 80 res.2.2.2.2.2.2.2.2.1, rI Y (ao 15) 4 res.2.2.2.2.2.2.2.2.2.1, rI Y (ao 17) 12 res.2.2.2.2.2.2.2.2.2.2])) (hf : fX12_summers_b33 io_thrown io_rows io_cells io_children io_codeLong io_wentHome io_tideLevel io_random co_row co_base co_dyke co_age co_skill co_friend co_fixed co_now co_then co_code co_stack co_asked co_gets x2 x3 x4 = some res) : ax X 0 0 33 [some (.ref (ao 0)), none, some (.int x2), some (.int x3), some (.int x4), none, none] [oX12 ao io_thrown io_rows io_cells io_children io_changes io_taped io_at io_to io_nest io_readMany io_codeLong io_readLong io_undos io_wentHome io_tideLevel io_acts io_firstBreaks io_bestCrew io_sights io_wayMany io_random, rJ Y (ao 1) 24 co_row, rI Y (ao 2) 12 co_base, rI Y (ao 3) 12 co_dyke, rI Y (ao 4) 8 co_age, rI Y (ao 5) 8 co_skill, rI Y (ao 6) 8 co_friend, rI Y (ao 7) 2 co_fixed, rI Y (ao 8) 43 co_now, rI Y (ao 9) 43 co_then, rI Y (ao 12) 80 co_code, rI Y (ao 14) 80 co_stack, rI Y (ao 15) 4 co_asked, rI Y (ao 17) 12 co_gets] [] := by
  unfold fX12_summers_b33 at hf
  exact fx_loop (P := fun s : Int32 × Int32 × Int32 × (Nat → Int32) × (Nat → Int32) × (Nat → Int32) × (Nat → Int32) × Int32 × Int32 => ax X 0 0 33 [some (.ref (ao 0)), none, some (.int x2), some (.int s.2.2.2.2.2.2.2.1), some (.int s.2.2.2.2.2.2.2.2), none, none] [oX12 ao io_thrown io_rows io_cells io_children io_changes io_taped io_at io_to io_nest io_readMany io_codeLong io_readLong io_undos s.1 s.2.1 io_acts io_firstBreaks io_bestCrew io_sights io_wayMany s.2.2.1, rJ Y (ao 1) 24 co_row, rI Y (ao 2) 12 co_base, rI Y (ao 3) 12 co_dyke, rI Y (ao 4) 8 co_age, rI Y (ao 5) 8 co_skill, rI Y (ao 6) 8 co_friend, rI Y (ao 7) 2 co_fixed, rI Y (ao 8) 43 co_now, rI Y (ao 9) 43 s.2.2.2.1, rI Y (ao 12) 80 co_code, rI Y (ao 14) 80 s.2.2.2.2.1, rI Y (ao 15) 4 s.2.2.2.2.2.1, rI Y (ao 17) 12 s.2.2.2.2.2.2.1] []) (fun s k33 hk33 h => kX12_summers_l33 C hQ hk33 h) FUEL (io_wentHome, io_tideLevel, io_random, co_then, co_stack, co_asked, co_gets, x3, x4) hf
def fX12_summers (io_thrown : Int32) (io_rows : Int32) (io_cells : Int32) (io_children : Int32) (io_codeLong : Int32) (io_wentHome : Int32) (io_tideLevel : Int32) (io_random : Int32) (co_row : Nat → Int64) (co_base : Nat → Int32) (co_dyke : Nat → Int32) (co_age : Nat → Int32) (co_skill : Nat → Int32) (co_friend : Nat → Int32) (co_fixed : Nat → Int32) (co_now : Nat → Int32) (co_then : Nat → Int32) (co_code : Nat → Int32) (co_stack : Nat → Int32) (co_asked : Nat → Int32) (co_gets : Nat → Int32) (x1 : Int32) (x2 : Int32) : Option (Int32 × Int32 × Int32 × Int32 × Int32 × Int32 × (Nat → Int64) × (Nat → Int32) × (Nat → Int32) × (Nat → Int32) × (Nat → Int32)) :=
  (fX12_in (x2.toInt64) (1 : Int64) (60 : Int64)).bind (fun r19 => if r19 = (0 : Int32) then (some ((-1 : Int32), (0 : Int32), io_rows, io_wentHome, io_tideLevel, io_random, co_row, co_then, co_stack, co_asked, co_gets)) else ((fX12_puts co_now co_then).bind (fun r21 => fX12_summers_b33 (0 : Int32) io_rows io_cells io_children io_codeLong io_wentHome io_tideLevel x1 co_row co_base co_dyke co_age co_skill co_friend co_fixed co_now r21 co_code co_stack co_asked co_gets x2 (0 : Int32) (0 : Int32))))
set_option maxHeartbeats 400000 in
set_option maxRecDepth 100000 in
theorem kX12_summers (l : Launch) (D : va_G) (Y : Nat → ClassId) (ao : Nat → Nat) (io_thrown : Int32) (io_rows : Int32) (io_cells : Int32) (io_children : Int32) (io_changes : Int32) (io_taped : Int32) (io_at : Int32) (io_to : Int32) (io_nest : Int32) (io_readMany : Int32) (io_codeLong : Int32) (io_readLong : Int32) (io_undos : Int32) (io_wentHome : Int32) (io_tideLevel : Int32) (io_acts : Int32) (io_firstBreaks : Int32) (io_bestCrew : Int32) (io_sights : Int32) (io_wayMany : Int32) (io_random : Int32) (co_row : Nat → Int64) (co_base : Nat → Int32) (co_dyke : Nat → Int32) (co_age : Nat → Int32) (co_skill : Nat → Int32) (co_friend : Nat → Int32) (co_fixed : Nat → Int32) (co_now : Nat → Int32) (co_then : Nat → Int32) (co_code : Nat → Int32) (co_stack : Nat → Int32) (co_asked : Nat → Int32) (co_gets : Nat → Int32) (x1 : Int32) (x2 : Int32) (res : Int32 × Int32 × Int32 × Int32 × Int32 × Int32 × (Nat → Int64) × (Nat → Int32) × (Nat → Int32) × (Nat → Int32) × (Nat → Int32)) (hf : fX12_summers io_thrown io_rows io_cells io_children io_codeLong io_wentHome io_tideLevel io_random co_row co_base co_dyke co_age co_skill co_friend co_fixed co_now co_then co_code co_stack co_asked co_gets x1 x2 = some res) : amf l D Y yX12_summers wsX12_summers rmX12_summers [.ref (ao 0), .int x1, .int x2] [oX12 ao io_thrown io_rows io_cells io_children io_changes io_taped io_at io_to io_nest io_readMany io_codeLong io_readLong io_undos io_wentHome io_tideLevel io_acts io_firstBreaks io_bestCrew io_sights io_wayMany io_random, rJ Y (ao 1) 24 co_row, rI Y (ao 2) 12 co_base, rI Y (ao 3) 12 co_dyke, rI Y (ao 4) 8 co_age, rI Y (ao 5) 8 co_skill, rI Y (ao 6) 8 co_friend, rI Y (ao 7) 2 co_fixed, rI Y (ao 8) 43 co_now, rI Y (ao 9) 43 co_then, rI Y (ao 12) 80 co_code, rI Y (ao 14) 80 co_stack, rI Y (ao 15) 4 co_asked, rI Y (ao 17) 12 co_gets] (some (.int res.1)) [oX12 ao res.2.1 res.2.2.1 io_cells io_children io_changes io_taped io_at io_to io_nest io_readMany io_codeLong io_readLong io_undos res.2.2.2.1 res.2.2.2.2.1 io_acts io_firstBreaks io_bestCrew io_sights io_wayMany res.2.2.2.2.2.1, rJ Y (ao 1) 24 res.2.2.2.2.2.2.1, rI Y (ao 2) 12 co_base, rI Y (ao 3) 12 co_dyke, rI Y (ao 4) 8 co_age, rI Y (ao 5) 8 co_skill, rI Y (ao 6) 8 co_friend, rI Y (ao 7) 2 co_fixed, rI Y (ao 8) 43 co_now, rI Y (ao 9) 43 res.2.2.2.2.2.2.2.1, rI Y (ao 12) 80 co_code, rI Y (ao 14) 80 res.2.2.2.2.2.2.2.2.1, rI Y (ao 15) 4 res.2.2.2.2.2.2.2.2.2.1, rI Y (ao 17) 12 res.2.2.2.2.2.2.2.2.2.2] := by
  refine amf.of (cc := cX12_summers) (maxL := 7) (rt := (some .int)) (by decide) rfl RX12 rfl (Nat.le_of_ble_eq_true rfl) [some (.ref (ao 0)), some (.int x1), some (.int x2), none, none, none, none] rfl ?_
  intro X C hQ
  unfold fX12_summers at hf
  refine a_aload_n C dX12_summers_0 rfl ?_
  refine a_iconst C (0 : Int32) dX12_summers_1 (by decide) ?_
  refine a_put C (eB_X12_112 _) tfX12_0 dX12_summers_2 0 rfl rfl rfl (Nat.le_of_ble_eq_true rfl) ?_
  refine a_iload_n C dX12_summers_5 rfl ?_
  refine a_i2l C dX12_summers_6 ?_
  refine a_lconst C (1 : Int64) dX12_summers_7 (by decide) ?_
  refine a_ldc2 C (60 : Int64) dX12_summers_8 (kB_X12_398 _) ?_
  obtain ⟨r19, h19, hf⟩ := fx_bind hf
  refine a_fS C (kX12_in l D Y (x2.toInt64) (1 : Int64) (60 : Int64) r19 h19) (gB_X12_122 _) rfl dvX12_in ⟨⟨rfl, rfl⟩, ⟨Nat.le_of_ble_eq_true rfl, Nat.le_of_ble_eq_true rfl⟩, ⟨Nat.le_of_ble_eq_true rfl, Nat.le_of_ble_eq_true rfl⟩⟩ rfl (Nat.le_of_ble_eq_true rfl) dX12_summers_11 [] [0, 1, 2, 3, 4, 5, 6, 7, 8, 9, 10, 11, 12, 13] trivial (by decide +kernel) rfl [oX12 ao (0 : Int32) io_rows io_cells io_children io_changes io_taped io_at io_to io_nest io_readMany io_codeLong io_readLong io_undos io_wentHome io_tideLevel io_acts io_firstBreaks io_bestCrew io_sights io_wayMany io_random, rJ Y (ao 1) 24 co_row, rI Y (ao 2) 12 co_base, rI Y (ao 3) 12 co_dyke, rI Y (ao 4) 8 co_age, rI Y (ao 5) 8 co_skill, rI Y (ao 6) 8 co_friend, rI Y (ao 7) 2 co_fixed, rI Y (ao 8) 43 co_now, rI Y (ao 9) 43 co_then, rI Y (ao 12) 80 co_code, rI Y (ao 14) 80 co_stack, rI Y (ao 15) 4 co_asked, rI Y (ao 17) 12 co_gets] trivial ⟨rfl, rfl, rfl, rfl, rfl, rfl, rfl, rfl, rfl, rfl, rfl, rfl, rfl, rfl, trivial⟩ 14 rfl (by decide +kernel) ?_
  refine a_if_ne C 19 dX12_summers_14 (by decide) (fun h20 => ?_) (fun h20 => ?_)
  · have hf := fx_f h20 hf
    refine a_aload_n C dX12_summers_19 rfl ?_
    refine a_iload_n C dX12_summers_20 rfl ?_
    refine a_put C (eB_X12_461 _) tfX12_49 dX12_summers_21 0 rfl rfl rfl (Nat.le_of_ble_eq_true rfl) ?_
    refine a_iconst C (0 : Int32) dX12_summers_24 (by decide) ?_
    refine a_istore_n C dX12_summers_25 (by decide) rfl ?_
    refine a_aload_n C dX12_summers_26 rfl ?_
    obtain ⟨r21, h21, hf⟩ := fx_bind hf
    refine a_fV C (kX12_puts l D Y ao (0 : Int32) io_rows io_cells io_children io_changes io_taped io_at io_to io_nest io_readMany io_codeLong io_readLong io_undos io_wentHome io_tideLevel io_acts io_firstBreaks io_bestCrew io_sights io_wayMany x1 co_now co_then r21 h21) (gB_X12_392 _) rfl dvX12_puts ⟨⟨rfl, rfl⟩, ⟨Nat.le_of_ble_eq_true rfl, Nat.le_of_ble_eq_true rfl⟩, ⟨Nat.le_of_ble_eq_true rfl, Nat.le_of_ble_eq_true rfl⟩⟩ rfl (Nat.le_of_ble_eq_true rfl) dX12_summers_27 rfl rfl [0, 8, 9] [1, 2, 3, 4, 5, 6, 7, 10, 11, 12, 13] ⟨rfl, rfl, rfl, trivial⟩ (by decide +kernel) rfl [oX12 ao (0 : Int32) io_rows io_cells io_children io_changes io_taped io_at io_to io_nest io_readMany io_codeLong io_readLong io_undos io_wentHome io_tideLevel io_acts io_firstBreaks io_bestCrew io_sights io_wayMany x1, rJ Y (ao 1) 24 co_row, rI Y (ao 2) 12 co_base, rI Y (ao 3) 12 co_dyke, rI Y (ao 4) 8 co_age, rI Y (ao 5) 8 co_skill, rI Y (ao 6) 8 co_friend, rI Y (ao 7) 2 co_fixed, rI Y (ao 8) 43 co_now, rI Y (ao 9) 43 r21, rI Y (ao 12) 80 co_code, rI Y (ao 14) 80 co_stack, rI Y (ao 15) 4 co_asked, rI Y (ao 17) 12 co_gets] ⟨rfl, rfl, rfl, trivial⟩ ⟨rfl, rfl, rfl, rfl, rfl, rfl, rfl, rfl, rfl, rfl, rfl, trivial⟩ 14 rfl (by decide +kernel) ?_
    refine a_iconst C (0 : Int32) dX12_summers_30 (by decide) ?_
    refine a_istore C dX12_summers_31 (by decide) rfl ?_
    refine a_kill [1] ?_
    exact kX12_summers_b33 C hQ hf
  · have hf := fx_t h20 hf
    refine a_iconst C (-1 : Int32) dX12_summers_17 (by decide) ?_
    obtain rfl := fx_some hf
    exact a_iret C hQ dX12_summers_18 ⟨rfl, rfl⟩
-- X12_keep
abbrev rmX12_keep : Room := { frames := 1, cells := 0, slots := 0, locals := 25 }
theorem dvX12_keep : yX12_keep.cls = RX12 ∧ yX12_keep.cls ≠ "java/lang/invoke/MethodHandle" ∧ yX12_keep.cls ≠ "java/lang/invoke/VarHandle" ∧ (parseMethodDescriptor yX12_keep.desc).map (fun d => d.parameters.length) = some 1 := by decide +kernel
def fX12_keep_b67 (io_thrown : Int32) (io_changes : Int32) (co_now : Nat → Int32) (co_isKept : Nat → Int32) (co_keptChanges : Nat → Int32) (co_kept : Nat → Int32) : Option (Int32 × Int32 × (Nat → Int32) × (Nat → Int32) × (Nat → Int32)) :=
  some ((1 : Int32), io_thrown, co_isKept, co_keptChanges, co_kept)
set_option maxHeartbeats 400000 in
set_option maxRecDepth 100000 in
theorem kX12_keep_b67 {X : cxT} {l : Launch} {D : va_G} {Y : Nat → ClassId} {ao : Nat → Nat} {io_thrown : Int32} {io_rows : Int32} {io_cells : Int32} {io_children : Int32} {io_changes : Int32} {io_taped : Int32} {io_at : Int32} {io_to : Int32} {io_nest : Int32} {io_readMany : Int32} {io_codeLong : Int32} {io_readLong : Int32} {io_undos : Int32} {io_wentHome : Int32} {io_tideLevel : Int32} {io_acts : Int32} {io_firstBreaks : Int32} {io_bestCrew : Int32} {io_sights : Int32} {io_wayMany : Int32} {io_random : Int32} {co_now : Nat → Int32} {co_isKept : Nat → Int32} {co_keptChanges : Nat → Int32} {co_kept : Nat → Int32} {res : Int32 × Int32 × (Nat → Int32) × (Nat → Int32) × (Nat → Int32)} (C : axC X l D Y cX12_keep 3 RX12 wsX12_keep rmX12_keep (some .boolean)) (hQ : axQ X 0 0 (fun r9 w9 => r9 = (some (.int res.1)) ∧ w9 = [oX12 ao res.2.1 io_rows io_cells io_children io_changes io_taped io_at io_to io_nest io_readMany io_codeLong io_readLong io_undos io_wentHome io_tideLevel io_acts io_firstBreaks io_bestCrew io_sights io_wayMany io_random, rI Y (ao 8) 43 co_now, rZ Y (ao 30) 3 res.2.2.1, rI Y (ao 31) 3 res.2.2.2.1, rI Y (ao 32) 129 res.2.2.2.2])) (hf : fX12_keep_b67 io_thrown io_changes co_now co_isKept co_keptChanges co_kept = some res) : ax X 0 0 67 [none, none, none] [oX12 ao io_thrown io_rows io_cells io_children io_changes io_taped io_at io_to io_nest io_readMany io_codeLong io_readLong io_undos io_wentHome io_tideLevel io_acts io_firstBreaks io_bestCrew io_sights io_wayMany io_random, rI Y (ao 8) 43 co_now, rZ Y (ao 30) 3 co_isKept, rI Y (ao 31) 3 co_keptChanges, rI Y (ao 32) 129 co_kept] [] := by
  unfold fX12_keep_b67 at hf
  refine a_iconst C (1 : Int32) dX12_keep_67 (by decide) ?_
  obtain rfl := fx_some hf
  exact a_zret C hQ (Or.inr rfl) dX12_keep_68 ⟨rfl, rfl⟩
def fX12_keep_l38 (io_thrown : Int32) (io_changes : Int32) (co_now : Nat → Int32) (co_isKept : Nat → Int32) (co_keptChanges : Nat → Int32) (x1 : Int32) (k38 : (Nat → Int32) × Int32 → Option (Int32 × Int32 × (Nat → Int32) × (Nat → Int32) × (Nat → Int32))) (co_kept : Nat → Int32) (x2 : Int32) : Option (Int32 × Int32 × (Nat → Int32) × (Nat → Int32) × (Nat → Int32)) :=
  if (43 : Int32) ≤ x2 then (fX12_keep_b67 io_thrown io_changes co_now co_isKept co_keptChanges co_kept) else (if inb x2 43 then if inb (((43 : Int32) * x1) + x2) 129 then k38 ((upd co_kept (Int32.toNatClampNeg (((43 : Int32) * x1) + x2)) (co_now (Int32.toNatClampNeg x2))), (x2 + (1 : Int32))) else none else none)
def fX12_keep_b38 (io_thrown : Int32) (io_changes : Int32) (co_now : Nat → Int32) (co_isKept : Nat → Int32) (co_keptChanges : Nat → Int32) (co_kept : Nat → Int32) (x1 : Int32) (x2 : Int32) : Option (Int32 × Int32 × (Nat → Int32) × (Nat → Int32) × (Nat → Int32)) :=
  loopN (fun (s : (Nat → Int32) × Int32) k38 => fX12_keep_l38 io_thrown io_changes co_now co_isKept co_keptChanges x1 k38 s.1 s.2) FUEL (co_kept, x2)
set_option maxHeartbeats 400000 in
set_option maxRecDepth 100000 in
theorem kX12_keep_l38 {X : cxT} {l : Launch} {D : va_G} {Y : Nat → ClassId} {ao : Nat → Nat} {io_thrown : Int32} {io_rows : Int32} {io_cells : Int32} {io_children : Int32} {io_changes : Int32} {io_taped : Int32} {io_at : Int32} {io_to : Int32} {io_nest : Int32} {io_readMany : Int32} {io_codeLong : Int32} {io_readLong : Int32} {io_undos : Int32} {io_wentHome : Int32} {io_tideLevel : Int32} {io_acts : Int32} {io_firstBreaks : Int32} {io_bestCrew : Int32} {io_sights : Int32} {io_wayMany : Int32} {io_random : Int32} {co_now : Nat → Int32} {co_isKept : Nat → Int32} {co_keptChanges : Nat → Int32} {co_kept : Nat → Int32} {x1 : Int32} {x2 : Int32} {res : Int32 × Int32 × (Nat → Int32) × (Nat → Int32) × (Nat → Int32)} (C : axC X l D Y cX12_keep 3 RX12 wsX12_keep rmX12_keep (some .boolean)) (hQ : axQ X 0 0 (fun r9 w9 => r9 = (some (.int res.1)) ∧ w9 = [oX12 ao res.2.1 io_rows io_cells io_children io_changes io_taped io_at io_to io_nest io_readMany io_codeLong io_readLong io_undos io_wentHome io_tideLevel io_acts io_firstBreaks io_bestCrew io_sights io_wayMany io_random, rI Y (ao 8) 43 co_now, rZ Y (ao 30) 3 res.2.2.1, rI Y (ao 31) 3 res.2.2.2.1, rI Y (ao 32) 129 res.2.2.2.2])) {k38 : (Nat → Int32) × Int32 → Option (Int32 × Int32 × (Nat → Int32) × (Nat → Int32) × (Nat → Int32))} (hk38 : ∀ s : (Nat → Int32) × Int32, k38 s = some res → ax X 0 0 38 [some (.ref (ao 0)), some (.int x1), some (.int s.2)] [oX12 ao io_thrown io_rows io_cells io_children io_changes io_taped io_at io_to io_nest io_readMany io_codeLong io_readLong io_undos io_wentHome io_tideLevel io_acts io_firstBreaks io_bestCrew io_sights io_wayMany io_random, rI Y (ao 8) 43 co_now, rZ Y (ao 30) 3 co_isKept, rI Y (ao 31) 3 co_keptChanges, rI Y (ao 32) 129 s.1] []) (hf : fX12_keep_l38 io_thrown io_changes co_now co_isKept co_keptChanges x1 k38 co_kept x2 = some res) : ax X 0 0 38 [some (.ref (ao 0)), some (.int x1), some (.int x2)] [oX12 ao io_thrown io_rows io_cells io_children io_changes io_taped io_at io_to io_nest io_readMany io_codeLong io_readLong io_undos io_wentHome io_tideLevel io_acts io_firstBreaks io_bestCrew io_sights io_wayMany io_random, rI Y (ao 8) 43 co_now, rZ Y (ao 30) 3 co_isKept, rI Y (ao 31) 3 co_keptChanges, rI Y (ao 32) 129 co_kept] [] := by
  unfold fX12_keep_l38 at hf
  refine a_iload_n C dX12_keep_38 rfl ?_
  refine a_bipush C (43 : Int32) dX12_keep_39 (by decide) ?_
  refine a_icmp_ge C 67 dX12_keep_41 (by decide) (fun h1 => ?_) (fun h1 => ?_)
  · have hf := fx_t h1 hf
    refine a_kill [0, 1, 2] ?_
    exact kX12_keep_b67 C hQ hf
  · have hf := fx_f h1 hf
    refine a_aload_n C dX12_keep_44 rfl ?_
    refine a_get C (eB_X12_109 _) dX12_keep_45 0 rfl rfl ?_
    refine a_bipush C (43 : Int32) dX12_keep_48 (by decide) ?_
    refine a_iload_n C dX12_keep_50 rfl ?_
    refine a_imul C dX12_keep_51 ?_
    refine a_iload_n C dX12_keep_52 rfl ?_
    refine a_iadd C dX12_keep_53 ?_
    refine a_aload_n C dX12_keep_54 rfl ?_
    refine a_get C (eB_X12_36 _) dX12_keep_55 0 rfl rfl ?_
    refine a_iload_n C dX12_keep_58 rfl ?_
    obtain ⟨h2, hf⟩ := fx_ite hf
    refine a_iald C dX12_keep_59 1 rfl h2 ?_
    obtain ⟨h3, hf⟩ := fx_ite hf
    refine a_iast C dX12_keep_60 4 rfl h3 ?_
    refine a_iinc C (1 : Int32) dX12_keep_61 (by decide) rfl (by decide) rfl ?_
    refine a_goto C 38 dX12_keep_64 (by decide) ?_
    exact hk38 ((upd co_kept (Int32.toNatClampNeg (((43 : Int32) * x1) + x2)) (co_now (Int32.toNatClampNeg x2))), (x2 + (1 : Int32))) hf
set_option maxHeartbeats 400000 in
set_option maxRecDepth 100000 in
theorem kX12_keep_b38 {X : cxT} {l : Launch} {D : va_G} {Y : Nat → ClassId} {ao : Nat → Nat} {io_thrown : Int32} {io_rows : Int32} {io_cells : Int32} {io_children : Int32} {io_changes : Int32} {io_taped : Int32} {io_at : Int32} {io_to : Int32} {io_nest : Int32} {io_readMany : Int32} {io_codeLong : Int32} {io_readLong : Int32} {io_undos : Int32} {io_wentHome : Int32} {io_tideLevel : Int32} {io_acts : Int32} {io_firstBreaks : Int32} {io_bestCrew : Int32} {io_sights : Int32} {io_wayMany : Int32} {io_random : Int32} {co_now : Nat → Int32} {co_isKept : Nat → Int32} {co_keptChanges : Nat → Int32} {co_kept : Nat → Int32} {x1 : Int32} {x2 : Int32} {res : Int32 × Int32 × (Nat → Int32) × (Nat → Int32) × (Nat → Int32)} (C : axC X l D Y cX12_keep 3 RX12 wsX12_keep rmX12_keep (some .boolean)) (hQ : axQ X 0 0 (fun r9 w9 => r9 = (some (.int res.1)) ∧ w9 = [oX12 ao res.2.1 io_rows io_cells io_children io_changes io_taped io_at io_to io_nest io_readMany io_codeLong io_readLong io_undos io_wentHome io_tideLevel io_acts io_firstBreaks io_bestCrew io_sights io_wayMany io_random, rI Y (ao 8) 43 co_now, rZ Y (ao 30) 3 res.2.2.1, rI Y (ao 31) 3 res.2.2.2.1, rI Y (ao 32) 129 res.2.2.2.2])) (hf : fX12_keep_b38 io_thrown io_changes co_now co_isKept co_keptChanges co_kept x1 x2 = some res) : ax X 0 0 38 [some (.ref (ao 0)), some (.int x1), some (.int x2)] [oX12 ao io_thrown io_rows io_cells io_children io_changes io_taped io_at io_to io_nest io_readMany io_codeLong io_readLong io_undos io_wentHome io_tideLevel io_acts io_firstBreaks io_bestCrew io_sights io_wayMany io_random, rI Y (ao 8) 43 co_now, rZ Y (ao 30) 3 co_isKept, rI Y (ao 31) 3 co_keptChanges, rI Y (ao 32) 129 co_kept] [] := by
  unfold fX12_keep_b38 at hf
  exact fx_loop (P := fun s : (Nat → Int32) × Int32 => ax X 0 0 38 [some (.ref (ao 0)), some (.int x1), some (.int s.2)] [oX12 ao io_thrown io_rows io_cells io_children io_changes io_taped io_at io_to io_nest io_readMany io_codeLong io_readLong io_undos io_wentHome io_tideLevel io_acts io_firstBreaks io_bestCrew io_sights io_wayMany io_random, rI Y (ao 8) 43 co_now, rZ Y (ao 30) 3 co_isKept, rI Y (ao 31) 3 co_keptChanges, rI Y (ao 32) 129 s.1] []) (fun s k38 hk38 h => kX12_keep_l38 C hQ hk38 h) FUEL (co_kept, x2) hf
def fX12_keep (io_thrown : Int32) (io_changes : Int32) (co_now : Nat → Int32) (co_isKept : Nat → Int32) (co_keptChanges : Nat → Int32) (co_kept : Nat → Int32) (x1 : Int32) : Option (Int32 × Int32 × (Nat → Int32) × (Nat → Int32) × (Nat → Int32)) :=
  (fX12_in (x1.toInt64) (0 : Int64) (2 : Int64)).bind (fun r4 => if r4 = (0 : Int32) then (some ((0 : Int32), (0 : Int32), co_isKept, co_keptChanges, co_kept)) else (if inb x1 3 then fX12_keep_b38 (0 : Int32) io_changes co_now (upd co_isKept (Int32.toNatClampNeg x1) (vp_nar .boolean (1 : Int32))) (upd co_keptChanges (Int32.toNatClampNeg x1) io_changes) co_kept x1 (0 : Int32) else none))
set_option maxHeartbeats 400000 in
set_option maxRecDepth 100000 in
theorem kX12_keep (l : Launch) (D : va_G) (Y : Nat → ClassId) (ao : Nat → Nat) (io_thrown : Int32) (io_rows : Int32) (io_cells : Int32) (io_children : Int32) (io_changes : Int32) (io_taped : Int32) (io_at : Int32) (io_to : Int32) (io_nest : Int32) (io_readMany : Int32) (io_codeLong : Int32) (io_readLong : Int32) (io_undos : Int32) (io_wentHome : Int32) (io_tideLevel : Int32) (io_acts : Int32) (io_firstBreaks : Int32) (io_bestCrew : Int32) (io_sights : Int32) (io_wayMany : Int32) (io_random : Int32) (co_now : Nat → Int32) (co_isKept : Nat → Int32) (co_keptChanges : Nat → Int32) (co_kept : Nat → Int32) (x1 : Int32) (res : Int32 × Int32 × (Nat → Int32) × (Nat → Int32) × (Nat → Int32)) (hf : fX12_keep io_thrown io_changes co_now co_isKept co_keptChanges co_kept x1 = some res) : amf l D Y yX12_keep wsX12_keep rmX12_keep [.ref (ao 0), .int x1] [oX12 ao io_thrown io_rows io_cells io_children io_changes io_taped io_at io_to io_nest io_readMany io_codeLong io_readLong io_undos io_wentHome io_tideLevel io_acts io_firstBreaks io_bestCrew io_sights io_wayMany io_random, rI Y (ao 8) 43 co_now, rZ Y (ao 30) 3 co_isKept, rI Y (ao 31) 3 co_keptChanges, rI Y (ao 32) 129 co_kept] (some (.int res.1)) [oX12 ao res.2.1 io_rows io_cells io_children io_changes io_taped io_at io_to io_nest io_readMany io_codeLong io_readLong io_undos io_wentHome io_tideLevel io_acts io_firstBreaks io_bestCrew io_sights io_wayMany io_random, rI Y (ao 8) 43 co_now, rZ Y (ao 30) 3 res.2.2.1, rI Y (ao 31) 3 res.2.2.2.1, rI Y (ao 32) 129 res.2.2.2.2] := by
  refine amf.of (cc := cX12_keep) (maxL := 3) (rt := (some .boolean)) (by decide) rfl RX12 rfl (Nat.le_of_ble_eq_true rfl) [some (.ref (ao 0)), some (.int x1), none] rfl ?_
  intro X C hQ
  unfold fX12_keep at hf
  refine a_aload_n C dX12_keep_0 rfl ?_
  refine a_iconst C (0 : Int32) dX12_keep_1 (by decide) ?_
  refine a_put C (eB_X12_112 _) tfX12_0 dX12_keep_2 0 rfl rfl rfl (Nat.le_of_ble_eq_true rfl) ?_
  refine a_iload_n C dX12_keep_5 rfl ?_
  refine a_i2l C dX12_keep_6 ?_
  refine a_lconst C (0 : Int64) dX12_keep_7 (by decide) ?_
  refine a_ldc2 C (2 : Int64) dX12_keep_8 (kB_X12_468 _) ?_
  obtain ⟨r4, h4, hf⟩ := fx_bind hf
  refine a_fS C (kX12_in l D Y (x1.toInt64) (0 : Int64) (2 : Int64) r4 h4) (gB_X12_122 _) rfl dvX12_in ⟨⟨rfl, rfl⟩, ⟨Nat.le_of_ble_eq_true rfl, Nat.le_of_ble_eq_true rfl⟩, ⟨Nat.le_of_ble_eq_true rfl, Nat.le_of_ble_eq_true rfl⟩⟩ rfl (Nat.le_of_ble_eq_true rfl) dX12_keep_11 [] [0, 1, 2, 3, 4] trivial (by decide +kernel) rfl [oX12 ao (0 : Int32) io_rows io_cells io_children io_changes io_taped io_at io_to io_nest io_readMany io_codeLong io_readLong io_undos io_wentHome io_tideLevel io_acts io_firstBreaks io_bestCrew io_sights io_wayMany io_random, rI Y (ao 8) 43 co_now, rZ Y (ao 30) 3 co_isKept, rI Y (ao 31) 3 co_keptChanges, rI Y (ao 32) 129 co_kept] trivial ⟨rfl, rfl, rfl, rfl, rfl, trivial⟩ 5 rfl (by decide +kernel) ?_
  refine a_if_ne C 19 dX12_keep_14 (by decide) (fun h5 => ?_) (fun h5 => ?_)
  · have hf := fx_f h5 hf
    refine a_aload_n C dX12_keep_19 rfl ?_
    refine a_get C (eB_X12_102 _) dX12_keep_20 0 rfl rfl ?_
    refine a_iload_n C dX12_keep_23 rfl ?_
    refine a_iconst C (1 : Int32) dX12_keep_24 (by decide) ?_
    obtain ⟨h6, hf⟩ := fx_ite hf
    refine a_zast C dX12_keep_25 2 rfl h6 ?_
    refine a_aload_n C dX12_keep_26 rfl ?_
    refine a_get C (eB_X12_106 _) dX12_keep_27 0 rfl rfl ?_
    refine a_iload_n C dX12_keep_30 rfl ?_
    refine a_aload_n C dX12_keep_31 rfl ?_
    refine a_get C (eB_X12_194 _) dX12_keep_32 0 rfl rfl ?_
    refine a_iast C dX12_keep_35 3 rfl h6 ?_
    refine a_iconst C (0 : Int32) dX12_keep_36 (by decide) ?_
    refine a_istore_n C dX12_keep_37 (by decide) rfl ?_
    exact kX12_keep_b38 C hQ hf
  · have hf := fx_t h5 hf
    refine a_iconst C (0 : Int32) dX12_keep_17 (by decide) ?_
    obtain rfl := fx_some hf
    exact a_zret C hQ (Or.inl rfl) dX12_keep_18 ⟨rfl, rfl⟩
-- X12_again
abbrev rmX12_again : Room := { frames := 1, cells := 0, slots := 0, locals := 25 }
theorem dvX12_again : yX12_again.cls = RX12 ∧ yX12_again.cls ≠ "java/lang/invoke/MethodHandle" ∧ yX12_again.cls ≠ "java/lang/invoke/VarHandle" ∧ (parseMethodDescriptor yX12_again.desc).map (fun d => d.parameters.length) = some 1 := by decide +kernel
def fX12_again_b39 (io_thrown : Int32) (io_changes : Int32) (io_undos : Int32) (co_now : Nat → Int32) (co_isKept : Nat → Int32) (co_keptChanges : Nat → Int32) (co_kept : Nat → Int32) : Option (Int32 × Int32 × Int32 × (Nat → Int32)) :=
  some ((0 : Int32), io_thrown, io_undos, co_now)
set_option maxHeartbeats 400000 in
set_option maxRecDepth 100000 in
theorem kX12_again_b39 {X : cxT} {l : Launch} {D : va_G} {Y : Nat → ClassId} {ao : Nat → Nat} {io_thrown : Int32} {io_rows : Int32} {io_cells : Int32} {io_children : Int32} {io_changes : Int32} {io_taped : Int32} {io_at : Int32} {io_to : Int32} {io_nest : Int32} {io_readMany : Int32} {io_codeLong : Int32} {io_readLong : Int32} {io_undos : Int32} {io_wentHome : Int32} {io_tideLevel : Int32} {io_acts : Int32} {io_firstBreaks : Int32} {io_bestCrew : Int32} {io_sights : Int32} {io_wayMany : Int32} {io_random : Int32} {co_now : Nat → Int32} {co_isKept : Nat → Int32} {co_keptChanges : Nat → Int32} {co_kept : Nat → Int32} {res : Int32 × Int32 × Int32 × (Nat → Int32)} (C : axC X l D Y cX12_again 3 RX12 wsX12_again rmX12_again (some .boolean)) (hQ : axQ X 0 0 (fun r9 w9 => r9 = (some (.int res.1)) ∧ w9 = [oX12 ao res.2.1 io_rows io_cells io_children io_changes io_taped io_at io_to io_nest io_readMany io_codeLong io_readLong res.2.2.1 io_wentHome io_tideLevel io_acts io_firstBreaks io_bestCrew io_sights io_wayMany io_random, rI Y (ao 8) 43 res.2.2.2, rZ Y (ao 30) 3 co_isKept, rI Y (ao 31) 3 co_keptChanges, rI Y (ao 32) 129 co_kept])) (hf : fX12_again_b39 io_thrown io_changes io_undos co_now co_isKept co_keptChanges co_kept = some res) : ax X 0 0 39 [none, none, none] [oX12 ao io_thrown io_rows io_cells io_children io_changes io_taped io_at io_to io_nest io_readMany io_codeLong io_readLong io_undos io_wentHome io_tideLevel io_acts io_firstBreaks io_bestCrew io_sights io_wayMany io_random, rI Y (ao 8) 43 co_now, rZ Y (ao 30) 3 co_isKept, rI Y (ao 31) 3 co_keptChanges, rI Y (ao 32) 129 co_kept] [] := by
  unfold fX12_again_b39 at hf
  refine a_iconst C (0 : Int32) dX12_again_39 (by decide) ?_
  obtain rfl := fx_some hf
  exact a_zret C hQ (Or.inl rfl) dX12_again_40 ⟨rfl, rfl⟩
def fX12_again_b72 (io_thrown : Int32) (io_changes : Int32) (io_undos : Int32) (co_now : Nat → Int32) (co_isKept : Nat → Int32) (co_keptChanges : Nat → Int32) (co_kept : Nat → Int32) : Option (Int32 × Int32 × Int32 × (Nat → Int32)) :=
  some ((1 : Int32), io_thrown, (0 : Int32), co_now)
set_option maxHeartbeats 400000 in
set_option maxRecDepth 100000 in
theorem kX12_again_b72 {X : cxT} {l : Launch} {D : va_G} {Y : Nat → ClassId} {ao : Nat → Nat} {io_thrown : Int32} {io_rows : Int32} {io_cells : Int32} {io_children : Int32} {io_changes : Int32} {io_taped : Int32} {io_at : Int32} {io_to : Int32} {io_nest : Int32} {io_readMany : Int32} {io_codeLong : Int32} {io_readLong : Int32} {io_undos : Int32} {io_wentHome : Int32} {io_tideLevel : Int32} {io_acts : Int32} {io_firstBreaks : Int32} {io_bestCrew : Int32} {io_sights : Int32} {io_wayMany : Int32} {io_random : Int32} {co_now : Nat → Int32} {co_isKept : Nat → Int32} {co_keptChanges : Nat → Int32} {co_kept : Nat → Int32} {res : Int32 × Int32 × Int32 × (Nat → Int32)} (C : axC X l D Y cX12_again 3 RX12 wsX12_again rmX12_again (some .boolean)) (hQ : axQ X 0 0 (fun r9 w9 => r9 = (some (.int res.1)) ∧ w9 = [oX12 ao res.2.1 io_rows io_cells io_children io_changes io_taped io_at io_to io_nest io_readMany io_codeLong io_readLong res.2.2.1 io_wentHome io_tideLevel io_acts io_firstBreaks io_bestCrew io_sights io_wayMany io_random, rI Y (ao 8) 43 res.2.2.2, rZ Y (ao 30) 3 co_isKept, rI Y (ao 31) 3 co_keptChanges, rI Y (ao 32) 129 co_kept])) (hf : fX12_again_b72 io_thrown io_changes io_undos co_now co_isKept co_keptChanges co_kept = some res) : ax X 0 0 72 [some (.ref (ao 0)), none, none] [oX12 ao io_thrown io_rows io_cells io_children io_changes io_taped io_at io_to io_nest io_readMany io_codeLong io_readLong io_undos io_wentHome io_tideLevel io_acts io_firstBreaks io_bestCrew io_sights io_wayMany io_random, rI Y (ao 8) 43 co_now, rZ Y (ao 30) 3 co_isKept, rI Y (ao 31) 3 co_keptChanges, rI Y (ao 32) 129 co_kept] [] := by
  unfold fX12_again_b72 at hf
  refine a_aload_n C dX12_again_72 rfl ?_
  refine a_iconst C (0 : Int32) dX12_again_73 (by decide) ?_
  refine a_put C (eB_X12_191 _) tfX12_27 dX12_again_74 0 rfl rfl rfl (Nat.le_of_ble_eq_true rfl) ?_
  refine a_iconst C (1 : Int32) dX12_again_77 (by decide) ?_
  obtain rfl := fx_some hf
  exact a_zret C hQ (Or.inr rfl) dX12_again_78 ⟨rfl, rfl⟩
def fX12_again_l43 (io_thrown : Int32) (io_changes : Int32) (io_undos : Int32) (co_isKept : Nat → Int32) (co_keptChanges : Nat → Int32) (co_kept : Nat → Int32) (x1 : Int32) (k43 : (Nat → Int32) × Int32 → Option (Int32 × Int32 × Int32 × (Nat → Int32))) (co_now : Nat → Int32) (x2 : Int32) : Option (Int32 × Int32 × Int32 × (Nat → Int32)) :=
  if (43 : Int32) ≤ x2 then (fX12_again_b72 io_thrown io_changes io_undos co_now co_isKept co_keptChanges co_kept) else (if inb (((43 : Int32) * x1) + x2) 129 then if inb x2 43 then k43 ((upd co_now (Int32.toNatClampNeg x2) (co_kept (Int32.toNatClampNeg (((43 : Int32) * x1) + x2)))), (x2 + (1 : Int32))) else none else none)
def fX12_again_b43 (io_thrown : Int32) (io_changes : Int32) (io_undos : Int32) (co_now : Nat → Int32) (co_isKept : Nat → Int32) (co_keptChanges : Nat → Int32) (co_kept : Nat → Int32) (x1 : Int32) (x2 : Int32) : Option (Int32 × Int32 × Int32 × (Nat → Int32)) :=
  loopN (fun (s : (Nat → Int32) × Int32) k43 => fX12_again_l43 io_thrown io_changes io_undos co_isKept co_keptChanges co_kept x1 k43 s.1 s.2) FUEL (co_now, x2)
set_option maxHeartbeats 400000 in
set_option maxRecDepth 100000 in
theorem kX12_again_l43 {X : cxT} {l : Launch} {D : va_G} {Y : Nat → ClassId} {ao : Nat → Nat} {io_thrown : Int32} {io_rows : Int32} {io_cells : Int32} {io_children : Int32} {io_changes : Int32} {io_taped : Int32} {io_at : Int32} {io_to : Int32} {io_nest : Int32} {io_readMany : Int32} {io_codeLong : Int32} {io_readLong : Int32} {io_undos : Int32} {io_wentHome : Int32} {io_tideLevel : Int32} {io_acts : Int32} {io_firstBreaks : Int32} {io_bestCrew : Int32} {io_sights : Int32} {io_wayMany : Int32} {io_random : Int32} {co_now : Nat → Int32} {co_isKept : Nat → Int32} {co_keptChanges : Nat → Int32} {co_kept : Nat → Int32} {x1 : Int32} {x2 : Int32} {res : Int32 × Int32 × Int32 × (Nat → Int32)} (C : axC X l D Y cX12_again 3 RX12 wsX12_again rmX12_again (some .boolean)) (hQ : axQ X 0 0 (fun r9 w9 => r9 = (some (.int res.1)) ∧ w9 = [oX12 ao res.2.1 io_rows io_cells io_children io_changes io_taped io_at io_to io_nest io_readMany io_codeLong io_readLong res.2.2.1 io_wentHome io_tideLevel io_acts io_firstBreaks io_bestCrew io_sights io_wayMany io_random, rI Y (ao 8) 43 res.2.2.2, rZ Y (ao 30) 3 co_isKept, rI Y (ao 31) 3 co_keptChanges, rI Y (ao 32) 129 co_kept])) {k43 : (Nat → Int32) × Int32 → Option (Int32 × Int32 × Int32 × (Nat → Int32))} (hk43 : ∀ s : (Nat → Int32) × Int32, k43 s = some res → ax X 0 0 43 [some (.ref (ao 0)), some (.int x1), some (.int s.2)] [oX12 ao io_thrown io_rows io_cells io_children io_changes io_taped io_at io_to io_nest io_readMany io_codeLong io_readLong io_undos io_wentHome io_tideLevel io_acts io_firstBreaks io_bestCrew io_sights io_wayMany io_random, rI Y (ao 8) 43 s.1, rZ Y (ao 30) 3 co_isKept, rI Y (ao 31) 3 co_keptChanges, rI Y (ao 32) 129 co_kept] []) (hf : fX12_again_l43 io_thrown io_changes io_undos co_isKept co_keptChanges co_kept x1 k43 co_now x2 = some res) : ax X 0 0 43 [some (.ref (ao 0)), some (.int x1), some (.int x2)] [oX12 ao io_thrown io_rows io_cells io_children io_changes io_taped io_at io_to io_nest io_readMany io_codeLong io_readLong io_undos io_wentHome io_tideLevel io_acts io_firstBreaks io_bestCrew io_sights io_wayMany io_random, rI Y (ao 8) 43 co_now, rZ Y (ao 30) 3 co_isKept, rI Y (ao 31) 3 co_keptChanges, rI Y (ao 32) 129 co_kept] [] := by
  unfold fX12_again_l43 at hf
  refine a_iload_n C dX12_again_43 rfl ?_
  refine a_bipush C (43 : Int32) dX12_again_44 (by decide) ?_
  refine a_icmp_ge C 72 dX12_again_46 (by decide) (fun h1 => ?_) (fun h1 => ?_)
  · have hf := fx_t h1 hf
    refine a_kill [1, 2] ?_
    exact kX12_again_b72 C hQ hf
  · have hf := fx_f h1 hf
    refine a_aload_n C dX12_again_49 rfl ?_
    refine a_get C (eB_X12_36 _) dX12_again_50 0 rfl rfl ?_
    refine a_iload_n C dX12_again_53 rfl ?_
    refine a_aload_n C dX12_again_54 rfl ?_
    refine a_get C (eB_X12_109 _) dX12_again_55 0 rfl rfl ?_
    refine a_bipush C (43 : Int32) dX12_again_58 (by decide) ?_
    refine a_iload_n C dX12_again_60 rfl ?_
    refine a_imul C dX12_again_61 ?_
    refine a_iload_n C dX12_again_62 rfl ?_
    refine a_iadd C dX12_again_63 ?_
    obtain ⟨h2, hf⟩ := fx_ite hf
    refine a_iald C dX12_again_64 4 rfl h2 ?_
    obtain ⟨h3, hf⟩ := fx_ite hf
    refine a_iast C dX12_again_65 1 rfl h3 ?_
    refine a_iinc C (1 : Int32) dX12_again_66 (by decide) rfl (by decide) rfl ?_
    refine a_goto C 43 dX12_again_69 (by decide) ?_
    exact hk43 ((upd co_now (Int32.toNatClampNeg x2) (co_kept (Int32.toNatClampNeg (((43 : Int32) * x1) + x2)))), (x2 + (1 : Int32))) hf
set_option maxHeartbeats 400000 in
set_option maxRecDepth 100000 in
theorem kX12_again_b43 {X : cxT} {l : Launch} {D : va_G} {Y : Nat → ClassId} {ao : Nat → Nat} {io_thrown : Int32} {io_rows : Int32} {io_cells : Int32} {io_children : Int32} {io_changes : Int32} {io_taped : Int32} {io_at : Int32} {io_to : Int32} {io_nest : Int32} {io_readMany : Int32} {io_codeLong : Int32} {io_readLong : Int32} {io_undos : Int32} {io_wentHome : Int32} {io_tideLevel : Int32} {io_acts : Int32} {io_firstBreaks : Int32} {io_bestCrew : Int32} {io_sights : Int32} {io_wayMany : Int32} {io_random : Int32} {co_now : Nat → Int32} {co_isKept : Nat → Int32} {co_keptChanges : Nat → Int32} {co_kept : Nat → Int32} {x1 : Int32} {x2 : Int32} {res : Int32 × Int32 × Int32 × (Nat → Int32)} (C : axC X l D Y cX12_again 3 RX12 wsX12_again rmX12_again (some .boolean)) (hQ : axQ X 0 0 (fun r9 w9 => r9 = (some (.int res.1)) ∧ w9 = [oX12 ao res.2.1 io_rows io_cells io_children io_changes io_taped io_at io_to io_nest io_readMany io_codeLong io_readLong res.2.2.1 io_wentHome io_tideLevel io_acts io_firstBreaks io_bestCrew io_sights io_wayMany io_random, rI Y (ao 8) 43 res.2.2.2, rZ Y (ao 30) 3 co_isKept, rI Y (ao 31) 3 co_keptChanges, rI Y (ao 32) 129 co_kept])) (hf : fX12_again_b43 io_thrown io_changes io_undos co_now co_isKept co_keptChanges co_kept x1 x2 = some res) : ax X 0 0 43 [some (.ref (ao 0)), some (.int x1), some (.int x2)] [oX12 ao io_thrown io_rows io_cells io_children io_changes io_taped io_at io_to io_nest io_readMany io_codeLong io_readLong io_undos io_wentHome io_tideLevel io_acts io_firstBreaks io_bestCrew io_sights io_wayMany io_random, rI Y (ao 8) 43 co_now, rZ Y (ao 30) 3 co_isKept, rI Y (ao 31) 3 co_keptChanges, rI Y (ao 32) 129 co_kept] [] := by
  unfold fX12_again_b43 at hf
  exact fx_loop (P := fun s : (Nat → Int32) × Int32 => ax X 0 0 43 [some (.ref (ao 0)), some (.int x1), some (.int s.2)] [oX12 ao io_thrown io_rows io_cells io_children io_changes io_taped io_at io_to io_nest io_readMany io_codeLong io_readLong io_undos io_wentHome io_tideLevel io_acts io_firstBreaks io_bestCrew io_sights io_wayMany io_random, rI Y (ao 8) 43 s.1, rZ Y (ao 30) 3 co_isKept, rI Y (ao 31) 3 co_keptChanges, rI Y (ao 32) 129 co_kept] []) (fun s k43 hk43 h => kX12_again_l43 C hQ hk43 h) FUEL (co_now, x2) hf
def fX12_again (io_thrown : Int32) (io_changes : Int32) (io_undos : Int32) (co_now : Nat → Int32) (co_isKept : Nat → Int32) (co_keptChanges : Nat → Int32) (co_kept : Nat → Int32) (x1 : Int32) : Option (Int32 × Int32 × Int32 × (Nat → Int32)) :=
  (fX12_in (x1.toInt64) (0 : Int64) (2 : Int64)).bind (fun r4 => if r4 = (0 : Int32) then (fX12_again_b39 (0 : Int32) io_changes io_undos co_now co_isKept co_keptChanges co_kept) else (if inb x1 3 then if (co_isKept (Int32.toNatClampNeg x1)) = (0 : Int32) then (fX12_again_b39 (0 : Int32) io_changes io_undos co_now co_isKept co_keptChanges co_kept) else (if (co_keptChanges (Int32.toNatClampNeg x1)) = io_changes then (fX12_again_b43 (0 : Int32) io_changes io_undos co_now co_isKept co_keptChanges co_kept x1 (0 : Int32)) else (fX12_again_b39 (0 : Int32) io_changes io_undos co_now co_isKept co_keptChanges co_kept)) else none))
set_option maxHeartbeats 400000 in
set_option maxRecDepth 100000 in
theorem kX12_again (l : Launch) (D : va_G) (Y : Nat → ClassId) (ao : Nat → Nat) (io_thrown : Int32) (io_rows : Int32) (io_cells : Int32) (io_children : Int32) (io_changes : Int32) (io_taped : Int32) (io_at : Int32) (io_to : Int32) (io_nest : Int32) (io_readMany : Int32) (io_codeLong : Int32) (io_readLong : Int32) (io_undos : Int32) (io_wentHome : Int32) (io_tideLevel : Int32) (io_acts : Int32) (io_firstBreaks : Int32) (io_bestCrew : Int32) (io_sights : Int32) (io_wayMany : Int32) (io_random : Int32) (co_now : Nat → Int32) (co_isKept : Nat → Int32) (co_keptChanges : Nat → Int32) (co_kept : Nat → Int32) (x1 : Int32) (res : Int32 × Int32 × Int32 × (Nat → Int32)) (hf : fX12_again io_thrown io_changes io_undos co_now co_isKept co_keptChanges co_kept x1 = some res) : amf l D Y yX12_again wsX12_again rmX12_again [.ref (ao 0), .int x1] [oX12 ao io_thrown io_rows io_cells io_children io_changes io_taped io_at io_to io_nest io_readMany io_codeLong io_readLong io_undos io_wentHome io_tideLevel io_acts io_firstBreaks io_bestCrew io_sights io_wayMany io_random, rI Y (ao 8) 43 co_now, rZ Y (ao 30) 3 co_isKept, rI Y (ao 31) 3 co_keptChanges, rI Y (ao 32) 129 co_kept] (some (.int res.1)) [oX12 ao res.2.1 io_rows io_cells io_children io_changes io_taped io_at io_to io_nest io_readMany io_codeLong io_readLong res.2.2.1 io_wentHome io_tideLevel io_acts io_firstBreaks io_bestCrew io_sights io_wayMany io_random, rI Y (ao 8) 43 res.2.2.2, rZ Y (ao 30) 3 co_isKept, rI Y (ao 31) 3 co_keptChanges, rI Y (ao 32) 129 co_kept] := by
  refine amf.of (cc := cX12_again) (maxL := 3) (rt := (some .boolean)) (by decide) rfl RX12 rfl (Nat.le_of_ble_eq_true rfl) [some (.ref (ao 0)), some (.int x1), none] rfl ?_
  intro X C hQ
  unfold fX12_again at hf
  refine a_aload_n C dX12_again_0 rfl ?_
  refine a_iconst C (0 : Int32) dX12_again_1 (by decide) ?_
  refine a_put C (eB_X12_112 _) tfX12_0 dX12_again_2 0 rfl rfl rfl (Nat.le_of_ble_eq_true rfl) ?_
  refine a_iload_n C dX12_again_5 rfl ?_
  refine a_i2l C dX12_again_6 ?_
  refine a_lconst C (0 : Int64) dX12_again_7 (by decide) ?_
  refine a_ldc2 C (2 : Int64) dX12_again_8 (kB_X12_468 _) ?_
  obtain ⟨r4, h4, hf⟩ := fx_bind hf
  refine a_fS C (kX12_in l D Y (x1.toInt64) (0 : Int64) (2 : Int64) r4 h4) (gB_X12_122 _) rfl dvX12_in ⟨⟨rfl, rfl⟩, ⟨Nat.le_of_ble_eq_true rfl, Nat.le_of_ble_eq_true rfl⟩, ⟨Nat.le_of_ble_eq_true rfl, Nat.le_of_ble_eq_true rfl⟩⟩ rfl (Nat.le_of_ble_eq_true rfl) dX12_again_11 [] [0, 1, 2, 3, 4] trivial (by decide +kernel) rfl [oX12 ao (0 : Int32) io_rows io_cells io_children io_changes io_taped io_at io_to io_nest io_readMany io_codeLong io_readLong io_undos io_wentHome io_tideLevel io_acts io_firstBreaks io_bestCrew io_sights io_wayMany io_random, rI Y (ao 8) 43 co_now, rZ Y (ao 30) 3 co_isKept, rI Y (ao 31) 3 co_keptChanges, rI Y (ao 32) 129 co_kept] trivial ⟨rfl, rfl, rfl, rfl, rfl, trivial⟩ 5 rfl (by decide +kernel) ?_
  refine a_if_eq C 39 dX12_again_14 (by decide) (fun h5 => ?_) (fun h5 => ?_)
  · have hf := fx_t h5 hf
    refine a_kill [0, 1] ?_
    exact kX12_again_b39 C hQ hf
  · have hf := fx_f h5 hf
    refine a_aload_n C dX12_again_17 rfl ?_
    refine a_get C (eB_X12_102 _) dX12_again_18 0 rfl rfl ?_
    refine a_iload_n C dX12_again_21 rfl ?_
    obtain ⟨h6, hf⟩ := fx_ite hf
    refine a_zald C dX12_again_22 2 rfl h6 ?_
    refine a_if_eq C 39 dX12_again_23 (by decide) (fun h7 => ?_) (fun h7 => ?_)
    · have hf := fx_t h7 hf
      refine a_kill [0, 1] ?_
      exact kX12_again_b39 C hQ hf
    · have hf := fx_f h7 hf
      refine a_aload_n C dX12_again_26 rfl ?_
      refine a_get C (eB_X12_106 _) dX12_again_27 0 rfl rfl ?_
      refine a_iload_n C dX12_again_30 rfl ?_
      refine a_iald C dX12_again_31 3 rfl h6 ?_
      refine a_aload_n C dX12_again_32 rfl ?_
      refine a_get C (eB_X12_194 _) dX12_again_33 0 rfl rfl ?_
      refine a_icmp_eq C 41 dX12_again_36 (by decide) (fun h8 => ?_) (fun h8 => ?_)
      · have hf := fx_t h8 hf
        refine a_iconst C (0 : Int32) dX12_again_41 (by decide) ?_
        refine a_istore_n C dX12_again_42 (by decide) rfl ?_
        exact kX12_again_b43 C hQ hf
      · have hf := fx_f h8 hf
        refine a_kill [0, 1] ?_
        exact kX12_again_b39 C hQ hf
-- X12_count
abbrev rmX12_count : Room := { frames := 2, cells := 0, slots := 0, locals := 45 }
theorem dvX12_count : yX12_count.cls = RX12 ∧ yX12_count.cls ≠ "java/lang/invoke/MethodHandle" ∧ yX12_count.cls ≠ "java/lang/invoke/VarHandle" ∧ (parseMethodDescriptor yX12_count.desc).map (fun d => d.parameters.length) = some 1 := by decide +kernel
def fX12_count (io_thrown : Int32) (io_rows : Int32) (io_cells : Int32) (io_children : Int32) (io_taped : Int32) (io_undos : Int32) (io_sights : Int32) (co_fixed : Nat → Int32) (co_now : Nat → Int32) (x1 : Int32) : Option (Int32 × Int32) :=
  if x1 = (0 : Int32) then (some (io_cells, (0 : Int32))) else if x1 = (1 : Int32) then (some (io_children, (0 : Int32))) else if x1 = (2 : Int32) then (if inb (42 : Int32) 43 then some ((co_now (Int32.toNatClampNeg (42 : Int32))), (0 : Int32)) else none) else if x1 = (3 : Int32) then (if inb (0 : Int32) 2 then some ((co_fixed (Int32.toNatClampNeg (0 : Int32))), (0 : Int32)) else none) else if x1 = (4 : Int32) then (if inb (1 : Int32) 2 then some ((co_fixed (Int32.toNatClampNeg (1 : Int32))), (0 : Int32)) else none) else if x1 = (5 : Int32) then (if inb (41 : Int32) 43 then some ((co_now (Int32.toNatClampNeg (41 : Int32))), (0 : Int32)) else none) else if x1 = (6 : Int32) then (if inb (12 : Int32) 43 then some ((co_now (Int32.toNatClampNeg (12 : Int32))), (0 : Int32)) else none) else if x1 = (7 : Int32) then ((fX12_wet io_cells co_now).bind (fun r14 => some (r14, (0 : Int32)))) else if x1 = (8 : Int32) then ((fX12_childrenAt io_children co_now (-1 : Int32)).bind (fun r16 => some (r16, (0 : Int32)))) else if x1 = (9 : Int32) then ((fX12_wallAll io_cells co_now).bind (fun r18 => some (r18, (0 : Int32)))) else if x1 = (10 : Int32) then (some (io_sights, (0 : Int32))) else if x1 = (11 : Int32) then (some (io_undos, (0 : Int32))) else if x1 = (12 : Int32) then (some (io_rows, (0 : Int32))) else if x1 = (13 : Int32) then (some (io_taped, (0 : Int32))) else (some ((-100 : Int32), (0 : Int32)))
set_option maxHeartbeats 400000 in
set_option maxRecDepth 100000 in
theorem kX12_count (l : Launch) (D : va_G) (Y : Nat → ClassId) (ao : Nat → Nat) (io_thrown : Int32) (io_rows : Int32) (io_cells : Int32) (io_children : Int32) (io_changes : Int32) (io_taped : Int32) (io_at : Int32) (io_to : Int32) (io_nest : Int32) (io_readMany : Int32) (io_codeLong : Int32) (io_readLong : Int32) (io_undos : Int32) (io_wentHome : Int32) (io_tideLevel : Int32) (io_acts : Int32) (io_firstBreaks : Int32) (io_bestCrew : Int32) (io_sights : Int32) (io_wayMany : Int32) (io_random : Int32) (co_fixed : Nat → Int32) (co_now : Nat → Int32) (x1 : Int32) (res : Int32 × Int32) (hf : fX12_count io_thrown io_rows io_cells io_children io_taped io_undos io_sights co_fixed co_now x1 = some res) : amf l D Y yX12_count wsX12_count rmX12_count [.ref (ao 0), .int x1] [oX12 ao io_thrown io_rows io_cells io_children io_changes io_taped io_at io_to io_nest io_readMany io_codeLong io_readLong io_undos io_wentHome io_tideLevel io_acts io_firstBreaks io_bestCrew io_sights io_wayMany io_random, rI Y (ao 7) 2 co_fixed, rI Y (ao 8) 43 co_now] (some (.int res.1)) [oX12 ao res.2 io_rows io_cells io_children io_changes io_taped io_at io_to io_nest io_readMany io_codeLong io_readLong io_undos io_wentHome io_tideLevel io_acts io_firstBreaks io_bestCrew io_sights io_wayMany io_random, rI Y (ao 7) 2 co_fixed, rI Y (ao 8) 43 co_now] := by
  refine amf.of (cc := cX12_count) (maxL := 2) (rt := (some .int)) (by decide) rfl RX12 rfl (Nat.le_of_ble_eq_true rfl) [some (.ref (ao 0)), some (.int x1)] rfl ?_
  intro X C hQ
  unfold fX12_count at hf
  refine a_aload_n C dX12_count_0 rfl ?_
  refine a_iconst C (0 : Int32) dX12_count_1 (by decide) ?_
  refine a_put C (eB_X12_112 _) tfX12_0 dX12_count_2 0 rfl rfl rfl (Nat.le_of_ble_eq_true rfl) ?_
  refine a_iload_n C dX12_count_5 rfl ?_
  by_cases h1 : x1 = (0 : Int32)
  · have hf := fx_t h1 hf
    refine a_tableIn (off := 70) C 76 dX12_count_6 (by rw [h1]; decide) (by rw [h1]; decide) (by rw [h1]; first | done | rfl | decide) (by decide) ?_
    refine a_aload_n C dX12_count_76 rfl ?_
    refine a_get C (eB_X12_13 _) dX12_count_77 0 rfl rfl ?_
    obtain rfl := fx_some hf
    exact a_iret C hQ dX12_count_80 ⟨rfl, rfl⟩
  have hf := fx_f h1 hf
  by_cases h2 : x1 = (1 : Int32)
  · have hf := fx_t h2 hf
    refine a_tableIn (off := 75) C 81 dX12_count_6 (by rw [h2]; decide) (by rw [h2]; decide) (by rw [h2]; first | done | rfl | decide) (by decide) ?_
    refine a_aload_n C dX12_count_81 rfl ?_
    refine a_get C (eB_X12_126 _) dX12_count_82 0 rfl rfl ?_
    obtain rfl := fx_some hf
    exact a_iret C hQ dX12_count_85 ⟨rfl, rfl⟩
  have hf := fx_f h2 hf
  by_cases h3 : x1 = (2 : Int32)
  · have hf := fx_t h3 hf
    refine a_tableIn (off := 80) C 86 dX12_count_6 (by rw [h3]; decide) (by rw [h3]; decide) (by rw [h3]; first | done | rfl | decide) (by decide) ?_
    refine a_aload_n C dX12_count_86 rfl ?_
    refine a_get C (eB_X12_36 _) dX12_count_87 0 rfl rfl ?_
    refine a_bipush C (42 : Int32) dX12_count_90 (by decide) ?_
    obtain ⟨h4, hf⟩ := fx_ite hf
    refine a_iald C dX12_count_92 2 rfl h4 ?_
    obtain rfl := fx_some hf
    exact a_iret C hQ dX12_count_93 ⟨rfl, rfl⟩
  have hf := fx_f h3 hf
  by_cases h5 : x1 = (3 : Int32)
  · have hf := fx_t h5 hf
    refine a_tableIn (off := 88) C 94 dX12_count_6 (by rw [h5]; decide) (by rw [h5]; decide) (by rw [h5]; first | done | rfl | decide) (by decide) ?_
    refine a_aload_n C dX12_count_94 rfl ?_
    refine a_get C (eB_X12_33 _) dX12_count_95 0 rfl rfl ?_
    refine a_iconst C (0 : Int32) dX12_count_98 (by decide) ?_
    obtain ⟨h6, hf⟩ := fx_ite hf
    refine a_iald C dX12_count_99 1 rfl h6 ?_
    obtain rfl := fx_some hf
    exact a_iret C hQ dX12_count_100 ⟨rfl, rfl⟩
  have hf := fx_f h5 hf
  by_cases h7 : x1 = (4 : Int32)
  · have hf := fx_t h7 hf
    refine a_tableIn (off := 95) C 101 dX12_count_6 (by rw [h7]; decide) (by rw [h7]; decide) (by rw [h7]; first | done | rfl | decide) (by decide) ?_
    refine a_aload_n C dX12_count_101 rfl ?_
    refine a_get C (eB_X12_33 _) dX12_count_102 0 rfl rfl ?_
    refine a_iconst C (1 : Int32) dX12_count_105 (by decide) ?_
    obtain ⟨h8, hf⟩ := fx_ite hf
    refine a_iald C dX12_count_106 1 rfl h8 ?_
    obtain rfl := fx_some hf
    exact a_iret C hQ dX12_count_107 ⟨rfl, rfl⟩
  have hf := fx_f h7 hf
  by_cases h9 : x1 = (5 : Int32)
  · have hf := fx_t h9 hf
    refine a_tableIn (off := 102) C 108 dX12_count_6 (by rw [h9]; decide) (by rw [h9]; decide) (by rw [h9]; first | done | rfl | decide) (by decide) ?_
    refine a_aload_n C dX12_count_108 rfl ?_
    refine a_get C (eB_X12_36 _) dX12_count_109 0 rfl rfl ?_
    refine a_bipush C (41 : Int32) dX12_count_112 (by decide) ?_
    obtain ⟨h10, hf⟩ := fx_ite hf
    refine a_iald C dX12_count_114 2 rfl h10 ?_
    obtain rfl := fx_some hf
    exact a_iret C hQ dX12_count_115 ⟨rfl, rfl⟩
  have hf := fx_f h9 hf
  by_cases h11 : x1 = (6 : Int32)
  · have hf := fx_t h11 hf
    refine a_tableIn (off := 110) C 116 dX12_count_6 (by rw [h11]; decide) (by rw [h11]; decide) (by rw [h11]; first | done | rfl | decide) (by decide) ?_
    refine a_aload_n C dX12_count_116 rfl ?_
    refine a_get C (eB_X12_36 _) dX12_count_117 0 rfl rfl ?_
    refine a_bipush C (12 : Int32) dX12_count_120 (by decide) ?_
    obtain ⟨h12, hf⟩ := fx_ite hf
    refine a_iald C dX12_count_122 2 rfl h12 ?_
    obtain rfl := fx_some hf
    exact a_iret C hQ dX12_count_123 ⟨rfl, rfl⟩
  have hf := fx_f h11 hf
  by_cases h13 : x1 = (7 : Int32)
  · have hf := fx_t h13 hf
    refine a_tableIn (off := 118) C 124 dX12_count_6 (by rw [h13]; decide) (by rw [h13]; decide) (by rw [h13]; first | done | rfl | decide) (by decide) ?_
    refine a_aload_n C dX12_count_124 rfl ?_
    refine a_aload_n C dX12_count_125 rfl ?_
    refine a_get C (eB_X12_36 _) dX12_count_126 0 rfl rfl ?_
    obtain ⟨r14, h14, hf⟩ := fx_bind hf
    refine a_fV C (kX12_wet l D Y ao (ao 8) (0 : Int32) io_rows io_cells io_children io_changes io_taped io_at io_to io_nest io_readMany io_codeLong io_readLong io_undos io_wentHome io_tideLevel io_acts io_firstBreaks io_bestCrew io_sights io_wayMany io_random co_now r14 h14) (gB_X12_371 _) rfl dvX12_wet ⟨⟨rfl, rfl⟩, ⟨Nat.le_of_ble_eq_true rfl, Nat.le_of_ble_eq_true rfl⟩, ⟨Nat.le_of_ble_eq_true rfl, Nat.le_of_ble_eq_true rfl⟩⟩ rfl (Nat.le_of_ble_eq_true rfl) dX12_count_129 rfl rfl [0, 2] [1] ⟨rfl, rfl, trivial⟩ (by decide +kernel) rfl [oX12 ao (0 : Int32) io_rows io_cells io_children io_changes io_taped io_at io_to io_nest io_readMany io_codeLong io_readLong io_undos io_wentHome io_tideLevel io_acts io_firstBreaks io_bestCrew io_sights io_wayMany io_random, rI Y (ao 7) 2 co_fixed, rI Y (ao 8) 43 co_now] ⟨rfl, rfl, trivial⟩ ⟨rfl, trivial⟩ 3 rfl (by decide +kernel) ?_
    obtain rfl := fx_some hf
    exact a_iret C hQ dX12_count_132 ⟨rfl, rfl⟩
  have hf := fx_f h13 hf
  by_cases h15 : x1 = (8 : Int32)
  · have hf := fx_t h15 hf
    refine a_tableIn (off := 127) C 133 dX12_count_6 (by rw [h15]; decide) (by rw [h15]; decide) (by rw [h15]; first | done | rfl | decide) (by decide) ?_
    refine a_aload_n C dX12_count_133 rfl ?_
    refine a_aload_n C dX12_count_134 rfl ?_
    refine a_get C (eB_X12_36 _) dX12_count_135 0 rfl rfl ?_
    refine a_iconst C (-1 : Int32) dX12_count_138 (by decide) ?_
    obtain ⟨r16, h16, hf⟩ := fx_bind hf
    refine a_fV C (kX12_childrenAt l D Y ao (ao 8) (0 : Int32) io_rows io_cells io_children io_changes io_taped io_at io_to io_nest io_readMany io_codeLong io_readLong io_undos io_wentHome io_tideLevel io_acts io_firstBreaks io_bestCrew io_sights io_wayMany io_random co_now (-1 : Int32) r16 h16) (gB_X12_288 _) rfl dvX12_childrenAt ⟨⟨rfl, rfl⟩, ⟨Nat.le_of_ble_eq_true rfl, Nat.le_of_ble_eq_true rfl⟩, ⟨Nat.le_of_ble_eq_true rfl, Nat.le_of_ble_eq_true rfl⟩⟩ rfl (Nat.le_of_ble_eq_true rfl) dX12_count_139 rfl rfl [0, 2] [1] ⟨rfl, rfl, trivial⟩ (by decide +kernel) rfl [oX12 ao (0 : Int32) io_rows io_cells io_children io_changes io_taped io_at io_to io_nest io_readMany io_codeLong io_readLong io_undos io_wentHome io_tideLevel io_acts io_firstBreaks io_bestCrew io_sights io_wayMany io_random, rI Y (ao 7) 2 co_fixed, rI Y (ao 8) 43 co_now] ⟨rfl, rfl, trivial⟩ ⟨rfl, trivial⟩ 3 rfl (by decide +kernel) ?_
    obtain rfl := fx_some hf
    exact a_iret C hQ dX12_count_142 ⟨rfl, rfl⟩
  have hf := fx_f h15 hf
  by_cases h17 : x1 = (9 : Int32)
  · have hf := fx_t h17 hf
    refine a_tableIn (off := 137) C 143 dX12_count_6 (by rw [h17]; decide) (by rw [h17]; decide) (by rw [h17]; first | done | rfl | decide) (by decide) ?_
    refine a_aload_n C dX12_count_143 rfl ?_
    refine a_aload_n C dX12_count_144 rfl ?_
    refine a_get C (eB_X12_36 _) dX12_count_145 0 rfl rfl ?_
    obtain ⟨r18, h18, hf⟩ := fx_bind hf
    refine a_fV C (kX12_wallAll l D Y ao (ao 8) (0 : Int32) io_rows io_cells io_children io_changes io_taped io_at io_to io_nest io_readMany io_codeLong io_readLong io_undos io_wentHome io_tideLevel io_acts io_firstBreaks io_bestCrew io_sights io_wayMany io_random co_now r18 h18) (gB_X12_352 _) rfl dvX12_wallAll ⟨⟨rfl, rfl⟩, ⟨Nat.le_of_ble_eq_true rfl, Nat.le_of_ble_eq_true rfl⟩, ⟨Nat.le_of_ble_eq_true rfl, Nat.le_of_ble_eq_true rfl⟩⟩ rfl (Nat.le_of_ble_eq_true rfl) dX12_count_148 rfl rfl [0, 2] [1] ⟨rfl, rfl, trivial⟩ (by decide +kernel) rfl [oX12 ao (0 : Int32) io_rows io_cells io_children io_changes io_taped io_at io_to io_nest io_readMany io_codeLong io_readLong io_undos io_wentHome io_tideLevel io_acts io_firstBreaks io_bestCrew io_sights io_wayMany io_random, rI Y (ao 7) 2 co_fixed, rI Y (ao 8) 43 co_now] ⟨rfl, rfl, trivial⟩ ⟨rfl, trivial⟩ 3 rfl (by decide +kernel) ?_
    obtain rfl := fx_some hf
    exact a_iret C hQ dX12_count_151 ⟨rfl, rfl⟩
  have hf := fx_f h17 hf
  by_cases h19 : x1 = (10 : Int32)
  · have hf := fx_t h19 hf
    refine a_tableIn (off := 146) C 152 dX12_count_6 (by rw [h19]; decide) (by rw [h19]; decide) (by rw [h19]; first | done | rfl | decide) (by decide) ?_
    refine a_aload_n C dX12_count_152 rfl ?_
    refine a_get C (eB_X12_188 _) dX12_count_153 0 rfl rfl ?_
    obtain rfl := fx_some hf
    exact a_iret C hQ dX12_count_156 ⟨rfl, rfl⟩
  have hf := fx_f h19 hf
  by_cases h20 : x1 = (11 : Int32)
  · have hf := fx_t h20 hf
    refine a_tableIn (off := 151) C 157 dX12_count_6 (by rw [h20]; decide) (by rw [h20]; decide) (by rw [h20]; first | done | rfl | decide) (by decide) ?_
    refine a_aload_n C dX12_count_157 rfl ?_
    refine a_get C (eB_X12_191 _) dX12_count_158 0 rfl rfl ?_
    obtain rfl := fx_some hf
    exact a_iret C hQ dX12_count_161 ⟨rfl, rfl⟩
  have hf := fx_f h20 hf
  by_cases h21 : x1 = (12 : Int32)
  · have hf := fx_t h21 hf
    refine a_tableIn (off := 156) C 162 dX12_count_6 (by rw [h21]; decide) (by rw [h21]; decide) (by rw [h21]; first | done | rfl | decide) (by decide) ?_
    refine a_aload_n C dX12_count_162 rfl ?_
    refine a_get C (eB_X12_119 _) dX12_count_163 0 rfl rfl ?_
    obtain rfl := fx_some hf
    exact a_iret C hQ dX12_count_166 ⟨rfl, rfl⟩
  have hf := fx_f h21 hf
  by_cases h22 : x1 = (13 : Int32)
  · have hf := fx_t h22 hf
    refine a_tableIn (off := 161) C 167 dX12_count_6 (by rw [h22]; decide) (by rw [h22]; decide) (by rw [h22]; first | done | rfl | decide) (by decide) ?_
    refine a_aload_n C dX12_count_167 rfl ?_
    refine a_get C (eB_X12_133 _) dX12_count_168 0 rfl rfl ?_
    obtain rfl := fx_some hf
    exact a_iret C hQ dX12_count_171 ⟨rfl, rfl⟩
  have hf := fx_f h22 hf
  refine a_tableOut C 172 dX12_count_6 (by have z0 := lv_neT (a := 0) h1 (by decide); have z1 := lv_neT (a := 1) h2 (by decide); have z2 := lv_neT (a := 2) h3 (by decide); have z3 := lv_neT (a := 3) h5 (by decide); have z4 := lv_neT (a := 4) h7 (by decide); have z5 := lv_neT (a := 5) h9 (by decide); have z6 := lv_neT (a := 6) h11 (by decide); have z7 := lv_neT (a := 7) h13 (by decide); have z8 := lv_neT (a := 8) h15 (by decide); have z9 := lv_neT (a := 9) h17 (by decide); have z10 := lv_neT (a := 10) h19 (by decide); have z11 := lv_neT (a := 11) h20 (by decide); have z12 := lv_neT (a := 12) h21 (by decide); have z13 := lv_neT (a := 13) h22 (by decide); omega) (by decide) ?_
  refine a_bipush C (-100 : Int32) dX12_count_172 (by decide) ?_
  obtain rfl := fx_some hf
  exact a_iret C hQ dX12_count_174 ⟨rfl, rfl⟩
