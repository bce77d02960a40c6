-- X12_work
abbrev rmX12_work : Room := { frames := 6, cells := 0, slots := 0, locals := 137 }
theorem dvX12_work : yX12_work.cls = RX12 ∧ yX12_work.cls ≠ "java/lang/invoke/MethodHandle" ∧ yX12_work.cls ≠ "java/lang/invoke/VarHandle" ∧ (parseMethodDescriptor yX12_work.desc).map (fun d => d.parameters.length) = some 1 := by decide +kernel
theorem eX12_work_inX12 : ∀ w ∈ wsX120, w ∈ wsX12_work := by decide +kernel
theorem eX12_work_39 : aF wsX12_work RX12 39 12 13 := ⟨RX12, TX12, 53, rfl, eX12_work_inX12, by decide, by decide +kernel⟩
theorem eX12_work_36 : aF wsX12_work RX12 36 12 12 := ⟨RX12, TX12, 53, rfl, eX12_work_inX12, by decide, by decide +kernel⟩
theorem eX12_work_13 : aF wsX12_work RX12 13 12 3 := ⟨RX12, TX12, 53, rfl, eX12_work_inX12, by decide, by decide +kernel⟩
theorem eX12_work_112 : aF wsX12_work RX12 112 12 0 := ⟨RX12, TX12, 53, rfl, eX12_work_inX12, by decide, by decide +kernel⟩
theorem eX12_work_k350 : Cond.constantLong RX12 350 (30 : Int64) ∈ wsX12_work := by decide +kernel
theorem eX12_work_119 : aF wsX12_work RX12 119 12 1 := ⟨RX12, TX12, 53, rfl, eX12_work_inX12, by decide, by decide +kernel⟩
def fX12_work_b71 (io_thrown : Int32) (io_rows : Int32) (io_cells : Int32) (io_children : Int32) (io_wentHome : Int32) (co_row : Nat → Int64) (co_age : Nat → Int32) (co_skill : Nat → Int32) (co_friend : Nat → Int32) (co_now : Nat → Int32) (co_then : Nat → Int32) (co_gets : Nat → Int32) : Option (Int32 × Int32 × Int32 × Int32 × (Nat → Int64) × (Nat → Int32) × (Nat → Int32)) :=
  (fX12_wallAll io_cells co_then).bind (fun r1 => (fX12_wallAll io_cells co_now).bind (fun r2 => some ((r1 - r2), io_thrown, io_rows, io_wentHome, co_row, co_then, co_gets)))
set_option maxHeartbeats 400000 in
set_option maxRecDepth 100000 in
theorem kX12_work_b71 {X : cxT} {l : Launch} {D : va_G} {Y : Nat → ClassId} {ao : Nat → Nat} {io_thrown : Int32} {io_rows : Int32} {io_cells : Int32} {io_children : Int32} {io_changes : Int32} {io_taped : Int32} {io_at : Int32} {io_to : Int32} {io_nest : Int32} {io_readMany : Int32} {io_codeLong : Int32} {io_readLong : Int32} {io_undos : Int32} {io_wentHome : Int32} {io_tideLevel : Int32} {io_acts : Int32} {io_firstBreaks : Int32} {io_bestCrew : Int32} {io_sights : Int32} {io_wayMany : Int32} {io_random : Int32} {co_row : Nat → Int64} {co_age : Nat → Int32} {co_skill : Nat → Int32} {co_friend : Nat → Int32} {co_now : Nat → Int32} {co_then : Nat → Int32} {co_gets : Nat → Int32} {res : Int32 × Int32 × Int32 × Int32 × (Nat → Int64) × (Nat → Int32) × (Nat → Int32)} (C : axC X l D Y cX12_work 3 RX12 wsX12_work rmX12_work (some .int)) (hQ : axQ X 0 0 (fun r9 w9 => r9 = (some (.int res.1)) ∧ w9 = [oX12 ao res.2.1 res.2.2.1 io_cells io_children io_changes io_taped io_at io_to io_nest io_readMany io_codeLong io_readLong io_undos res.2.2.2.1 io_tideLevel io_acts io_firstBreaks io_bestCrew io_sights io_wayMany io_random, rJ Y (ao 1) 24 res.2.2.2.2.1, rI Y (ao 4) 8 co_age, rI Y (ao 5) 8 co_skill, rI Y (ao 6) 8 co_friend, rI Y (ao 8) 43 co_now, rI Y (ao 9) 43 res.2.2.2.2.2.1, rI Y (ao 17) 12 res.2.2.2.2.2.2])) (hf : fX12_work_b71 io_thrown io_rows io_cells io_children io_wentHome co_row co_age co_skill co_friend co_now co_then co_gets = some res) : ax X 0 0 71 [some (.ref (ao 0)), none, none] [oX12 ao io_thrown io_rows io_cells io_children io_changes io_taped io_at io_to io_nest io_readMany io_codeLong io_readLong io_undos io_wentHome io_tideLevel io_acts io_firstBreaks io_bestCrew io_sights io_wayMany io_random, rJ Y (ao 1) 24 co_row, rI Y (ao 4) 8 co_age, rI Y (ao 5) 8 co_skill, rI Y (ao 6) 8 co_friend, rI Y (ao 8) 43 co_now, rI Y (ao 9) 43 co_then, rI Y (ao 17) 12 co_gets] [] := by
  unfold fX12_work_b71 at hf
  refine a_aload_n C dX12_work_71 rfl ?_
  refine a_aload_n C dX12_work_72 rfl ?_
  refine a_get C eX12_work_39 dX12_work_73 0 rfl rfl ?_
  obtain ⟨r1, h1, hf⟩ := fx_bind hf
  refine a_fV C (kX12_wallAll l D Y ao (ao 9) io_thrown io_rows io_cells io_children io_changes io_taped io_at io_to io_nest io_readMany io_codeLong io_readLong io_undos io_wentHome io_tideLevel io_acts io_firstBreaks io_bestCrew io_sights io_wayMany io_random co_then r1 h1) gX12_work_X12_wallAll rfl dvX12_wallAll ⟨⟨rfl, rfl⟩, ⟨Nat.le_of_ble_eq_true rfl, Nat.le_of_ble_eq_true rfl⟩, ⟨Nat.le_of_ble_eq_true rfl, Nat.le_of_ble_eq_true rfl⟩⟩ rfl (Nat.le_of_ble_eq_true rfl) dX12_work_76 rfl rfl [0, 6] [1, 2, 3, 4, 5, 7] ⟨rfl, rfl, trivial⟩ rfl rfl [oX12 ao io_thrown io_rows io_cells io_children io_changes io_taped io_at io_to io_nest io_readMany io_codeLong io_readLong io_undos io_wentHome io_tideLevel io_acts io_firstBreaks io_bestCrew io_sights io_wayMany io_random, rJ Y (ao 1) 24 co_row, rI Y (ao 4) 8 co_age, rI Y (ao 5) 8 co_skill, rI Y (ao 6) 8 co_friend, rI Y (ao 8) 43 co_now, rI Y (ao 9) 43 co_then, rI Y (ao 17) 12 co_gets] ⟨rfl, rfl, trivial⟩ ⟨rfl, rfl, rfl, rfl, rfl, rfl, trivial⟩ rfl ?_
  refine a_aload_n C dX12_work_79 rfl ?_
  refine a_aload_n C dX12_work_80 rfl ?_
  refine a_get C eX12_work_36 dX12_work_81 0 rfl rfl ?_
  obtain ⟨r2, h2, hf⟩ := fx_bind hf
  refine a_fV C (kX12_wallAll l D Y ao (ao 8) io_thrown io_rows io_cells io_children io_changes io_taped io_at io_to io_nest io_readMany io_codeLong io_readLong io_undos io_wentHome io_tideLevel io_acts io_firstBreaks io_bestCrew io_sights io_wayMany io_random co_now r2 h2) gX12_work_X12_wallAll rfl dvX12_wallAll ⟨⟨rfl, rfl⟩, ⟨Nat.le_of_ble_eq_true rfl, Nat.le_of_ble_eq_true rfl⟩, ⟨Nat.le_of_ble_eq_true rfl, Nat.le_of_ble_eq_true rfl⟩⟩ rfl (Nat.le_of_ble_eq_true rfl) dX12_work_84 rfl rfl [0, 5] [1, 2, 3, 4, 6, 7] ⟨rfl, rfl, trivial⟩ rfl rfl [oX12 ao io_thrown io_rows io_cells io_children io_changes io_taped io_at io_to io_nest io_readMany io_codeLong io_readLong io_undos io_wentHome io_tideLevel io_acts io_firstBreaks io_bestCrew io_sights io_wayMany io_random, rJ Y (ao 1) 24 co_row, rI Y (ao 4) 8 co_age, rI Y (ao 5) 8 co_skill, rI Y (ao 6) 8 co_friend, rI Y (ao 8) 43 co_now, rI Y (ao 9) 43 co_then, rI Y (ao 17) 12 co_gets] ⟨rfl, rfl, trivial⟩ ⟨rfl, rfl, rfl, rfl, rfl, rfl, trivial⟩ rfl ?_
  refine a_isub C dX12_work_87 ?_
  obtain rfl := fx_some hf
  exact a_iret C hQ dX12_work_88 ⟨rfl, rfl⟩
def fX12_work_l39 (io_thrown : Int32) (io_cells : Int32) (io_children : Int32) (io_wentHome : Int32) (co_age : Nat → Int32) (co_skill : Nat → Int32) (co_friend : Nat → Int32) (co_now : Nat → Int32) (co_then : Nat → Int32) (co_gets : Nat → Int32) (k39 : Int32 × (Nat → Int64) × Int32 → Option (Int32 × Int32 × Int32 × Int32 × (Nat → Int64) × (Nat → Int32) × (Nat → Int32))) (io_rows : Int32) (co_row : Nat → Int64) (x2 : Int32) : Option (Int32 × Int32 × Int32 × Int32 × (Nat → Int64) × (Nat → Int32) × (Nat → Int32)) :=
  if io_cells ≤ x2 then (fX12_work_b71 io_thrown io_rows io_cells io_children io_wentHome co_row co_age co_skill co_friend co_now co_then co_gets) else (if inb x2 43 then (fX12_enters io_rows co_row (((co_then (Int32.toNatClampNeg x2)) - (co_now (Int32.toNatClampNeg x2))).toInt64)).bind (fun r5 => k39 (r5.1, r5.2, (x2 + (1 : Int32)))) else none)
def fX12_work_b39 (io_thrown : Int32) (io_rows : Int32) (io_cells : Int32) (io_children : Int32) (io_wentHome : Int32) (co_row : Nat → Int64) (co_age : Nat → Int32) (co_skill : Nat → Int32) (co_friend : Nat → Int32) (co_now : Nat → Int32) (co_then : Nat → Int32) (co_gets : Nat → Int32) (x2 : Int32) : Option (Int32 × Int32 × Int32 × Int32 × (Nat → Int64) × (Nat → Int32) × (Nat → Int32)) :=
  loopN (fun (s : Int32 × (Nat → Int64) × Int32) k39 => fX12_work_l39 io_thrown io_cells io_children io_wentHome co_age co_skill co_friend co_now co_then co_gets k39 s.1 s.2.1 s.2.2) FUEL (io_rows, co_row, x2)
set_option maxHeartbeats 400000 in
set_option maxRecDepth 100000 in
theorem kX12_work_l39 {X : cxT} {l : Launch} {D : va_G} {Y : Nat → ClassId} {ao : Nat → Nat} {io_thrown : Int32} {io_rows : Int32} {io_cells : Int32} {io_children : Int32} {io_changes : Int32} {io_taped : Int32} {io_at : Int32} {io_to : Int32} {io_nest : Int32} {io_readMany : Int32} {io_codeLong : Int32} {io_readLong : Int32} {io_undos : Int32} {io_wentHome : Int32} {io_tideLevel : Int32} {io_acts : Int32} {io_firstBreaks : Int32} {io_bestCrew : Int32} {io_sights : Int32} {io_wayMany : Int32} {io_random : Int32} {co_row : Nat → Int64} {co_age : Nat → Int32} {co_skill : Nat → Int32} {co_friend : Nat → Int32} {co_now : Nat → Int32} {co_then : Nat → Int32} {co_gets : Nat → Int32} {x2 : Int32} {res : Int32 × Int32 × Int32 × Int32 × (Nat → Int64) × (Nat → Int32) × (Nat → Int32)} (C : axC X l D Y cX12_work 3 RX12 wsX12_work rmX12_work (some .int)) (hQ : axQ X 0 0 (fun r9 w9 => r9 = (some (.int res.1)) ∧ w9 = [oX12 ao res.2.1 res.2.2.1 io_cells io_children io_changes io_taped io_at io_to io_nest io_readMany io_codeLong io_readLong io_undos res.2.2.2.1 io_tideLevel io_acts io_firstBreaks io_bestCrew io_sights io_wayMany io_random, rJ Y (ao 1) 24 res.2.2.2.2.1, rI Y (ao 4) 8 co_age, rI Y (ao 5) 8 co_skill, rI Y (ao 6) 8 co_friend, rI Y (ao 8) 43 co_now, rI Y (ao 9) 43 res.2.2.2.2.2.1, rI Y (ao 17) 12 res.2.2.2.2.2.2])) {k39 : Int32 × (Nat → Int64) × Int32 → Option (Int32 × Int32 × Int32 × Int32 × (Nat → Int64) × (Nat → Int32) × (Nat → Int32))} (hk39 : ∀ s : Int32 × (Nat → Int64) × Int32, k39 s = some res → ax X 0 0 39 [some (.ref (ao 0)), none, some (.int s.2.2)] [oX12 ao io_thrown s.1 io_cells io_children io_changes io_taped io_at io_to io_nest io_readMany io_codeLong io_readLong io_undos io_wentHome io_tideLevel io_acts io_firstBreaks io_bestCrew io_sights io_wayMany io_random, rJ Y (ao 1) 24 s.2.1, rI Y (ao 4) 8 co_age, rI Y (ao 5) 8 co_skill, rI Y (ao 6) 8 co_friend, rI Y (ao 8) 43 co_now, rI Y (ao 9) 43 co_then, rI Y (ao 17) 12 co_gets] []) (hf : fX12_work_l39 io_thrown io_cells io_children io_wentHome co_age co_skill co_friend co_now co_then co_gets k39 io_rows co_row x2 = some res) : ax X 0 0 39 [some (.ref (ao 0)), none, some (.int x2)] [oX12 ao io_thrown io_rows io_cells io_children io_changes io_taped io_at io_to io_nest io_readMany io_codeLong io_readLong io_undos io_wentHome io_tideLevel io_acts io_firstBreaks io_bestCrew io_sights io_wayMany io_random, rJ Y (ao 1) 24 co_row, rI Y (ao 4) 8 co_age, rI Y (ao 5) 8 co_skill, rI Y (ao 6) 8 co_friend, rI Y (ao 8) 43 co_now, rI Y (ao 9) 43 co_then, rI Y (ao 17) 12 co_gets] [] := by
  unfold fX12_work_l39 at hf
  refine a_iload_n C dX12_work_39 rfl ?_
  refine a_aload_n C dX12_work_40 rfl ?_
  refine a_get C eX12_work_13 dX12_work_41 0 rfl rfl ?_
  refine a_icmp_ge C 71 dX12_work_44 (by decide) (fun h3 => ?_) (fun h3 => ?_)
  · have hf := fx_t h3 hf
    refine a_kill [2] ?_
    exact kX12_work_b71 C hQ hf
  · have hf := fx_f h3 hf
    refine a_aload_n C dX12_work_47 rfl ?_
    refine a_aload_n C dX12_work_48 rfl ?_
    refine a_get C eX12_work_39 dX12_work_49 0 rfl rfl ?_
    refine a_iload_n C dX12_work_52 rfl ?_
    obtain ⟨h4, hf⟩ := fx_ite hf
    refine a_iald C dX12_work_53 6 rfl h4 ?_
    refine a_aload_n C dX12_work_54 rfl ?_
    refine a_get C eX12_work_36 dX12_work_55 0 rfl rfl ?_
    refine a_iload_n C dX12_work_58 rfl ?_
    refine a_iald C dX12_work_59 5 rfl h4 ?_
    refine a_isub C dX12_work_60 ?_
    refine a_i2l C dX12_work_61 ?_
    obtain ⟨r5, h5, hf⟩ := fx_bind hf
    refine a_fV C (kX12_enters l D Y ao io_thrown io_rows io_cells io_children io_changes io_taped io_at io_to io_nest io_readMany io_codeLong io_readLong io_undos io_wentHome io_tideLevel io_acts io_firstBreaks io_bestCrew io_sights io_wayMany io_random co_row (((co_then (Int32.toNatClampNeg x2)) - (co_now (Int32.toNatClampNeg x2))).toInt64) r5 h5) gX12_work_X12_enters rfl dvX12_enters ⟨⟨rfl, rfl⟩, ⟨Nat.le_of_ble_eq_true rfl, Nat.le_of_ble_eq_true rfl⟩, ⟨Nat.le_of_ble_eq_true rfl, Nat.le_of_ble_eq_true rfl⟩⟩ rfl (Nat.le_of_ble_eq_true rfl) dX12_work_62 rfl rfl [0, 1] [2, 3, 4, 5, 6, 7] ⟨rfl, rfl, trivial⟩ rfl rfl [oX12 ao io_thrown r5.1 io_cells io_children io_changes io_taped io_at io_to io_nest io_readMany io_codeLong io_readLong io_undos io_wentHome io_tideLevel io_acts io_firstBreaks io_bestCrew io_sights io_wayMany io_random, rJ Y (ao 1) 24 r5.2, rI Y (ao 4) 8 co_age, rI Y (ao 5) 8 co_skill, rI Y (ao 6) 8 co_friend, rI Y (ao 8) 43 co_now, rI Y (ao 9) 43 co_then, rI Y (ao 17) 12 co_gets] ⟨rfl, rfl, trivial⟩ ⟨rfl, rfl, rfl, rfl, rfl, rfl, trivial⟩ rfl ?_
    refine a_iinc C (1 : Int32) dX12_work_65 (by decide) rfl (by decide) rfl ?_
    refine a_goto C 39 dX12_work_68 (by decide) ?_
    exact hk39 (r5.1, r5.2, (x2 + (1 : Int32))) hf
set_option maxHeartbeats 400000 in
set_option maxRecDepth 100000 in
theorem kX12_work_b39 {X : cxT} {l : Launch} {D : va_G} {Y : Nat → ClassId} {ao : Nat → Nat} {io_thrown : Int32} {io_rows : Int32} {io_cells : Int32} {io_children : Int32} {io_changes : Int32} {io_taped : Int32} {io_at : Int32} {io_to : Int32} {io_nest : Int32} {io_readMany : Int32} {io_codeLong : Int32} {io_readLong : Int32} {io_undos : Int32} {io_wentHome : Int32} {io_tideLevel : Int32} {io_acts : Int32} {io_firstBreaks : Int32} {io_bestCrew : Int32} {io_sights : Int32} {io_wayMany : Int32} {io_random : Int32} {co_row : Nat → Int64} {co_age : Nat → Int32} {co_skill : Nat → Int32} {co_friend : Nat → Int32} {co_now : Nat → Int32} {co_then : Nat → Int32} {co_gets : Nat → Int32} {x2 : Int32} {res : Int32 × Int32 × Int32 × Int32 × (Nat → Int64) × (Nat → Int32) × (Nat → Int32)} (C : axC X l D Y cX12_work 3 RX12 wsX12_work rmX12_work (some .int)) (hQ : axQ X 0 0 (fun r9 w9 => r9 = (some (.int res.1)) ∧ w9 = [oX12 ao res.2.1 res.2.2.1 io_cells io_children io_changes io_taped io_at io_to io_nest io_readMany io_codeLong io_readLong io_undos res.2.2.2.1 io_tideLevel io_acts io_firstBreaks io_bestCrew io_sights io_wayMany io_random, rJ Y (ao 1) 24 res.2.2.2.2.1, rI Y (ao 4) 8 co_age, rI Y (ao 5) 8 co_skill, rI Y (ao 6) 8 co_friend, rI Y (ao 8) 43 co_now, rI Y (ao 9) 43 res.2.2.2.2.2.1, rI Y (ao 17) 12 res.2.2.2.2.2.2])) (hf : fX12_work_b39 io_thrown io_rows io_cells io_children io_wentHome co_row co_age co_skill co_friend co_now co_then co_gets x2 = some res) : ax X 0 0 39 [some (.ref (ao 0)), none, some (.int x2)] [oX12 ao io_thrown io_rows io_cells io_children io_changes io_taped io_at io_to io_nest io_readMany io_codeLong io_readLong io_undos io_wentHome io_tideLevel io_acts io_firstBreaks io_bestCrew io_sights io_wayMany io_random, rJ Y (ao 1) 24 co_row, rI Y (ao 4) 8 co_age, rI Y (ao 5) 8 co_skill, rI Y (ao 6) 8 co_friend, rI Y (ao 8) 43 co_now, rI Y (ao 9) 43 co_then, rI Y (ao 17) 12 co_gets] [] := by
  unfold fX12_work_b39 at hf
  exact fx_loop (P := fun s : Int32 × (Nat → Int64) × Int32 => ax X 0 0 39 [some (.ref (ao 0)), none, some (.int s.2.2)] [oX12 ao io_thrown s.1 io_cells io_children io_changes io_taped io_at io_to io_nest io_readMany io_codeLong io_readLong io_undos io_wentHome io_tideLevel io_acts io_firstBreaks io_bestCrew io_sights io_wayMany io_random, rJ Y (ao 1) 24 s.2.1, rI Y (ao 4) 8 co_age, rI Y (ao 5) 8 co_skill, rI Y (ao 6) 8 co_friend, rI Y (ao 8) 43 co_now, rI Y (ao 9) 43 co_then, rI Y (ao 17) 12 co_gets] []) (fun s k39 hk39 h => kX12_work_l39 C hQ hk39 h) FUEL (io_rows, co_row, x2) hf
def fX12_work (io_thrown : Int32) (io_rows : Int32) (io_cells : Int32) (io_children : Int32) (io_wentHome : Int32) (co_row : Nat → Int64) (co_age : Nat → Int32) (co_skill : Nat → Int32) (co_friend : Nat → Int32) (co_now : Nat → Int32) (co_then : Nat → Int32) (co_gets : Nat → Int32) (x1 : Int32) : Option (Int32 × Int32 × Int32 × Int32 × (Nat → Int64) × (Nat → Int32) × (Nat → Int32)) :=
  (fX12_in (x1.toInt64) (0 : Int64) (30 : Int64)).bind (fun r6 => if r6 = (0 : Int32) then (some ((-1 : Int32), (0 : Int32), io_rows, io_wentHome, co_row, co_then, co_gets)) else ((fX12_puts co_now co_then).bind (fun r8 => (fX12_builds io_cells io_children io_wentHome co_age co_skill co_friend co_gets r8 x1).bind (fun r9 => fX12_work_b39 (0 : Int32) (0 : Int32) io_cells io_children r9.1 co_row co_age co_skill co_friend co_now r9.2.2 r9.2.1 (0 : Int32)))))
set_option maxHeartbeats 400000 in
set_option maxRecDepth 100000 in
theorem kX12_work (l : Launch) (D : va_G) (Y : Nat → ClassId) (ao : Nat → Nat) (io_thrown : Int32) (io_rows : Int32) (io_cells : Int32) (io_children : Int32) (io_changes : Int32) (io_taped : Int32) (io_at : Int32) (io_to : Int32) (io_nest : Int32) (io_readMany : Int32) (io_codeLong : Int32) (io_readLong : Int32) (io_undos : Int32) (io_wentHome : Int32) (io_tideLevel : Int32) (io_acts : Int32) (io_firstBreaks : Int32) (io_bestCrew : Int32) (io_sights : Int32) (io_wayMany : Int32) (io_random : Int32) (co_row : Nat → Int64) (co_age : Nat → Int32) (co_skill : Nat → Int32) (co_friend : Nat → Int32) (co_now : Nat → Int32) (co_then : Nat → Int32) (co_gets : Nat → Int32) (x1 : Int32) (res : Int32 × Int32 × Int32 × Int32 × (Nat → Int64) × (Nat → Int32) × (Nat → Int32)) (hf : fX12_work io_thrown io_rows io_cells io_children io_wentHome co_row co_age co_skill co_friend co_now co_then co_gets x1 = some res) : amf l D Y yX12_work wsX12_work rmX12_work [.ref (ao 0), .int x1] [oX12 ao io_thrown io_rows io_cells io_children io_changes io_taped io_at io_to io_nest io_readMany io_codeLong io_readLong io_undos io_wentHome io_tideLevel io_acts io_firstBreaks io_bestCrew io_sights io_wayMany io_random, rJ Y (ao 1) 24 co_row, rI Y (ao 4) 8 co_age, rI Y (ao 5) 8 co_skill, rI Y (ao 6) 8 co_friend, rI Y (ao 8) 43 co_now, rI Y (ao 9) 43 co_then, rI Y (ao 17) 12 co_gets] (some (.int res.1)) [oX12 ao res.2.1 res.2.2.1 io_cells io_children io_changes io_taped io_at io_to io_nest io_readMany io_codeLong io_readLong io_undos res.2.2.2.1 io_tideLevel io_acts io_firstBreaks io_bestCrew io_sights io_wayMany io_random, rJ Y (ao 1) 24 res.2.2.2.2.1, rI Y (ao 4) 8 co_age, rI Y (ao 5) 8 co_skill, rI Y (ao 6) 8 co_friend, rI Y (ao 8) 43 co_now, rI Y (ao 9) 43 res.2.2.2.2.2.1, rI Y (ao 17) 12 res.2.2.2.2.2.2] := by
  refine amf.of (cc := cX12_work) (maxL := 3) (rt := (some .int)) (by decide) rfl RX12 rfl (Nat.le_of_ble_eq_true rfl) [some (.ref (ao 0)), some (.int x1), none] rfl ?_
  intro X C hQ
  unfold fX12_work at hf
  refine a_aload_n C dX12_work_0 rfl ?_
  refine a_iconst C (0 : Int32) dX12_work_1 (by decide) ?_
  refine a_put C eX12_work_112 tfX12_0 dX12_work_2 0 rfl rfl rfl (Nat.le_of_ble_eq_true rfl) ?_
  refine a_iload_n C dX12_work_5 rfl ?_
  refine a_i2l C dX12_work_6 ?_
  refine a_lconst C (0 : Int64) dX12_work_7 (by decide) ?_
  refine a_ldc2 C (30 : Int64) dX12_work_8 eX12_work_k350 ?_
  obtain ⟨r6, h6, hf⟩ := fx_bind hf
  refine a_fS C (kX12_in l D Y (x1.toInt64) (0 : Int64) (30 : Int64) r6 h6) gX12_work_X12_in rfl dvX12_in ⟨⟨rfl, rfl⟩, ⟨Nat.le_of_ble_eq_true rfl, Nat.le_of_ble_eq_true rfl⟩, ⟨Nat.le_of_ble_eq_true rfl, Nat.le_of_ble_eq_true rfl⟩⟩ rfl (Nat.le_of_ble_eq_true rfl) dX12_work_11 [] [0, 1, 2, 3, 4, 5, 6, 7] trivial rfl rfl [oX12 ao (0 : Int32) io_rows io_cells io_children io_changes io_taped io_at io_to io_nest io_readMany io_codeLong io_readLong io_undos io_wentHome io_tideLevel io_acts io_firstBreaks io_bestCrew io_sights io_wayMany io_random, rJ Y (ao 1) 24 co_row, rI Y (ao 4) 8 co_age, rI Y (ao 5) 8 co_skill, rI Y (ao 6) 8 co_friend, rI Y (ao 8) 43 co_now, rI Y (ao 9) 43 co_then, rI Y (ao 17) 12 co_gets] trivial ⟨rfl, rfl, rfl, rfl, rfl, rfl, rfl, rfl, trivial⟩ rfl ?_
  refine a_if_ne C 19 dX12_work_14 (by decide) (fun h7 => ?_) (fun h7 => ?_)
  · have hf := fx_f h7 hf
    refine a_aload_n C dX12_work_19 rfl ?_
    obtain ⟨r8, h8, hf⟩ := fx_bind hf
    refine a_fV C (kX12_puts l D Y ao (0 : Int32) io_rows io_cells io_children io_changes io_taped io_at io_to io_nest io_readMany io_codeLong io_readLong io_undos io_wentHome io_tideLevel io_acts io_firstBreaks io_bestCrew io_sights io_wayMany io_random co_now co_then r8 h8) gX12_work_X12_puts rfl dvX12_puts ⟨⟨rfl, rfl⟩, ⟨Nat.le_of_ble_eq_true rfl, Nat.le_of_ble_eq_true rfl⟩, ⟨Nat.le_of_ble_eq_true rfl, Nat.le_of_ble_eq_true rfl⟩⟩ rfl (Nat.le_of_ble_eq_true rfl) dX12_work_20 rfl rfl [0, 5, 6] [1, 2, 3, 4, 7] ⟨rfl, rfl, rfl, trivial⟩ rfl rfl [oX12 ao (0 : Int32) io_rows io_cells io_children io_changes io_taped io_at io_to io_nest io_readMany io_codeLong io_readLong io_undos io_wentHome io_tideLevel io_acts io_firstBreaks io_bestCrew io_sights io_wayMany io_random, rJ Y (ao 1) 24 co_row, rI Y (ao 4) 8 co_age, rI Y (ao 5) 8 co_skill, rI Y (ao 6) 8 co_friend, rI Y (ao 8) 43 co_now, rI Y (ao 9) 43 r8, rI Y (ao 17) 12 co_gets] ⟨rfl, rfl, rfl, trivial⟩ ⟨rfl, rfl, rfl, rfl, rfl, trivial⟩ rfl ?_
    refine a_aload_n C dX12_work_23 rfl ?_
    refine a_aload_n C dX12_work_24 rfl ?_
    refine a_get C eX12_work_39 dX12_work_25 0 rfl rfl ?_
    refine a_iload_n C dX12_work_28 rfl ?_
    obtain ⟨r9, h9, hf⟩ := fx_bind hf
    refine a_fV C (kX12_builds l D Y ao (ao 9) (0 : Int32) io_rows io_cells io_children io_changes io_taped io_at io_to io_nest io_readMany io_codeLong io_readLong io_undos io_wentHome io_tideLevel io_acts io_firstBreaks io_bestCrew io_sights io_wayMany io_random co_age co_skill co_friend co_gets r8 x1 r9 h9) gX12_work_X12_builds rfl dvX12_builds ⟨⟨rfl, rfl⟩, ⟨Nat.le_of_ble_eq_true rfl, Nat.le_of_ble_eq_true rfl⟩, ⟨Nat.le_of_ble_eq_true rfl, Nat.le_of_ble_eq_true rfl⟩⟩ rfl (Nat.le_of_ble_eq_true rfl) dX12_work_29 rfl rfl [0, 2, 3, 4, 7, 6] [1, 5] ⟨rfl, rfl, rfl, rfl, rfl, rfl, trivial⟩ rfl rfl [oX12 ao (0 : Int32) io_rows io_cells io_children io_changes io_taped io_at io_to io_nest io_readMany io_codeLong io_readLong io_undos r9.1 io_tideLevel io_acts io_firstBreaks io_bestCrew io_sights io_wayMany io_random, rJ Y (ao 1) 24 co_row, rI Y (ao 4) 8 co_age, rI Y (ao 5) 8 co_skill, rI Y (ao 6) 8 co_friend, rI Y (ao 8) 43 co_now, rI Y (ao 9) 43 r9.2.2, rI Y (ao 17) 12 r9.2.1] ⟨rfl, rfl, rfl, rfl, rfl, rfl, trivial⟩ ⟨rfl, rfl, trivial⟩ rfl ?_
    refine a_aload_n C dX12_work_32 rfl ?_
    refine a_iconst C (0 : Int32) dX12_work_33 (by decide) ?_
    refine a_put C eX12_work_119 tfX12_1 dX12_work_34 0 rfl rfl rfl (Nat.le_of_ble_eq_true rfl) ?_
    refine a_iconst C (0 : Int32) dX12_work_37 (by decide) ?_
    refine a_istore_n C dX12_work_38 (by decide) rfl ?_
    refine a_kill [1] ?_
    exact kX12_work_b39 C hQ hf
  · have hf := fx_t h7 hf
    refine a_iconst C (-1 : Int32) dX12_work_17 (by decide) ?_
    obtain rfl := fx_some hf
    exact a_iret C hQ dX12_work_18 ⟨rfl, rfl⟩
-- X12_seen
abbrev rmX12_seen : Room := { frames := 2, cells := 0, slots := 0, locals := 46 }
theorem dvX12_seen : yX12_seen.cls = RX12 ∧ yX12_seen.cls ≠ "java/lang/invoke/MethodHandle" ∧ yX12_seen.cls ≠ "java/lang/invoke/VarHandle" ∧ (parseMethodDescriptor yX12_seen.desc).map (fun d => d.parameters.length) = some 2 := by decide +kernel
theorem eX12_seen_inX12 : ∀ w ∈ wsX120, w ∈ wsX12_seen := by decide +kernel
theorem eX12_seen_188 : aF wsX12_seen RX12 188 12 42 := ⟨RX12, TX12, 53, rfl, eX12_seen_inX12, by decide, by decide +kernel⟩
theorem eX12_seen_87 : aF wsX12_seen RX12 87 12 43 := ⟨RX12, TX12, 53, rfl, eX12_seen_inX12, by decide, by decide +kernel⟩
theorem eX12_seen_112 : aF wsX12_seen RX12 112 12 0 := ⟨RX12, TX12, 53, rfl, eX12_seen_inX12, by decide, by decide +kernel⟩
theorem eX12_seen_k369 : Cond.constantLong RX12 369 (99 : Int64) ∈ wsX12_seen := by decide +kernel
def fX12_seen_b47 (io_thrown : Int32) (io_cells : Int32) (io_sights : Int32) (co_sightOf : Nat → Int32) : Option (Int32 × Int32 × Int32 × (Nat → Int32)) :=
  some ((-1 : Int32), io_thrown, io_sights, co_sightOf)
set_option maxHeartbeats 400000 in
set_option maxRecDepth 100000 in
theorem kX12_seen_b47 {X : cxT} {l : Launch} {D : va_G} {Y : Nat → ClassId} {ao : Nat → Nat} {io_thrown : Int32} {io_rows : Int32} {io_cells : Int32} {io_children : Int32} {io_changes : Int32} {io_taped : Int32} {io_at : Int32} {io_to : Int32} {io_nest : Int32} {io_readMany : Int32} {io_codeLong : Int32} {io_readLong : Int32} {io_undos : Int32} {io_wentHome : Int32} {io_tideLevel : Int32} {io_acts : Int32} {io_firstBreaks : Int32} {io_bestCrew : Int32} {io_sights : Int32} {io_wayMany : Int32} {io_random : Int32} {co_sightOf : Nat → Int32} {res : Int32 × Int32 × Int32 × (Nat → Int32)} (C : axC X l D Y cX12_seen 3 RX12 wsX12_seen rmX12_seen (some .int)) (hQ : axQ X 0 0 (fun r9 w9 => r9 = (some (.int res.1)) ∧ w9 = [oX12 ao res.2.1 io_rows io_cells io_children io_changes io_taped io_at io_to io_nest io_readMany io_codeLong io_readLong io_undos io_wentHome io_tideLevel io_acts io_firstBreaks io_bestCrew res.2.2.1 io_wayMany io_random, rI Y (ao 25) 12 res.2.2.2])) (hf : fX12_seen_b47 io_thrown io_cells io_sights co_sightOf = some res) : ax X 0 0 47 [none, none, none] [oX12 ao io_thrown io_rows io_cells io_children io_changes io_taped io_at io_to io_nest io_readMany io_codeLong io_readLong io_undos io_wentHome io_tideLevel io_acts io_firstBreaks io_bestCrew io_sights io_wayMany io_random, rI Y (ao 25) 12 co_sightOf] [] := by
  unfold fX12_seen_b47 at hf
  refine a_iconst C (-1 : Int32) dX12_seen_47 (by decide) ?_
  obtain rfl := fx_some hf
  exact a_iret C hQ dX12_seen_48 ⟨rfl, rfl⟩
def fX12_seen_b49 (io_thrown : Int32) (io_cells : Int32) (io_sights : Int32) (co_sightOf : Nat → Int32) (x1 : Int32) (x2 : Int32) : Option (Int32 × Int32 × Int32 × (Nat → Int32)) :=
  if inb x1 12 then (fJ6_bitCount_0f7a4 (io_sights ||| (jshl (1 : Int32) x1))).bind (fun r2 => some (r2, io_thrown, (io_sights ||| (jshl (1 : Int32) x1)), (upd co_sightOf (Int32.toNatClampNeg x1) x2))) else none
set_option maxHeartbeats 400000 in
set_option maxRecDepth 100000 in
theorem kX12_seen_b49 {X : cxT} {l : Launch} {D : va_G} {Y : Nat → ClassId} {ao : Nat → Nat} {io_thrown : Int32} {io_rows : Int32} {io_cells : Int32} {io_children : Int32} {io_changes : Int32} {io_taped : Int32} {io_at : Int32} {io_to : Int32} {io_nest : Int32} {io_readMany : Int32} {io_codeLong : Int32} {io_readLong : Int32} {io_undos : Int32} {io_wentHome : Int32} {io_tideLevel : Int32} {io_acts : Int32} {io_firstBreaks : Int32} {io_bestCrew : Int32} {io_sights : Int32} {io_wayMany : Int32} {io_random : Int32} {co_sightOf : Nat → Int32} {x1 : Int32} {x2 : Int32} {res : Int32 × Int32 × Int32 × (Nat → Int32)} (C : axC X l D Y cX12_seen 3 RX12 wsX12_seen rmX12_seen (some .int)) (hQ : axQ X 0 0 (fun r9 w9 => r9 = (some (.int res.1)) ∧ w9 = [oX12 ao res.2.1 io_rows io_cells io_children io_changes io_taped io_at io_to io_nest io_readMany io_codeLong io_readLong io_undos io_wentHome io_tideLevel io_acts io_firstBreaks io_bestCrew res.2.2.1 io_wayMany io_random, rI Y (ao 25) 12 res.2.2.2])) (hf : fX12_seen_b49 io_thrown io_cells io_sights co_sightOf x1 x2 = some res) : ax X 0 0 49 [some (.ref (ao 0)), some (.int x1), some (.int x2)] [oX12 ao io_thrown io_rows io_cells io_children io_changes io_taped io_at io_to io_nest io_readMany io_codeLong io_readLong io_undos io_wentHome io_tideLevel io_acts io_firstBreaks io_bestCrew io_sights io_wayMany io_random, rI Y (ao 25) 12 co_sightOf] [] := by
  unfold fX12_seen_b49 at hf
  refine a_aload_n C dX12_seen_49 rfl ?_
  refine a_dup C dX12_seen_50 rfl ?_
  refine a_get C eX12_seen_188 dX12_seen_51 0 rfl rfl ?_
  refine a_iconst C (1 : Int32) dX12_seen_54 (by decide) ?_
  refine a_iload_n C dX12_seen_55 rfl ?_
  refine a_ishl C dX12_seen_56 ?_
  refine a_ior C dX12_seen_57 ?_
  refine a_put C eX12_seen_188 tfX12_42 dX12_seen_58 0 rfl rfl rfl (Nat.le_of_ble_eq_true rfl) ?_
  refine a_aload_n C dX12_seen_61 rfl ?_
  refine a_get C eX12_seen_87 dX12_seen_62 0 rfl rfl ?_
  refine a_iload_n C dX12_seen_65 rfl ?_
  refine a_iload_n C dX12_seen_66 rfl ?_
  obtain ⟨h1, hf⟩ := fx_ite hf
  refine a_iast C dX12_seen_67 1 rfl h1 ?_
  refine a_aload_n C dX12_seen_68 rfl ?_
  refine a_get C eX12_seen_188 dX12_seen_69 0 rfl rfl ?_
  obtain ⟨r2, h2, hf⟩ := fx_bind hf
  refine a_fS C (kJ6_bitCount_0f7a4 l D Y (io_sights ||| (jshl (1 : Int32) x1)) r2 h2) gX12_seen_J6_bitCount_0f7a4 rfl dvJ6_bitCount_0f7a4 ⟨⟨rfl, rfl⟩, ⟨Nat.le_of_ble_eq_true rfl, Nat.le_of_ble_eq_true rfl⟩, ⟨Nat.le_of_ble_eq_true rfl, Nat.le_of_ble_eq_true rfl⟩⟩ rfl (Nat.le_of_ble_eq_true rfl) dX12_seen_72 [] [0, 1] trivial rfl rfl [oX12 ao io_thrown io_rows io_cells io_children io_changes io_taped io_at io_to io_nest io_readMany io_codeLong io_readLong io_undos io_wentHome io_tideLevel io_acts io_firstBreaks io_bestCrew (io_sights ||| (jshl (1 : Int32) x1)) io_wayMany io_random, rI Y (ao 25) 12 (upd co_sightOf (Int32.toNatClampNeg x1) x2)] trivial ⟨rfl, rfl, trivial⟩ rfl ?_
  obtain rfl := fx_some hf
  exact a_iret C hQ dX12_seen_75 ⟨rfl, rfl⟩
def fX12_seen (io_thrown : Int32) (io_cells : Int32) (io_sights : Int32) (co_sightOf : Nat → Int32) (x1 : Int32) (x2 : Int32) : Option (Int32 × Int32 × Int32 × (Nat → Int32)) :=
  (fX12_isCell io_cells x1).bind (fun r3 => if r3 = (0 : Int32) then (fX12_seen_b47 (0 : Int32) io_cells io_sights co_sightOf) else ((fX12_in (x2.toInt64) (0 : Int64) (99 : Int64)).bind (fun r5 => if r5 = (0 : Int32) then (fX12_seen_b47 (0 : Int32) io_cells io_sights co_sightOf) else ((fX12_has io_sights x1).bind (fun r7 => if r7 = (0 : Int32) then ((fJ6_bitCount_0f7a4 io_sights).bind (fun r9 => if r9 = (4 : Int32) then (fX12_seen_b47 (0 : Int32) io_cells io_sights co_sightOf) else (fX12_seen_b49 (0 : Int32) io_cells io_sights co_sightOf x1 x2))) else (fX12_seen_b49 (0 : Int32) io_cells io_sights co_sightOf x1 x2))))))
set_option maxHeartbeats 400000 in
set_option maxRecDepth 100000 in
theorem kX12_seen (l : Launch) (D : va_G) (Y : Nat → ClassId) (ao : Nat → Nat) (io_thrown : Int32) (io_rows : Int32) (io_cells : Int32) (io_children : Int32) (io_changes : Int32) (io_taped : Int32) (io_at : Int32) (io_to : Int32) (io_nest : Int32) (io_readMany : Int32) (io_codeLong : Int32) (io_readLong : Int32) (io_undos : Int32) (io_wentHome : Int32) (io_tideLevel : Int32) (io_acts : Int32) (io_firstBreaks : Int32) (io_bestCrew : Int32) (io_sights : Int32) (io_wayMany : Int32) (io_random : Int32) (co_sightOf : Nat → Int32) (x1 : Int32) (x2 : Int32) (res : Int32 × Int32 × Int32 × (Nat → Int32)) (hf : fX12_seen io_thrown io_cells io_sights co_sightOf x1 x2 = some res) : amf l D Y yX12_seen wsX12_seen rmX12_seen [.ref (ao 0), .int x1, .int x2] [oX12 ao io_thrown io_rows io_cells io_children io_changes io_taped io_at io_to io_nest io_readMany io_codeLong io_readLong io_undos io_wentHome io_tideLevel io_acts io_firstBreaks io_bestCrew io_sights io_wayMany io_random, rI Y (ao 25) 12 co_sightOf] (some (.int res.1)) [oX12 ao res.2.1 io_rows io_cells io_children io_changes io_taped io_at io_to io_nest io_readMany io_codeLong io_readLong io_undos io_wentHome io_tideLevel io_acts io_firstBreaks io_bestCrew res.2.2.1 io_wayMany io_random, rI Y (ao 25) 12 res.2.2.2] := by
  refine amf.of (cc := cX12_seen) (maxL := 3) (rt := (some .int)) (by decide) rfl RX12 rfl (Nat.le_of_ble_eq_true rfl) [some (.ref (ao 0)), some (.int x1), some (.int x2)] rfl ?_
  intro X C hQ
  unfold fX12_seen at hf
  refine a_aload_n C dX12_seen_0 rfl ?_
  refine a_iconst C (0 : Int32) dX12_seen_1 (by decide) ?_
  refine a_put C eX12_seen_112 tfX12_0 dX12_seen_2 0 rfl rfl rfl (Nat.le_of_ble_eq_true rfl) ?_
  refine a_aload_n C dX12_seen_5 rfl ?_
  refine a_iload_n C dX12_seen_6 rfl ?_
  obtain ⟨r3, h3, hf⟩ := fx_bind hf
  refine a_fV C (kX12_isCell l D Y ao (0 : Int32) io_rows io_cells io_children io_changes io_taped io_at io_to io_nest io_readMany io_codeLong io_readLong io_undos io_wentHome io_tideLevel io_acts io_firstBreaks io_bestCrew io_sights io_wayMany io_random x1 r3 h3) gX12_seen_X12_isCell rfl dvX12_isCell ⟨⟨rfl, rfl⟩, ⟨Nat.le_of_ble_eq_true rfl, Nat.le_of_ble_eq_true rfl⟩, ⟨Nat.le_of_ble_eq_true rfl, Nat.le_of_ble_eq_true rfl⟩⟩ rfl (Nat.le_of_ble_eq_true rfl) dX12_seen_7 rfl rfl [0] [1] ⟨rfl, trivial⟩ rfl rfl [oX12 ao (0 : Int32) io_rows io_cells io_children io_changes io_taped io_at io_to io_nest io_readMany io_codeLong io_readLong io_undos io_wentHome io_tideLevel io_acts io_firstBreaks io_bestCrew io_sights io_wayMany io_random, rI Y (ao 25) 12 co_sightOf] ⟨rfl, trivial⟩ ⟨rfl, trivial⟩ rfl ?_
  refine a_if_eq C 47 dX12_seen_10 (by decide) (fun h4 => ?_) (fun h4 => ?_)
  · have hf := fx_t h4 hf
    refine a_kill [0, 1, 2] ?_
    exact kX12_seen_b47 C hQ hf
  · have hf := fx_f h4 hf
    refine a_iload_n C dX12_seen_13 rfl ?_
    refine a_i2l C dX12_seen_14 ?_
    refine a_lconst C (0 : Int64) dX12_seen_15 (by decide) ?_
    refine a_ldc2 C (99 : Int64) dX12_seen_16 eX12_seen_k369 ?_
    obtain ⟨r5, h5, hf⟩ := fx_bind hf
    refine a_fS C (kX12_in l D Y (x2.toInt64) (0 : Int64) (99 : Int64) r5 h5) gX12_seen_X12_in rfl dvX12_in ⟨⟨rfl, rfl⟩, ⟨Nat.le_of_ble_eq_true rfl, Nat.le_of_ble_eq_true rfl⟩, ⟨Nat.le_of_ble_eq_true rfl, Nat.le_of_ble_eq_true rfl⟩⟩ rfl (Nat.le_of_ble_eq_true rfl) dX12_seen_19 [] [0, 1] trivial rfl rfl [oX12 ao (0 : Int32) io_rows io_cells io_children io_changes io_taped io_at io_to io_nest io_readMany io_codeLong io_readLong io_undos io_wentHome io_tideLevel io_acts io_firstBreaks io_bestCrew io_sights io_wayMany io_random, rI Y (ao 25) 12 co_sightOf] trivial ⟨rfl, rfl, trivial⟩ rfl ?_
    refine a_if_eq C 47 dX12_seen_22 (by decide) (fun h6 => ?_) (fun h6 => ?_)
    · have hf := fx_t h6 hf
      refine a_kill [0, 1, 2] ?_
      exact kX12_seen_b47 C hQ hf
    · have hf := fx_f h6 hf
      refine a_aload_n C dX12_seen_25 rfl ?_
      refine a_get C eX12_seen_188 dX12_seen_26 0 rfl rfl ?_
      refine a_iload_n C dX12_seen_29 rfl ?_
      obtain ⟨r7, h7, hf⟩ := fx_bind hf
      refine a_fS C (kX12_has l D Y io_sights x1 r7 h7) gX12_seen_X12_has rfl dvX12_has ⟨⟨rfl, rfl⟩, ⟨Nat.le_of_ble_eq_true rfl, Nat.le_of_ble_eq_true rfl⟩, ⟨Nat.le_of_ble_eq_true rfl, Nat.le_of_ble_eq_true rfl⟩⟩ rfl (Nat.le_of_ble_eq_true rfl) dX12_seen_30 [] [0, 1] trivial rfl rfl [oX12 ao (0 : Int32) io_rows io_cells io_children io_changes io_taped io_at io_to io_nest io_readMany io_codeLong io_readLong io_undos io_wentHome io_tideLevel io_acts io_firstBreaks io_bestCrew io_sights io_wayMany io_random, rI Y (ao 25) 12 co_sightOf] trivial ⟨rfl, rfl, trivial⟩ rfl ?_
      refine a_if_ne C 49 dX12_seen_33 (by decide) (fun h8 => ?_) (fun h8 => ?_)
      · have hf := fx_f h8 hf
        exact kX12_seen_b49 C hQ hf
      · have hf := fx_t h8 hf
        refine a_aload_n C dX12_seen_36 rfl ?_
        refine a_get C eX12_seen_188 dX12_seen_37 0 rfl rfl ?_
        obtain ⟨r9, h9, hf⟩ := fx_bind hf
        refine a_fS C (kJ6_bitCount_0f7a4 l D Y io_sights r9 h9) gX12_seen_J6_bitCount_0f7a4 rfl dvJ6_bitCount_0f7a4 ⟨⟨rfl, rfl⟩, ⟨Nat.le_of_ble_eq_true rfl, Nat.le_of_ble_eq_true rfl⟩, ⟨Nat.le_of_ble_eq_true rfl, Nat.le_of_ble_eq_true rfl⟩⟩ rfl (Nat.le_of_ble_eq_true rfl) dX12_seen_40 [] [0, 1] trivial rfl rfl [oX12 ao (0 : Int32) io_rows io_cells io_children io_changes io_taped io_at io_to io_nest io_readMany io_codeLong io_readLong io_undos io_wentHome io_tideLevel io_acts io_firstBreaks io_bestCrew io_sights io_wayMany io_random, rI Y (ao 25) 12 co_sightOf] trivial ⟨rfl, rfl, trivial⟩ rfl ?_
        refine a_iconst C (4 : Int32) dX12_seen_43 (by decide) ?_
        refine a_icmp_ne C 49 dX12_seen_44 (by decide) (fun h10 => ?_) (fun h10 => ?_)
        · have hf := fx_f h10 hf
          exact kX12_seen_b49 C hQ hf
        · have hf := fx_t h10 hf
          refine a_kill [0, 1, 2] ?_
          exact kX12_seen_b47 C hQ hf
-- X12_forget
abbrev rmX12_forget : Room := { frames := 1, cells := 0, slots := 0, locals := 20 }
theorem dvX12_forget : yX12_forget.cls = RX12 ∧ yX12_forget.cls ≠ "java/lang/invoke/MethodHandle" ∧ yX12_forget.cls ≠ "java/lang/invoke/VarHandle" ∧ (parseMethodDescriptor yX12_forget.desc).map (fun d => d.parameters.length) = some 0 := by decide +kernel
theorem eX12_forget_inX12 : ∀ w ∈ wsX120, w ∈ wsX12_forget := by decide +kernel
theorem eX12_forget_112 : aF wsX12_forget RX12 112 12 0 := ⟨RX12, TX12, 53, rfl, eX12_forget_inX12, by decide, by decide +kernel⟩
theorem eX12_forget_188 : aF wsX12_forget RX12 188 12 42 := ⟨RX12, TX12, 53, rfl, eX12_forget_inX12, by decide, by decide +kernel⟩
def fX12_forget (io_thrown : Int32) (io_sights : Int32) : Option (Int32 × Int32 × Int32) :=
  (fJ6_bitCount_0f7a4 io_sights).bind (fun r1 => some (r1, (0 : Int32), (0 : Int32)))
set_option maxHeartbeats 400000 in
set_option maxRecDepth 100000 in
theorem kX12_forget (l : Launch) (D : va_G) (Y : Nat → ClassId) (ao : Nat → Nat) (io_thrown : Int32) (io_rows : Int32) (io_cells : Int32) (io_children : Int32) (io_changes : Int32) (io_taped : Int32) (io_at : Int32) (io_to : Int32) (io_nest : Int32) (io_readMany : Int32) (io_codeLong : Int32) (io_readLong : Int32) (io_undos : Int32) (io_wentHome : Int32) (io_tideLevel : Int32) (io_acts : Int32) (io_firstBreaks : Int32) (io_bestCrew : Int32) (io_sights : Int32) (io_wayMany : Int32) (io_random : Int32) (res : Int32 × Int32 × Int32) (hf : fX12_forget io_thrown io_sights = some res) : amf l D Y yX12_forget wsX12_forget rmX12_forget [.ref (ao 0)] [oX12 ao io_thrown io_rows io_cells io_children io_changes io_taped io_at io_to io_nest io_readMany io_codeLong io_readLong io_undos io_wentHome io_tideLevel io_acts io_firstBreaks io_bestCrew io_sights io_wayMany io_random] (some (.int res.1)) [oX12 ao res.2.1 io_rows io_cells io_children io_changes io_taped io_at io_to io_nest io_readMany io_codeLong io_readLong io_undos io_wentHome io_tideLevel io_acts io_firstBreaks io_bestCrew res.2.2 io_wayMany io_random] := by
  refine amf.of (cc := cX12_forget) (maxL := 2) (rt := (some .int)) (by decide) rfl RX12 rfl (Nat.le_of_ble_eq_true rfl) [some (.ref (ao 0)), none] rfl ?_
  intro X C hQ
  unfold fX12_forget at hf
  refine a_aload_n C dX12_forget_0 rfl ?_
  refine a_iconst C (0 : Int32) dX12_forget_1 (by decide) ?_
  refine a_put C eX12_forget_112 tfX12_0 dX12_forget_2 0 rfl rfl rfl (Nat.le_of_ble_eq_true rfl) ?_
  refine a_aload_n C dX12_forget_5 rfl ?_
  refine a_get C eX12_forget_188 dX12_forget_6 0 rfl rfl ?_
  obtain ⟨r1, h1, hf⟩ := fx_bind hf
  refine a_fS C (kJ6_bitCount_0f7a4 l D Y io_sights r1 h1) gX12_forget_J6_bitCount_0f7a4 rfl dvJ6_bitCount_0f7a4 ⟨⟨rfl, rfl⟩, ⟨Nat.le_of_ble_eq_true rfl, Nat.le_of_ble_eq_true rfl⟩, ⟨Nat.le_of_ble_eq_true rfl, Nat.le_of_ble_eq_true rfl⟩⟩ rfl (Nat.le_of_ble_eq_true rfl) dX12_forget_9 [] [0] trivial rfl rfl [oX12 ao (0 : Int32) io_rows io_cells io_children io_changes io_taped io_at io_to io_nest io_readMany io_codeLong io_readLong io_undos io_wentHome io_tideLevel io_acts io_firstBreaks io_bestCrew io_sights io_wayMany io_random] trivial ⟨rfl, trivial⟩ rfl ?_
  refine a_istore_n C dX12_forget_12 (by decide) rfl ?_
  refine a_aload_n C dX12_forget_13 rfl ?_
  refine a_iconst C (0 : Int32) dX12_forget_14 (by decide) ?_
  refine a_put C eX12_forget_188 tfX12_42 dX12_forget_15 0 rfl rfl rfl (Nat.le_of_ble_eq_true rfl) ?_
  refine a_iload_n C dX12_forget_18 rfl ?_
  obtain rfl := fx_some hf
  exact a_iret C hQ dX12_forget_19 ⟨rfl, rfl⟩
-- X12_isAsSeen
abbrev rmX12_isAsSeen : Room := { frames := 1, cells := 0, slots := 0, locals := 21 }
theorem dvX12_isAsSeen : yX12_isAsSeen.cls = RX12 ∧ yX12_isAsSeen.cls ≠ "java/lang/invoke/MethodHandle" ∧ yX12_isAsSeen.cls ≠ "java/lang/invoke/VarHandle" ∧ (parseMethodDescriptor yX12_isAsSeen.desc).map (fun d => d.parameters.length) = some 0 := by decide +kernel
theorem eX12_isAsSeen_inX12 : ∀ w ∈ wsX120, w ∈ wsX12_isAsSeen := by decide +kernel
theorem eX12_isAsSeen_13 : aF wsX12_isAsSeen RX12 13 12 3 := ⟨RX12, TX12, 53, rfl, eX12_isAsSeen_inX12, by decide, by decide +kernel⟩
theorem eX12_isAsSeen_188 : aF wsX12_isAsSeen RX12 188 12 42 := ⟨RX12, TX12, 53, rfl, eX12_isAsSeen_inX12, by decide, by decide +kernel⟩
theorem eX12_isAsSeen_90 : aF wsX12_isAsSeen RX12 90 12 44 := ⟨RX12, TX12, 53, rfl, eX12_isAsSeen_inX12, by decide, by decide +kernel⟩
theorem eX12_isAsSeen_87 : aF wsX12_isAsSeen RX12 87 12 43 := ⟨RX12, TX12, 53, rfl, eX12_isAsSeen_inX12, by decide, by decide +kernel⟩
def fX12_isAsSeen_b54 (io_cells : Int32) (io_sights : Int32) (co_sightOf : Nat → Int32) (co_built : Nat → Int32) (x1 : Int32) : Option (Int32) :=
  if x1 = 0 ∨ x1 = 1 then some x1 else none
set_option maxHeartbeats 400000 in
set_option maxRecDepth 100000 in
theorem kX12_isAsSeen_b54 {X : cxT} {l : Launch} {D : va_G} {Y : Nat → ClassId} {ao : Nat → Nat} {io_thrown : Int32} {io_rows : Int32} {io_cells : Int32} {io_children : Int32} {io_changes : Int32} {io_taped : Int32} {io_at : Int32} {io_to : Int32} {io_nest : Int32} {io_readMany : Int32} {io_codeLong : Int32} {io_readLong : Int32} {io_undos : Int32} {io_wentHome : Int32} {io_tideLevel : Int32} {io_acts : Int32} {io_firstBreaks : Int32} {io_bestCrew : Int32} {io_sights : Int32} {io_wayMany : Int32} {io_random : Int32} {co_sightOf : Nat → Int32} {co_built : Nat → Int32} {x1 : Int32} {res : Int32} (C : axC X l D Y cX12_isAsSeen 3 RX12 wsX12_isAsSeen rmX12_isAsSeen (some .boolean)) (hQ : axQ X 0 0 (fun r9 w9 => r9 = (some (.int res)) ∧ w9 = [oX12 ao io_thrown io_rows io_cells io_children io_changes io_taped io_at io_to io_nest io_readMany io_codeLong io_readLong io_undos io_wentHome io_tideLevel io_acts io_firstBreaks io_bestCrew io_sights io_wayMany io_random, rI Y (ao 25) 12 co_sightOf, rI Y (ao 26) 12 co_built])) (hf : fX12_isAsSeen_b54 io_cells io_sights co_sightOf co_built x1 = some res) : ax X 0 0 54 [none, some (.int x1), none] [oX12 ao io_thrown io_rows io_cells io_children io_changes io_taped io_at io_to io_nest io_readMany io_codeLong io_readLong io_undos io_wentHome io_tideLevel io_acts io_firstBreaks io_bestCrew io_sights io_wayMany io_random, rI Y (ao 25) 12 co_sightOf, rI Y (ao 26) 12 co_built] [] := by
  unfold fX12_isAsSeen_b54 at hf
  refine a_iload_n C dX12_isAsSeen_54 rfl ?_
  obtain ⟨h1, hf⟩ := fx_ite hf
  obtain rfl := fx_some hf
  exact a_zret C hQ h1 dX12_isAsSeen_55 ⟨rfl, rfl⟩
def fX12_isAsSeen_b47 (io_cells : Int32) (io_sights : Int32) (co_sightOf : Nat → Int32) (co_built : Nat → Int32) (x2 : Int32) (s0 : Int32) (k4 : Int32 × Int32 → Option (Int32)) : Option (Int32) :=
  k4 (s0, (x2 + (1 : Int32)))
set_option maxHeartbeats 400000 in
set_option maxRecDepth 100000 in
theorem kX12_isAsSeen_b47 {X : cxT} {l : Launch} {D : va_G} {Y : Nat → ClassId} {ao : Nat → Nat} {io_thrown : Int32} {io_rows : Int32} {io_cells : Int32} {io_children : Int32} {io_changes : Int32} {io_taped : Int32} {io_at : Int32} {io_to : Int32} {io_nest : Int32} {io_readMany : Int32} {io_codeLong : Int32} {io_readLong : Int32} {io_undos : Int32} {io_wentHome : Int32} {io_tideLevel : Int32} {io_acts : Int32} {io_firstBreaks : Int32} {io_bestCrew : Int32} {io_sights : Int32} {io_wayMany : Int32} {io_random : Int32} {co_sightOf : Nat → Int32} {co_built : Nat → Int32} {x2 : Int32} {s0 : Int32} {res : Int32} (C : axC X l D Y cX12_isAsSeen 3 RX12 wsX12_isAsSeen rmX12_isAsSeen (some .boolean)) (hQ : axQ X 0 0 (fun r9 w9 => r9 = (some (.int res)) ∧ w9 = [oX12 ao io_thrown io_rows io_cells io_children io_changes io_taped io_at io_to io_nest io_readMany io_codeLong io_readLong io_undos io_wentHome io_tideLevel io_acts io_firstBreaks io_bestCrew io_sights io_wayMany io_random, rI Y (ao 25) 12 co_sightOf, rI Y (ao 26) 12 co_built])) {k4 : Int32 × Int32 → Option (Int32)} (hk4 : ∀ s : Int32 × Int32, k4 s = some res → ax X 0 0 4 [some (.ref (ao 0)), some (.int s.1), some (.int s.2)] [oX12 ao io_thrown io_rows io_cells io_children io_changes io_taped io_at io_to io_nest io_readMany io_codeLong io_readLong io_undos io_wentHome io_tideLevel io_acts io_firstBreaks io_bestCrew io_sights io_wayMany io_random, rI Y (ao 25) 12 co_sightOf, rI Y (ao 26) 12 co_built] []) (hf : fX12_isAsSeen_b47 io_cells io_sights co_sightOf co_built x2 s0 k4 = some res) : ax X 0 0 47 [some (.ref (ao 0)), none, some (.int x2)] [oX12 ao io_thrown io_rows io_cells io_children io_changes io_taped io_at io_to io_nest io_readMany io_codeLong io_readLong io_undos io_wentHome io_tideLevel io_acts io_firstBreaks io_bestCrew io_sights io_wayMany io_random, rI Y (ao 25) 12 co_sightOf, rI Y (ao 26) 12 co_built] [.int s0] := by
  unfold fX12_isAsSeen_b47 at hf
  refine a_istore_n C dX12_isAsSeen_47 (by decide) rfl ?_
  refine a_iinc C (1 : Int32) dX12_isAsSeen_48 (by decide) rfl (by decide) rfl ?_
  refine a_goto C 4 dX12_isAsSeen_51 (by decide) ?_
  exact hk4 (s0, (x2 + (1 : Int32))) hf
def fX12_isAsSeen_b46 (io_cells : Int32) (io_sights : Int32) (co_sightOf : Nat → Int32) (co_built : Nat → Int32) (x2 : Int32) (k4 : Int32 × Int32 → Option (Int32)) : Option (Int32) :=
  fX12_isAsSeen_b47 io_cells io_sights co_sightOf co_built x2 (0 : Int32) k4
set_option maxHeartbeats 400000 in
set_option maxRecDepth 100000 in
theorem kX12_isAsSeen_b46 {X : cxT} {l : Launch} {D : va_G} {Y : Nat → ClassId} {ao : Nat → Nat} {io_thrown : Int32} {io_rows : Int32} {io_cells : Int32} {io_children : Int32} {io_changes : Int32} {io_taped : Int32} {io_at : Int32} {io_to : Int32} {io_nest : Int32} {io_readMany : Int32} {io_codeLong : Int32} {io_readLong : Int32} {io_undos : Int32} {io_wentHome : Int32} {io_tideLevel : Int32} {io_acts : Int32} {io_firstBreaks : Int32} {io_bestCrew : Int32} {io_sights : Int32} {io_wayMany : Int32} {io_random : Int32} {co_sightOf : Nat → Int32} {co_built : Nat → Int32} {x2 : Int32} {res : Int32} (C : axC X l D Y cX12_isAsSeen 3 RX12 wsX12_isAsSeen rmX12_isAsSeen (some .boolean)) (hQ : axQ X 0 0 (fun r9 w9 => r9 = (some (.int res)) ∧ w9 = [oX12 ao io_thrown io_rows io_cells io_children io_changes io_taped io_at io_to io_nest io_readMany io_codeLong io_readLong io_undos io_wentHome io_tideLevel io_acts io_firstBreaks io_bestCrew io_sights io_wayMany io_random, rI Y (ao 25) 12 co_sightOf, rI Y (ao 26) 12 co_built])) {k4 : Int32 × Int32 → Option (Int32)} (hk4 : ∀ s : Int32 × Int32, k4 s = some res → ax X 0 0 4 [some (.ref (ao 0)), some (.int s.1), some (.int s.2)] [oX12 ao io_thrown io_rows io_cells io_children io_changes io_taped io_at io_to io_nest io_readMany io_codeLong io_readLong io_undos io_wentHome io_tideLevel io_acts io_firstBreaks io_bestCrew io_sights io_wayMany io_random, rI Y (ao 25) 12 co_sightOf, rI Y (ao 26) 12 co_built] []) (hf : fX12_isAsSeen_b46 io_cells io_sights co_sightOf co_built x2 k4 = some res) : ax X 0 0 46 [some (.ref (ao 0)), none, some (.int x2)] [oX12 ao io_thrown io_rows io_cells io_children io_changes io_taped io_at io_to io_nest io_readMany io_codeLong io_readLong io_undos io_wentHome io_tideLevel io_acts io_firstBreaks io_bestCrew io_sights io_wayMany io_random, rI Y (ao 25) 12 co_sightOf, rI Y (ao 26) 12 co_built] [] := by
  unfold fX12_isAsSeen_b46 at hf
  refine a_iconst C (0 : Int32) dX12_isAsSeen_46 (by decide) ?_
  exact kX12_isAsSeen_b47 C hQ hk4 hf
def fX12_isAsSeen_b42 (io_cells : Int32) (io_sights : Int32) (co_sightOf : Nat → Int32) (co_built : Nat → Int32) (x2 : Int32) (k4 : Int32 × Int32 → Option (Int32)) : Option (Int32) :=
  fX12_isAsSeen_b47 io_cells io_sights co_sightOf co_built x2 (1 : Int32) k4
set_option maxHeartbeats 400000 in
set_option maxRecDepth 100000 in
theorem kX12_isAsSeen_b42 {X : cxT} {l : Launch} {D : va_G} {Y : Nat → ClassId} {ao : Nat → Nat} {io_thrown : Int32} {io_rows : Int32} {io_cells : Int32} {io_children : Int32} {io_changes : Int32} {io_taped : Int32} {io_at : Int32} {io_to : Int32} {io_nest : Int32} {io_readMany : Int32} {io_codeLong : Int32} {io_readLong : Int32} {io_undos : Int32} {io_wentHome : Int32} {io_tideLevel : Int32} {io_acts : Int32} {io_firstBreaks : Int32} {io_bestCrew : Int32} {io_sights : Int32} {io_wayMany : Int32} {io_random : Int32} {co_sightOf : Nat → Int32} {co_built : Nat → Int32} {x2 : Int32} {res : Int32} (C : axC X l D Y cX12_isAsSeen 3 RX12 wsX12_isAsSeen rmX12_isAsSeen (some .boolean)) (hQ : axQ X 0 0 (fun r9 w9 => r9 = (some (.int res)) ∧ w9 = [oX12 ao io_thrown io_rows io_cells io_children io_changes io_taped io_at io_to io_nest io_readMany io_codeLong io_readLong io_undos io_wentHome io_tideLevel io_acts io_firstBreaks io_bestCrew io_sights io_wayMany io_random, rI Y (ao 25) 12 co_sightOf, rI Y (ao 26) 12 co_built])) {k4 : Int32 × Int32 → Option (Int32)} (hk4 : ∀ s : Int32 × Int32, k4 s = some res → ax X 0 0 4 [some (.ref (ao 0)), some (.int s.1), some (.int s.2)] [oX12 ao io_thrown io_rows io_cells io_children io_changes io_taped io_at io_to io_nest io_readMany io_codeLong io_readLong io_undos io_wentHome io_tideLevel io_acts io_firstBreaks io_bestCrew io_sights io_wayMany io_random, rI Y (ao 25) 12 co_sightOf, rI Y (ao 26) 12 co_built] []) (hf : fX12_isAsSeen_b42 io_cells io_sights co_sightOf co_built x2 k4 = some res) : ax X 0 0 42 [some (.ref (ao 0)), none, some (.int x2)] [oX12 ao io_thrown io_rows io_cells io_children io_changes io_taped io_at io_to io_nest io_readMany io_codeLong io_readLong io_undos io_wentHome io_tideLevel io_acts io_firstBreaks io_bestCrew io_sights io_wayMany io_random, rI Y (ao 25) 12 co_sightOf, rI Y (ao 26) 12 co_built] [] := by
  unfold fX12_isAsSeen_b42 at hf
  refine a_iconst C (1 : Int32) dX12_isAsSeen_42 (by decide) ?_
  refine a_goto C 47 dX12_isAsSeen_43 (by decide) ?_
  exact kX12_isAsSeen_b47 C hQ hk4 hf
def fX12_isAsSeen_l4 (io_cells : Int32) (io_sights : Int32) (co_sightOf : Nat → Int32) (co_built : Nat → Int32) (k4 : Int32 × Int32 → Option (Int32)) (x1 : Int32) (x2 : Int32) : Option (Int32) :=
  if io_cells ≤ x2 then (fX12_isAsSeen_b54 io_cells io_sights co_sightOf co_built x1) else (if x1 = (0 : Int32) then (fX12_isAsSeen_b46 io_cells io_sights co_sightOf co_built x2 k4) else ((fX12_has io_sights x2).bind (fun r4 => if r4 = (0 : Int32) then (fX12_isAsSeen_b42 io_cells io_sights co_sightOf co_built x2 k4) else (if inb x2 12 then if (co_built (Int32.toNatClampNeg x2)) = (co_sightOf (Int32.toNatClampNeg x2)) then (fX12_isAsSeen_b42 io_cells io_sights co_sightOf co_built x2 k4) else (fX12_isAsSeen_b46 io_cells io_sights co_sightOf co_built x2 k4) else none))))
def fX12_isAsSeen_b4 (io_cells : Int32) (io_sights : Int32) (co_sightOf : Nat → Int32) (co_built : Nat → Int32) (x1 : Int32) (x2 : Int32) : Option (Int32) :=
  loopN (fun (s : Int32 × Int32) k4 => fX12_isAsSeen_l4 io_cells io_sights co_sightOf co_built k4 s.1 s.2) FUEL (x1, x2)
set_option maxHeartbeats 400000 in
set_option maxRecDepth 100000 in
theorem kX12_isAsSeen_l4 {X : cxT} {l : Launch} {D : va_G} {Y : Nat → ClassId} {ao : Nat → Nat} {io_thrown : Int32} {io_rows : Int32} {io_cells : Int32} {io_children : Int32} {io_changes : Int32} {io_taped : Int32} {io_at : Int32} {io_to : Int32} {io_nest : Int32} {io_readMany : Int32} {io_codeLong : Int32} {io_readLong : Int32} {io_undos : Int32} {io_wentHome : Int32} {io_tideLevel : Int32} {io_acts : Int32} {io_firstBreaks : Int32} {io_bestCrew : Int32} {io_sights : Int32} {io_wayMany : Int32} {io_random : Int32} {co_sightOf : Nat → Int32} {co_built : Nat → Int32} {x1 : Int32} {x2 : Int32} {res : Int32} (C : axC X l D Y cX12_isAsSeen 3 RX12 wsX12_isAsSeen rmX12_isAsSeen (some .boolean)) (hQ : axQ X 0 0 (fun r9 w9 => r9 = (some (.int res)) ∧ w9 = [oX12 ao io_thrown io_rows io_cells io_children io_changes io_taped io_at io_to io_nest io_readMany io_codeLong io_readLong io_undos io_wentHome io_tideLevel io_acts io_firstBreaks io_bestCrew io_sights io_wayMany io_random, rI Y (ao 25) 12 co_sightOf, rI Y (ao 26) 12 co_built])) {k4 : Int32 × Int32 → Option (Int32)} (hk4 : ∀ s : Int32 × Int32, k4 s = some res → ax X 0 0 4 [some (.ref (ao 0)), some (.int s.1), some (.int s.2)] [oX12 ao io_thrown io_rows io_cells io_children io_changes io_taped io_at io_to io_nest io_readMany io_codeLong io_readLong io_undos io_wentHome io_tideLevel io_acts io_firstBreaks io_bestCrew io_sights io_wayMany io_random, rI Y (ao 25) 12 co_sightOf, rI Y (ao 26) 12 co_built] []) (hf : fX12_isAsSeen_l4 io_cells io_sights co_sightOf co_built k4 x1 x2 = some res) : ax X 0 0 4 [some (.ref (ao 0)), some (.int x1), some (.int x2)] [oX12 ao io_thrown io_rows io_cells io_children io_changes io_taped io_at io_to io_nest io_readMany io_codeLong io_readLong io_undos io_wentHome io_tideLevel io_acts io_firstBreaks io_bestCrew io_sights io_wayMany io_random, rI Y (ao 25) 12 co_sightOf, rI Y (ao 26) 12 co_built] [] := by
  unfold fX12_isAsSeen_l4 at hf
  refine a_iload_n C dX12_isAsSeen_4 rfl ?_
  refine a_aload_n C dX12_isAsSeen_5 rfl ?_
  refine a_get C eX12_isAsSeen_13 dX12_isAsSeen_6 0 rfl rfl ?_
  refine a_icmp_ge C 54 dX12_isAsSeen_9 (by decide) (fun h2 => ?_) (fun h2 => ?_)
  · have hf := fx_t h2 hf
    refine a_kill [0, 2] ?_
    exact kX12_isAsSeen_b54 C hQ hf
  · have hf := fx_f h2 hf
    refine a_iload_n C dX12_isAsSeen_12 rfl ?_
    refine a_if_eq C 46 dX12_isAsSeen_13 (by decide) (fun h3 => ?_) (fun h3 => ?_)
    · have hf := fx_t h3 hf
      refine a_kill [1] ?_
      exact kX12_isAsSeen_b46 C hQ hk4 hf
    · have hf := fx_f h3 hf
      refine a_aload_n C dX12_isAsSeen_16 rfl ?_
      refine a_get C eX12_isAsSeen_188 dX12_isAsSeen_17 0 rfl rfl ?_
      refine a_iload_n C dX12_isAsSeen_20 rfl ?_
      obtain ⟨r4, h4, hf⟩ := fx_bind hf
      refine a_fS C (kX12_has l D Y io_sights x2 r4 h4) gX12_isAsSeen_X12_has rfl dvX12_has ⟨⟨rfl, rfl⟩, ⟨Nat.le_of_ble_eq_true rfl, Nat.le_of_ble_eq_true rfl⟩, ⟨Nat.le_of_ble_eq_true rfl, Nat.le_of_ble_eq_true rfl⟩⟩ rfl (Nat.le_of_ble_eq_true rfl) dX12_isAsSeen_21 [] [0, 1, 2] trivial rfl rfl [oX12 ao io_thrown io_rows io_cells io_children io_changes io_taped io_at io_to io_nest io_readMany io_codeLong io_readLong io_undos io_wentHome io_tideLevel io_acts io_firstBreaks io_bestCrew io_sights io_wayMany io_random, rI Y (ao 25) 12 co_sightOf, rI Y (ao 26) 12 co_built] trivial ⟨rfl, rfl, rfl, trivial⟩ rfl ?_
      refine a_if_eq C 42 dX12_isAsSeen_24 (by decide) (fun h5 => ?_) (fun h5 => ?_)
      · have hf := fx_t h5 hf
        refine a_kill [1] ?_
        exact kX12_isAsSeen_b42 C hQ hk4 hf
      · have hf := fx_f h5 hf
        refine a_aload_n C dX12_isAsSeen_27 rfl ?_
        refine a_get C eX12_isAsSeen_90 dX12_isAsSeen_28 0 rfl rfl ?_
        refine a_iload_n C dX12_isAsSeen_31 rfl ?_
        obtain ⟨h6, hf⟩ := fx_ite hf
        refine a_iald C dX12_isAsSeen_32 2 rfl h6 ?_
        refine a_aload_n C dX12_isAsSeen_33 rfl ?_
        refine a_get C eX12_isAsSeen_87 dX12_isAsSeen_34 0 rfl rfl ?_
        refine a_iload_n C dX12_isAsSeen_37 rfl ?_
        refine a_iald C dX12_isAsSeen_38 1 rfl h6 ?_
        refine a_icmp_ne C 46 dX12_isAsSeen_39 (by decide) (fun h7 => ?_) (fun h7 => ?_)
        · have hf := fx_f h7 hf
          refine a_kill [1] ?_
          exact kX12_isAsSeen_b46 C hQ hk4 hf
        · have hf := fx_t h7 hf
          refine a_kill [1] ?_
          exact kX12_isAsSeen_b42 C hQ hk4 hf
set_option maxHeartbeats 400000 in
set_option maxRecDepth 100000 in
theorem kX12_isAsSeen_b4 {X : cxT} {l : Launch} {D : va_G} {Y : Nat → ClassId} {ao : Nat → Nat} {io_thrown : Int32} {io_rows : Int32} {io_cells : Int32} {io_children : Int32} {io_changes : Int32} {io_taped : Int32} {io_at : Int32} {io_to : Int32} {io_nest : Int32} {io_readMany : Int32} {io_codeLong : Int32} {io_readLong : Int32} {io_undos : Int32} {io_wentHome : Int32} {io_tideLevel : Int32} {io_acts : Int32} {io_firstBreaks : Int32} {io_bestCrew : Int32} {io_sights : Int32} {io_wayMany : Int32} {io_random : Int32} {co_sightOf : Nat → Int32} {co_built : Nat → Int32} {x1 : Int32} {x2 : Int32} {res : Int32} (C : axC X l D Y cX12_isAsSeen 3 RX12 wsX12_isAsSeen rmX12_isAsSeen (some .boolean)) (hQ : axQ X 0 0 (fun r9 w9 => r9 = (some (.int res)) ∧ w9 = [oX12 ao io_thrown io_rows io_cells io_children io_changes io_taped io_at io_to io_nest io_readMany io_codeLong io_readLong io_undos io_wentHome io_tideLevel io_acts io_firstBreaks io_bestCrew io_sights io_wayMany io_random, rI Y (ao 25) 12 co_sightOf, rI Y (ao 26) 12 co_built])) (hf : fX12_isAsSeen_b4 io_cells io_sights co_sightOf co_built x1 x2 = some res) : ax X 0 0 4 [some (.ref (ao 0)), some (.int x1), some (.int x2)] [oX12 ao io_thrown io_rows io_cells io_children io_changes io_taped io_at io_to io_nest io_readMany io_codeLong io_readLong io_undos io_wentHome io_tideLevel io_acts io_firstBreaks io_bestCrew io_sights io_wayMany io_random, rI Y (ao 25) 12 co_sightOf, rI Y (ao 26) 12 co_built] [] := by
  unfold fX12_isAsSeen_b4 at hf
  exact fx_loop (P := fun s : Int32 × Int32 => ax X 0 0 4 [some (.ref (ao 0)), some (.int s.1), some (.int s.2)] [oX12 ao io_thrown io_rows io_cells io_children io_changes io_taped io_at io_to io_nest io_readMany io_codeLong io_readLong io_undos io_wentHome io_tideLevel io_acts io_firstBreaks io_bestCrew io_sights io_wayMany io_random, rI Y (ao 25) 12 co_sightOf, rI Y (ao 26) 12 co_built] []) (fun s k4 hk4 h => kX12_isAsSeen_l4 C hQ hk4 h) FUEL (x1, x2) hf
def fX12_isAsSeen (io_cells : Int32) (io_sights : Int32) (co_sightOf : Nat → Int32) (co_built : Nat → Int32) : Option (Int32) :=
  fX12_isAsSeen_b4 io_cells io_sights co_sightOf co_built (1 : Int32) (0 : Int32)
set_option maxHeartbeats 400000 in
set_option maxRecDepth 100000 in
theorem kX12_isAsSeen (l : Launch) (D : va_G) (Y : Nat → ClassId) (ao : Nat → Nat) (io_thrown : Int32) (io_rows : Int32) (io_cells : Int32) (io_children : Int32) (io_changes : Int32) (io_taped : Int32) (io_at : Int32) (io_to : Int32) (io_nest : Int32) (io_readMany : Int32) (io_codeLong : Int32) (io_readLong : Int32) (io_undos : Int32) (io_wentHome : Int32) (io_tideLevel : Int32) (io_acts : Int32) (io_firstBreaks : Int32) (io_bestCrew : Int32) (io_sights : Int32) (io_wayMany : Int32) (io_random : Int32) (co_sightOf : Nat → Int32) (co_built : Nat → Int32) (res : Int32) (hf : fX12_isAsSeen io_cells io_sights co_sightOf co_built = some res) : amf l D Y yX12_isAsSeen wsX12_isAsSeen rmX12_isAsSeen [.ref (ao 0)] [oX12 ao io_thrown io_rows io_cells io_children io_changes io_taped io_at io_to io_nest io_readMany io_codeLong io_readLong io_undos io_wentHome io_tideLevel io_acts io_firstBreaks io_bestCrew io_sights io_wayMany io_random, rI Y (ao 25) 12 co_sightOf, rI Y (ao 26) 12 co_built] (some (.int res)) [oX12 ao io_thrown io_rows io_cells io_children io_changes io_taped io_at io_to io_nest io_readMany io_codeLong io_readLong io_undos io_wentHome io_tideLevel io_acts io_firstBreaks io_bestCrew io_sights io_wayMany io_random, rI Y (ao 25) 12 co_sightOf, rI Y (ao 26) 12 co_built] := by
  refine amf.of (cc := cX12_isAsSeen) (maxL := 3) (rt := (some .boolean)) (by decide) rfl RX12 rfl (Nat.le_of_ble_eq_true rfl) [some (.ref (ao 0)), none, none] rfl ?_
  intro X C hQ
  unfold fX12_isAsSeen at hf
  refine a_iconst C (1 : Int32) dX12_isAsSeen_0 (by decide) ?_
  refine a_istore_n C dX12_isAsSeen_1 (by decide) rfl ?_
  refine a_iconst C (0 : Int32) dX12_isAsSeen_2 (by decide) ?_
  refine a_istore_n C dX12_isAsSeen_3 (by decide) rfl ?_
  exact kX12_isAsSeen_b4 C hQ hf
-- X12_placesFrom
theorem dvX12_placesFrom : yX12_placesFrom.cls = RX12 ∧ yX12_placesFrom.cls ≠ "java/lang/invoke/MethodHandle" ∧ yX12_placesFrom.cls ≠ "java/lang/invoke/VarHandle" ∧ (parseMethodDescriptor yX12_placesFrom.desc).map (fun d => d.parameters.length) = some 1 := by decide +kernel
def HX12_placesFrom (l : Launch) (D : va_G) (Y : Nat → ClassId) (rm : Room) (fn : Int32 → Int32 → Int32 → Int32 → (Nat → Int32) → (Nat → Int32) → (Nat → Int32) → (Nat → Int32) → (Nat → Int32) → (Nat → Int32) → Int32 → Option (Int32 × (Nat → Int32) × (Nat → Int32) × (Nat → Int32) × (Nat → Int32))) : Prop := ∀ (ao : Nat → Nat) (io_thrown : Int32) (io_rows : Int32) (io_cells : Int32) (io_children : Int32) (io_changes : Int32) (io_taped : Int32) (io_at : Int32) (io_to : Int32) (io_nest : Int32) (io_readMany : Int32) (io_codeLong : Int32) (io_readLong : Int32) (io_undos : Int32) (io_wentHome : Int32) (io_tideLevel : Int32) (io_acts : Int32) (io_firstBreaks : Int32) (io_bestCrew : Int32) (io_sights : Int32) (io_wayMany : Int32) (io_random : Int32) (co_skill : Nat → Int32) (co_sightOf : Nat → Int32) (co_built : Nat → Int32) (co_place : Nat → Int32) (co_firstPlace : Nat → Int32) (co_canBe : Nat → Int32) (x1 : Int32) (res : Int32 × (Nat → Int32) × (Nat → Int32) × (Nat → Int32) × (Nat → Int32)), fn io_cells io_children io_sights io_wayMany co_skill co_sightOf co_built co_place co_firstPlace co_canBe x1 = some res → amf l D Y yX12_placesFrom wsX12_placesFrom rm [.ref (ao 0), .int x1] [oX12 ao io_thrown io_rows io_cells io_children io_changes io_taped io_at io_to io_nest io_readMany io_codeLong io_readLong io_undos io_wentHome io_tideLevel io_acts io_firstBreaks io_bestCrew io_sights io_wayMany io_random, rI Y (ao 5) 8 co_skill, rI Y (ao 25) 12 co_sightOf, rI Y (ao 26) 12 co_built, rI Y (ao 27) 8 co_place, rI Y (ao 28) 8 co_firstPlace, rI Y (ao 29) 8 co_canBe] none [oX12 ao io_thrown io_rows io_cells io_children io_changes io_taped io_at io_to io_nest io_readMany io_codeLong io_readLong io_undos io_wentHome io_tideLevel io_acts io_firstBreaks io_bestCrew io_sights res.1 io_random, rI Y (ao 5) 8 co_skill, rI Y (ao 25) 12 co_sightOf, rI Y (ao 26) 12 res.2.1, rI Y (ao 27) 8 res.2.2.1, rI Y (ao 28) 8 res.2.2.2.1, rI Y (ao 29) 8 res.2.2.2.2]
abbrev rmX12_placesFrom (f9 l9 : Nat) : Room := { frames := f9 + 2, cells := 0, slots := 0, locals := l9 + 43 }
theorem eX12_placesFrom_inX12 : ∀ w ∈ wsX120, w ∈ wsX12_placesFrom := by decide +kernel
theorem eX12_placesFrom_13 : aF wsX12_placesFrom RX12 13 12 3 := ⟨RX12, TX12, 53, rfl, eX12_placesFrom_inX12, by decide, by decide +kernel⟩
theorem eX12_placesFrom_188 : aF wsX12_placesFrom RX12 188 12 42 := ⟨RX12, TX12, 53, rfl, eX12_placesFrom_inX12, by decide, by decide +kernel⟩
theorem eX12_placesFrom_90 : aF wsX12_placesFrom RX12 90 12 44 := ⟨RX12, TX12, 53, rfl, eX12_placesFrom_inX12, by decide, by decide +kernel⟩
theorem eX12_placesFrom_27 : aF wsX12_placesFrom RX12 27 12 9 := ⟨RX12, TX12, 53, rfl, eX12_placesFrom_inX12, by decide, by decide +kernel⟩
theorem eX12_placesFrom_87 : aF wsX12_placesFrom RX12 87 12 43 := ⟨RX12, TX12, 53, rfl, eX12_placesFrom_inX12, by decide, by decide +kernel⟩
theorem eX12_placesFrom_93 : aF wsX12_placesFrom RX12 93 12 45 := ⟨RX12, TX12, 53, rfl, eX12_placesFrom_inX12, by decide, by decide +kernel⟩
theorem eX12_placesFrom_436 : aF wsX12_placesFrom RX12 436 12 48 := ⟨RX12, TX12, 53, rfl, eX12_placesFrom_inX12, by decide, by decide +kernel⟩
theorem eX12_placesFrom_99 : aF wsX12_placesFrom RX12 99 12 47 := ⟨RX12, TX12, 53, rfl, eX12_placesFrom_inX12, by decide, by decide +kernel⟩
theorem eX12_placesFrom_126 : aF wsX12_placesFrom RX12 126 12 4 := ⟨RX12, TX12, 53, rfl, eX12_placesFrom_inX12, by decide, by decide +kernel⟩
theorem eX12_placesFrom_96 : aF wsX12_placesFrom RX12 96 12 46 := ⟨RX12, TX12, 53, rfl, eX12_placesFrom_inX12, by decide, by decide +kernel⟩
def fX12_placesFrom_b196 (rec_X12_placesFrom : Int32 → Int32 → Int32 → Int32 → (Nat → Int32) → (Nat → Int32) → (Nat → Int32) → (Nat → Int32) → (Nat → Int32) → (Nat → Int32) → Int32 → Option (Int32 × (Nat → Int32) × (Nat → Int32) × (Nat → Int32) × (Nat → Int32))) (io_cells : Int32) (io_children : Int32) (io_sights : Int32) (io_wayMany : Int32) (co_skill : Nat → Int32) (co_sightOf : Nat → Int32) (co_built : Nat → Int32) (co_place : Nat → Int32) (co_firstPlace : Nat → Int32) (co_canBe : Nat → Int32) : Option (Int32 × (Nat → Int32) × (Nat → Int32) × (Nat → Int32) × (Nat → Int32)) :=
  some (io_wayMany, co_built, co_place, co_firstPlace, co_canBe)
set_option maxHeartbeats 400000 in
set_option maxRecDepth 100000 in
theorem kX12_placesFrom_b196 {X : cxT} {l : Launch} {D : va_G} {Y : Nat → ClassId} {ao : Nat → Nat} {io_thrown : Int32} {io_rows : Int32} {io_cells : Int32} {io_children : Int32} {io_changes : Int32} {io_taped : Int32} {io_at : Int32} {io_to : Int32} {io_nest : Int32} {io_readMany : Int32} {io_codeLong : Int32} {io_readLong : Int32} {io_undos : Int32} {io_wentHome : Int32} {io_tideLevel : Int32} {io_acts : Int32} {io_firstBreaks : Int32} {io_bestCrew : Int32} {io_sights : Int32} {io_wayMany : Int32} {io_random : Int32} {co_skill : Nat → Int32} {co_sightOf : Nat → Int32} {co_built : Nat → Int32} {co_place : Nat → Int32} {co_firstPlace : Nat → Int32} {co_canBe : Nat → Int32} {res : Int32 × (Nat → Int32) × (Nat → Int32) × (Nat → Int32) × (Nat → Int32)} {f9 l9 : Nat} {rec_X12_placesFrom : Int32 → Int32 → Int32 → Int32 → (Nat → Int32) → (Nat → Int32) → (Nat → Int32) → (Nat → Int32) → (Nat → Int32) → (Nat → Int32) → Int32 → Option (Int32 × (Nat → Int32) × (Nat → Int32) × (Nat → Int32) × (Nat → Int32))} (hrec_X12_placesFrom : HX12_placesFrom l D Y { frames := f9, cells := 0, slots := 0, locals := l9 } rec_X12_placesFrom) (C : axC X l D Y cX12_placesFrom 3 RX12 wsX12_placesFrom (rmX12_placesFrom f9 l9) none) (hQ : axQ X 0 0 (fun r9 w9 => r9 = none ∧ w9 = [oX12 ao io_thrown io_rows io_cells io_children io_changes io_taped io_at io_to io_nest io_readMany io_codeLong io_readLong io_undos io_wentHome io_tideLevel io_acts io_firstBreaks io_bestCrew io_sights res.1 io_random, rI Y (ao 5) 8 co_skill, rI Y (ao 25) 12 co_sightOf, rI Y (ao 26) 12 res.2.1, rI Y (ao 27) 8 res.2.2.1, rI Y (ao 28) 8 res.2.2.2.1, rI Y (ao 29) 8 res.2.2.2.2])) (hf : fX12_placesFrom_b196 rec_X12_placesFrom io_cells io_children io_sights io_wayMany co_skill co_sightOf co_built co_place co_firstPlace co_canBe = some res) : ax X 0 0 196 [none, none, none] [oX12 ao io_thrown io_rows io_cells io_children io_changes io_taped io_at io_to io_nest io_readMany io_codeLong io_readLong io_undos io_wentHome io_tideLevel io_acts io_firstBreaks io_bestCrew io_sights io_wayMany io_random, rI Y (ao 5) 8 co_skill, rI Y (ao 25) 12 co_sightOf, rI Y (ao 26) 12 co_built, rI Y (ao 27) 8 co_place, rI Y (ao 28) 8 co_firstPlace, rI Y (ao 29) 8 co_canBe] [] := by
  unfold fX12_placesFrom_b196 at hf
  obtain rfl := fx_some hf
  exact a_vret C hQ dX12_placesFrom_196 ⟨rfl, rfl⟩
def fX12_placesFrom_b190 (rec_X12_placesFrom : Int32 → Int32 → Int32 → Int32 → (Nat → Int32) → (Nat → Int32) → (Nat → Int32) → (Nat → Int32) → (Nat → Int32) → (Nat → Int32) → Int32 → Option (Int32 × (Nat → Int32) × (Nat → Int32) × (Nat → Int32) × (Nat → Int32))) (io_cells : Int32) (io_children : Int32) (io_sights : Int32) (io_wayMany : Int32) (co_skill : Nat → Int32) (co_sightOf : Nat → Int32) (co_built : Nat → Int32) (co_place : Nat → Int32) (co_firstPlace : Nat → Int32) (co_canBe : Nat → Int32) (x1 : Int32) (x2 : Int32) (k105 : Int32 × (Nat → Int32) × (Nat → Int32) × (Nat → Int32) × (Nat → Int32) × Int32 → Option (Int32 × (Nat → Int32) × (Nat → Int32) × (Nat → Int32) × (Nat → Int32))) : Option (Int32 × (Nat → Int32) × (Nat → Int32) × (Nat → Int32) × (Nat → Int32)) :=
  k105 (io_wayMany, co_built, co_place, co_firstPlace, co_canBe, (x2 + (1 : Int32)))
set_option maxHeartbeats 400000 in
set_option maxRecDepth 100000 in
theorem kX12_placesFrom_b190 {X : cxT} {l : Launch} {D : va_G} {Y : Nat → ClassId} {ao : Nat → Nat} {io_thrown : Int32} {io_rows : Int32} {io_cells : Int32} {io_children : Int32} {io_changes : Int32} {io_taped : Int32} {io_at : Int32} {io_to : Int32} {io_nest : Int32} {io_readMany : Int32} {io_codeLong : Int32} {io_readLong : Int32} {io_undos : Int32} {io_wentHome : Int32} {io_tideLevel : Int32} {io_acts : Int32} {io_firstBreaks : Int32} {io_bestCrew : Int32} {io_sights : Int32} {io_wayMany : Int32} {io_random : Int32} {co_skill : Nat → Int32} {co_sightOf : Nat → Int32} {co_built : Nat → Int32} {co_place : Nat → Int32} {co_firstPlace : Nat → Int32} {co_canBe : Nat → Int32} {x1 : Int32} {x2 : Int32} {res : Int32 × (Nat → Int32) × (Nat → Int32) × (Nat → Int32) × (Nat → Int32)} {f9 l9 : Nat} {rec_X12_placesFrom : Int32 → Int32 → Int32 → Int32 → (Nat → Int32) → (Nat → Int32) → (Nat → Int32) → (Nat → Int32) → (Nat → Int32) → (Nat → Int32) → Int32 → Option (Int32 × (Nat → Int32) × (Nat → Int32) × (Nat → Int32) × (Nat → Int32))} (hrec_X12_placesFrom : HX12_placesFrom l D Y { frames := f9, cells := 0, slots := 0, locals := l9 } rec_X12_placesFrom) (C : axC X l D Y cX12_placesFrom 3 RX12 wsX12_placesFrom (rmX12_placesFrom f9 l9) none) (hQ : axQ X 0 0 (fun r9 w9 => r9 = none ∧ w9 = [oX12 ao io_thrown io_rows io_cells io_children io_changes io_taped io_at io_to io_nest io_readMany io_codeLong io_readLong io_undos io_wentHome io_tideLevel io_acts io_firstBreaks io_bestCrew io_sights res.1 io_random, rI Y (ao 5) 8 co_skill, rI Y (ao 25) 12 co_sightOf, rI Y (ao 26) 12 res.2.1, rI Y (ao 27) 8 res.2.2.1, rI Y (ao 28) 8 res.2.2.2.1, rI Y (ao 29) 8 res.2.2.2.2])) {k105 : Int32 × (Nat → Int32) × (Nat → Int32) × (Nat → Int32) × (Nat → Int32) × Int32 → Option (Int32 × (Nat → Int32) × (Nat → Int32) × (Nat → Int32) × (Nat → Int32))} (hk105 : ∀ s : Int32 × (Nat → Int32) × (Nat → Int32) × (Nat → Int32) × (Nat → Int32) × Int32, k105 s = some res → ax X 0 0 105 [some (.ref (ao 0)), some (.int x1), some (.int s.2.2.2.2.2)] [oX12 ao io_thrown io_rows io_cells io_children io_changes io_taped io_at io_to io_nest io_readMany io_codeLong io_readLong io_undos io_wentHome io_tideLevel io_acts io_firstBreaks io_bestCrew io_sights s.1 io_random, rI Y (ao 5) 8 co_skill, rI Y (ao 25) 12 co_sightOf, rI Y (ao 26) 12 s.2.1, rI Y (ao 27) 8 s.2.2.1, rI Y (ao 28) 8 s.2.2.2.1, rI Y (ao 29) 8 s.2.2.2.2.1] []) (hf : fX12_placesFrom_b190 rec_X12_placesFrom io_cells io_children io_sights io_wayMany co_skill co_sightOf co_built co_place co_firstPlace co_canBe x1 x2 k105 = some res) : ax X 0 0 190 [some (.ref (ao 0)), some (.int x1), some (.int x2)] [oX12 ao io_thrown io_rows io_cells io_children io_changes io_taped io_at io_to io_nest io_readMany io_codeLong io_readLong io_undos io_wentHome io_tideLevel io_acts io_firstBreaks io_bestCrew io_sights io_wayMany io_random, rI Y (ao 5) 8 co_skill, rI Y (ao 25) 12 co_sightOf, rI Y (ao 26) 12 co_built, rI Y (ao 27) 8 co_place, rI Y (ao 28) 8 co_firstPlace, rI Y (ao 29) 8 co_canBe] [] := by
  unfold fX12_placesFrom_b190 at hf
  refine a_iinc C (1 : Int32) dX12_placesFrom_190 (by decide) rfl (by decide) rfl ?_
  refine a_goto C 105 dX12_placesFrom_193 (by decide) ?_
  exact hk105 (io_wayMany, co_built, co_place, co_firstPlace, co_canBe, (x2 + (1 : Int32))) hf
def fX12_placesFrom_l105 (rec_X12_placesFrom : Int32 → Int32 → Int32 → Int32 → (Nat → Int32) → (Nat → Int32) → (Nat → Int32) → (Nat → Int32) → (Nat → Int32) → (Nat → Int32) → Int32 → Option (Int32 × (Nat → Int32) × (Nat → Int32) × (Nat → Int32) × (Nat → Int32))) (io_cells : Int32) (io_children : Int32) (io_sights : Int32) (co_skill : Nat → Int32) (co_sightOf : Nat → Int32) (x1 : Int32) (k105 : Int32 × (Nat → Int32) × (Nat → Int32) × (Nat → Int32) × (Nat → Int32) × Int32 → Option (Int32 × (Nat → Int32) × (Nat → Int32) × (Nat → Int32) × (Nat → Int32))) (io_wayMany : Int32) (co_built : Nat → Int32) (co_place : Nat → Int32) (co_firstPlace : Nat → Int32) (co_canBe : Nat → Int32) (x2 : Int32) : Option (Int32 × (Nat → Int32) × (Nat → Int32) × (Nat → Int32) × (Nat → Int32)) :=
  if io_cells ≤ x2 then (fX12_placesFrom_b196 rec_X12_placesFrom io_cells io_children io_sights io_wayMany co_skill co_sightOf co_built co_place co_firstPlace co_canBe) else ((fX12_has io_sights x2).bind (fun r2 => if r2 = (0 : Int32) then (fX12_placesFrom_b190 rec_X12_placesFrom io_cells io_children io_sights io_wayMany co_skill co_sightOf co_built co_place co_firstPlace co_canBe x1 x2 k105) else (if inb x2 12 then if inb x1 8 then if (co_sightOf (Int32.toNatClampNeg x2)) < ((co_built (Int32.toNatClampNeg x2)) + (co_skill (Int32.toNatClampNeg x1))) then (fX12_placesFrom_b190 rec_X12_placesFrom io_cells io_children io_sights io_wayMany co_skill co_sightOf co_built co_place co_firstPlace co_canBe x1 x2 k105) else ((rec_X12_placesFrom io_cells io_children io_sights io_wayMany co_skill co_sightOf (upd co_built (Int32.toNatClampNeg x2) ((co_built (Int32.toNatClampNeg x2)) + (co_skill (Int32.toNatClampNeg x1)))) (upd co_place (Int32.toNatClampNeg x1) x2) co_firstPlace co_canBe (x1 + (1 : Int32))).bind (fun r7 => fX12_placesFrom_b190 rec_X12_placesFrom io_cells io_children io_sights r7.1 co_skill co_sightOf (upd r7.2.1 (Int32.toNatClampNeg x2) ((r7.2.1 (Int32.toNatClampNeg x2)) - (co_skill (Int32.toNatClampNeg x1)))) r7.2.2.1 r7.2.2.2.1 r7.2.2.2.2 x1 x2 k105)) else none else none)))
def fX12_placesFrom_b105 (rec_X12_placesFrom : Int32 → Int32 → Int32 → Int32 → (Nat → Int32) → (Nat → Int32) → (Nat → Int32) → (Nat → Int32) → (Nat → Int32) → (Nat → Int32) → Int32 → Option (Int32 × (Nat → Int32) × (Nat → Int32) × (Nat → Int32) × (Nat → Int32))) (io_cells : Int32) (io_children : Int32) (io_sights : Int32) (io_wayMany : Int32) (co_skill : Nat → Int32) (co_sightOf : Nat → Int32) (co_built : Nat → Int32) (co_place : Nat → Int32) (co_firstPlace : Nat → Int32) (co_canBe : Nat → Int32) (x1 : Int32) (x2 : Int32) : Option (Int32 × (Nat → Int32) × (Nat → Int32) × (Nat → Int32) × (Nat → Int32)) :=
  loopN (fun (s : Int32 × (Nat → Int32) × (Nat → Int32) × (Nat → Int32) × (Nat → Int32) × Int32) k105 => fX12_placesFrom_l105 rec_X12_placesFrom io_cells io_children io_sights co_skill co_sightOf x1 k105 s.1 s.2.1 s.2.2.1 s.2.2.2.1 s.2.2.2.2.1 s.2.2.2.2.2) FUEL (io_wayMany, co_built, co_place, co_firstPlace, co_canBe, x2)
set_option maxHeartbeats 400000 in
set_option maxRecDepth 100000 in
theorem kX12_placesFrom_l105 {X : cxT} {l : Launch} {D : va_G} {Y : Nat → ClassId} {ao : Nat → Nat} {io_thrown : Int32} {io_rows : Int32} {io_cells : Int32} {io_children : Int32} {io_changes : Int32} {io_taped : Int32} {io_at : Int32} {io_to : Int32} {io_nest : Int32} {io_readMany : Int32} {io_codeLong : Int32} {io_readLong : Int32} {io_undos : Int32} {io_wentHome : Int32} {io_tideLevel : Int32} {io_acts : Int32} {io_firstBreaks : Int32} {io_bestCrew : Int32} {io_sights : Int32} {io_wayMany : Int32} {io_random : Int32} {co_skill : Nat → Int32} {co_sightOf : Nat → Int32} {co_built : Nat → Int32} {co_place : Nat → Int32} {co_firstPlace : Nat → Int32} {co_canBe : Nat → Int32} {x1 : Int32} {x2 : Int32} {res : Int32 × (Nat → Int32) × (Nat → Int32) × (Nat → Int32) × (Nat → Int32)} {f9 l9 : Nat} {rec_X12_placesFrom : Int32 → Int32 → Int32 → Int32 → (Nat → Int32) → (Nat → Int32) → (Nat → Int32) → (Nat → Int32) → (Nat → Int32) → (Nat → Int32) → Int32 → Option (Int32 × (Nat → Int32) × (Nat → Int32) × (Nat → Int32) × (Nat → Int32))} (hrec_X12_placesFrom : HX12_placesFrom l D Y { frames := f9, cells := 0, slots := 0, locals := l9 } rec_X12_placesFrom) (C : axC X l D Y cX12_placesFrom 3 RX12 wsX12_placesFrom (rmX12_placesFrom f9 l9) none) (hQ : axQ X 0 0 (fun r9 w9 => r9 = none ∧ w9 = [oX12 ao io_thrown io_rows io_cells io_children io_changes io_taped io_at io_to io_nest io_readMany io_codeLong io_readLong io_undos io_wentHome io_tideLevel io_acts io_firstBreaks io_bestCrew io_sights res.1 io_random, rI Y (ao 5) 8 co_skill, rI Y (ao 25) 12 co_sightOf, rI Y (ao 26) 12 res.2.1, rI Y (ao 27) 8 res.2.2.1, rI Y (ao 28) 8 res.2.2.2.1, rI Y (ao 29) 8 res.2.2.2.2])) {k105 : Int32 × (Nat → Int32) × (Nat → Int32) × (Nat → Int32) × (Nat → Int32) × Int32 → Option (Int32 × (Nat → Int32) × (Nat → Int32) × (Nat → Int32) × (Nat → Int32))} (hk105 : ∀ s : Int32 × (Nat → Int32) × (Nat → Int32) × (Nat → Int32) × (Nat → Int32) × Int32, k105 s = some res → ax X 0 0 105 [some (.ref (ao 0)), some (.int x1), some (.int s.2.2.2.2.2)] [oX12 ao io_thrown io_rows io_cells io_children io_changes io_taped io_at io_to io_nest io_readMany io_codeLong io_readLong io_undos io_wentHome io_tideLevel io_acts io_firstBreaks io_bestCrew io_sights s.1 io_random, rI Y (ao 5) 8 co_skill, rI Y (ao 25) 12 co_sightOf, rI Y (ao 26) 12 s.2.1, rI Y (ao 27) 8 s.2.2.1, rI Y (ao 28) 8 s.2.2.2.1, rI Y (ao 29) 8 s.2.2.2.2.1] []) (hf : fX12_placesFrom_l105 rec_X12_placesFrom io_cells io_children io_sights co_skill co_sightOf x1 k105 io_wayMany co_built co_place co_firstPlace co_canBe x2 = some res) : ax X 0 0 105 [some (.ref (ao 0)), some (.int x1), some (.int x2)] [oX12 ao io_thrown io_rows io_cells io_children io_changes io_taped io_at io_to io_nest io_readMany io_codeLong io_readLong io_undos io_wentHome io_tideLevel io_acts io_firstBreaks io_bestCrew io_sights io_wayMany io_random, rI Y (ao 5) 8 co_skill, rI Y (ao 25) 12 co_sightOf, rI Y (ao 26) 12 co_built, rI Y (ao 27) 8 co_place, rI Y (ao 28) 8 co_firstPlace, rI Y (ao 29) 8 co_canBe] [] := by
  unfold fX12_placesFrom_l105 at hf
  refine a_iload_n C dX12_placesFrom_105 rfl ?_
  refine a_aload_n C dX12_placesFrom_106 rfl ?_
  refine a_get C eX12_placesFrom_13 dX12_placesFrom_107 0 rfl rfl ?_
  refine a_icmp_ge C 196 dX12_placesFrom_110 (by decide) (fun h1 => ?_) (fun h1 => ?_)
  · have hf := fx_t h1 hf
    refine a_kill [0, 1, 2] ?_
    exact kX12_placesFrom_b196 hrec_X12_placesFrom C hQ hf
  · have hf := fx_f h1 hf
    refine a_aload_n C dX12_placesFrom_113 rfl ?_
    refine a_get C eX12_placesFrom_188 dX12_placesFrom_114 0 rfl rfl ?_
    refine a_iload_n C dX12_placesFrom_117 rfl ?_
    obtain ⟨r2, h2, hf⟩ := fx_bind hf
    refine a_fS C (kX12_has l D Y io_sights x2 r2 h2) gX12_placesFrom_X12_has rfl dvX12_has ⟨⟨rfl, rfl⟩, ⟨by dsimp only; omega, by dsimp only; omega⟩, ⟨Nat.le_of_ble_eq_true rfl, Nat.le_of_ble_eq_true rfl⟩⟩ rfl (Nat.le_of_ble_eq_true rfl) dX12_placesFrom_118 [] [0, 1, 2, 3, 4, 5, 6] trivial rfl rfl [oX12 ao io_thrown io_rows io_cells io_children io_changes io_taped io_at io_to io_nest io_readMany io_codeLong io_readLong io_undos io_wentHome io_tideLevel io_acts io_firstBreaks io_bestCrew io_sights io_wayMany io_random, rI Y (ao 5) 8 co_skill, rI Y (ao 25) 12 co_sightOf, rI Y (ao 26) 12 co_built, rI Y (ao 27) 8 co_place, rI Y (ao 28) 8 co_firstPlace, rI Y (ao 29) 8 co_canBe] trivial ⟨rfl, rfl, rfl, rfl, rfl, rfl, rfl, trivial⟩ rfl ?_
    refine a_if_eq C 190 dX12_placesFrom_121 (by decide) (fun h3 => ?_) (fun h3 => ?_)
    · have hf := fx_t h3 hf
      exact kX12_placesFrom_b190 hrec_X12_placesFrom C hQ hk105 hf
    · have hf := fx_f h3 hf
      refine a_aload_n C dX12_placesFrom_124 rfl ?_
      refine a_get C eX12_placesFrom_90 dX12_placesFrom_125 0 rfl rfl ?_
      refine a_iload_n C dX12_placesFrom_128 rfl ?_
      obtain ⟨h4, hf⟩ := fx_ite hf
      refine a_iald C dX12_placesFrom_129 3 rfl h4 ?_
      refine a_aload_n C dX12_placesFrom_130 rfl ?_
      refine a_get C eX12_placesFrom_27 dX12_placesFrom_131 0 rfl rfl ?_
      refine a_iload_n C dX12_placesFrom_134 rfl ?_
      obtain ⟨h5, hf⟩ := fx_ite hf
      refine a_iald C dX12_placesFrom_135 1 rfl h5 ?_
      refine a_iadd C dX12_placesFrom_136 ?_
      refine a_aload_n C dX12_placesFrom_137 rfl ?_
      refine a_get C eX12_placesFrom_87 dX12_placesFrom_138 0 rfl rfl ?_
      refine a_iload_n C dX12_placesFrom_141 rfl ?_
      refine a_iald C dX12_placesFrom_142 2 rfl h4 ?_
      refine a_icmp_gt C 190 dX12_placesFrom_143 (by decide) (fun h6 => ?_) (fun h6 => ?_)
      · have hf := fx_t h6 hf
        exact kX12_placesFrom_b190 hrec_X12_placesFrom C hQ hk105 hf
      · have hf := fx_f h6 hf
        refine a_aload_n C dX12_placesFrom_146 rfl ?_
        refine a_get C eX12_placesFrom_93 dX12_placesFrom_147 0 rfl rfl ?_
        refine a_iload_n C dX12_placesFrom_150 rfl ?_
        refine a_iload_n C dX12_placesFrom_151 rfl ?_
        refine a_iast C dX12_placesFrom_152 4 rfl h5 ?_
        refine a_aload_n C dX12_placesFrom_153 rfl ?_
        refine a_get C eX12_placesFrom_90 dX12_placesFrom_154 0 rfl rfl ?_
        refine a_iload_n C dX12_placesFrom_157 rfl ?_
        refine a_dup2 C dX12_placesFrom_158 rfl rfl ?_
        refine a_iald C dX12_placesFrom_159 3 rfl h4 ?_
        refine a_aload_n C dX12_placesFrom_160 rfl ?_
        refine a_get C eX12_placesFrom_27 dX12_placesFrom_161 0 rfl rfl ?_
        refine a_iload_n C dX12_placesFrom_164 rfl ?_
        refine a_iald C dX12_placesFrom_165 1 rfl h5 ?_
        refine a_iadd C dX12_placesFrom_166 ?_
        refine a_iast C dX12_placesFrom_167 3 rfl h4 ?_
        refine a_aload_n C dX12_placesFrom_168 rfl ?_
        refine a_iload_n C dX12_placesFrom_169 rfl ?_
        refine a_iconst C (1 : Int32) dX12_placesFrom_170 (by decide) ?_
        refine a_iadd C dX12_placesFrom_171 ?_
        obtain ⟨r7, h7, hf⟩ := fx_bind hf
        refine a_fV C (hrec_X12_placesFrom ao io_thrown io_rows io_cells io_children io_changes io_taped io_at io_to io_nest io_readMany io_codeLong io_readLong io_undos io_wentHome io_tideLevel io_acts io_firstBreaks io_bestCrew io_sights io_wayMany io_random co_skill co_sightOf (upd co_built (Int32.toNatClampNeg x2) ((co_built (Int32.toNatClampNeg x2)) + (co_skill (Int32.toNatClampNeg x1)))) (upd co_place (Int32.toNatClampNeg x1) x2) co_firstPlace co_canBe (x1 + (1 : Int32)) r7 h7) gX12_placesFrom_X12_placesFrom rfl dvX12_placesFrom ⟨⟨rfl, rfl⟩, ⟨by dsimp only; omega, by dsimp only; omega⟩, ⟨Nat.le_of_ble_eq_true rfl, Nat.le_of_ble_eq_true rfl⟩⟩ rfl (Nat.le_of_ble_eq_true rfl) dX12_placesFrom_172 rfl rfl [0, 1, 2, 3, 4, 5, 6] [] ⟨rfl, rfl, rfl, rfl, rfl, rfl, rfl, trivial⟩ rfl rfl [oX12 ao io_thrown io_rows io_cells io_children io_changes io_taped io_at io_to io_nest io_readMany io_codeLong io_readLong io_undos io_wentHome io_tideLevel io_acts io_firstBreaks io_bestCrew io_sights r7.1 io_random, rI Y (ao 5) 8 co_skill, rI Y (ao 25) 12 co_sightOf, rI Y (ao 26) 12 r7.2.1, rI Y (ao 27) 8 r7.2.2.1, rI Y (ao 28) 8 r7.2.2.2.1, rI Y (ao 29) 8 r7.2.2.2.2] ⟨rfl, rfl, rfl, rfl, rfl, rfl, rfl, trivial⟩ trivial rfl ?_
        refine a_aload_n C dX12_placesFrom_175 rfl ?_
        refine a_get C eX12_placesFrom_90 dX12_placesFrom_176 0 rfl rfl ?_
        refine a_iload_n C dX12_placesFrom_179 rfl ?_
        refine a_dup2 C dX12_placesFrom_180 rfl rfl ?_
        refine a_iald C dX12_placesFrom_181 3 rfl h4 ?_
        refine a_aload_n C dX12_placesFrom_182 rfl ?_
        refine a_get C eX12_placesFrom_27 dX12_placesFrom_183 0 rfl rfl ?_
        refine a_iload_n C dX12_placesFrom_186 rfl ?_
        refine a_iald C dX12_placesFrom_187 1 rfl h5 ?_
        refine a_isub C dX12_placesFrom_188 ?_
        refine a_iast C dX12_placesFrom_189 3 rfl h4 ?_
        exact kX12_placesFrom_b190 hrec_X12_placesFrom C hQ hk105 hf
set_option maxHeartbeats 400000 in
set_option maxRecDepth 100000 in
theorem kX12_placesFrom_b105 {X : cxT} {l : Launch} {D : va_G} {Y : Nat → ClassId} {ao : Nat → Nat} {io_thrown : Int32} {io_rows : Int32} {io_cells : Int32} {io_children : Int32} {io_changes : Int32} {io_taped : Int32} {io_at : Int32} {io_to : Int32} {io_nest : Int32} {io_readMany : Int32} {io_codeLong : Int32} {io_readLong : Int32} {io_undos : Int32} {io_wentHome : Int32} {io_tideLevel : Int32} {io_acts : Int32} {io_firstBreaks : Int32} {io_bestCrew : Int32} {io_sights : Int32} {io_wayMany : Int32} {io_random : Int32} {co_skill : Nat → Int32} {co_sightOf : Nat → Int32} {co_built : Nat → Int32} {co_place : Nat → Int32} {co_firstPlace : Nat → Int32} {co_canBe : Nat → Int32} {x1 : Int32} {x2 : Int32} {res : Int32 × (Nat → Int32) × (Nat → Int32) × (Nat → Int32) × (Nat → Int32)} {f9 l9 : Nat} {rec_X12_placesFrom : Int32 → Int32 → Int32 → Int32 → (Nat → Int32) → (Nat → Int32) → (Nat → Int32) → (Nat → Int32) → (Nat → Int32) → (Nat → Int32) → Int32 → Option (Int32 × (Nat → Int32) × (Nat → Int32) × (Nat → Int32) × (Nat → Int32))} (hrec_X12_placesFrom : HX12_placesFrom l D Y { frames := f9, cells := 0, slots := 0, locals := l9 } rec_X12_placesFrom) (C : axC X l D Y cX12_placesFrom 3 RX12 wsX12_placesFrom (rmX12_placesFrom f9 l9) none) (hQ : axQ X 0 0 (fun r9 w9 => r9 = none ∧ w9 = [oX12 ao io_thrown io_rows io_cells io_children io_changes io_taped io_at io_to io_nest io_readMany io_codeLong io_readLong io_undos io_wentHome io_tideLevel io_acts io_firstBreaks io_bestCrew io_sights res.1 io_random, rI Y (ao 5) 8 co_skill, rI Y (ao 25) 12 co_sightOf, rI Y (ao 26) 12 res.2.1, rI Y (ao 27) 8 res.2.2.1, rI Y (ao 28) 8 res.2.2.2.1, rI Y (ao 29) 8 res.2.2.2.2])) (hf : fX12_placesFrom_b105 rec_X12_placesFrom io_cells io_children io_sights io_wayMany co_skill co_sightOf co_built co_place co_firstPlace co_canBe x1 x2 = some res) : ax X 0 0 105 [some (.ref (ao 0)), some (.int x1), some (.int x2)] [oX12 ao io_thrown io_rows io_cells io_children io_changes io_taped io_at io_to io_nest io_readMany io_codeLong io_readLong io_undos io_wentHome io_tideLevel io_acts io_firstBreaks io_bestCrew io_sights io_wayMany io_random, rI Y (ao 5) 8 co_skill, rI Y (ao 25) 12 co_sightOf, rI Y (ao 26) 12 co_built, rI Y (ao 27) 8 co_place, rI Y (ao 28) 8 co_firstPlace, rI Y (ao 29) 8 co_canBe] [] := by
  unfold fX12_placesFrom_b105 at hf
  exact fx_loop (P := fun s : Int32 × (Nat → Int32) × (Nat → Int32) × (Nat → Int32) × (Nat → Int32) × Int32 => ax X 0 0 105 [some (.ref (ao 0)), some (.int x1), some (.int s.2.2.2.2.2)] [oX12 ao io_thrown io_rows io_cells io_children io_changes io_taped io_at io_to io_nest io_readMany io_codeLong io_readLong io_undos io_wentHome io_tideLevel io_acts io_firstBreaks io_bestCrew io_sights s.1 io_random, rI Y (ao 5) 8 co_skill, rI Y (ao 25) 12 co_sightOf, rI Y (ao 26) 12 s.2.1, rI Y (ao 27) 8 s.2.2.1, rI Y (ao 28) 8 s.2.2.2.1, rI Y (ao 29) 8 s.2.2.2.2.1] []) (fun s k105 hk105 h => kX12_placesFrom_l105 hrec_X12_placesFrom C hQ hk105 h) FUEL (io_wayMany, co_built, co_place, co_firstPlace, co_canBe, x2) hf
def fX12_placesFrom_b88 (rec_X12_placesFrom : Int32 → Int32 → Int32 → Int32 → (Nat → Int32) → (Nat → Int32) → (Nat → Int32) → (Nat → Int32) → (Nat → Int32) → (Nat → Int32) → Int32 → Option (Int32 × (Nat → Int32) × (Nat → Int32) × (Nat → Int32) × (Nat → Int32))) (io_cells : Int32) (io_children : Int32) (io_sights : Int32) (io_wayMany : Int32) (co_skill : Nat → Int32) (co_sightOf : Nat → Int32) (co_built : Nat → Int32) (co_place : Nat → Int32) (co_firstPlace : Nat → Int32) (co_canBe : Nat → Int32) : Option (Int32 × (Nat → Int32) × (Nat → Int32) × (Nat → Int32) × (Nat → Int32)) :=
  some (io_wayMany, co_built, co_place, co_firstPlace, co_canBe)
set_option maxHeartbeats 400000 in
set_option maxRecDepth 100000 in
theorem kX12_placesFrom_b88 {X : cxT} {l : Launch} {D : va_G} {Y : Nat → ClassId} {ao : Nat → Nat} {io_thrown : Int32} {io_rows : Int32} {io_cells : Int32} {io_children : Int32} {io_changes : Int32} {io_taped : Int32} {io_at : Int32} {io_to : Int32} {io_nest : Int32} {io_readMany : Int32} {io_codeLong : Int32} {io_readLong : Int32} {io_undos : Int32} {io_wentHome : Int32} {io_tideLevel : Int32} {io_acts : Int32} {io_firstBreaks : Int32} {io_bestCrew : Int32} {io_sights : Int32} {io_wayMany : Int32} {io_random : Int32} {co_skill : Nat → Int32} {co_sightOf : Nat → Int32} {co_built : Nat → Int32} {co_place : Nat → Int32} {co_firstPlace : Nat → Int32} {co_canBe : Nat → Int32} {res : Int32 × (Nat → Int32) × (Nat → Int32) × (Nat → Int32) × (Nat → Int32)} {f9 l9 : Nat} {rec_X12_placesFrom : Int32 → Int32 → Int32 → Int32 → (Nat → Int32) → (Nat → Int32) → (Nat → Int32) → (Nat → Int32) → (Nat → Int32) → (Nat → Int32) → Int32 → Option (Int32 × (Nat → Int32) × (Nat → Int32) × (Nat → Int32) × (Nat → Int32))} (hrec_X12_placesFrom : HX12_placesFrom l D Y { frames := f9, cells := 0, slots := 0, locals := l9 } rec_X12_placesFrom) (C : axC X l D Y cX12_placesFrom 3 RX12 wsX12_placesFrom (rmX12_placesFrom f9 l9) none) (hQ : axQ X 0 0 (fun r9 w9 => r9 = none ∧ w9 = [oX12 ao io_thrown io_rows io_cells io_children io_changes io_taped io_at io_to io_nest io_readMany io_codeLong io_readLong io_undos io_wentHome io_tideLevel io_acts io_firstBreaks io_bestCrew io_sights res.1 io_random, rI Y (ao 5) 8 co_skill, rI Y (ao 25) 12 co_sightOf, rI Y (ao 26) 12 res.2.1, rI Y (ao 27) 8 res.2.2.1, rI Y (ao 28) 8 res.2.2.2.1, rI Y (ao 29) 8 res.2.2.2.2])) (hf : fX12_placesFrom_b88 rec_X12_placesFrom io_cells io_children io_sights io_wayMany co_skill co_sightOf co_built co_place co_firstPlace co_canBe = some res) : ax X 0 0 88 [none, none, none] [oX12 ao io_thrown io_rows io_cells io_children io_changes io_taped io_at io_to io_nest io_readMany io_codeLong io_readLong io_undos io_wentHome io_tideLevel io_acts io_firstBreaks io_bestCrew io_sights io_wayMany io_random, rI Y (ao 5) 8 co_skill, rI Y (ao 25) 12 co_sightOf, rI Y (ao 26) 12 co_built, rI Y (ao 27) 8 co_place, rI Y (ao 28) 8 co_firstPlace, rI Y (ao 29) 8 co_canBe] [] := by
  unfold fX12_placesFrom_b88 at hf
  obtain rfl := fx_some hf
  exact a_vret C hQ dX12_placesFrom_88 ⟨rfl, rfl⟩
def fX12_placesFrom_b78 (rec_X12_placesFrom : Int32 → Int32 → Int32 → Int32 → (Nat → Int32) → (Nat → Int32) → (Nat → Int32) → (Nat → Int32) → (Nat → Int32) → (Nat → Int32) → Int32 → Option (Int32 × (Nat → Int32) × (Nat → Int32) × (Nat → Int32) × (Nat → Int32))) (io_cells : Int32) (io_children : Int32) (io_sights : Int32) (io_wayMany : Int32) (co_skill : Nat → Int32) (co_sightOf : Nat → Int32) (co_built : Nat → Int32) (co_place : Nat → Int32) (co_firstPlace : Nat → Int32) (co_canBe : Nat → Int32) : Option (Int32 × (Nat → Int32) × (Nat → Int32) × (Nat → Int32) × (Nat → Int32)) :=
  fX12_placesFrom_b88 rec_X12_placesFrom io_cells io_children io_sights (io_wayMany + (1 : Int32)) co_skill co_sightOf co_built co_place co_firstPlace co_canBe
set_option maxHeartbeats 400000 in
set_option maxRecDepth 100000 in
theorem kX12_placesFrom_b78 {X : cxT} {l : Launch} {D : va_G} {Y : Nat → ClassId} {ao : Nat → Nat} {io_thrown : Int32} {io_rows : Int32} {io_cells : Int32} {io_children : Int32} {io_changes : Int32} {io_taped : Int32} {io_at : Int32} {io_to : Int32} {io_nest : Int32} {io_readMany : Int32} {io_codeLong : Int32} {io_readLong : Int32} {io_undos : Int32} {io_wentHome : Int32} {io_tideLevel : Int32} {io_acts : Int32} {io_firstBreaks : Int32} {io_bestCrew : Int32} {io_sights : Int32} {io_wayMany : Int32} {io_random : Int32} {co_skill : Nat → Int32} {co_sightOf : Nat → Int32} {co_built : Nat → Int32} {co_place : Nat → Int32} {co_firstPlace : Nat → Int32} {co_canBe : Nat → Int32} {res : Int32 × (Nat → Int32) × (Nat → Int32) × (Nat → Int32) × (Nat → Int32)} {f9 l9 : Nat} {rec_X12_placesFrom : Int32 → Int32 → Int32 → Int32 → (Nat → Int32) → (Nat → Int32) → (Nat → Int32) → (Nat → Int32) → (Nat → Int32) → (Nat → Int32) → Int32 → Option (Int32 × (Nat → Int32) × (Nat → Int32) × (Nat → Int32) × (Nat → Int32))} (hrec_X12_placesFrom : HX12_placesFrom l D Y { frames := f9, cells := 0, slots := 0, locals := l9 } rec_X12_placesFrom) (C : axC X l D Y cX12_placesFrom 3 RX12 wsX12_placesFrom (rmX12_placesFrom f9 l9) none) (hQ : axQ X 0 0 (fun r9 w9 => r9 = none ∧ w9 = [oX12 ao io_thrown io_rows io_cells io_children io_changes io_taped io_at io_to io_nest io_readMany io_codeLong io_readLong io_undos io_wentHome io_tideLevel io_acts io_firstBreaks io_bestCrew io_sights res.1 io_random, rI Y (ao 5) 8 co_skill, rI Y (ao 25) 12 co_sightOf, rI Y (ao 26) 12 res.2.1, rI Y (ao 27) 8 res.2.2.1, rI Y (ao 28) 8 res.2.2.2.1, rI Y (ao 29) 8 res.2.2.2.2])) (hf : fX12_placesFrom_b78 rec_X12_placesFrom io_cells io_children io_sights io_wayMany co_skill co_sightOf co_built co_place co_firstPlace co_canBe = some res) : ax X 0 0 78 [some (.ref (ao 0)), none, none] [oX12 ao io_thrown io_rows io_cells io_children io_changes io_taped io_at io_to io_nest io_readMany io_codeLong io_readLong io_undos io_wentHome io_tideLevel io_acts io_firstBreaks io_bestCrew io_sights io_wayMany io_random, rI Y (ao 5) 8 co_skill, rI Y (ao 25) 12 co_sightOf, rI Y (ao 26) 12 co_built, rI Y (ao 27) 8 co_place, rI Y (ao 28) 8 co_firstPlace, rI Y (ao 29) 8 co_canBe] [] := by
  unfold fX12_placesFrom_b78 at hf
  refine a_aload_n C dX12_placesFrom_78 rfl ?_
  refine a_dup C dX12_placesFrom_79 rfl ?_
  refine a_get C eX12_placesFrom_436 dX12_placesFrom_80 0 rfl rfl ?_
  refine a_iconst C (1 : Int32) dX12_placesFrom_83 (by decide) ?_
  refine a_iadd C dX12_placesFrom_84 ?_
  refine a_put C eX12_placesFrom_436 tfX12_48 dX12_placesFrom_85 0 rfl rfl rfl (Nat.le_of_ble_eq_true rfl) ?_
  refine a_kill [0] ?_
  exact kX12_placesFrom_b88 hrec_X12_placesFrom C hQ hf
def fX12_placesFrom_b52 (rec_X12_placesFrom : Int32 → Int32 → Int32 → Int32 → (Nat → Int32) → (Nat → Int32) → (Nat → Int32) → (Nat → Int32) → (Nat → Int32) → (Nat → Int32) → Int32 → Option (Int32 × (Nat → Int32) × (Nat → Int32) × (Nat → Int32) × (Nat → Int32))) (io_cells : Int32) (io_children : Int32) (io_sights : Int32) (io_wayMany : Int32) (co_skill : Nat → Int32) (co_sightOf : Nat → Int32) (co_built : Nat → Int32) (co_place : Nat → Int32) (co_firstPlace : Nat → Int32) (co_canBe : Nat → Int32) (x2 : Int32) (s1 : Int32) (s2 : Int32) (k17 : (Nat → Int32) × (Nat → Int32) × Int32 → Option (Int32 × (Nat → Int32) × (Nat → Int32) × (Nat → Int32) × (Nat → Int32))) : Option (Int32 × (Nat → Int32) × (Nat → Int32) × (Nat → Int32) × (Nat → Int32)) :=
  if inb s1 8 then if inb x2 8 then k17 ((upd co_firstPlace (Int32.toNatClampNeg s1) s2), (upd co_canBe (Int32.toNatClampNeg x2) ((co_canBe (Int32.toNatClampNeg x2)) ||| (jshl (1 : Int32) ((co_place (Int32.toNatClampNeg x2)) + (1 : Int32))))), (x2 + (1 : Int32))) else none else none
set_option maxHeartbeats 400000 in
set_option maxRecDepth 100000 in
theorem kX12_placesFrom_b52 {X : cxT} {l : Launch} {D : va_G} {Y : Nat → ClassId} {ao : Nat → Nat} {io_thrown : Int32} {io_rows : Int32} {io_cells : Int32} {io_children : Int32} {io_changes : Int32} {io_taped : Int32} {io_at : Int32} {io_to : Int32} {io_nest : Int32} {io_readMany : Int32} {io_codeLong : Int32} {io_readLong : Int32} {io_undos : Int32} {io_wentHome : Int32} {io_tideLevel : Int32} {io_acts : Int32} {io_firstBreaks : Int32} {io_bestCrew : Int32} {io_sights : Int32} {io_wayMany : Int32} {io_random : Int32} {co_skill : Nat → Int32} {co_sightOf : Nat → Int32} {co_built : Nat → Int32} {co_place : Nat → Int32} {co_firstPlace : Nat → Int32} {co_canBe : Nat → Int32} {x2 : Int32} {s1 : Int32} {s2 : Int32} {res : Int32 × (Nat → Int32) × (Nat → Int32) × (Nat → Int32) × (Nat → Int32)} {f9 l9 : Nat} {rec_X12_placesFrom : Int32 → Int32 → Int32 → Int32 → (Nat → Int32) → (Nat → Int32) → (Nat → Int32) → (Nat → Int32) → (Nat → Int32) → (Nat → Int32) → Int32 → Option (Int32 × (Nat → Int32) × (Nat → Int32) × (Nat → Int32) × (Nat → Int32))} (hrec_X12_placesFrom : HX12_placesFrom l D Y { frames := f9, cells := 0, slots := 0, locals := l9 } rec_X12_placesFrom) (C : axC X l D Y cX12_placesFrom 3 RX12 wsX12_placesFrom (rmX12_placesFrom f9 l9) none) (hQ : axQ X 0 0 (fun r9 w9 => r9 = none ∧ w9 = [oX12 ao io_thrown io_rows io_cells io_children io_changes io_taped io_at io_to io_nest io_readMany io_codeLong io_readLong io_undos io_wentHome io_tideLevel io_acts io_firstBreaks io_bestCrew io_sights res.1 io_random, rI Y (ao 5) 8 co_skill, rI Y (ao 25) 12 co_sightOf, rI Y (ao 26) 12 res.2.1, rI Y (ao 27) 8 res.2.2.1, rI Y (ao 28) 8 res.2.2.2.1, rI Y (ao 29) 8 res.2.2.2.2])) {k17 : (Nat → Int32) × (Nat → Int32) × Int32 → Option (Int32 × (Nat → Int32) × (Nat → Int32) × (Nat → Int32) × (Nat → Int32))} (hk17 : ∀ s : (Nat → Int32) × (Nat → Int32) × Int32, k17 s = some res → ax X 0 0 17 [some (.ref (ao 0)), none, some (.int s.2.2)] [oX12 ao io_thrown io_rows io_cells io_children io_changes io_taped io_at io_to io_nest io_readMany io_codeLong io_readLong io_undos io_wentHome io_tideLevel io_acts io_firstBreaks io_bestCrew io_sights io_wayMany io_random, rI Y (ao 5) 8 co_skill, rI Y (ao 25) 12 co_sightOf, rI Y (ao 26) 12 co_built, rI Y (ao 27) 8 co_place, rI Y (ao 28) 8 s.1, rI Y (ao 29) 8 s.2.1] []) (hf : fX12_placesFrom_b52 rec_X12_placesFrom io_cells io_children io_sights io_wayMany co_skill co_sightOf co_built co_place co_firstPlace co_canBe x2 s1 s2 k17 = some res) : ax X 0 0 52 [some (.ref (ao 0)), none, some (.int x2)] [oX12 ao io_thrown io_rows io_cells io_children io_changes io_taped io_at io_to io_nest io_readMany io_codeLong io_readLong io_undos io_wentHome io_tideLevel io_acts io_firstBreaks io_bestCrew io_sights io_wayMany io_random, rI Y (ao 5) 8 co_skill, rI Y (ao 25) 12 co_sightOf, rI Y (ao 26) 12 co_built, rI Y (ao 27) 8 co_place, rI Y (ao 28) 8 co_firstPlace, rI Y (ao 29) 8 co_canBe] [.int s2, .int s1, .ref (ao 28)] := by
  unfold fX12_placesFrom_b52 at hf
  obtain ⟨h8, hf⟩ := fx_ite hf
  refine a_iast C dX12_placesFrom_52 5 rfl h8 ?_
  refine a_aload_n C dX12_placesFrom_53 rfl ?_
  refine a_get C eX12_placesFrom_99 dX12_placesFrom_54 0 rfl rfl ?_
  refine a_iload_n C dX12_placesFrom_57 rfl ?_
  refine a_dup2 C dX12_placesFrom_58 rfl rfl ?_
  obtain ⟨h9, hf⟩ := fx_ite hf
  refine a_iald C dX12_placesFrom_59 6 rfl h9 ?_
  refine a_iconst C (1 : Int32) dX12_placesFrom_60 (by decide) ?_
  refine a_aload_n C dX12_placesFrom_61 rfl ?_
  refine a_get C eX12_placesFrom_93 dX12_placesFrom_62 0 rfl rfl ?_
  refine a_iload_n C dX12_placesFrom_65 rfl ?_
  refine a_iald C dX12_placesFrom_66 4 rfl h9 ?_
  refine a_iconst C (1 : Int32) dX12_placesFrom_67 (by decide) ?_
  refine a_iadd C dX12_placesFrom_68 ?_
  refine a_ishl C dX12_placesFrom_69 ?_
  refine a_ior C dX12_placesFrom_70 ?_
  refine a_iast C dX12_placesFrom_71 6 rfl h9 ?_
  refine a_iinc C (1 : Int32) dX12_placesFrom_72 (by decide) rfl (by decide) rfl ?_
  refine a_goto C 17 dX12_placesFrom_75 (by decide) ?_
  exact hk17 ((upd co_firstPlace (Int32.toNatClampNeg s1) s2), (upd co_canBe (Int32.toNatClampNeg x2) ((co_canBe (Int32.toNatClampNeg x2)) ||| (jshl (1 : Int32) ((co_place (Int32.toNatClampNeg x2)) + (1 : Int32))))), (x2 + (1 : Int32))) hf
def fX12_placesFrom_l17 (rec_X12_placesFrom : Int32 → Int32 → Int32 → Int32 → (Nat → Int32) → (Nat → Int32) → (Nat → Int32) → (Nat → Int32) → (Nat → Int32) → (Nat → Int32) → Int32 → Option (Int32 × (Nat → Int32) × (Nat → Int32) × (Nat → Int32) × (Nat → Int32))) (io_cells : Int32) (io_children : Int32) (io_sights : Int32) (io_wayMany : Int32) (co_skill : Nat → Int32) (co_sightOf : Nat → Int32) (co_built : Nat → Int32) (co_place : Nat → Int32) (k17 : (Nat → Int32) × (Nat → Int32) × Int32 → Option (Int32 × (Nat → Int32) × (Nat → Int32) × (Nat → Int32) × (Nat → Int32))) (co_firstPlace : Nat → Int32) (co_canBe : Nat → Int32) (x2 : Int32) : Option (Int32 × (Nat → Int32) × (Nat → Int32) × (Nat → Int32) × (Nat → Int32)) :=
  if io_children ≤ x2 then (fX12_placesFrom_b78 rec_X12_placesFrom io_cells io_children io_sights io_wayMany co_skill co_sightOf co_built co_place co_firstPlace co_canBe) else (if io_wayMany = (0 : Int32) then (if inb x2 8 then fX12_placesFrom_b52 rec_X12_placesFrom io_cells io_children io_sights io_wayMany co_skill co_sightOf co_built co_place co_firstPlace co_canBe x2 x2 (co_place (Int32.toNatClampNeg x2)) k17 else none) else (if inb x2 8 then fX12_placesFrom_b52 rec_X12_placesFrom io_cells io_children io_sights io_wayMany co_skill co_sightOf co_built co_place co_firstPlace co_canBe x2 x2 (co_firstPlace (Int32.toNatClampNeg x2)) k17 else none))
def fX12_placesFrom_b17 (rec_X12_placesFrom : Int32 → Int32 → Int32 → Int32 → (Nat → Int32) → (Nat → Int32) → (Nat → Int32) → (Nat → Int32) → (Nat → Int32) → (Nat → Int32) → Int32 → Option (Int32 × (Nat → Int32) × (Nat → Int32) × (Nat → Int32) × (Nat → Int32))) (io_cells : Int32) (io_children : Int32) (io_sights : Int32) (io_wayMany : Int32) (co_skill : Nat → Int32) (co_sightOf : Nat → Int32) (co_built : Nat → Int32) (co_place : Nat → Int32) (co_firstPlace : Nat → Int32) (co_canBe : Nat → Int32) (x2 : Int32) : Option (Int32 × (Nat → Int32) × (Nat → Int32) × (Nat → Int32) × (Nat → Int32)) :=
  loopN (fun (s : (Nat → Int32) × (Nat → Int32) × Int32) k17 => fX12_placesFrom_l17 rec_X12_placesFrom io_cells io_children io_sights io_wayMany co_skill co_sightOf co_built co_place k17 s.1 s.2.1 s.2.2) FUEL (co_firstPlace, co_canBe, x2)
set_option maxHeartbeats 400000 in
set_option maxRecDepth 100000 in
theorem kX12_placesFrom_l17 {X : cxT} {l : Launch} {D : va_G} {Y : Nat → ClassId} {ao : Nat → Nat} {io_thrown : Int32} {io_rows : Int32} {io_cells : Int32} {io_children : Int32} {io_changes : Int32} {io_taped : Int32} {io_at : Int32} {io_to : Int32} {io_nest : Int32} {io_readMany : Int32} {io_codeLong : Int32} {io_readLong : Int32} {io_undos : Int32} {io_wentHome : Int32} {io_tideLevel : Int32} {io_acts : Int32} {io_firstBreaks : Int32} {io_bestCrew : Int32} {io_sights : Int32} {io_wayMany : Int32} {io_random : Int32} {co_skill : Nat → Int32} {co_sightOf : Nat → Int32} {co_built : Nat → Int32} {co_place : Nat → Int32} {co_firstPlace : Nat → Int32} {co_canBe : Nat → Int32} {x2 : Int32} {res : Int32 × (Nat → Int32) × (Nat → Int32) × (Nat → Int32) × (Nat → Int32)} {f9 l9 : Nat} {rec_X12_placesFrom : Int32 → Int32 → Int32 → Int32 → (Nat → Int32) → (Nat → Int32) → (Nat → Int32) → (Nat → Int32) → (Nat → Int32) → (Nat → Int32) → Int32 → Option (Int32 × (Nat → Int32) × (Nat → Int32) × (Nat → Int32) × (Nat → Int32))} (hrec_X12_placesFrom : HX12_placesFrom l D Y { frames := f9, cells := 0, slots := 0, locals := l9 } rec_X12_placesFrom) (C : axC X l D Y cX12_placesFrom 3 RX12 wsX12_placesFrom (rmX12_placesFrom f9 l9) none) (hQ : axQ X 0 0 (fun r9 w9 => r9 = none ∧ w9 = [oX12 ao io_thrown io_rows io_cells io_children io_changes io_taped io_at io_to io_nest io_readMany io_codeLong io_readLong io_undos io_wentHome io_tideLevel io_acts io_firstBreaks io_bestCrew io_sights res.1 io_random, rI Y (ao 5) 8 co_skill, rI Y (ao 25) 12 co_sightOf, rI Y (ao 26) 12 res.2.1, rI Y (ao 27) 8 res.2.2.1, rI Y (ao 28) 8 res.2.2.2.1, rI Y (ao 29) 8 res.2.2.2.2])) {k17 : (Nat → Int32) × (Nat → Int32) × Int32 → Option (Int32 × (Nat → Int32) × (Nat → Int32) × (Nat → Int32) × (Nat → Int32))} (hk17 : ∀ s : (Nat → Int32) × (Nat → Int32) × Int32, k17 s = some res → ax X 0 0 17 [some (.ref (ao 0)), none, some (.int s.2.2)] [oX12 ao io_thrown io_rows io_cells io_children io_changes io_taped io_at io_to io_nest io_readMany io_codeLong io_readLong io_undos io_wentHome io_tideLevel io_acts io_firstBreaks io_bestCrew io_sights io_wayMany io_random, rI Y (ao 5) 8 co_skill, rI Y (ao 25) 12 co_sightOf, rI Y (ao 26) 12 co_built, rI Y (ao 27) 8 co_place, rI Y (ao 28) 8 s.1, rI Y (ao 29) 8 s.2.1] []) (hf : fX12_placesFrom_l17 rec_X12_placesFrom io_cells io_children io_sights io_wayMany co_skill co_sightOf co_built co_place k17 co_firstPlace co_canBe x2 = some res) : ax X 0 0 17 [some (.ref (ao 0)), none, some (.int x2)] [oX12 ao io_thrown io_rows io_cells io_children io_changes io_taped io_at io_to io_nest io_readMany io_codeLong io_readLong io_undos io_wentHome io_tideLevel io_acts io_firstBreaks io_bestCrew io_sights io_wayMany io_random, rI Y (ao 5) 8 co_skill, rI Y (ao 25) 12 co_sightOf, rI Y (ao 26) 12 co_built, rI Y (ao 27) 8 co_place, rI Y (ao 28) 8 co_firstPlace, rI Y (ao 29) 8 co_canBe] [] := by
  unfold fX12_placesFrom_l17 at hf
  refine a_iload_n C dX12_placesFrom_17 rfl ?_
  refine a_aload_n C dX12_placesFrom_18 rfl ?_
  refine a_get C eX12_placesFrom_126 dX12_placesFrom_19 0 rfl rfl ?_
  refine a_icmp_ge C 78 dX12_placesFrom_22 (by decide) (fun h10 => ?_) (fun h10 => ?_)
  · have hf := fx_t h10 hf
    refine a_kill [2] ?_
    exact kX12_placesFrom_b78 hrec_X12_placesFrom C hQ hf
  · have hf := fx_f h10 hf
    refine a_aload_n C dX12_placesFrom_25 rfl ?_
    refine a_get C eX12_placesFrom_96 dX12_placesFrom_26 0 rfl rfl ?_
    refine a_iload_n C dX12_placesFrom_29 rfl ?_
    refine a_aload_n C dX12_placesFrom_30 rfl ?_
    refine a_get C eX12_placesFrom_436 dX12_placesFrom_31 0 rfl rfl ?_
    refine a_if_ne C 46 dX12_placesFrom_34 (by decide) (fun h11 => ?_) (fun h11 => ?_)
    · have hf := fx_f h11 hf
      refine a_aload_n C dX12_placesFrom_46 rfl ?_
      refine a_get C eX12_placesFrom_96 dX12_placesFrom_47 0 rfl rfl ?_
      refine a_iload_n C dX12_placesFrom_50 rfl ?_
      obtain ⟨h12, hf⟩ := fx_ite hf
      refine a_iald C dX12_placesFrom_51 5 rfl h12 ?_
      exact kX12_placesFrom_b52 hrec_X12_placesFrom C hQ hk17 hf
    · have hf := fx_t h11 hf
      refine a_aload_n C dX12_placesFrom_37 rfl ?_
      refine a_get C eX12_placesFrom_93 dX12_placesFrom_38 0 rfl rfl ?_
      refine a_iload_n C dX12_placesFrom_41 rfl ?_
      obtain ⟨h13, hf⟩ := fx_ite hf
      refine a_iald C dX12_placesFrom_42 4 rfl h13 ?_
      refine a_goto C 52 dX12_placesFrom_43 (by decide) ?_
      exact kX12_placesFrom_b52 hrec_X12_placesFrom C hQ hk17 hf
set_option maxHeartbeats 400000 in
set_option maxRecDepth 100000 in
theorem kX12_placesFrom_b17 {X : cxT} {l : Launch} {D : va_G} {Y : Nat → ClassId} {ao : Nat → Nat} {io_thrown : Int32} {io_rows : Int32} {io_cells : Int32} {io_children : Int32} {io_changes : Int32} {io_taped : Int32} {io_at : Int32} {io_to : Int32} {io_nest : Int32} {io_readMany : Int32} {io_codeLong : Int32} {io_readLong : Int32} {io_undos : Int32} {io_wentHome : Int32} {io_tideLevel : Int32} {io_acts : Int32} {io_firstBreaks : Int32} {io_bestCrew : Int32} {io_sights : Int32} {io_wayMany : Int32} {io_random : Int32} {co_skill : Nat → Int32} {co_sightOf : Nat → Int32} {co_built : Nat → Int32} {co_place : Nat → Int32} {co_firstPlace : Nat → Int32} {co_canBe : Nat → Int32} {x2 : Int32} {res : Int32 × (Nat → Int32) × (Nat → Int32) × (Nat → Int32) × (Nat → Int32)} {f9 l9 : Nat} {rec_X12_placesFrom : Int32 → Int32 → Int32 → Int32 → (Nat → Int32) → (Nat → Int32) → (Nat → Int32) → (Nat → Int32) → (Nat → Int32) → (Nat → Int32) → Int32 → Option (Int32 × (Nat → Int32) × (Nat → Int32) × (Nat → Int32) × (Nat → Int32))} (hrec_X12_placesFrom : HX12_placesFrom l D Y { frames := f9, cells := 0, slots := 0, locals := l9 } rec_X12_placesFrom) (C : axC X l D Y cX12_placesFrom 3 RX12 wsX12_placesFrom (rmX12_placesFrom f9 l9) none) (hQ : axQ X 0 0 (fun r9 w9 => r9 = none ∧ w9 = [oX12 ao io_thrown io_rows io_cells io_children io_changes io_taped io_at io_to io_nest io_readMany io_codeLong io_readLong io_undos io_wentHome io_tideLevel io_acts io_firstBreaks io_bestCrew io_sights res.1 io_random, rI Y (ao 5) 8 co_skill, rI Y (ao 25) 12 co_sightOf, rI Y (ao 26) 12 res.2.1, rI Y (ao 27) 8 res.2.2.1, rI Y (ao 28) 8 res.2.2.2.1, rI Y (ao 29) 8 res.2.2.2.2])) (hf : fX12_placesFrom_b17 rec_X12_placesFrom io_cells io_children io_sights io_wayMany co_skill co_sightOf co_built co_place co_firstPlace co_canBe x2 = some res) : ax X 0 0 17 [some (.ref (ao 0)), none, some (.int x2)] [oX12 ao io_thrown io_rows io_cells io_children io_changes io_taped io_at io_to io_nest io_readMany io_codeLong io_readLong io_undos io_wentHome io_tideLevel io_acts io_firstBreaks io_bestCrew io_sights io_wayMany io_random, rI Y (ao 5) 8 co_skill, rI Y (ao 25) 12 co_sightOf, rI Y (ao 26) 12 co_built, rI Y (ao 27) 8 co_place, rI Y (ao 28) 8 co_firstPlace, rI Y (ao 29) 8 co_canBe] [] := by
  unfold fX12_placesFrom_b17 at hf
  exact fx_loop (P := fun s : (Nat → Int32) × (Nat → Int32) × Int32 => ax X 0 0 17 [some (.ref (ao 0)), none, some (.int s.2.2)] [oX12 ao io_thrown io_rows io_cells io_children io_changes io_taped io_at io_to io_nest io_readMany io_codeLong io_readLong io_undos io_wentHome io_tideLevel io_acts io_firstBreaks io_bestCrew io_sights io_wayMany io_random, rI Y (ao 5) 8 co_skill, rI Y (ao 25) 12 co_sightOf, rI Y (ao 26) 12 co_built, rI Y (ao 27) 8 co_place, rI Y (ao 28) 8 s.1, rI Y (ao 29) 8 s.2.1] []) (fun s k17 hk17 h => kX12_placesFrom_l17 hrec_X12_placesFrom C hQ hk17 h) FUEL (co_firstPlace, co_canBe, x2) hf
def fX12_placesFrom_s (rec_X12_placesFrom : Int32 → Int32 → Int32 → Int32 → (Nat → Int32) → (Nat → Int32) → (Nat → Int32) → (Nat → Int32) → (Nat → Int32) → (Nat → Int32) → Int32 → Option (Int32 × (Nat → Int32) × (Nat → Int32) × (Nat → Int32) × (Nat → Int32))) (io_cells : Int32) (io_children : Int32) (io_sights : Int32) (io_wayMany : Int32) (co_skill : Nat → Int32) (co_sightOf : Nat → Int32) (co_built : Nat → Int32) (co_place : Nat → Int32) (co_firstPlace : Nat → Int32) (co_canBe : Nat → Int32) (x1 : Int32) : Option (Int32 × (Nat → Int32) × (Nat → Int32) × (Nat → Int32) × (Nat → Int32)) :=
  if x1 = io_children then ((fX12_isAsSeen io_cells io_sights co_sightOf co_built).bind (fun r17 => if r17 = (0 : Int32) then (fX12_placesFrom_b88 rec_X12_placesFrom io_cells io_children io_sights io_wayMany co_skill co_sightOf co_built co_place co_firstPlace co_canBe) else (fX12_placesFrom_b17 rec_X12_placesFrom io_cells io_children io_sights io_wayMany co_skill co_sightOf co_built co_place co_firstPlace co_canBe (0 : Int32)))) else (if inb x1 8 then (rec_X12_placesFrom io_cells io_children io_sights io_wayMany co_skill co_sightOf co_built (upd co_place (Int32.toNatClampNeg x1) (-1 : Int32)) co_firstPlace co_canBe (x1 + (1 : Int32))).bind (fun r16 => fX12_placesFrom_b105 rec_X12_placesFrom io_cells io_children io_sights r16.1 co_skill co_sightOf r16.2.1 r16.2.2.1 r16.2.2.2.1 r16.2.2.2.2 x1 (0 : Int32)) else none)
set_option maxHeartbeats 400000 in
set_option maxRecDepth 100000 in
theorem kX12_placesFrom_s (l : Launch) (D : va_G) (Y : Nat → ClassId) (f9 l9 : Nat) (rec_X12_placesFrom : Int32 → Int32 → Int32 → Int32 → (Nat → Int32) → (Nat → Int32) → (Nat → Int32) → (Nat → Int32) → (Nat → Int32) → (Nat → Int32) → Int32 → Option (Int32 × (Nat → Int32) × (Nat → Int32) × (Nat → Int32) × (Nat → Int32))) (hrec_X12_placesFrom : HX12_placesFrom l D Y { frames := f9, cells := 0, slots := 0, locals := l9 } rec_X12_placesFrom) (ao : Nat → Nat) (io_thrown : Int32) (io_rows : Int32) (io_cells : Int32) (io_children : Int32) (io_changes : Int32) (io_taped : Int32) (io_at : Int32) (io_to : Int32) (io_nest : Int32) (io_readMany : Int32) (io_codeLong : Int32) (io_readLong : Int32) (io_undos : Int32) (io_wentHome : Int32) (io_tideLevel : Int32) (io_acts : Int32) (io_firstBreaks : Int32) (io_bestCrew : Int32) (io_sights : Int32) (io_wayMany : Int32) (io_random : Int32) (co_skill : Nat → Int32) (co_sightOf : Nat → Int32) (co_built : Nat → Int32) (co_place : Nat → Int32) (co_firstPlace : Nat → Int32) (co_canBe : Nat → Int32) (x1 : Int32) (res : Int32 × (Nat → Int32) × (Nat → Int32) × (Nat → Int32) × (Nat → Int32)) (hf : fX12_placesFrom_s rec_X12_placesFrom io_cells io_children io_sights io_wayMany co_skill co_sightOf co_built co_place co_firstPlace co_canBe x1 = some res) : amf l D Y yX12_placesFrom wsX12_placesFrom (rmX12_placesFrom f9 l9) [.ref (ao 0), .int x1] [oX12 ao io_thrown io_rows io_cells io_children io_changes io_taped io_at io_to io_nest io_readMany io_codeLong io_readLong io_undos io_wentHome io_tideLevel io_acts io_firstBreaks io_bestCrew io_sights io_wayMany io_random, rI Y (ao 5) 8 co_skill, rI Y (ao 25) 12 co_sightOf, rI Y (ao 26) 12 co_built, rI Y (ao 27) 8 co_place, rI Y (ao 28) 8 co_firstPlace, rI Y (ao 29) 8 co_canBe] none [oX12 ao io_thrown io_rows io_cells io_children io_changes io_taped io_at io_to io_nest io_readMany io_codeLong io_readLong io_undos io_wentHome io_tideLevel io_acts io_firstBreaks io_bestCrew io_sights res.1 io_random, rI Y (ao 5) 8 co_skill, rI Y (ao 25) 12 co_sightOf, rI Y (ao 26) 12 res.2.1, rI Y (ao 27) 8 res.2.2.1, rI Y (ao 28) 8 res.2.2.2.1, rI Y (ao 29) 8 res.2.2.2.2] := by
  refine amf.of (cc := cX12_placesFrom) (maxL := 3) (rt := none) (by decide) rfl RX12 rfl (Nat.le_of_ble_eq_true rfl) [some (.ref (ao 0)), some (.int x1), none] rfl ?_
  intro X C hQ
  unfold fX12_placesFrom_s at hf
  refine a_iload_n C dX12_placesFrom_0 rfl ?_
  refine a_aload_n C dX12_placesFrom_1 rfl ?_
  refine a_get C eX12_placesFrom_126 dX12_placesFrom_2 0 rfl rfl ?_
  refine a_icmp_ne C 89 dX12_placesFrom_5 (by decide) (fun h14 => ?_) (fun h14 => ?_)
  · have hf := fx_f h14 hf
    refine a_aload_n C dX12_placesFrom_89 rfl ?_
    refine a_get C eX12_placesFrom_93 dX12_placesFrom_90 0 rfl rfl ?_
    refine a_iload_n C dX12_placesFrom_93 rfl ?_
    refine a_iconst C (-1 : Int32) dX12_placesFrom_94 (by decide) ?_
    obtain ⟨h15, hf⟩ := fx_ite hf
    refine a_iast C dX12_placesFrom_95 4 rfl h15 ?_
    refine a_aload_n C dX12_placesFrom_96 rfl ?_
    refine a_iload_n C dX12_placesFrom_97 rfl ?_
    refine a_iconst C (1 : Int32) dX12_placesFrom_98 (by decide) ?_
    refine a_iadd C dX12_placesFrom_99 ?_
    obtain ⟨r16, h16, hf⟩ := fx_bind hf
    refine a_fV C (hrec_X12_placesFrom ao io_thrown io_rows io_cells io_children io_changes io_taped io_at io_to io_nest io_readMany io_codeLong io_readLong io_undos io_wentHome io_tideLevel io_acts io_firstBreaks io_bestCrew io_sights io_wayMany io_random co_skill co_sightOf co_built (upd co_place (Int32.toNatClampNeg x1) (-1 : Int32)) co_firstPlace co_canBe (x1 + (1 : Int32)) r16 h16) gX12_placesFrom_X12_placesFrom rfl dvX12_placesFrom ⟨⟨rfl, rfl⟩, ⟨by dsimp only; omega, by dsimp only; omega⟩, ⟨Nat.le_of_ble_eq_true rfl, Nat.le_of_ble_eq_true rfl⟩⟩ rfl (Nat.le_of_ble_eq_true rfl) dX12_placesFrom_100 rfl rfl [0, 1, 2, 3, 4, 5, 6] [] ⟨rfl, rfl, rfl, rfl, rfl, rfl, rfl, trivial⟩ rfl rfl [oX12 ao io_thrown io_rows io_cells io_children io_changes io_taped io_at io_to io_nest io_readMany io_codeLong io_readLong io_undos io_wentHome io_tideLevel io_acts io_firstBreaks io_bestCrew io_sights r16.1 io_random, rI Y (ao 5) 8 co_skill, rI Y (ao 25) 12 co_sightOf, rI Y (ao 26) 12 r16.2.1, rI Y (ao 27) 8 r16.2.2.1, rI Y (ao 28) 8 r16.2.2.2.1, rI Y (ao 29) 8 r16.2.2.2.2] ⟨rfl, rfl, rfl, rfl, rfl, rfl, rfl, trivial⟩ trivial rfl ?_
    refine a_iconst C (0 : Int32) dX12_placesFrom_103 (by decide) ?_
    refine a_istore_n C dX12_placesFrom_104 (by decide) rfl ?_
    exact kX12_placesFrom_b105 hrec_X12_placesFrom C hQ hf
  · have hf := fx_t h14 hf
    refine a_aload_n C dX12_placesFrom_8 rfl ?_
    obtain ⟨r17, h17, hf⟩ := fx_bind hf
    refine a_fV C (kX12_isAsSeen l D Y ao io_thrown io_rows io_cells io_children io_changes io_taped io_at io_to io_nest io_readMany io_codeLong io_readLong io_undos io_wentHome io_tideLevel io_acts io_firstBreaks io_bestCrew io_sights io_wayMany io_random co_sightOf co_built r17 h17) gX12_placesFrom_X12_isAsSeen rfl dvX12_isAsSeen ⟨⟨rfl, rfl⟩, ⟨by dsimp only; omega, by dsimp only; omega⟩, ⟨Nat.le_of_ble_eq_true rfl, Nat.le_of_ble_eq_true rfl⟩⟩ rfl (Nat.le_of_ble_eq_true rfl) dX12_placesFrom_9 rfl rfl [0, 2, 3] [1, 4, 5, 6] ⟨rfl, rfl, rfl, trivial⟩ rfl rfl [oX12 ao io_thrown io_rows io_cells io_children io_changes io_taped io_at io_to io_nest io_readMany io_codeLong io_readLong io_undos io_wentHome io_tideLevel io_acts io_firstBreaks io_bestCrew io_sights io_wayMany io_random, rI Y (ao 5) 8 co_skill, rI Y (ao 25) 12 co_sightOf, rI Y (ao 26) 12 co_built, rI Y (ao 27) 8 co_place, rI Y (ao 28) 8 co_firstPlace, rI Y (ao 29) 8 co_canBe] ⟨rfl, rfl, rfl, trivial⟩ ⟨rfl, rfl, rfl, rfl, trivial⟩ rfl ?_
    refine a_if_eq C 88 dX12_placesFrom_12 (by decide) (fun h18 => ?_) (fun h18 => ?_)
    · have hf := fx_t h18 hf
      refine a_kill [0, 1] ?_
      exact kX12_placesFrom_b88 hrec_X12_placesFrom C hQ hf
    · have hf := fx_f h18 hf
      refine a_iconst C (0 : Int32) dX12_placesFrom_15 (by decide) ?_
      refine a_istore_n C dX12_placesFrom_16 (by decide) rfl ?_
      refine a_kill [1] ?_
      exact kX12_placesFrom_b17 hrec_X12_placesFrom C hQ hf
abbrev RMX12_placesFrom (d : Nat) : Room := { frames := 2 * d, cells := 0, slots := 0, locals := 43 * d }
def fX12_placesFrom : Nat → Int32 → Int32 → Int32 → Int32 → (Nat → Int32) → (Nat → Int32) → (Nat → Int32) → (Nat → Int32) → (Nat → Int32) → (Nat → Int32) → Int32 → Option (Int32 × (Nat → Int32) × (Nat → Int32) × (Nat → Int32) × (Nat → Int32))
  | 0 => fun _ _ _ _ _ _ _ _ _ _ _ => none
  | d + 1 => fX12_placesFrom_s (fX12_placesFrom d)
theorem hX12_placesFrom (l : Launch) (D : va_G) (Y : Nat → ClassId) : ∀ d : Nat, HX12_placesFrom l D Y (RMX12_placesFrom d) (fX12_placesFrom d)
  | 0 => fun _ _ _ _ _ _ _ _ _ _ _ _ _ _ _ _ _ _ _ _ _ _ _ _ _ _ _ _ _ _ h => by cases h
  | d + 1 => fun ao io_thrown io_rows io_cells io_children io_changes io_taped io_at io_to io_nest io_readMany io_codeLong io_readLong io_undos io_wentHome io_tideLevel io_acts io_firstBreaks io_bestCrew io_sights io_wayMany io_random co_skill co_sightOf co_built co_place co_firstPlace co_canBe x1 res h => kX12_placesFrom_s l D Y (2 * d) (43 * d) (fX12_placesFrom d) (hX12_placesFrom l D Y d) ao io_thrown io_rows io_cells io_children io_changes io_taped io_at io_to io_nest io_readMany io_codeLong io_readLong io_undos io_wentHome io_tideLevel io_acts io_firstBreaks io_bestCrew io_sights io_wayMany io_random co_skill co_sightOf co_built co_place co_firstPlace co_canBe x1 res h
abbrev rmX12_placesFrom_12 : Room := RMX12_placesFrom 12
theorem kX12_placesFrom (l : Launch) (D : va_G) (Y : Nat → ClassId) (d : Nat) : HX12_placesFrom l D Y (RMX12_placesFrom d) (fX12_placesFrom d) := hX12_placesFrom l D Y d
-- X12_laysPlaces
abbrev rmX12_laysPlaces : Room := { frames := 25, cells := 0, slots := 0, locals := 538 }
theorem dvX12_laysPlaces : yX12_laysPlaces.cls = RX12 ∧ yX12_laysPlaces.cls ≠ "java/lang/invoke/MethodHandle" ∧ yX12_laysPlaces.cls ≠ "java/lang/invoke/VarHandle" ∧ (parseMethodDescriptor yX12_laysPlaces.desc).map (fun d => d.parameters.length) = some 0 := by decide +kernel
theorem eX12_laysPlaces_inX12 : ∀ w ∈ wsX120, w ∈ wsX12_laysPlaces := by decide +kernel
theorem eX12_laysPlaces_13 : aF wsX12_laysPlaces RX12 13 12 3 := ⟨RX12, TX12, 53, rfl, eX12_laysPlaces_inX12, by decide, by decide +kernel⟩
theorem eX12_laysPlaces_90 : aF wsX12_laysPlaces RX12 90 12 44 := ⟨RX12, TX12, 53, rfl, eX12_laysPlaces_inX12, by decide, by decide +kernel⟩
theorem eX12_laysPlaces_126 : aF wsX12_laysPlaces RX12 126 12 4 := ⟨RX12, TX12, 53, rfl, eX12_laysPlaces_inX12, by decide, by decide +kernel⟩
theorem eX12_laysPlaces_99 : aF wsX12_laysPlaces RX12 99 12 47 := ⟨RX12, TX12, 53, rfl, eX12_laysPlaces_inX12, by decide, by decide +kernel⟩
theorem eX12_laysPlaces_436 : aF wsX12_laysPlaces RX12 436 12 48 := ⟨RX12, TX12, 53, rfl, eX12_laysPlaces_inX12, by decide, by decide +kernel⟩
def fX12_laysPlaces_b51 (io_cells : Int32) (io_children : Int32) (io_sights : Int32) (io_wayMany : Int32) (co_skill : Nat → Int32) (co_sightOf : Nat → Int32) (co_built : Nat → Int32) (co_place : Nat → Int32) (co_firstPlace : Nat → Int32) (co_canBe : Nat → Int32) : Option (Int32 × (Nat → Int32) × (Nat → Int32) × (Nat → Int32) × (Nat → Int32)) :=
  (fX12_placesFrom 12 io_cells io_children io_sights io_wayMany co_skill co_sightOf co_built co_place co_firstPlace co_canBe (0 : Int32)).bind (fun r1 => some (r1.1, r1.2.1, r1.2.2.1, r1.2.2.2.1, r1.2.2.2.2))
set_option maxHeartbeats 400000 in
set_option maxRecDepth 100000 in
theorem kX12_laysPlaces_b51 {X : cxT} {l : Launch} {D : va_G} {Y : Nat → ClassId} {ao : Nat → Nat} {io_thrown : Int32} {io_rows : Int32} {io_cells : Int32} {io_children : Int32} {io_changes : Int32} {io_taped : Int32} {io_at : Int32} {io_to : Int32} {io_nest : Int32} {io_readMany : Int32} {io_codeLong : Int32} {io_readLong : Int32} {io_undos : Int32} {io_wentHome : Int32} {io_tideLevel : Int32} {io_acts : Int32} {io_firstBreaks : Int32} {io_bestCrew : Int32} {io_sights : Int32} {io_wayMany : Int32} {io_random : Int32} {co_skill : Nat → Int32} {co_sightOf : Nat → Int32} {co_built : Nat → Int32} {co_place : Nat → Int32} {co_firstPlace : Nat → Int32} {co_canBe : Nat → Int32} {res : Int32 × (Nat → Int32) × (Nat → Int32) × (Nat → Int32) × (Nat → Int32)} (C : axC X l D Y cX12_laysPlaces 2 RX12 wsX12_laysPlaces rmX12_laysPlaces none) (hQ : axQ X 0 0 (fun r9 w9 => r9 = none ∧ w9 = [oX12 ao io_thrown io_rows io_cells io_children io_changes io_taped io_at io_to io_nest io_readMany io_codeLong io_readLong io_undos io_wentHome io_tideLevel io_acts io_firstBreaks io_bestCrew io_sights res.1 io_random, rI Y (ao 5) 8 co_skill, rI Y (ao 25) 12 co_sightOf, rI Y (ao 26) 12 res.2.1, rI Y (ao 27) 8 res.2.2.1, rI Y (ao 28) 8 res.2.2.2.1, rI Y (ao 29) 8 res.2.2.2.2])) (hf : fX12_laysPlaces_b51 io_cells io_children io_sights io_wayMany co_skill co_sightOf co_built co_place co_firstPlace co_canBe = some res) : ax X 0 0 51 [some (.ref (ao 0)), none] [oX12 ao io_thrown io_rows io_cells io_children io_changes io_taped io_at io_to io_nest io_readMany io_codeLong io_readLong io_undos io_wentHome io_tideLevel io_acts io_firstBreaks io_bestCrew io_sights io_wayMany io_random, rI Y (ao 5) 8 co_skill, rI Y (ao 25) 12 co_sightOf, rI Y (ao 26) 12 co_built, rI Y (ao 27) 8 co_place, rI Y (ao 28) 8 co_firstPlace, rI Y (ao 29) 8 co_canBe] [] := by
  unfold fX12_laysPlaces_b51 at hf
  refine a_aload_n C dX12_laysPlaces_51 rfl ?_
  refine a_iconst C (0 : Int32) dX12_laysPlaces_52 (by decide) ?_
  obtain ⟨r1, h1, hf⟩ := fx_bind hf
  refine a_fV C (kX12_placesFrom l D Y 12 ao io_thrown io_rows io_cells io_children io_changes io_taped io_at io_to io_nest io_readMany io_codeLong io_readLong io_undos io_wentHome io_tideLevel io_acts io_firstBreaks io_bestCrew io_sights io_wayMany io_random co_skill co_sightOf co_built co_place co_firstPlace co_canBe (0 : Int32) r1 h1) gX12_laysPlaces_X12_placesFrom rfl dvX12_placesFrom ⟨⟨rfl, rfl⟩, ⟨Nat.le_of_ble_eq_true rfl, Nat.le_of_ble_eq_true rfl⟩, ⟨Nat.le_of_ble_eq_true rfl, Nat.le_of_ble_eq_true rfl⟩⟩ rfl (Nat.le_of_ble_eq_true rfl) dX12_laysPlaces_53 rfl rfl [0, 1, 2, 3, 4, 5, 6] [] ⟨rfl, rfl, rfl, rfl, rfl, rfl, rfl, trivial⟩ rfl rfl [oX12 ao io_thrown io_rows io_cells io_children io_changes io_taped io_at io_to io_nest io_readMany io_codeLong io_readLong io_undos io_wentHome io_tideLevel io_acts io_firstBreaks io_bestCrew io_sights r1.1 io_random, rI Y (ao 5) 8 co_skill, rI Y (ao 25) 12 co_sightOf, rI Y (ao 26) 12 r1.2.1, rI Y (ao 27) 8 r1.2.2.1, rI Y (ao 28) 8 r1.2.2.2.1, rI Y (ao 29) 8 r1.2.2.2.2] ⟨rfl, rfl, rfl, rfl, rfl, rfl, rfl, trivial⟩ trivial rfl ?_
  obtain rfl := fx_some hf
  exact a_vret C hQ dX12_laysPlaces_56 ⟨rfl, rfl⟩
def fX12_laysPlaces_l30 (io_cells : Int32) (io_children : Int32) (io_sights : Int32) (io_wayMany : Int32) (co_skill : Nat → Int32) (co_sightOf : Nat → Int32) (co_place : Nat → Int32) (co_firstPlace : Nat → Int32) (co_canBe : Nat → Int32) (k30 : (Nat → Int32) × Int32 → Option (Int32 × (Nat → Int32) × (Nat → Int32) × (Nat → Int32) × (Nat → Int32))) (co_built : Nat → Int32) (x1 : Int32) : Option (Int32 × (Nat → Int32) × (Nat → Int32) × (Nat → Int32) × (Nat → Int32)) :=
  if io_cells ≤ x1 then (fX12_laysPlaces_b51 io_cells io_children io_sights io_wayMany co_skill co_sightOf co_built co_place co_firstPlace co_canBe) else (if inb x1 12 then k30 ((upd co_built (Int32.toNatClampNeg x1) (0 : Int32)), (x1 + (1 : Int32))) else none)
def fX12_laysPlaces_b30 (io_cells : Int32) (io_children : Int32) (io_sights : Int32) (io_wayMany : Int32) (co_skill : Nat → Int32) (co_sightOf : Nat → Int32) (co_built : Nat → Int32) (co_place : Nat → Int32) (co_firstPlace : Nat → Int32) (co_canBe : Nat → Int32) (x1 : Int32) : Option (Int32 × (Nat → Int32) × (Nat → Int32) × (Nat → Int32) × (Nat → Int32)) :=
  loopN (fun (s : (Nat → Int32) × Int32) k30 => fX12_laysPlaces_l30 io_cells io_children io_sights io_wayMany co_skill co_sightOf co_place co_firstPlace co_canBe k30 s.1 s.2) FUEL (co_built, x1)
set_option maxHeartbeats 400000 in
set_option maxRecDepth 100000 in
theorem kX12_laysPlaces_l30 {X : cxT} {l : Launch} {D : va_G} {Y : Nat → ClassId} {ao : Nat → Nat} {io_thrown : Int32} {io_rows : Int32} {io_cells : Int32} {io_children : Int32} {io_changes : Int32} {io_taped : Int32} {io_at : Int32} {io_to : Int32} {io_nest : Int32} {io_readMany : Int32} {io_codeLong : Int32} {io_readLong : Int32} {io_undos : Int32} {io_wentHome : Int32} {io_tideLevel : Int32} {io_acts : Int32} {io_firstBreaks : Int32} {io_bestCrew : Int32} {io_sights : Int32} {io_wayMany : Int32} {io_random : Int32} {co_skill : Nat → Int32} {co_sightOf : Nat → Int32} {co_built : Nat → Int32} {co_place : Nat → Int32} {co_firstPlace : Nat → Int32} {co_canBe : Nat → Int32} {x1 : Int32} {res : Int32 × (Nat → Int32) × (Nat → Int32) × (Nat → Int32) × (Nat → Int32)} (C : axC X l D Y cX12_laysPlaces 2 RX12 wsX12_laysPlaces rmX12_laysPlaces none) (hQ : axQ X 0 0 (fun r9 w9 => r9 = none ∧ w9 = [oX12 ao io_thrown io_rows io_cells io_children io_changes io_taped io_at io_to io_nest io_readMany io_codeLong io_readLong io_undos io_wentHome io_tideLevel io_acts io_firstBreaks io_bestCrew io_sights res.1 io_random, rI Y (ao 5) 8 co_skill, rI Y (ao 25) 12 co_sightOf, rI Y (ao 26) 12 res.2.1, rI Y (ao 27) 8 res.2.2.1, rI Y (ao 28) 8 res.2.2.2.1, rI Y (ao 29) 8 res.2.2.2.2])) {k30 : (Nat → Int32) × Int32 → Option (Int32 × (Nat → Int32) × (Nat → Int32) × (Nat → Int32) × (Nat → Int32))} (hk30 : ∀ s : (Nat → Int32) × Int32, k30 s = some res → ax X 0 0 30 [some (.ref (ao 0)), some (.int s.2)] [oX12 ao io_thrown io_rows io_cells io_children io_changes io_taped io_at io_to io_nest io_readMany io_codeLong io_readLong io_undos io_wentHome io_tideLevel io_acts io_firstBreaks io_bestCrew io_sights io_wayMany io_random, rI Y (ao 5) 8 co_skill, rI Y (ao 25) 12 co_sightOf, rI Y (ao 26) 12 s.1, rI Y (ao 27) 8 co_place, rI Y (ao 28) 8 co_firstPlace, rI Y (ao 29) 8 co_canBe] []) (hf : fX12_laysPlaces_l30 io_cells io_children io_sights io_wayMany co_skill co_sightOf co_place co_firstPlace co_canBe k30 co_built x1 = some res) : ax X 0 0 30 [some (.ref (ao 0)), some (.int x1)] [oX12 ao io_thrown io_rows io_cells io_children io_changes io_taped io_at io_to io_nest io_readMany io_codeLong io_readLong io_undos io_wentHome io_tideLevel io_acts io_firstBreaks io_bestCrew io_sights io_wayMany io_random, rI Y (ao 5) 8 co_skill, rI Y (ao 25) 12 co_sightOf, rI Y (ao 26) 12 co_built, rI Y (ao 27) 8 co_place, rI Y (ao 28) 8 co_firstPlace, rI Y (ao 29) 8 co_canBe] [] := by
  unfold fX12_laysPlaces_l30 at hf
  refine a_iload_n C dX12_laysPlaces_30 rfl ?_
  refine a_aload_n C dX12_laysPlaces_31 rfl ?_
  refine a_get C eX12_laysPlaces_13 dX12_laysPlaces_32 0 rfl rfl ?_
  refine a_icmp_ge C 51 dX12_laysPlaces_35 (by decide) (fun h2 => ?_) (fun h2 => ?_)
  · have hf := fx_t h2 hf
    refine a_kill [1] ?_
    exact kX12_laysPlaces_b51 C hQ hf
  · have hf := fx_f h2 hf
    refine a_aload_n C dX12_laysPlaces_38 rfl ?_
    refine a_get C eX12_laysPlaces_90 dX12_laysPlaces_39 0 rfl rfl ?_
    refine a_iload_n C dX12_laysPlaces_42 rfl ?_
    refine a_iconst C (0 : Int32) dX12_laysPlaces_43 (by decide) ?_
    obtain ⟨h3, hf⟩ := fx_ite hf
    refine a_iast C dX12_laysPlaces_44 3 rfl h3 ?_
    refine a_iinc C (1 : Int32) dX12_laysPlaces_45 (by decide) rfl (by decide) rfl ?_
    refine a_goto C 30 dX12_laysPlaces_48 (by decide) ?_
    exact hk30 ((upd co_built (Int32.toNatClampNeg x1) (0 : Int32)), (x1 + (1 : Int32))) hf
set_option maxHeartbeats 400000 in
set_option maxRecDepth 100000 in
theorem kX12_laysPlaces_b30 {X : cxT} {l : Launch} {D : va_G} {Y : Nat → ClassId} {ao : Nat → Nat} {io_thrown : Int32} {io_rows : Int32} {io_cells : Int32} {io_children : Int32} {io_changes : Int32} {io_taped : Int32} {io_at : Int32} {io_to : Int32} {io_nest : Int32} {io_readMany : Int32} {io_codeLong : Int32} {io_readLong : Int32} {io_undos : Int32} {io_wentHome : Int32} {io_tideLevel : Int32} {io_acts : Int32} {io_firstBreaks : Int32} {io_bestCrew : Int32} {io_sights : Int32} {io_wayMany : Int32} {io_random : Int32} {co_skill : Nat → Int32} {co_sightOf : Nat → Int32} {co_built : Nat → Int32} {co_place : Nat → Int32} {co_firstPlace : Nat → Int32} {co_canBe : Nat → Int32} {x1 : Int32} {res : Int32 × (Nat → Int32) × (Nat → Int32) × (Nat → Int32) × (Nat → Int32)} (C : axC X l D Y cX12_laysPlaces 2 RX12 wsX12_laysPlaces rmX12_laysPlaces none) (hQ : axQ X 0 0 (fun r9 w9 => r9 = none ∧ w9 = [oX12 ao io_thrown io_rows io_cells io_children io_changes io_taped io_at io_to io_nest io_readMany io_codeLong io_readLong io_undos io_wentHome io_tideLevel io_acts io_firstBreaks io_bestCrew io_sights res.1 io_random, rI Y (ao 5) 8 co_skill, rI Y (ao 25) 12 co_sightOf, rI Y (ao 26) 12 res.2.1, rI Y (ao 27) 8 res.2.2.1, rI Y (ao 28) 8 res.2.2.2.1, rI Y (ao 29) 8 res.2.2.2.2])) (hf : fX12_laysPlaces_b30 io_cells io_children io_sights io_wayMany co_skill co_sightOf co_built co_place co_firstPlace co_canBe x1 = some res) : ax X 0 0 30 [some (.ref (ao 0)), some (.int x1)] [oX12 ao io_thrown io_rows io_cells io_children io_changes io_taped io_at io_to io_nest io_readMany io_codeLong io_readLong io_undos io_wentHome io_tideLevel io_acts io_firstBreaks io_bestCrew io_sights io_wayMany io_random, rI Y (ao 5) 8 co_skill, rI Y (ao 25) 12 co_sightOf, rI Y (ao 26) 12 co_built, rI Y (ao 27) 8 co_place, rI Y (ao 28) 8 co_firstPlace, rI Y (ao 29) 8 co_canBe] [] := by
  unfold fX12_laysPlaces_b30 at hf
  exact fx_loop (P := fun s : (Nat → Int32) × Int32 => ax X 0 0 30 [some (.ref (ao 0)), some (.int s.2)] [oX12 ao io_thrown io_rows io_cells io_children io_changes io_taped io_at io_to io_nest io_readMany io_codeLong io_readLong io_undos io_wentHome io_tideLevel io_acts io_firstBreaks io_bestCrew io_sights io_wayMany io_random, rI Y (ao 5) 8 co_skill, rI Y (ao 25) 12 co_sightOf, rI Y (ao 26) 12 s.1, rI Y (ao 27) 8 co_place, rI Y (ao 28) 8 co_firstPlace, rI Y (ao 29) 8 co_canBe] []) (fun s k30 hk30 h => kX12_laysPlaces_l30 C hQ hk30 h) FUEL (co_built, x1) hf
def fX12_laysPlaces_b28 (io_cells : Int32) (io_children : Int32) (io_sights : Int32) (io_wayMany : Int32) (co_skill : Nat → Int32) (co_sightOf : Nat → Int32) (co_built : Nat → Int32) (co_place : Nat → Int32) (co_firstPlace : Nat → Int32) (co_canBe : Nat → Int32) : Option (Int32 × (Nat → Int32) × (Nat → Int32) × (Nat → Int32) × (Nat → Int32)) :=
  fX12_laysPlaces_b30 io_cells io_children io_sights io_wayMany co_skill co_sightOf co_built co_place co_firstPlace co_canBe (0 : Int32)
set_option maxHeartbeats 400000 in
set_option maxRecDepth 100000 in
theorem kX12_laysPlaces_b28 {X : cxT} {l : Launch} {D : va_G} {Y : Nat → ClassId} {ao : Nat → Nat} {io_thrown : Int32} {io_rows : Int32} {io_cells : Int32} {io_children : Int32} {io_changes : Int32} {io_taped : Int32} {io_at : Int32} {io_to : Int32} {io_nest : Int32} {io_readMany : Int32} {io_codeLong : Int32} {io_readLong : Int32} {io_undos : Int32} {io_wentHome : Int32} {io_tideLevel : Int32} {io_acts : Int32} {io_firstBreaks : Int32} {io_bestCrew : Int32} {io_sights : Int32} {io_wayMany : Int32} {io_random : Int32} {co_skill : Nat → Int32} {co_sightOf : Nat → Int32} {co_built : Nat → Int32} {co_place : Nat → Int32} {co_firstPlace : Nat → Int32} {co_canBe : Nat → Int32} {res : Int32 × (Nat → Int32) × (Nat → Int32) × (Nat → Int32) × (Nat → Int32)} (C : axC X l D Y cX12_laysPlaces 2 RX12 wsX12_laysPlaces rmX12_laysPlaces none) (hQ : axQ X 0 0 (fun r9 w9 => r9 = none ∧ w9 = [oX12 ao io_thrown io_rows io_cells io_children io_changes io_taped io_at io_to io_nest io_readMany io_codeLong io_readLong io_undos io_wentHome io_tideLevel io_acts io_firstBreaks io_bestCrew io_sights res.1 io_random, rI Y (ao 5) 8 co_skill, rI Y (ao 25) 12 co_sightOf, rI Y (ao 26) 12 res.2.1, rI Y (ao 27) 8 res.2.2.1, rI Y (ao 28) 8 res.2.2.2.1, rI Y (ao 29) 8 res.2.2.2.2])) (hf : fX12_laysPlaces_b28 io_cells io_children io_sights io_wayMany co_skill co_sightOf co_built co_place co_firstPlace co_canBe = some res) : ax X 0 0 28 [some (.ref (ao 0)), none] [oX12 ao io_thrown io_rows io_cells io_children io_changes io_taped io_at io_to io_nest io_readMany io_codeLong io_readLong io_undos io_wentHome io_tideLevel io_acts io_firstBreaks io_bestCrew io_sights io_wayMany io_random, rI Y (ao 5) 8 co_skill, rI Y (ao 25) 12 co_sightOf, rI Y (ao 26) 12 co_built, rI Y (ao 27) 8 co_place, rI Y (ao 28) 8 co_firstPlace, rI Y (ao 29) 8 co_canBe] [] := by
  unfold fX12_laysPlaces_b28 at hf
  refine a_iconst C (0 : Int32) dX12_laysPlaces_28 (by decide) ?_
  refine a_istore_n C dX12_laysPlaces_29 (by decide) rfl ?_
  exact kX12_laysPlaces_b30 C hQ hf
def fX12_laysPlaces_l7 (io_cells : Int32) (io_children : Int32) (io_sights : Int32) (io_wayMany : Int32) (co_skill : Nat → Int32) (co_sightOf : Nat → Int32) (co_built : Nat → Int32) (co_place : Nat → Int32) (co_firstPlace : Nat → Int32) (k7 : (Nat → Int32) × Int32 → Option (Int32 × (Nat → Int32) × (Nat → Int32) × (Nat → Int32) × (Nat → Int32))) (co_canBe : Nat → Int32) (x1 : Int32) : Option (Int32 × (Nat → Int32) × (Nat → Int32) × (Nat → Int32) × (Nat → Int32)) :=
  if io_children ≤ x1 then (fX12_laysPlaces_b28 io_cells io_children io_sights io_wayMany co_skill co_sightOf co_built co_place co_firstPlace co_canBe) else (if inb x1 8 then k7 ((upd co_canBe (Int32.toNatClampNeg x1) (0 : Int32)), (x1 + (1 : Int32))) else none)
def fX12_laysPlaces_b7 (io_cells : Int32) (io_children : Int32) (io_sights : Int32) (io_wayMany : Int32) (co_skill : Nat → Int32) (co_sightOf : Nat → Int32) (co_built : Nat → Int32) (co_place : Nat → Int32) (co_firstPlace : Nat → Int32) (co_canBe : Nat → Int32) (x1 : Int32) : Option (Int32 × (Nat → Int32) × (Nat → Int32) × (Nat → Int32) × (Nat → Int32)) :=
  loopN (fun (s : (Nat → Int32) × Int32) k7 => fX12_laysPlaces_l7 io_cells io_children io_sights io_wayMany co_skill co_sightOf co_built co_place co_firstPlace k7 s.1 s.2) FUEL (co_canBe, x1)
set_option maxHeartbeats 400000 in
set_option maxRecDepth 100000 in
theorem kX12_laysPlaces_l7 {X : cxT} {l : Launch} {D : va_G} {Y : Nat → ClassId} {ao : Nat → Nat} {io_thrown : Int32} {io_rows : Int32} {io_cells : Int32} {io_children : Int32} {io_changes : Int32} {io_taped : Int32} {io_at : Int32} {io_to : Int32} {io_nest : Int32} {io_readMany : Int32} {io_codeLong : Int32} {io_readLong : Int32} {io_undos : Int32} {io_wentHome : Int32} {io_tideLevel : Int32} {io_acts : Int32} {io_firstBreaks : Int32} {io_bestCrew : Int32} {io_sights : Int32} {io_wayMany : Int32} {io_random : Int32} {co_skill : Nat → Int32} {co_sightOf : Nat → Int32} {co_built : Nat → Int32} {co_place : Nat → Int32} {co_firstPlace : Nat → Int32} {co_canBe : Nat → Int32} {x1 : Int32} {res : Int32 × (Nat → Int32) × (Nat → Int32) × (Nat → Int32) × (Nat → Int32)} (C : axC X l D Y cX12_laysPlaces 2 RX12 wsX12_laysPlaces rmX12_laysPlaces none) (hQ : axQ X 0 0 (fun r9 w9 => r9 = none ∧ w9 = [oX12 ao io_thrown io_rows io_cells io_children io_changes io_taped io_at io_to io_nest io_readMany io_codeLong io_readLong io_undos io_wentHome io_tideLevel io_acts io_firstBreaks io_bestCrew io_sights res.1 io_random, rI Y (ao 5) 8 co_skill, rI Y (ao 25) 12 co_sightOf, rI Y (ao 26) 12 res.2.1, rI Y (ao 27) 8 res.2.2.1, rI Y (ao 28) 8 res.2.2.2.1, rI Y (ao 29) 8 res.2.2.2.2])) {k7 : (Nat → Int32) × Int32 → Option (Int32 × (Nat → Int32) × (Nat → Int32) × (Nat → Int32) × (Nat → Int32))} (hk7 : ∀ s : (Nat → Int32) × Int32, k7 s = some res → ax X 0 0 7 [some (.ref (ao 0)), some (.int s.2)] [oX12 ao io_thrown io_rows io_cells io_children io_changes io_taped io_at io_to io_nest io_readMany io_codeLong io_readLong io_undos io_wentHome io_tideLevel io_acts io_firstBreaks io_bestCrew io_sights io_wayMany io_random, rI Y (ao 5) 8 co_skill, rI Y (ao 25) 12 co_sightOf, rI Y (ao 26) 12 co_built, rI Y (ao 27) 8 co_place, rI Y (ao 28) 8 co_firstPlace, rI Y (ao 29) 8 s.1] []) (hf : fX12_laysPlaces_l7 io_cells io_children io_sights io_wayMany co_skill co_sightOf co_built co_place co_firstPlace k7 co_canBe x1 = some res) : ax X 0 0 7 [some (.ref (ao 0)), some (.int x1)] [oX12 ao io_thrown io_rows io_cells io_children io_changes io_taped io_at io_to io_nest io_readMany io_codeLong io_readLong io_undos io_wentHome io_tideLevel io_acts io_firstBreaks io_bestCrew io_sights io_wayMany io_random, rI Y (ao 5) 8 co_skill, rI Y (ao 25) 12 co_sightOf, rI Y (ao 26) 12 co_built, rI Y (ao 27) 8 co_place, rI Y (ao 28) 8 co_firstPlace, rI Y (ao 29) 8 co_canBe] [] := by
  unfold fX12_laysPlaces_l7 at hf
  refine a_iload_n C dX12_laysPlaces_7 rfl ?_
  refine a_aload_n C dX12_laysPlaces_8 rfl ?_
  refine a_get C eX12_laysPlaces_126 dX12_laysPlaces_9 0 rfl rfl ?_
  refine a_icmp_ge C 28 dX12_laysPlaces_12 (by decide) (fun h4 => ?_) (fun h4 => ?_)
  · have hf := fx_t h4 hf
    refine a_kill [1] ?_
    exact kX12_laysPlaces_b28 C hQ hf
  · have hf := fx_f h4 hf
    refine a_aload_n C dX12_laysPlaces_15 rfl ?_
    refine a_get C eX12_laysPlaces_99 dX12_laysPlaces_16 0 rfl rfl ?_
    refine a_iload_n C dX12_laysPlaces_19 rfl ?_
    refine a_iconst C (0 : Int32) dX12_laysPlaces_20 (by decide) ?_
    obtain ⟨h5, hf⟩ := fx_ite hf
    refine a_iast C dX12_laysPlaces_21 6 rfl h5 ?_
    refine a_iinc C (1 : Int32) dX12_laysPlaces_22 (by decide) rfl (by decide) rfl ?_
    refine a_goto C 7 dX12_laysPlaces_25 (by decide) ?_
    exact hk7 ((upd co_canBe (Int32.toNatClampNeg x1) (0 : Int32)), (x1 + (1 : Int32))) hf
set_option maxHeartbeats 400000 in
set_option maxRecDepth 100000 in
theorem kX12_laysPlaces_b7 {X : cxT} {l : Launch} {D : va_G} {Y : Nat → ClassId} {ao : Nat → Nat} {io_thrown : Int32} {io_rows : Int32} {io_cells : Int32} {io_children : Int32} {io_changes : Int32} {io_taped : Int32} {io_at : Int32} {io_to : Int32} {io_nest : Int32} {io_readMany : Int32} {io_codeLong : Int32} {io_readLong : Int32} {io_undos : Int32} {io_wentHome : Int32} {io_tideLevel : Int32} {io_acts : Int32} {io_firstBreaks : Int32} {io_bestCrew : Int32} {io_sights : Int32} {io_wayMany : Int32} {io_random : Int32} {co_skill : Nat → Int32} {co_sightOf : Nat → Int32} {co_built : Nat → Int32} {co_place : Nat → Int32} {co_firstPlace : Nat → Int32} {co_canBe : Nat → Int32} {x1 : Int32} {res : Int32 × (Nat → Int32) × (Nat → Int32) × (Nat → Int32) × (Nat → Int32)} (C : axC X l D Y cX12_laysPlaces 2 RX12 wsX12_laysPlaces rmX12_laysPlaces none) (hQ : axQ X 0 0 (fun r9 w9 => r9 = none ∧ w9 = [oX12 ao io_thrown io_rows io_cells io_children io_changes io_taped io_at io_to io_nest io_readMany io_codeLong io_readLong io_undos io_wentHome io_tideLevel io_acts io_firstBreaks io_bestCrew io_sights res.1 io_random, rI Y (ao 5) 8 co_skill, rI Y (ao 25) 12 co_sightOf, rI Y (ao 26) 12 res.2.1, rI Y (ao 27) 8 res.2.2.1, rI Y (ao 28) 8 res.2.2.2.1, rI Y (ao 29) 8 res.2.2.2.2])) (hf : fX12_laysPlaces_b7 io_cells io_children io_sights io_wayMany co_skill co_sightOf co_built co_place co_firstPlace co_canBe x1 = some res) : ax X 0 0 7 [some (.ref (ao 0)), some (.int x1)] [oX12 ao io_thrown io_rows io_cells io_children io_changes io_taped io_at io_to io_nest io_readMany io_codeLong io_readLong io_undos io_wentHome io_tideLevel io_acts io_firstBreaks io_bestCrew io_sights io_wayMany io_random, rI Y (ao 5) 8 co_skill, rI Y (ao 25) 12 co_sightOf, rI Y (ao 26) 12 co_built, rI Y (ao 27) 8 co_place, rI Y (ao 28) 8 co_firstPlace, rI Y (ao 29) 8 co_canBe] [] := by
  unfold fX12_laysPlaces_b7 at hf
  exact fx_loop (P := fun s : (Nat → Int32) × Int32 => ax X 0 0 7 [some (.ref (ao 0)), some (.int s.2)] [oX12 ao io_thrown io_rows io_cells io_children io_changes io_taped io_at io_to io_nest io_readMany io_codeLong io_readLong io_undos io_wentHome io_tideLevel io_acts io_firstBreaks io_bestCrew io_sights io_wayMany io_random, rI Y (ao 5) 8 co_skill, rI Y (ao 25) 12 co_sightOf, rI Y (ao 26) 12 co_built, rI Y (ao 27) 8 co_place, rI Y (ao 28) 8 co_firstPlace, rI Y (ao 29) 8 s.1] []) (fun s k7 hk7 h => kX12_laysPlaces_l7 C hQ hk7 h) FUEL (co_canBe, x1) hf
def fX12_laysPlaces (io_cells : Int32) (io_children : Int32) (io_sights : Int32) (io_wayMany : Int32) (co_skill : Nat → Int32) (co_sightOf : Nat → Int32) (co_built : Nat → Int32) (co_place : Nat → Int32) (co_firstPlace : Nat → Int32) (co_canBe : Nat → Int32) : Option (Int32 × (Nat → Int32) × (Nat → Int32) × (Nat → Int32) × (Nat → Int32)) :=
  fX12_laysPlaces_b7 io_cells io_children io_sights (0 : Int32) co_skill co_sightOf co_built co_place co_firstPlace co_canBe (0 : Int32)
set_option maxHeartbeats 400000 in
set_option maxRecDepth 100000 in
theorem kX12_laysPlaces (l : Launch) (D : va_G) (Y : Nat → ClassId) (ao : Nat → Nat) (io_thrown : Int32) (io_rows : Int32) (io_cells : Int32) (io_children : Int32) (io_changes : Int32) (io_taped : Int32) (io_at : Int32) (io_to : Int32) (io_nest : Int32) (io_readMany : Int32) (io_codeLong : Int32) (io_readLong : Int32) (io_undos : Int32) (io_wentHome : Int32) (io_tideLevel : Int32) (io_acts : Int32) (io_firstBreaks : Int32) (io_bestCrew : Int32) (io_sights : Int32) (io_wayMany : Int32) (io_random : Int32) (co_skill : Nat → Int32) (co_sightOf : Nat → Int32) (co_built : Nat → Int32) (co_place : Nat → Int32) (co_firstPlace : Nat → Int32) (co_canBe : Nat → Int32) (res : Int32 × (Nat → Int32) × (Nat → Int32) × (Nat → Int32) × (Nat → Int32)) (hf : fX12_laysPlaces io_cells io_children io_sights io_wayMany co_skill co_sightOf co_built co_place co_firstPlace co_canBe = some res) : amf l D Y yX12_laysPlaces wsX12_laysPlaces rmX12_laysPlaces [.ref (ao 0)] [oX12 ao io_thrown io_rows io_cells io_children io_changes io_taped io_at io_to io_nest io_readMany io_codeLong io_readLong io_undos io_wentHome io_tideLevel io_acts io_firstBreaks io_bestCrew io_sights io_wayMany io_random, rI Y (ao 5) 8 co_skill, rI Y (ao 25) 12 co_sightOf, rI Y (ao 26) 12 co_built, rI Y (ao 27) 8 co_place, rI Y (ao 28) 8 co_firstPlace, rI Y (ao 29) 8 co_canBe] none [oX12 ao io_thrown io_rows io_cells io_children io_changes io_taped io_at io_to io_nest io_readMany io_codeLong io_readLong io_undos io_wentHome io_tideLevel io_acts io_firstBreaks io_bestCrew io_sights res.1 io_random, rI Y (ao 5) 8 co_skill, rI Y (ao 25) 12 co_sightOf, rI Y (ao 26) 12 res.2.1, rI Y (ao 27) 8 res.2.2.1, rI Y (ao 28) 8 res.2.2.2.1, rI Y (ao 29) 8 res.2.2.2.2] := by
  refine amf.of (cc := cX12_laysPlaces) (maxL := 2) (rt := none) (by decide) rfl RX12 rfl (Nat.le_of_ble_eq_true rfl) [some (.ref (ao 0)), none] rfl ?_
  intro X C hQ
  unfold fX12_laysPlaces at hf
  refine a_aload_n C dX12_laysPlaces_0 rfl ?_
  refine a_iconst C (0 : Int32) dX12_laysPlaces_1 (by decide) ?_
  refine a_put C eX12_laysPlaces_436 tfX12_48 dX12_laysPlaces_2 0 rfl rfl rfl (Nat.le_of_ble_eq_true rfl) ?_
  refine a_iconst C (0 : Int32) dX12_laysPlaces_5 (by decide) ?_
  refine a_istore_n C dX12_laysPlaces_6 (by decide) rfl ?_
  exact kX12_laysPlaces_b7 C hQ hf
-- X12_ways
abbrev rmX12_ways : Room := { frames := 26, cells := 0, slots := 0, locals := 559 }
theorem dvX12_ways : yX12_ways.cls = RX12 ∧ yX12_ways.cls ≠ "java/lang/invoke/MethodHandle" ∧ yX12_ways.cls ≠ "java/lang/invoke/VarHandle" ∧ (parseMethodDescriptor yX12_ways.desc).map (fun d => d.parameters.length) = some 0 := by decide +kernel
theorem eX12_ways_inX12 : ∀ w ∈ wsX120, w ∈ wsX12_ways := by decide +kernel
theorem eX12_ways_436 : aF wsX12_ways RX12 436 12 48 := ⟨RX12, TX12, 53, rfl, eX12_ways_inX12, by decide, by decide +kernel⟩
theorem eX12_ways_126 : aF wsX12_ways RX12 126 12 4 := ⟨RX12, TX12, 53, rfl, eX12_ways_inX12, by decide, by decide +kernel⟩
theorem eX12_ways_96 : aF wsX12_ways RX12 96 12 46 := ⟨RX12, TX12, 53, rfl, eX12_ways_inX12, by decide, by decide +kernel⟩
theorem eX12_ways_112 : aF wsX12_ways RX12 112 12 0 := ⟨RX12, TX12, 53, rfl, eX12_ways_inX12, by decide, by decide +kernel⟩
theorem eX12_ways_119 : aF wsX12_ways RX12 119 12 1 := ⟨RX12, TX12, 53, rfl, eX12_ways_inX12, by decide, by decide +kernel⟩
def fX12_ways_b48 (io_thrown : Int32) (io_rows : Int32) (io_cells : Int32) (io_children : Int32) (io_sights : Int32) (io_wayMany : Int32) (co_row : Nat → Int64) (co_skill : Nat → Int32) (co_sightOf : Nat → Int32) (co_built : Nat → Int32) (co_place : Nat → Int32) (co_firstPlace : Nat → Int32) (co_canBe : Nat → Int32) : Option (Int32 × Int32 × Int32 × Int32 × (Nat → Int64) × (Nat → Int32) × (Nat → Int32) × (Nat → Int32) × (Nat → Int32)) :=
  some (io_wayMany, io_thrown, io_rows, io_wayMany, co_row, co_built, co_place, co_firstPlace, co_canBe)
set_option maxHeartbeats 400000 in
set_option maxRecDepth 100000 in
theorem kX12_ways_b48 {X : cxT} {l : Launch} {D : va_G} {Y : Nat → ClassId} {ao : Nat → Nat} {io_thrown : Int32} {io_rows : Int32} {io_cells : Int32} {io_children : Int32} {io_changes : Int32} {io_taped : Int32} {io_at : Int32} {io_to : Int32} {io_nest : Int32} {io_readMany : Int32} {io_codeLong : Int32} {io_readLong : Int32} {io_undos : Int32} {io_wentHome : Int32} {io_tideLevel : Int32} {io_acts : Int32} {io_firstBreaks : Int32} {io_bestCrew : Int32} {io_sights : Int32} {io_wayMany : Int32} {io_random : Int32} {co_row : Nat → Int64} {co_skill : Nat → Int32} {co_sightOf : Nat → Int32} {co_built : Nat → Int32} {co_place : Nat → Int32} {co_firstPlace : Nat → Int32} {co_canBe : Nat → Int32} {res : Int32 × Int32 × Int32 × Int32 × (Nat → Int64) × (Nat → Int32) × (Nat → Int32) × (Nat → Int32) × (Nat → Int32)} (C : axC X l D Y cX12_ways 2 RX12 wsX12_ways rmX12_ways (some .int)) (hQ : axQ X 0 0 (fun r9 w9 => r9 = (some (.int res.1)) ∧ w9 = [oX12 ao res.2.1 res.2.2.1 io_cells io_children io_changes io_taped io_at io_to io_nest io_readMany io_codeLong io_readLong io_undos io_wentHome io_tideLevel io_acts io_firstBreaks io_bestCrew io_sights res.2.2.2.1 io_random, rJ Y (ao 1) 24 res.2.2.2.2.1, rI Y (ao 5) 8 co_skill, rI Y (ao 25) 12 co_sightOf, rI Y (ao 26) 12 res.2.2.2.2.2.1, rI Y (ao 27) 8 res.2.2.2.2.2.2.1, rI Y (ao 28) 8 res.2.2.2.2.2.2.2.1, rI Y (ao 29) 8 res.2.2.2.2.2.2.2.2])) (hf : fX12_ways_b48 io_thrown io_rows io_cells io_children io_sights io_wayMany co_row co_skill co_sightOf co_built co_place co_firstPlace co_canBe = some res) : ax X 0 0 48 [some (.ref (ao 0)), none] [oX12 ao io_thrown io_rows io_cells io_children io_changes io_taped io_at io_to io_nest io_readMany io_codeLong io_readLong io_undos io_wentHome io_tideLevel io_acts io_firstBreaks io_bestCrew io_sights io_wayMany io_random, rJ Y (ao 1) 24 co_row, rI Y (ao 5) 8 co_skill, rI Y (ao 25) 12 co_sightOf, rI Y (ao 26) 12 co_built, rI Y (ao 27) 8 co_place, rI Y (ao 28) 8 co_firstPlace, rI Y (ao 29) 8 co_canBe] [] := by
  unfold fX12_ways_b48 at hf
  refine a_aload_n C dX12_ways_48 rfl ?_
  refine a_get C eX12_ways_436 dX12_ways_49 0 rfl rfl ?_
  obtain rfl := fx_some hf
  exact a_iret C hQ dX12_ways_52 ⟨rfl, rfl⟩
def fX12_ways_l16 (io_thrown : Int32) (io_cells : Int32) (io_children : Int32) (io_sights : Int32) (io_wayMany : Int32) (co_skill : Nat → Int32) (co_sightOf : Nat → Int32) (co_built : Nat → Int32) (co_place : Nat → Int32) (co_firstPlace : Nat → Int32) (co_canBe : Nat → Int32) (k16 : Int32 × (Nat → Int64) × Int32 → Option (Int32 × Int32 × Int32 × Int32 × (Nat → Int64) × (Nat → Int32) × (Nat → Int32) × (Nat → Int32) × (Nat → Int32))) (io_rows : Int32) (co_row : Nat → Int64) (x1 : Int32) : Option (Int32 × Int32 × Int32 × Int32 × (Nat → Int64) × (Nat → Int32) × (Nat → Int32) × (Nat → Int32) × (Nat → Int32)) :=
  if io_children ≤ x1 then (fX12_ways_b48 io_thrown io_rows io_cells io_children io_sights io_wayMany co_row co_skill co_sightOf co_built co_place co_firstPlace co_canBe) else (if io_wayMany ≤ (0 : Int32) then (fX12_ways_b48 io_thrown io_rows io_cells io_children io_sights io_wayMany co_row co_skill co_sightOf co_built co_place co_firstPlace co_canBe) else (if inb x1 8 then (fX12_enters io_rows co_row ((co_firstPlace (Int32.toNatClampNeg x1)).toInt64)).bind (fun r4 => k16 (r4.1, r4.2, (x1 + (1 : Int32)))) else none))
def fX12_ways_b16 (io_thrown : Int32) (io_rows : Int32) (io_cells : Int32) (io_children : Int32) (io_sights : Int32) (io_wayMany : Int32) (co_row : Nat → Int64) (co_skill : Nat → Int32) (co_sightOf : Nat → Int32) (co_built : Nat → Int32) (co_place : Nat → Int32) (co_firstPlace : Nat → Int32) (co_canBe : Nat → Int32) (x1 : Int32) : Option (Int32 × Int32 × Int32 × Int32 × (Nat → Int64) × (Nat → Int32) × (Nat → Int32) × (Nat → Int32) × (Nat → Int32)) :=
  loopN (fun (s : Int32 × (Nat → Int64) × Int32) k16 => fX12_ways_l16 io_thrown io_cells io_children io_sights io_wayMany co_skill co_sightOf co_built co_place co_firstPlace co_canBe k16 s.1 s.2.1 s.2.2) FUEL (io_rows, co_row, x1)
set_option maxHeartbeats 400000 in
set_option maxRecDepth 100000 in
theorem kX12_ways_l16 {X : cxT} {l : Launch} {D : va_G} {Y : Nat → ClassId} {ao : Nat → Nat} {io_thrown : Int32} {io_rows : Int32} {io_cells : Int32} {io_children : Int32} {io_changes : Int32} {io_taped : Int32} {io_at : Int32} {io_to : Int32} {io_nest : Int32} {io_readMany : Int32} {io_codeLong : Int32} {io_readLong : Int32} {io_undos : Int32} {io_wentHome : Int32} {io_tideLevel : Int32} {io_acts : Int32} {io_firstBreaks : Int32} {io_bestCrew : Int32} {io_sights : Int32} {io_wayMany : Int32} {io_random : Int32} {co_row : Nat → Int64} {co_skill : Nat → Int32} {co_sightOf : Nat → Int32} {co_built : Nat → Int32} {co_place : Nat → Int32} {co_firstPlace : Nat → Int32} {co_canBe : Nat → Int32} {x1 : Int32} {res : Int32 × Int32 × Int32 × Int32 × (Nat → Int64) × (Nat → Int32) × (Nat → Int32) × (Nat → Int32) × (Nat → Int32)} (C : axC X l D Y cX12_ways 2 RX12 wsX12_ways rmX12_ways (some .int)) (hQ : axQ X 0 0 (fun r9 w9 => r9 = (some (.int res.1)) ∧ w9 = [oX12 ao res.2.1 res.2.2.1 io_cells io_children io_changes io_taped io_at io_to io_nest io_readMany io_codeLong io_readLong io_undos io_wentHome io_tideLevel io_acts io_firstBreaks io_bestCrew io_sights res.2.2.2.1 io_random, rJ Y (ao 1) 24 res.2.2.2.2.1, rI Y (ao 5) 8 co_skill, rI Y (ao 25) 12 co_sightOf, rI Y (ao 26) 12 res.2.2.2.2.2.1, rI Y (ao 27) 8 res.2.2.2.2.2.2.1, rI Y (ao 28) 8 res.2.2.2.2.2.2.2.1, rI Y (ao 29) 8 res.2.2.2.2.2.2.2.2])) {k16 : Int32 × (Nat → Int64) × Int32 → Option (Int32 × Int32 × Int32 × Int32 × (Nat → Int64) × (Nat → Int32) × (Nat → Int32) × (Nat → Int32) × (Nat → Int32))} (hk16 : ∀ s : Int32 × (Nat → Int64) × Int32, k16 s = some res → ax X 0 0 16 [some (.ref (ao 0)), some (.int s.2.2)] [oX12 ao io_thrown s.1 io_cells io_children io_changes io_taped io_at io_to io_nest io_readMany io_codeLong io_readLong io_undos io_wentHome io_tideLevel io_acts io_firstBreaks io_bestCrew io_sights io_wayMany io_random, rJ Y (ao 1) 24 s.2.1, rI Y (ao 5) 8 co_skill, rI Y (ao 25) 12 co_sightOf, rI Y (ao 26) 12 co_built, rI Y (ao 27) 8 co_place, rI Y (ao 28) 8 co_firstPlace, rI Y (ao 29) 8 co_canBe] []) (hf : fX12_ways_l16 io_thrown io_cells io_children io_sights io_wayMany co_skill co_sightOf co_built co_place co_firstPlace co_canBe k16 io_rows co_row x1 = some res) : ax X 0 0 16 [some (.ref (ao 0)), some (.int x1)] [oX12 ao io_thrown io_rows io_cells io_children io_changes io_taped io_at io_to io_nest io_readMany io_codeLong io_readLong io_undos io_wentHome io_tideLevel io_acts io_firstBreaks io_bestCrew io_sights io_wayMany io_random, rJ Y (ao 1) 24 co_row, rI Y (ao 5) 8 co_skill, rI Y (ao 25) 12 co_sightOf, rI Y (ao 26) 12 co_built, rI Y (ao 27) 8 co_place, rI Y (ao 28) 8 co_firstPlace, rI Y (ao 29) 8 co_canBe] [] := by
  unfold fX12_ways_l16 at hf
  refine a_iload_n C dX12_ways_16 rfl ?_
  refine a_aload_n C dX12_ways_17 rfl ?_
  refine a_get C eX12_ways_126 dX12_ways_18 0 rfl rfl ?_
  refine a_icmp_ge C 48 dX12_ways_21 (by decide) (fun h1 => ?_) (fun h1 => ?_)
  · have hf := fx_t h1 hf
    refine a_kill [1] ?_
    exact kX12_ways_b48 C hQ hf
  · have hf := fx_f h1 hf
    refine a_aload_n C dX12_ways_24 rfl ?_
    refine a_get C eX12_ways_436 dX12_ways_25 0 rfl rfl ?_
    refine a_if_le C 48 dX12_ways_28 (by decide) (fun h2 => ?_) (fun h2 => ?_)
    · have hf := fx_t h2 hf
      refine a_kill [1] ?_
      exact kX12_ways_b48 C hQ hf
    · have hf := fx_f h2 hf
      refine a_aload_n C dX12_ways_31 rfl ?_
      refine a_aload_n C dX12_ways_32 rfl ?_
      refine a_get C eX12_ways_96 dX12_ways_33 0 rfl rfl ?_
      refine a_iload_n C dX12_ways_36 rfl ?_
      obtain ⟨h3, hf⟩ := fx_ite hf
      refine a_iald C dX12_ways_37 6 rfl h3 ?_
      refine a_i2l C dX12_ways_38 ?_
      obtain ⟨r4, h4, hf⟩ := fx_bind hf
      refine a_fV C (kX12_enters l D Y ao io_thrown io_rows io_cells io_children io_changes io_taped io_at io_to io_nest io_readMany io_codeLong io_readLong io_undos io_wentHome io_tideLevel io_acts io_firstBreaks io_bestCrew io_sights io_wayMany io_random co_row ((co_firstPlace (Int32.toNatClampNeg x1)).toInt64) r4 h4) gX12_ways_X12_enters rfl dvX12_enters ⟨⟨rfl, rfl⟩, ⟨Nat.le_of_ble_eq_true rfl, Nat.le_of_ble_eq_true rfl⟩, ⟨Nat.le_of_ble_eq_true rfl, Nat.le_of_ble_eq_true rfl⟩⟩ rfl (Nat.le_of_ble_eq_true rfl) dX12_ways_39 rfl rfl [0, 1] [2, 3, 4, 5, 6, 7] ⟨rfl, rfl, trivial⟩ rfl rfl [oX12 ao io_thrown r4.1 io_cells io_children io_changes io_taped io_at io_to io_nest io_readMany io_codeLong io_readLong io_undos io_wentHome io_tideLevel io_acts io_firstBreaks io_bestCrew io_sights io_wayMany io_random, rJ Y (ao 1) 24 r4.2, rI Y (ao 5) 8 co_skill, rI Y (ao 25) 12 co_sightOf, rI Y (ao 26) 12 co_built, rI Y (ao 27) 8 co_place, rI Y (ao 28) 8 co_firstPlace, rI Y (ao 29) 8 co_canBe] ⟨rfl, rfl, trivial⟩ ⟨rfl, rfl, rfl, rfl, rfl, rfl, trivial⟩ rfl ?_
      refine a_iinc C (1 : Int32) dX12_ways_42 (by decide) rfl (by decide) rfl ?_
      refine a_goto C 16 dX12_ways_45 (by decide) ?_
      exact hk16 (r4.1, r4.2, (x1 + (1 : Int32))) hf
set_option maxHeartbeats 400000 in
set_option maxRecDepth 100000 in
theorem kX12_ways_b16 {X : cxT} {l : Launch} {D : va_G} {Y : Nat → ClassId} {ao : Nat → Nat} {io_thrown : Int32} {io_rows : Int32} {io_cells : Int32} {io_children : Int32} {io_changes : Int32} {io_taped : Int32} {io_at : Int32} {io_to : Int32} {io_nest : Int32} {io_readMany : Int32} {io_codeLong : Int32} {io_readLong : Int32} {io_undos : Int32} {io_wentHome : Int32} {io_tideLevel : Int32} {io_acts : Int32} {io_firstBreaks : Int32} {io_bestCrew : Int32} {io_sights : Int32} {io_wayMany : Int32} {io_random : Int32} {co_row : Nat → Int64} {co_skill : Nat → Int32} {co_sightOf : Nat → Int32} {co_built : Nat → Int32} {co_place : Nat → Int32} {co_firstPlace : Nat → Int32} {co_canBe : Nat → Int32} {x1 : Int32} {res : Int32 × Int32 × Int32 × Int32 × (Nat → Int64) × (Nat → Int32) × (Nat → Int32) × (Nat → Int32) × (Nat → Int32)} (C : axC X l D Y cX12_ways 2 RX12 wsX12_ways rmX12_ways (some .int)) (hQ : axQ X 0 0 (fun r9 w9 => r9 = (some (.int res.1)) ∧ w9 = [oX12 ao res.2.1 res.2.2.1 io_cells io_children io_changes io_taped io_at io_to io_nest io_readMany io_codeLong io_readLong io_undos io_wentHome io_tideLevel io_acts io_firstBreaks io_bestCrew io_sights res.2.2.2.1 io_random, rJ Y (ao 1) 24 res.2.2.2.2.1, rI Y (ao 5) 8 co_skill, rI Y (ao 25) 12 co_sightOf, rI Y (ao 26) 12 res.2.2.2.2.2.1, rI Y (ao 27) 8 res.2.2.2.2.2.2.1, rI Y (ao 28) 8 res.2.2.2.2.2.2.2.1, rI Y (ao 29) 8 res.2.2.2.2.2.2.2.2])) (hf : fX12_ways_b16 io_thrown io_rows io_cells io_children io_sights io_wayMany co_row co_skill co_sightOf co_built co_place co_firstPlace co_canBe x1 = some res) : ax X 0 0 16 [some (.ref (ao 0)), some (.int x1)] [oX12 ao io_thrown io_rows io_cells io_children io_changes io_taped io_at io_to io_nest io_readMany io_codeLong io_readLong io_undos io_wentHome io_tideLevel io_acts io_firstBreaks io_bestCrew io_sights io_wayMany io_random, rJ Y (ao 1) 24 co_row, rI Y (ao 5) 8 co_skill, rI Y (ao 25) 12 co_sightOf, rI Y (ao 26) 12 co_built, rI Y (ao 27) 8 co_place, rI Y (ao 28) 8 co_firstPlace, rI Y (ao 29) 8 co_canBe] [] := by
  unfold fX12_ways_b16 at hf
  exact fx_loop (P := fun s : Int32 × (Nat → Int64) × Int32 => ax X 0 0 16 [some (.ref (ao 0)), some (.int s.2.2)] [oX12 ao io_thrown s.1 io_cells io_children io_changes io_taped io_at io_to io_nest io_readMany io_codeLong io_readLong io_undos io_wentHome io_tideLevel io_acts io_firstBreaks io_bestCrew io_sights io_wayMany io_random, rJ Y (ao 1) 24 s.2.1, rI Y (ao 5) 8 co_skill, rI Y (ao 25) 12 co_sightOf, rI Y (ao 26) 12 co_built, rI Y (ao 27) 8 co_place, rI Y (ao 28) 8 co_firstPlace, rI Y (ao 29) 8 co_canBe] []) (fun s k16 hk16 h => kX12_ways_l16 C hQ hk16 h) FUEL (io_rows, co_row, x1) hf
def fX12_ways (io_thrown : Int32) (io_rows : Int32) (io_cells : Int32) (io_children : Int32) (io_sights : Int32) (io_wayMany : Int32) (co_row : Nat → Int64) (co_skill : Nat → Int32) (co_sightOf : Nat → Int32) (co_built : Nat → Int32) (co_place : Nat → Int32) (co_firstPlace : Nat → Int32) (co_canBe : Nat → Int32) : Option (Int32 × Int32 × Int32 × Int32 × (Nat → Int64) × (Nat → Int32) × (Nat → Int32) × (Nat → Int32) × (Nat → Int32)) :=
  (fX12_laysPlaces io_cells io_children io_sights io_wayMany co_skill co_sightOf co_built co_place co_firstPlace co_canBe).bind (fun r5 => fX12_ways_b16 (0 : Int32) (0 : Int32) io_cells io_children io_sights r5.1 co_row co_skill co_sightOf r5.2.1 r5.2.2.1 r5.2.2.2.1 r5.2.2.2.2 (0 : Int32))
set_option maxHeartbeats 400000 in
set_option maxRecDepth 100000 in
theorem kX12_ways (l : Launch) (D : va_G) (Y : Nat → ClassId) (ao : Nat → Nat) (io_thrown : Int32) (io_rows : Int32) (io_cells : Int32) (io_children : Int32) (io_changes : Int32) (io_taped : Int32) (io_at : Int32) (io_to : Int32) (io_nest : Int32) (io_readMany : Int32) (io_codeLong : Int32) (io_readLong : Int32) (io_undos : Int32) (io_wentHome : Int32) (io_tideLevel : Int32) (io_acts : Int32) (io_firstBreaks : Int32) (io_bestCrew : Int32) (io_sights : Int32) (io_wayMany : Int32) (io_random : Int32) (co_row : Nat → Int64) (co_skill : Nat → Int32) (co_sightOf : Nat → Int32) (co_built : Nat → Int32) (co_place : Nat → Int32) (co_firstPlace : Nat → Int32) (co_canBe : Nat → Int32) (res : Int32 × Int32 × Int32 × Int32 × (Nat → Int64) × (Nat → Int32) × (Nat → Int32) × (Nat → Int32) × (Nat → Int32)) (hf : fX12_ways io_thrown io_rows io_cells io_children io_sights io_wayMany co_row co_skill co_sightOf co_built co_place co_firstPlace co_canBe = some res) : amf l D Y yX12_ways wsX12_ways rmX12_ways [.ref (ao 0)] [oX12 ao io_thrown io_rows io_cells io_children io_changes io_taped io_at io_to io_nest io_readMany io_codeLong io_readLong io_undos io_wentHome io_tideLevel io_acts io_firstBreaks io_bestCrew io_sights io_wayMany io_random, rJ Y (ao 1) 24 co_row, rI Y (ao 5) 8 co_skill, rI Y (ao 25) 12 co_sightOf, rI Y (ao 26) 12 co_built, rI Y (ao 27) 8 co_place, rI Y (ao 28) 8 co_firstPlace, rI Y (ao 29) 8 co_canBe] (some (.int res.1)) [oX12 ao res.2.1 res.2.2.1 io_cells io_children io_changes io_taped io_at io_to io_nest io_readMany io_codeLong io_readLong io_undos io_wentHome io_tideLevel io_acts io_firstBreaks io_bestCrew io_sights res.2.2.2.1 io_random, rJ Y (ao 1) 24 res.2.2.2.2.1, rI Y (ao 5) 8 co_skill, rI Y (ao 25) 12 co_sightOf, rI Y (ao 26) 12 res.2.2.2.2.2.1, rI Y (ao 27) 8 res.2.2.2.2.2.2.1, rI Y (ao 28) 8 res.2.2.2.2.2.2.2.1, rI Y (ao 29) 8 res.2.2.2.2.2.2.2.2] := by
  refine amf.of (cc := cX12_ways) (maxL := 2) (rt := (some .int)) (by decide) rfl RX12 rfl (Nat.le_of_ble_eq_true rfl) [some (.ref (ao 0)), none] rfl ?_
  intro X C hQ
  unfold fX12_ways at hf
  refine a_aload_n C dX12_ways_0 rfl ?_
  refine a_iconst C (0 : Int32) dX12_ways_1 (by decide) ?_
  refine a_put C eX12_ways_112 tfX12_0 dX12_ways_2 0 rfl rfl rfl (Nat.le_of_ble_eq_true rfl) ?_
  refine a_aload_n C dX12_ways_5 rfl ?_
  obtain ⟨r5, h5, hf⟩ := fx_bind hf
  refine a_fV C (kX12_laysPlaces l D Y ao (0 : Int32) io_rows io_cells io_children io_changes io_taped io_at io_to io_nest io_readMany io_codeLong io_readLong io_undos io_wentHome io_tideLevel io_acts io_firstBreaks io_bestCrew io_sights io_wayMany io_random co_skill co_sightOf co_built co_place co_firstPlace co_canBe r5 h5) gX12_ways_X12_laysPlaces rfl dvX12_laysPlaces ⟨⟨rfl, rfl⟩, ⟨Nat.le_of_ble_eq_true rfl, Nat.le_of_ble_eq_true rfl⟩, ⟨Nat.le_of_ble_eq_true rfl, Nat.le_of_ble_eq_true rfl⟩⟩ rfl (Nat.le_of_ble_eq_true rfl) dX12_ways_6 rfl rfl [0, 2, 3, 4, 5, 6, 7] [1] ⟨rfl, rfl, rfl, rfl, rfl, rfl, rfl, trivial⟩ rfl rfl [oX12 ao (0 : Int32) io_rows io_cells io_children io_changes io_taped io_at io_to io_nest io_readMany io_codeLong io_readLong io_undos io_wentHome io_tideLevel io_acts io_firstBreaks io_bestCrew io_sights r5.1 io_random, rJ Y (ao 1) 24 co_row, rI Y (ao 5) 8 co_skill, rI Y (ao 25) 12 co_sightOf, rI Y (ao 26) 12 r5.2.1, rI Y (ao 27) 8 r5.2.2.1, rI Y (ao 28) 8 r5.2.2.2.1, rI Y (ao 29) 8 r5.2.2.2.2] ⟨rfl, rfl, rfl, rfl, rfl, rfl, rfl, trivial⟩ ⟨rfl, trivial⟩ rfl ?_
  refine a_aload_n C dX12_ways_9 rfl ?_
  refine a_iconst C (0 : Int32) dX12_ways_10 (by decide) ?_
  refine a_put C eX12_ways_119 tfX12_1 dX12_ways_11 0 rfl rfl rfl (Nat.le_of_ble_eq_true rfl) ?_
  refine a_iconst C (0 : Int32) dX12_ways_14 (by decide) ?_
  refine a_istore_n C dX12_ways_15 (by decide) rfl ?_
  exact kX12_ways_b16 C hQ hf
-- X12_was
abbrev rmX12_was : Room := { frames := 26, cells := 0, slots := 0, locals := 559 }
theorem dvX12_was : yX12_was.cls = RX12 ∧ yX12_was.cls ≠ "java/lang/invoke/MethodHandle" ∧ yX12_was.cls ≠ "java/lang/invoke/VarHandle" ∧ (parseMethodDescriptor yX12_was.desc).map (fun d => d.parameters.length) = some 1 := by decide +kernel
theorem eX12_was_inX12 : ∀ w ∈ wsX120, w ∈ wsX12_was := by decide +kernel
theorem eX12_was_112 : aF wsX12_was RX12 112 12 0 := ⟨RX12, TX12, 53, rfl, eX12_was_inX12, by decide, by decide +kernel⟩
theorem eX12_was_119 : aF wsX12_was RX12 119 12 1 := ⟨RX12, TX12, 53, rfl, eX12_was_inX12, by decide, by decide +kernel⟩
theorem eX12_was_99 : aF wsX12_was RX12 99 12 47 := ⟨RX12, TX12, 53, rfl, eX12_was_inX12, by decide, by decide +kernel⟩
def fX12_was (io_thrown : Int32) (io_rows : Int32) (io_cells : Int32) (io_children : Int32) (io_sights : Int32) (io_wayMany : Int32) (co_row : Nat → Int64) (co_skill : Nat → Int32) (co_sightOf : Nat → Int32) (co_built : Nat → Int32) (co_place : Nat → Int32) (co_firstPlace : Nat → Int32) (co_canBe : Nat → Int32) (x1 : Int32) : Option (Int32 × Int32 × Int32 × Int32 × (Nat → Int64) × (Nat → Int32) × (Nat → Int32) × (Nat → Int32) × (Nat → Int32)) :=
  (fX12_isChild io_children x1).bind (fun r1 => if r1 = (0 : Int32) then (some ((-1 : Int32), (0 : Int32), io_rows, io_wayMany, co_row, co_built, co_place, co_firstPlace, co_canBe)) else ((fX12_laysPlaces io_cells io_children io_sights io_wayMany co_skill co_sightOf co_built co_place co_firstPlace co_canBe).bind (fun r3 => if inb x1 8 then (fX12_enters (0 : Int32) co_row (((r3.2.2.2.2 (Int32.toNatClampNeg x1)) &&& (1 : Int32)).toInt64)).bind (fun r5 => some ((jshr (r3.2.2.2.2 (Int32.toNatClampNeg x1)) (1 : Int32)), (0 : Int32), r5.1, r3.1, r5.2, r3.2.1, r3.2.2.1, r3.2.2.2.1, r3.2.2.2.2)) else none)))
set_option maxHeartbeats 400000 in
set_option maxRecDepth 100000 in
theorem kX12_was (l : Launch) (D : va_G) (Y : Nat → ClassId) (ao : Nat → Nat) (io_thrown : Int32) (io_rows : Int32) (io_cells : Int32) (io_children : Int32) (io_changes : Int32) (io_taped : Int32) (io_at : Int32) (io_to : Int32) (io_nest : Int32) (io_readMany : Int32) (io_codeLong : Int32) (io_readLong : Int32) (io_undos : Int32) (io_wentHome : Int32) (io_tideLevel : Int32) (io_acts : Int32) (io_firstBreaks : Int32) (io_bestCrew : Int32) (io_sights : Int32) (io_wayMany : Int32) (io_random : Int32) (co_row : Nat → Int64) (co_skill : Nat → Int32) (co_sightOf : Nat → Int32) (co_built : Nat → Int32) (co_place : Nat → Int32) (co_firstPlace : Nat → Int32) (co_canBe : Nat → Int32) (x1 : Int32) (res : Int32 × Int32 × Int32 × Int32 × (Nat → Int64) × (Nat → Int32) × (Nat → Int32) × (Nat → Int32) × (Nat → Int32)) (hf : fX12_was io_thrown io_rows io_cells io_children io_sights io_wayMany co_row co_skill co_sightOf co_built co_place co_firstPlace co_canBe x1 = some res) : amf l D Y yX12_was wsX12_was rmX12_was [.ref (ao 0), .int x1] [oX12 ao io_thrown io_rows io_cells io_children io_changes io_taped io_at io_to io_nest io_readMany io_codeLong io_readLong io_undos io_wentHome io_tideLevel io_acts io_firstBreaks io_bestCrew io_sights io_wayMany io_random, rJ Y (ao 1) 24 co_row, rI Y (ao 5) 8 co_skill, rI Y (ao 25) 12 co_sightOf, rI Y (ao 26) 12 co_built, rI Y (ao 27) 8 co_place, rI Y (ao 28) 8 co_firstPlace, rI Y (ao 29) 8 co_canBe] (some (.int res.1)) [oX12 ao res.2.1 res.2.2.1 io_cells io_children io_changes io_taped io_at io_to io_nest io_readMany io_codeLong io_readLong io_undos io_wentHome io_tideLevel io_acts io_firstBreaks io_bestCrew io_sights res.2.2.2.1 io_random, rJ Y (ao 1) 24 res.2.2.2.2.1, rI Y (ao 5) 8 co_skill, rI Y (ao 25) 12 co_sightOf, rI Y (ao 26) 12 res.2.2.2.2.2.1, rI Y (ao 27) 8 res.2.2.2.2.2.2.1, rI Y (ao 28) 8 res.2.2.2.2.2.2.2.1, rI Y (ao 29) 8 res.2.2.2.2.2.2.2.2] := by
  refine amf.of (cc := cX12_was) (maxL := 2) (rt := (some .int)) (by decide) rfl RX12 rfl (Nat.le_of_ble_eq_true rfl) [some (.ref (ao 0)), some (.int x1)] rfl ?_
  intro X C hQ
  unfold fX12_was at hf
  refine a_aload_n C dX12_was_0 rfl ?_
  refine a_iconst C (0 : Int32) dX12_was_1 (by decide) ?_
  refine a_put C eX12_was_112 tfX12_0 dX12_was_2 0 rfl rfl rfl (Nat.le_of_ble_eq_true rfl) ?_
  refine a_aload_n C dX12_was_5 rfl ?_
  refine a_iload_n C dX12_was_6 rfl ?_
  obtain ⟨r1, h1, hf⟩ := fx_bind hf
  refine a_fV C (kX12_isChild l D Y ao (0 : Int32) io_rows io_cells io_children io_changes io_taped io_at io_to io_nest io_readMany io_codeLong io_readLong io_undos io_wentHome io_tideLevel io_acts io_firstBreaks io_bestCrew io_sights io_wayMany io_random x1 r1 h1) gX12_was_X12_isChild rfl dvX12_isChild ⟨⟨rfl, rfl⟩, ⟨Nat.le_of_ble_eq_true rfl, Nat.le_of_ble_eq_true rfl⟩, ⟨Nat.le_of_ble_eq_true rfl, Nat.le_of_ble_eq_true rfl⟩⟩ rfl (Nat.le_of_ble_eq_true rfl) dX12_was_7 rfl rfl [0] [1, 2, 3, 4, 5, 6, 7] ⟨rfl, trivial⟩ rfl rfl [oX12 ao (0 : Int32) io_rows io_cells io_children io_changes io_taped io_at io_to io_nest io_readMany io_codeLong io_readLong io_undos io_wentHome io_tideLevel io_acts io_firstBreaks io_bestCrew io_sights io_wayMany io_random, rJ Y (ao 1) 24 co_row, rI Y (ao 5) 8 co_skill, rI Y (ao 25) 12 co_sightOf, rI Y (ao 26) 12 co_built, rI Y (ao 27) 8 co_place, rI Y (ao 28) 8 co_firstPlace, rI Y (ao 29) 8 co_canBe] ⟨rfl, trivial⟩ ⟨rfl, rfl, rfl, rfl, rfl, rfl, rfl, trivial⟩ rfl ?_
  refine a_if_ne C 15 dX12_was_10 (by decide) (fun h2 => ?_) (fun h2 => ?_)
  · have hf := fx_f h2 hf
    refine a_aload_n C dX12_was_15 rfl ?_
    obtain ⟨r3, h3, hf⟩ := fx_bind hf
    refine a_fV C (kX12_laysPlaces l D Y ao (0 : Int32) io_rows io_cells io_children io_changes io_taped io_at io_to io_nest io_readMany io_codeLong io_readLong io_undos io_wentHome io_tideLevel io_acts io_firstBreaks io_bestCrew io_sights io_wayMany io_random co_skill co_sightOf co_built co_place co_firstPlace co_canBe r3 h3) gX12_was_X12_laysPlaces rfl dvX12_laysPlaces ⟨⟨rfl, rfl⟩, ⟨Nat.le_of_ble_eq_true rfl, Nat.le_of_ble_eq_true rfl⟩, ⟨Nat.le_of_ble_eq_true rfl, Nat.le_of_ble_eq_true rfl⟩⟩ rfl (Nat.le_of_ble_eq_true rfl) dX12_was_16 rfl rfl [0, 2, 3, 4, 5, 6, 7] [1] ⟨rfl, rfl, rfl, rfl, rfl, rfl, rfl, trivial⟩ rfl rfl [oX12 ao (0 : Int32) io_rows io_cells io_children io_changes io_taped io_at io_to io_nest io_readMany io_codeLong io_readLong io_undos io_wentHome io_tideLevel io_acts io_firstBreaks io_bestCrew io_sights r3.1 io_random, rJ Y (ao 1) 24 co_row, rI Y (ao 5) 8 co_skill, rI Y (ao 25) 12 co_sightOf, rI Y (ao 26) 12 r3.2.1, rI Y (ao 27) 8 r3.2.2.1, rI Y (ao 28) 8 r3.2.2.2.1, rI Y (ao 29) 8 r3.2.2.2.2] ⟨rfl, rfl, rfl, rfl, rfl, rfl, rfl, trivial⟩ ⟨rfl, trivial⟩ rfl ?_
    refine a_aload_n C dX12_was_19 rfl ?_
    refine a_iconst C (0 : Int32) dX12_was_20 (by decide) ?_
    refine a_put C eX12_was_119 tfX12_1 dX12_was_21 0 rfl rfl rfl (Nat.le_of_ble_eq_true rfl) ?_
    refine a_aload_n C dX12_was_24 rfl ?_
    refine a_aload_n C dX12_was_25 rfl ?_
    refine a_get C eX12_was_99 dX12_was_26 0 rfl rfl ?_
    refine a_iload_n C dX12_was_29 rfl ?_
    obtain ⟨h4, hf⟩ := fx_ite hf
    refine a_iald C dX12_was_30 7 rfl h4 ?_
    refine a_iconst C (1 : Int32) dX12_was_31 (by decide) ?_
    refine a_iand C dX12_was_32 ?_
    refine a_i2l C dX12_was_33 ?_
    obtain ⟨r5, h5, hf⟩ := fx_bind hf
    refine a_fV C (kX12_enters l D Y ao (0 : Int32) (0 : Int32) io_cells io_children io_changes io_taped io_at io_to io_nest io_readMany io_codeLong io_readLong io_undos io_wentHome io_tideLevel io_acts io_firstBreaks io_bestCrew io_sights r3.1 io_random co_row (((r3.2.2.2.2 (Int32.toNatClampNeg x1)) &&& (1 : Int32)).toInt64) r5 h5) gX12_was_X12_enters rfl dvX12_enters ⟨⟨rfl, rfl⟩, ⟨Nat.le_of_ble_eq_true rfl, Nat.le_of_ble_eq_true rfl⟩, ⟨Nat.le_of_ble_eq_true rfl, Nat.le_of_ble_eq_true rfl⟩⟩ rfl (Nat.le_of_ble_eq_true rfl) dX12_was_34 rfl rfl [0, 1] [2, 3, 4, 5, 6, 7] ⟨rfl, rfl, trivial⟩ rfl rfl [oX12 ao (0 : Int32) r5.1 io_cells io_children io_changes io_taped io_at io_to io_nest io_readMany io_codeLong io_readLong io_undos io_wentHome io_tideLevel io_acts io_firstBreaks io_bestCrew io_sights r3.1 io_random, rJ Y (ao 1) 24 r5.2, rI Y (ao 5) 8 co_skill, rI Y (ao 25) 12 co_sightOf, rI Y (ao 26) 12 r3.2.1, rI Y (ao 27) 8 r3.2.2.1, rI Y (ao 28) 8 r3.2.2.2.1, rI Y (ao 29) 8 r3.2.2.2.2] ⟨rfl, rfl, trivial⟩ ⟨rfl, rfl, rfl, rfl, rfl, rfl, trivial⟩ rfl ?_
    refine a_aload_n C dX12_was_37 rfl ?_
    refine a_get C eX12_was_99 dX12_was_38 0 rfl rfl ?_
    refine a_iload_n C dX12_was_41 rfl ?_
    refine a_iald C dX12_was_42 7 rfl h4 ?_
    refine a_iconst C (1 : Int32) dX12_was_43 (by decide) ?_
    refine a_ishr C dX12_was_44 ?_
    obtain rfl := fx_some hf
    exact a_iret C hQ dX12_was_45 ⟨rfl, rfl⟩
  · have hf := fx_t h2 hf
    refine a_iconst C (-1 : Int32) dX12_was_13 (by decide) ?_
    obtain rfl := fx_some hf
    exact a_iret C hQ dX12_was_14 ⟨rfl, rfl⟩
-- X12_hasRun
abbrev rmX12_hasRun : Room := { frames := 1, cells := 0, slots := 0, locals := 21 }
theorem dvX12_hasRun : yX12_hasRun.cls ≠ "java/lang/invoke/MethodHandle" ∧ yX12_hasRun.cls ≠ "java/lang/invoke/VarHandle" ∧ (parseMethodDescriptor yX12_hasRun.desc).map (fun d => d.parameters.length) = some 3 := by decide +kernel
def fX12_hasRun_b54 (x4 : Int32) : Option (Int32) :=
  if x4 = 0 ∨ x4 = 1 then some x4 else none
set_option maxHeartbeats 400000 in
set_option maxRecDepth 100000 in
theorem kX12_hasRun_b54 {X : cxT} {l : Launch} {D : va_G} {Y : Nat → ClassId} {x4 : Int32} {res : Int32} (C : axC X l D Y cX12_hasRun 6 RX12 wsX12_hasRun rmX12_hasRun (some .boolean)) (hQ : axQ X 0 0 (fun r9 w9 => r9 = (some (.int res)) ∧ w9 = [])) (hf : fX12_hasRun_b54 x4 = some res) : ax X 0 0 54 [none, none, none, none, some (.int x4), none] [] [] := by
  unfold fX12_hasRun_b54 at hf
  refine a_iload C dX12_hasRun_54 rfl ?_
  obtain ⟨h1, hf⟩ := fx_ite hf
  obtain rfl := fx_some hf
  exact a_zret C hQ h1 dX12_hasRun_56 ⟨rfl, rfl⟩
def fX12_hasRun_b46 (x0 : Int32) (x1 : Int32) (x2 : Int32) (x3 : Int32) (x5 : Int32) (s0 : Int32) (k8 : Int32 × Int32 × Int32 → Option (Int32)) : Option (Int32) :=
  k8 (x3, s0, (x5 + (1 : Int32)))
set_option maxHeartbeats 400000 in
set_option maxRecDepth 100000 in
theorem kX12_hasRun_b46 {X : cxT} {l : Launch} {D : va_G} {Y : Nat → ClassId} {x0 : Int32} {x1 : Int32} {x2 : Int32} {x3 : Int32} {x5 : Int32} {s0 : Int32} {res : Int32} (C : axC X l D Y cX12_hasRun 6 RX12 wsX12_hasRun rmX12_hasRun (some .boolean)) (hQ : axQ X 0 0 (fun r9 w9 => r9 = (some (.int res)) ∧ w9 = [])) {k8 : Int32 × Int32 × Int32 → Option (Int32)} (hk8 : ∀ s : Int32 × Int32 × Int32, k8 s = some res → ax X 0 0 8 [some (.int x0), some (.int x1), some (.int x2), some (.int s.1), some (.int s.2.1), some (.int s.2.2)] [] []) (hf : fX12_hasRun_b46 x0 x1 x2 x3 x5 s0 k8 = some res) : ax X 0 0 46 [some (.int x0), some (.int x1), some (.int x2), some (.int x3), none, some (.int x5)] [] [.int s0] := by
  unfold fX12_hasRun_b46 at hf
  refine a_istore C dX12_hasRun_46 (by decide) rfl ?_
  refine a_iinc C (1 : Int32) dX12_hasRun_48 (by decide) rfl (by decide) rfl ?_
  refine a_goto C 8 dX12_hasRun_51 (by decide) ?_
  exact hk8 (x3, s0, (x5 + (1 : Int32))) hf
def fX12_hasRun_b41 (x0 : Int32) (x1 : Int32) (x2 : Int32) (x3 : Int32) (x5 : Int32) (k8 : Int32 × Int32 × Int32 → Option (Int32)) : Option (Int32) :=
  fX12_hasRun_b46 x0 x1 x2 x3 x5 (1 : Int32) k8
set_option maxHeartbeats 400000 in
set_option maxRecDepth 100000 in
theorem kX12_hasRun_b41 {X : cxT} {l : Launch} {D : va_G} {Y : Nat → ClassId} {x0 : Int32} {x1 : Int32} {x2 : Int32} {x3 : Int32} {x5 : Int32} {res : Int32} (C : axC X l D Y cX12_hasRun 6 RX12 wsX12_hasRun rmX12_hasRun (some .boolean)) (hQ : axQ X 0 0 (fun r9 w9 => r9 = (some (.int res)) ∧ w9 = [])) {k8 : Int32 × Int32 × Int32 → Option (Int32)} (hk8 : ∀ s : Int32 × Int32 × Int32, k8 s = some res → ax X 0 0 8 [some (.int x0), some (.int x1), some (.int x2), some (.int s.1), some (.int s.2.1), some (.int s.2.2)] [] []) (hf : fX12_hasRun_b41 x0 x1 x2 x3 x5 k8 = some res) : ax X 0 0 41 [some (.int x0), some (.int x1), some (.int x2), some (.int x3), none, some (.int x5)] [] [] := by
  unfold fX12_hasRun_b41 at hf
  refine a_iconst C (1 : Int32) dX12_hasRun_41 (by decide) ?_
  refine a_goto C 46 dX12_hasRun_42 (by decide) ?_
  exact kX12_hasRun_b46 C hQ hk8 hf
def fX12_hasRun_b30 (x0 : Int32) (x1 : Int32) (x2 : Int32) (x4 : Int32) (x5 : Int32) (s0 : Int32) (k8 : Int32 × Int32 × Int32 → Option (Int32)) : Option (Int32) :=
  if x4 = (0 : Int32) then (if s0 < x2 then (fX12_hasRun_b46 x0 x1 x2 s0 x5 (0 : Int32) k8) else (fX12_hasRun_b41 x0 x1 x2 s0 x5 k8)) else (fX12_hasRun_b41 x0 x1 x2 s0 x5 k8)
set_option maxHeartbeats 400000 in
set_option maxRecDepth 100000 in
theorem kX12_hasRun_b30 {X : cxT} {l : Launch} {D : va_G} {Y : Nat → ClassId} {x0 : Int32} {x1 : Int32} {x2 : Int32} {x4 : Int32} {x5 : Int32} {s0 : Int32} {res : Int32} (C : axC X l D Y cX12_hasRun 6 RX12 wsX12_hasRun rmX12_hasRun (some .boolean)) (hQ : axQ X 0 0 (fun r9 w9 => r9 = (some (.int res)) ∧ w9 = [])) {k8 : Int32 × Int32 × Int32 → Option (Int32)} (hk8 : ∀ s : Int32 × Int32 × Int32, k8 s = some res → ax X 0 0 8 [some (.int x0), some (.int x1), some (.int x2), some (.int s.1), some (.int s.2.1), some (.int s.2.2)] [] []) (hf : fX12_hasRun_b30 x0 x1 x2 x4 x5 s0 k8 = some res) : ax X 0 0 30 [some (.int x0), some (.int x1), some (.int x2), none, some (.int x4), some (.int x5)] [] [.int s0] := by
  unfold fX12_hasRun_b30 at hf
  refine a_istore_n C dX12_hasRun_30 (by decide) rfl ?_
  refine a_iload C dX12_hasRun_31 rfl ?_
  refine a_if_ne C 41 dX12_hasRun_33 (by decide) (fun h2 => ?_) (fun h2 => ?_)
  · have hf := fx_f h2 hf
    refine a_kill [4] ?_
    exact kX12_hasRun_b41 C hQ hk8 hf
  · have hf := fx_t h2 hf
    refine a_iload_n C dX12_hasRun_36 rfl ?_
    refine a_iload_n C dX12_hasRun_37 rfl ?_
    refine a_icmp_lt C 45 dX12_hasRun_38 (by decide) (fun h3 => ?_) (fun h3 => ?_)
    · have hf := fx_t h3 hf
      refine a_iconst C (0 : Int32) dX12_hasRun_45 (by decide) ?_
      refine a_kill [4] ?_
      exact kX12_hasRun_b46 C hQ hk8 hf
    · have hf := fx_f h3 hf
      refine a_kill [4] ?_
      exact kX12_hasRun_b41 C hQ hk8 hf
def fX12_hasRun_l8 (x0 : Int32) (x1 : Int32) (x2 : Int32) (k8 : Int32 × Int32 × Int32 → Option (Int32)) (x3 : Int32) (x4 : Int32) (x5 : Int32) : Option (Int32) :=
  if x1 ≤ x5 then (fX12_hasRun_b54 x4) else ((fX12_has x0 x5).bind (fun r5 => if r5 = (0 : Int32) then (fX12_hasRun_b30 x0 x1 x2 x4 x5 (0 : Int32) k8) else (fX12_hasRun_b30 x0 x1 x2 x4 x5 (x3 + (1 : Int32)) k8)))
def fX12_hasRun_b8 (x0 : Int32) (x1 : Int32) (x2 : Int32) (x3 : Int32) (x4 : Int32) (x5 : Int32) : Option (Int32) :=
  loopN (fun (s : Int32 × Int32 × Int32) k8 => fX12_hasRun_l8 x0 x1 x2 k8 s.1 s.2.1 s.2.2) FUEL (x3, x4, x5)
set_option maxHeartbeats 400000 in
set_option maxRecDepth 100000 in
theorem kX12_hasRun_l8 {X : cxT} {l : Launch} {D : va_G} {Y : Nat → ClassId} {x0 : Int32} {x1 : Int32} {x2 : Int32} {x3 : Int32} {x4 : Int32} {x5 : Int32} {res : Int32} (C : axC X l D Y cX12_hasRun 6 RX12 wsX12_hasRun rmX12_hasRun (some .boolean)) (hQ : axQ X 0 0 (fun r9 w9 => r9 = (some (.int res)) ∧ w9 = [])) {k8 : Int32 × Int32 × Int32 → Option (Int32)} (hk8 : ∀ s : Int32 × Int32 × Int32, k8 s = some res → ax X 0 0 8 [some (.int x0), some (.int x1), some (.int x2), some (.int s.1), some (.int s.2.1), some (.int s.2.2)] [] []) (hf : fX12_hasRun_l8 x0 x1 x2 k8 x3 x4 x5 = some res) : ax X 0 0 8 [some (.int x0), some (.int x1), some (.int x2), some (.int x3), some (.int x4), some (.int x5)] [] [] := by
  unfold fX12_hasRun_l8 at hf
  refine a_iload C dX12_hasRun_8 rfl ?_
  refine a_iload_n C dX12_hasRun_10 rfl ?_
  refine a_icmp_ge C 54 dX12_hasRun_11 (by decide) (fun h4 => ?_) (fun h4 => ?_)
  · have hf := fx_t h4 hf
    refine a_kill [0, 1, 2, 3, 5] ?_
    exact kX12_hasRun_b54 C hQ hf
  · have hf := fx_f h4 hf
    refine a_iload_n C dX12_hasRun_14 rfl ?_
    refine a_iload C dX12_hasRun_15 rfl ?_
    obtain ⟨r5, h5, hf⟩ := fx_bind hf
    refine a_fS C (kX12_has l D Y x0 x5 r5 h5) gX12_hasRun_X12_has rfl dvX12_has ⟨⟨rfl, rfl⟩, ⟨Nat.le_of_ble_eq_true rfl, Nat.le_of_ble_eq_true rfl⟩, ⟨Nat.le_of_ble_eq_true rfl, Nat.le_of_ble_eq_true rfl⟩⟩ rfl (Nat.le_of_ble_eq_true rfl) dX12_hasRun_17 [] [] trivial rfl rfl [] trivial trivial rfl ?_
    refine a_if_eq C 29 dX12_hasRun_20 (by decide) (fun h6 => ?_) (fun h6 => ?_)
    · have hf := fx_t h6 hf
      refine a_iconst C (0 : Int32) dX12_hasRun_29 (by decide) ?_
      refine a_kill [3] ?_
      exact kX12_hasRun_b30 C hQ hk8 hf
    · have hf := fx_f h6 hf
      refine a_iload_n C dX12_hasRun_23 rfl ?_
      refine a_iconst C (1 : Int32) dX12_hasRun_24 (by decide) ?_
      refine a_iadd C dX12_hasRun_25 ?_
      refine a_goto C 30 dX12_hasRun_26 (by decide) ?_
      refine a_kill [3] ?_
      exact kX12_hasRun_b30 C hQ hk8 hf
set_option maxHeartbeats 400000 in
set_option maxRecDepth 100000 in
theorem kX12_hasRun_b8 {X : cxT} {l : Launch} {D : va_G} {Y : Nat → ClassId} {x0 : Int32} {x1 : Int32} {x2 : Int32} {x3 : Int32} {x4 : Int32} {x5 : Int32} {res : Int32} (C : axC X l D Y cX12_hasRun 6 RX12 wsX12_hasRun rmX12_hasRun (some .boolean)) (hQ : axQ X 0 0 (fun r9 w9 => r9 = (some (.int res)) ∧ w9 = [])) (hf : fX12_hasRun_b8 x0 x1 x2 x3 x4 x5 = some res) : ax X 0 0 8 [some (.int x0), some (.int x1), some (.int x2), some (.int x3), some (.int x4), some (.int x5)] [] [] := by
  unfold fX12_hasRun_b8 at hf
  exact fx_loop (P := fun s : Int32 × Int32 × Int32 => ax X 0 0 8 [some (.int x0), some (.int x1), some (.int x2), some (.int s.1), some (.int s.2.1), some (.int s.2.2)] [] []) (fun s k8 hk8 h => kX12_hasRun_l8 C hQ hk8 h) FUEL (x3, x4, x5) hf
def fX12_hasRun (x0 : Int32) (x1 : Int32) (x2 : Int32) : Option (Int32) :=
  fX12_hasRun_b8 x0 x1 x2 (0 : Int32) (0 : Int32) (0 : Int32)
set_option maxHeartbeats 400000 in
set_option maxRecDepth 100000 in
theorem kX12_hasRun (l : Launch) (D : va_G) (Y : Nat → ClassId) (x0 : Int32) (x1 : Int32) (x2 : Int32) (res : Int32) (hf : fX12_hasRun x0 x1 x2 = some res) : amf l D Y yX12_hasRun wsX12_hasRun rmX12_hasRun [.int x0, .int x1, .int x2] [] (some (.int res)) [] := by
  refine amf.of (cc := cX12_hasRun) (maxL := 6) (rt := (some .boolean)) (by decide) rfl RX12 rfl (Nat.le_of_ble_eq_true rfl) [some (.int x0), some (.int x1), some (.int x2), none, none, none] rfl ?_
  intro X C hQ
  unfold fX12_hasRun at hf
  refine a_iconst C (0 : Int32) dX12_hasRun_0 (by decide) ?_
  refine a_istore_n C dX12_hasRun_1 (by decide) rfl ?_
  refine a_iconst C (0 : Int32) dX12_hasRun_2 (by decide) ?_
  refine a_istore C dX12_hasRun_3 (by decide) rfl ?_
  refine a_iconst C (0 : Int32) dX12_hasRun_5 (by decide) ?_
  refine a_istore C dX12_hasRun_6 (by decide) rfl ?_
  exact kX12_hasRun_b8 C hQ hf
-- X12_rain
abbrev rmX12_rain : Room := { frames := 81, cells := 0, slots := 0, locals := 1863 }
theorem dvX12_rain : yX12_rain.cls = RX12 ∧ yX12_rain.cls ≠ "java/lang/invoke/MethodHandle" ∧ yX12_rain.cls ≠ "java/lang/invoke/VarHandle" ∧ (parseMethodDescriptor yX12_rain.desc).map (fun d => d.parameters.length) = some 3 := by decide +kernel
theorem eX12_rain_inX12 : ∀ w ∈ wsX120, w ∈ wsX12_rain := by decide +kernel
theorem eX12_rain_119 : aF wsX12_rain RX12 119 12 1 := ⟨RX12, TX12, 53, rfl, eX12_rain_inX12, by decide, by decide +kernel⟩
theorem eX12_rain_k447 : Cond.constantLong RX12 447 (10 : Int64) ∈ wsX12_rain := by decide +kernel
theorem eX12_rain_112 : aF wsX12_rain RX12 112 12 0 := ⟨RX12, TX12, 53, rfl, eX12_rain_inX12, by decide, by decide +kernel⟩
theorem eX12_rain_k445 : Cond.constantLong RX12 445 (12 : Int64) ∈ wsX12_rain := by decide +kernel
def fX12_rain_b41 (io_thrown : Int32) (io_rows : Int32) (co_row : Nat → Int64) : Option (Int32 × Int32 × Int32 × (Nat → Int64)) :=
  some ((-1 : Int32), io_thrown, io_rows, co_row)
set_option maxHeartbeats 400000 in
set_option maxRecDepth 100000 in
theorem kX12_rain_b41 {X : cxT} {l : Launch} {D : va_G} {Y : Nat → ClassId} {ao : Nat → Nat} {io_thrown : Int32} {io_rows : Int32} {io_cells : Int32} {io_children : Int32} {io_changes : Int32} {io_taped : Int32} {io_at : Int32} {io_to : Int32} {io_nest : Int32} {io_readMany : Int32} {io_codeLong : Int32} {io_readLong : Int32} {io_undos : Int32} {io_wentHome : Int32} {io_tideLevel : Int32} {io_acts : Int32} {io_firstBreaks : Int32} {io_bestCrew : Int32} {io_sights : Int32} {io_wayMany : Int32} {io_random : Int32} {co_row : Nat → Int64} {res : Int32 × Int32 × Int32 × (Nat → Int64)} (C : axC X l D Y cX12_rain 12 RX12 wsX12_rain rmX12_rain (some .int)) (hQ : axQ X 0 0 (fun r9 w9 => r9 = (some (.int res.1)) ∧ w9 = [oX12 ao res.2.1 res.2.2.1 io_cells io_children io_changes io_taped io_at io_to io_nest io_readMany io_codeLong io_readLong io_undos io_wentHome io_tideLevel io_acts io_firstBreaks io_bestCrew io_sights io_wayMany io_random, rJ Y (ao 1) 24 res.2.2.2])) (hf : fX12_rain_b41 io_thrown io_rows co_row = some res) : ax X 0 0 41 [none, none, none, none, none, none, none, none, none, none, none, none] [oX12 ao io_thrown io_rows io_cells io_children io_changes io_taped io_at io_to io_nest io_readMany io_codeLong io_readLong io_undos io_wentHome io_tideLevel io_acts io_firstBreaks io_bestCrew io_sights io_wayMany io_random, rJ Y (ao 1) 24 co_row] [] := by
  unfold fX12_rain_b41 at hf
  refine a_iconst C (-1 : Int32) dX12_rain_41 (by decide) ?_
  obtain rfl := fx_some hf
  exact a_iret C hQ dX12_rain_42 ⟨rfl, rfl⟩
def fX12_rain_b149 (io_thrown : Int32) (io_rows : Int32) (co_row : Nat → Int64) (x4 : Int64) (x6 : Int64) : Option (Int32 × Int32 × Int32 × (Nat → Int64)) :=
  (fX12_common 80 x4 x6).bind (fun r1 => if ¬ r1 = 0 then (fX12_enters (0 : Int32) co_row (x4 / r1)).bind (fun r3 => (fX12_enters r3.1 r3.2 (x6 / r1)).bind (fun r4 => some ((0 : Int32), io_thrown, r4.1, r4.2))) else none)
set_option maxHeartbeats 400000 in
set_option maxRecDepth 100000 in
theorem kX12_rain_b149 {X : cxT} {l : Launch} {D : va_G} {Y : Nat → ClassId} {ao : Nat → Nat} {io_thrown : Int32} {io_rows : Int32} {io_cells : Int32} {io_children : Int32} {io_changes : Int32} {io_taped : Int32} {io_at : Int32} {io_to : Int32} {io_nest : Int32} {io_readMany : Int32} {io_codeLong : Int32} {io_readLong : Int32} {io_undos : Int32} {io_wentHome : Int32} {io_tideLevel : Int32} {io_acts : Int32} {io_firstBreaks : Int32} {io_bestCrew : Int32} {io_sights : Int32} {io_wayMany : Int32} {io_random : Int32} {co_row : Nat → Int64} {x4 : Int64} {x6 : Int64} {res : Int32 × Int32 × Int32 × (Nat → Int64)} (C : axC X l D Y cX12_rain 12 RX12 wsX12_rain rmX12_rain (some .int)) (hQ : axQ X 0 0 (fun r9 w9 => r9 = (some (.int res.1)) ∧ w9 = [oX12 ao res.2.1 res.2.2.1 io_cells io_children io_changes io_taped io_at io_to io_nest io_readMany io_codeLong io_readLong io_undos io_wentHome io_tideLevel io_acts io_firstBreaks io_bestCrew io_sights io_wayMany io_random, rJ Y (ao 1) 24 res.2.2.2])) (hf : fX12_rain_b149 io_thrown io_rows co_row x4 x6 = some res) : ax X 0 0 149 [some (.ref (ao 0)), none, none, none, some (.long x4), none, some (.long x6), none, none, none, none, none] [oX12 ao io_thrown io_rows io_cells io_children io_changes io_taped io_at io_to io_nest io_readMany io_codeLong io_readLong io_undos io_wentHome io_tideLevel io_acts io_firstBreaks io_bestCrew io_sights io_wayMany io_random, rJ Y (ao 1) 24 co_row] [] := by
  unfold fX12_rain_b149 at hf
  refine a_lload C dX12_rain_149 rfl ?_
  refine a_lload C dX12_rain_151 rfl ?_
  obtain ⟨r1, h1, hf⟩ := fx_bind hf
  refine a_fS C (kX12_common l D Y 80 x4 x6 r1 h1) gX12_rain_X12_common rfl dvX12_common ⟨⟨rfl, rfl⟩, ⟨Nat.le_of_ble_eq_true rfl, Nat.le_of_ble_eq_true rfl⟩, ⟨Nat.le_of_ble_eq_true rfl, Nat.le_of_ble_eq_true rfl⟩⟩ rfl (Nat.le_of_ble_eq_true rfl) dX12_rain_153 [] [0, 1] trivial rfl rfl [oX12 ao io_thrown io_rows io_cells io_children io_changes io_taped io_at io_to io_nest io_readMany io_codeLong io_readLong io_undos io_wentHome io_tideLevel io_acts io_firstBreaks io_bestCrew io_sights io_wayMany io_random, rJ Y (ao 1) 24 co_row] trivial ⟨rfl, rfl, trivial⟩ rfl ?_
  refine a_lstore C dX12_rain_156 (by decide) rfl ?_
  refine a_aload_n C dX12_rain_158 rfl ?_
  refine a_iconst C (0 : Int32) dX12_rain_159 (by decide) ?_
  refine a_put C eX12_rain_119 tfX12_1 dX12_rain_160 0 rfl rfl rfl (Nat.le_of_ble_eq_true rfl) ?_
  refine a_aload_n C dX12_rain_163 rfl ?_
  refine a_lload C dX12_rain_164 rfl ?_
  refine a_lload C dX12_rain_166 rfl ?_
  obtain ⟨h2, hf⟩ := fx_ite hf
  refine a_ldiv C dX12_rain_168 h2 ?_
  obtain ⟨r3, h3, hf⟩ := fx_bind hf
  refine a_fV C (kX12_enters l D Y ao io_thrown (0 : Int32) io_cells io_children io_changes io_taped io_at io_to io_nest io_readMany io_codeLong io_readLong io_undos io_wentHome io_tideLevel io_acts io_firstBreaks io_bestCrew io_sights io_wayMany io_random co_row (x4 / r1) r3 h3) gX12_rain_X12_enters rfl dvX12_enters ⟨⟨rfl, rfl⟩, ⟨Nat.le_of_ble_eq_true rfl, Nat.le_of_ble_eq_true rfl⟩, ⟨Nat.le_of_ble_eq_true rfl, Nat.le_of_ble_eq_true rfl⟩⟩ rfl (Nat.le_of_ble_eq_true rfl) dX12_rain_169 rfl rfl [0, 1] [] ⟨rfl, rfl, trivial⟩ rfl rfl [oX12 ao io_thrown r3.1 io_cells io_children io_changes io_taped io_at io_to io_nest io_readMany io_codeLong io_readLong io_undos io_wentHome io_tideLevel io_acts io_firstBreaks io_bestCrew io_sights io_wayMany io_random, rJ Y (ao 1) 24 r3.2] ⟨rfl, rfl, trivial⟩ trivial rfl ?_
  refine a_aload_n C dX12_rain_172 rfl ?_
  refine a_lload C dX12_rain_173 rfl ?_
  refine a_lload C dX12_rain_175 rfl ?_
  refine a_ldiv C dX12_rain_177 h2 ?_
  obtain ⟨r4, h4, hf⟩ := fx_bind hf
  refine a_fV C (kX12_enters l D Y ao io_thrown r3.1 io_cells io_children io_changes io_taped io_at io_to io_nest io_readMany io_codeLong io_readLong io_undos io_wentHome io_tideLevel io_acts io_firstBreaks io_bestCrew io_sights io_wayMany io_random r3.2 (x6 / r1) r4 h4) gX12_rain_X12_enters rfl dvX12_enters ⟨⟨rfl, rfl⟩, ⟨Nat.le_of_ble_eq_true rfl, Nat.le_of_ble_eq_true rfl⟩, ⟨Nat.le_of_ble_eq_true rfl, Nat.le_of_ble_eq_true rfl⟩⟩ rfl (Nat.le_of_ble_eq_true rfl) dX12_rain_178 rfl rfl [0, 1] [] ⟨rfl, rfl, trivial⟩ rfl rfl [oX12 ao io_thrown r4.1 io_cells io_children io_changes io_taped io_at io_to io_nest io_readMany io_codeLong io_readLong io_undos io_wentHome io_tideLevel io_acts io_firstBreaks io_bestCrew io_sights io_wayMany io_random, rJ Y (ao 1) 24 r4.2] ⟨rfl, rfl, trivial⟩ trivial rfl ?_
  refine a_iconst C (0 : Int32) dX12_rain_181 (by decide) ?_
  obtain rfl := fx_some hf
  exact a_iret C hQ dX12_rain_182 ⟨rfl, rfl⟩
def fX12_rain_b136 (io_thrown : Int32) (io_rows : Int32) (co_row : Nat → Int64) (x1 : Int32) (x2 : Int32) (x3 : Int32) (x4 : Int64) (x6 : Int64) (x8 : Int32) (x9 : Int64) (k75 : Int64 × Int32 → Option (Int32 × Int32 × Int32 × (Nat → Int64))) : Option (Int32 × Int32 × Int32 × (Nat → Int64)) :=
  k75 ((x4 + x9), (x8 + (1 : Int32)))
set_option maxHeartbeats 400000 in
set_option maxRecDepth 100000 in
theorem kX12_rain_b136 {X : cxT} {l : Launch} {D : va_G} {Y : Nat → ClassId} {ao : Nat → Nat} {io_thrown : Int32} {io_rows : Int32} {io_cells : Int32} {io_children : Int32} {io_changes : Int32} {io_taped : Int32} {io_at : Int32} {io_to : Int32} {io_nest : Int32} {io_readMany : Int32} {io_codeLong : Int32} {io_readLong : Int32} {io_undos : Int32} {io_wentHome : Int32} {io_tideLevel : Int32} {io_acts : Int32} {io_firstBreaks : Int32} {io_bestCrew : Int32} {io_sights : Int32} {io_wayMany : Int32} {io_random : Int32} {co_row : Nat → Int64} {x1 : Int32} {x2 : Int32} {x3 : Int32} {x4 : Int64} {x6 : Int64} {x8 : Int32} {x9 : Int64} {res : Int32 × Int32 × Int32 × (Nat → Int64)} (C : axC X l D Y cX12_rain 12 RX12 wsX12_rain rmX12_rain (some .int)) (hQ : axQ X 0 0 (fun r9 w9 => r9 = (some (.int res.1)) ∧ w9 = [oX12 ao res.2.1 res.2.2.1 io_cells io_children io_changes io_taped io_at io_to io_nest io_readMany io_codeLong io_readLong io_undos io_wentHome io_tideLevel io_acts io_firstBreaks io_bestCrew io_sights io_wayMany io_random, rJ Y (ao 1) 24 res.2.2.2])) {k75 : Int64 × Int32 → Option (Int32 × Int32 × Int32 × (Nat → Int64))} (hk75 : ∀ s : Int64 × Int32, k75 s = some res → ax X 0 0 75 [some (.ref (ao 0)), some (.int x1), some (.int x2), some (.int x3), some (.long s.1), none, some (.long x6), none, some (.int s.2), none, none, none] [oX12 ao io_thrown io_rows io_cells io_children io_changes io_taped io_at io_to io_nest io_readMany io_codeLong io_readLong io_undos io_wentHome io_tideLevel io_acts io_firstBreaks io_bestCrew io_sights io_wayMany io_random, rJ Y (ao 1) 24 co_row] []) (hf : fX12_rain_b136 io_thrown io_rows co_row x1 x2 x3 x4 x6 x8 x9 k75 = some res) : ax X 0 0 136 [some (.ref (ao 0)), some (.int x1), some (.int x2), some (.int x3), some (.long x4), none, some (.long x6), none, some (.int x8), some (.long x9), none, none] [oX12 ao io_thrown io_rows io_cells io_children io_changes io_taped io_at io_to io_nest io_readMany io_codeLong io_readLong io_undos io_wentHome io_tideLevel io_acts io_firstBreaks io_bestCrew io_sights io_wayMany io_random, rJ Y (ao 1) 24 co_row] [] := by
  unfold fX12_rain_b136 at hf
  refine a_lload C dX12_rain_136 rfl ?_
  refine a_lload C dX12_rain_138 rfl ?_
  refine a_ladd C dX12_rain_140 ?_
  refine a_lstore C dX12_rain_141 (by decide) rfl ?_
  refine a_iinc C (1 : Int32) dX12_rain_143 (by decide) rfl (by decide) rfl ?_
  refine a_goto C 75 dX12_rain_146 (by decide) ?_
  refine a_kill [9] ?_
  exact hk75 ((x4 + x9), (x8 + (1 : Int32))) hf
def fX12_rain_b127 (io_thrown : Int32) (io_rows : Int32) (co_row : Nat → Int64) (x1 : Int32) (x2 : Int32) (x3 : Int32) (x4 : Int64) (x6 : Int64) (x8 : Int32) (x11 : Int32) (s0 : Int64) (s1 : Int64) (k75 : Int64 × Int32 → Option (Int32 × Int32 × Int32 × (Nat → Int64))) (k99 : Int64 × Int32 → Option (Int32 × Int32 × Int32 × (Nat → Int64))) : Option (Int32 × Int32 × Int32 × (Nat → Int64)) :=
  k99 ((s0 * s1), (x11 + (1 : Int32)))
set_option maxHeartbeats 400000 in
set_option maxRecDepth 100000 in
theorem kX12_rain_b127 {X : cxT} {l : Launch} {D : va_G} {Y : Nat → ClassId} {ao : Nat → Nat} {io_thrown : Int32} {io_rows : Int32} {io_cells : Int32} {io_children : Int32} {io_changes : Int32} {io_taped : Int32} {io_at : Int32} {io_to : Int32} {io_nest : Int32} {io_readMany : Int32} {io_codeLong : Int32} {io_readLong : Int32} {io_undos : Int32} {io_wentHome : Int32} {io_tideLevel : Int32} {io_acts : Int32} {io_firstBreaks : Int32} {io_bestCrew : Int32} {io_sights : Int32} {io_wayMany : Int32} {io_random : Int32} {co_row : Nat → Int64} {x1 : Int32} {x2 : Int32} {x3 : Int32} {x4 : Int64} {x6 : Int64} {x8 : Int32} {x11 : Int32} {s0 : Int64} {s1 : Int64} {res : Int32 × Int32 × Int32 × (Nat → Int64)} (C : axC X l D Y cX12_rain 12 RX12 wsX12_rain rmX12_rain (some .int)) (hQ : axQ X 0 0 (fun r9 w9 => r9 = (some (.int res.1)) ∧ w9 = [oX12 ao res.2.1 res.2.2.1 io_cells io_children io_changes io_taped io_at io_to io_nest io_readMany io_codeLong io_readLong io_undos io_wentHome io_tideLevel io_acts io_firstBreaks io_bestCrew io_sights io_wayMany io_random, rJ Y (ao 1) 24 res.2.2.2])) {k75 : Int64 × Int32 → Option (Int32 × Int32 × Int32 × (Nat → Int64))} (hk75 : ∀ s : Int64 × Int32, k75 s = some res → ax X 0 0 75 [some (.ref (ao 0)), some (.int x1), some (.int x2), some (.int x3), some (.long s.1), none, some (.long x6), none, some (.int s.2), none, none, none] [oX12 ao io_thrown io_rows io_cells io_children io_changes io_taped io_at io_to io_nest io_readMany io_codeLong io_readLong io_undos io_wentHome io_tideLevel io_acts io_firstBreaks io_bestCrew io_sights io_wayMany io_random, rJ Y (ao 1) 24 co_row] []) {k99 : Int64 × Int32 → Option (Int32 × Int32 × Int32 × (Nat → Int64))} (hk99 : ∀ s : Int64 × Int32, k99 s = some res → ax X 0 0 99 [some (.ref (ao 0)), some (.int x1), some (.int x2), some (.int x3), some (.long x4), none, some (.long x6), none, some (.int x8), some (.long s.1), none, some (.int s.2)] [oX12 ao io_thrown io_rows io_cells io_children io_changes io_taped io_at io_to io_nest io_readMany io_codeLong io_readLong io_undos io_wentHome io_tideLevel io_acts io_firstBreaks io_bestCrew io_sights io_wayMany io_random, rJ Y (ao 1) 24 co_row] []) (hf : fX12_rain_b127 io_thrown io_rows co_row x1 x2 x3 x4 x6 x8 x11 s0 s1 k75 k99 = some res) : ax X 0 0 127 [some (.ref (ao 0)), some (.int x1), some (.int x2), some (.int x3), some (.long x4), none, some (.long x6), none, some (.int x8), none, none, some (.int x11)] [oX12 ao io_thrown io_rows io_cells io_children io_changes io_taped io_at io_to io_nest io_readMany io_codeLong io_readLong io_undos io_wentHome io_tideLevel io_acts io_firstBreaks io_bestCrew io_sights io_wayMany io_random, rJ Y (ao 1) 24 co_row] [.long s1, .long s0] := by
  unfold fX12_rain_b127 at hf
  refine a_lmul C dX12_rain_127 ?_
  refine a_lstore C dX12_rain_128 (by decide) rfl ?_
  refine a_iinc C (1 : Int32) dX12_rain_130 (by decide) rfl (by decide) rfl ?_
  refine a_goto C 99 dX12_rain_133 (by decide) ?_
  exact hk99 ((s0 * s1), (x11 + (1 : Int32))) hf
def fX12_rain_l99 (io_thrown : Int32) (io_rows : Int32) (co_row : Nat → Int64) (x1 : Int32) (x2 : Int32) (x3 : Int32) (x4 : Int64) (x6 : Int64) (x8 : Int32) (k75 : Int64 × Int32 → Option (Int32 × Int32 × Int32 × (Nat → Int64))) (k99 : Int64 × Int32 → Option (Int32 × Int32 × Int32 × (Nat → Int64))) (x9 : Int64) (x11 : Int32) : Option (Int32 × Int32 × Int32 × (Nat → Int64)) :=
  if x1 ≤ x11 then (fX12_rain_b136 io_thrown io_rows co_row x1 x2 x3 x4 x6 x8 x9 k75) else ((fX12_has x8 x11).bind (fun r6 => if r6 = (0 : Int32) then (fX12_rain_b127 io_thrown io_rows co_row x1 x2 x3 x4 x6 x8 x11 x9 (((10 : Int32) - x3).toInt64) k75 k99) else (fX12_rain_b127 io_thrown io_rows co_row x1 x2 x3 x4 x6 x8 x11 x9 (x3.toInt64) k75 k99)))
def fX12_rain_b99 (io_thrown : Int32) (io_rows : Int32) (co_row : Nat → Int64) (x1 : Int32) (x2 : Int32) (x3 : Int32) (x4 : Int64) (x6 : Int64) (x8 : Int32) (x9 : Int64) (x11 : Int32) (k75 : Int64 × Int32 → Option (Int32 × Int32 × Int32 × (Nat → Int64))) : Option (Int32 × Int32 × Int32 × (Nat → Int64)) :=
  loopN (fun (s : Int64 × Int32) k99 => fX12_rain_l99 io_thrown io_rows co_row x1 x2 x3 x4 x6 x8 k75 k99 s.1 s.2) FUEL (x9, x11)
set_option maxHeartbeats 400000 in
set_option maxRecDepth 100000 in
theorem kX12_rain_l99 {X : cxT} {l : Launch} {D : va_G} {Y : Nat → ClassId} {ao : Nat → Nat} {io_thrown : Int32} {io_rows : Int32} {io_cells : Int32} {io_children : Int32} {io_changes : Int32} {io_taped : Int32} {io_at : Int32} {io_to : Int32} {io_nest : Int32} {io_readMany : Int32} {io_codeLong : Int32} {io_readLong : Int32} {io_undos : Int32} {io_wentHome : Int32} {io_tideLevel : Int32} {io_acts : Int32} {io_firstBreaks : Int32} {io_bestCrew : Int32} {io_sights : Int32} {io_wayMany : Int32} {io_random : Int32} {co_row : Nat → Int64} {x1 : Int32} {x2 : Int32} {x3 : Int32} {x4 : Int64} {x6 : Int64} {x8 : Int32} {x9 : Int64} {x11 : Int32} {res : Int32 × Int32 × Int32 × (Nat → Int64)} (C : axC X l D Y cX12_rain 12 RX12 wsX12_rain rmX12_rain (some .int)) (hQ : axQ X 0 0 (fun r9 w9 => r9 = (some (.int res.1)) ∧ w9 = [oX12 ao res.2.1 res.2.2.1 io_cells io_children io_changes io_taped io_at io_to io_nest io_readMany io_codeLong io_readLong io_undos io_wentHome io_tideLevel io_acts io_firstBreaks io_bestCrew io_sights io_wayMany io_random, rJ Y (ao 1) 24 res.2.2.2])) {k75 : Int64 × Int32 → Option (Int32 × Int32 × Int32 × (Nat → Int64))} (hk75 : ∀ s : Int64 × Int32, k75 s = some res → ax X 0 0 75 [some (.ref (ao 0)), some (.int x1), some (.int x2), some (.int x3), some (.long s.1), none, some (.long x6), none, some (.int s.2), none, none, none] [oX12 ao io_thrown io_rows io_cells io_children io_changes io_taped io_at io_to io_nest io_readMany io_codeLong io_readLong io_undos io_wentHome io_tideLevel io_acts io_firstBreaks io_bestCrew io_sights io_wayMany io_random, rJ Y (ao 1) 24 co_row] []) {k99 : Int64 × Int32 → Option (Int32 × Int32 × Int32 × (Nat → Int64))} (hk99 : ∀ s : Int64 × Int32, k99 s = some res → ax X 0 0 99 [some (.ref (ao 0)), some (.int x1), some (.int x2), some (.int x3), some (.long x4), none, some (.long x6), none, some (.int x8), some (.long s.1), none, some (.int s.2)] [oX12 ao io_thrown io_rows io_cells io_children io_changes io_taped io_at io_to io_nest io_readMany io_codeLong io_readLong io_undos io_wentHome io_tideLevel io_acts io_firstBreaks io_bestCrew io_sights io_wayMany io_random, rJ Y (ao 1) 24 co_row] []) (hf : fX12_rain_l99 io_thrown io_rows co_row x1 x2 x3 x4 x6 x8 k75 k99 x9 x11 = some res) : ax X 0 0 99 [some (.ref (ao 0)), some (.int x1), some (.int x2), some (.int x3), some (.long x4), none, some (.long x6), none, some (.int x8), some (.long x9), none, some (.int x11)] [oX12 ao io_thrown io_rows io_cells io_children io_changes io_taped io_at io_to io_nest io_readMany io_codeLong io_readLong io_undos io_wentHome io_tideLevel io_acts io_firstBreaks io_bestCrew io_sights io_wayMany io_random, rJ Y (ao 1) 24 co_row] [] := by
  unfold fX12_rain_l99 at hf
  refine a_iload C dX12_rain_99 rfl ?_
  refine a_iload_n C dX12_rain_101 rfl ?_
  refine a_icmp_ge C 136 dX12_rain_102 (by decide) (fun h5 => ?_) (fun h5 => ?_)
  · have hf := fx_t h5 hf
    refine a_kill [11] ?_
    exact kX12_rain_b136 C hQ hk75 hf
  · have hf := fx_f h5 hf
    refine a_lload C dX12_rain_105 rfl ?_
    refine a_iload C dX12_rain_107 rfl ?_
    refine a_iload C dX12_rain_109 rfl ?_
    obtain ⟨r6, h6, hf⟩ := fx_bind hf
    refine a_fS C (kX12_has l D Y x8 x11 r6 h6) gX12_rain_X12_has rfl dvX12_has ⟨⟨rfl, rfl⟩, ⟨Nat.le_of_ble_eq_true rfl, Nat.le_of_ble_eq_true rfl⟩, ⟨Nat.le_of_ble_eq_true rfl, Nat.le_of_ble_eq_true rfl⟩⟩ rfl (Nat.le_of_ble_eq_true rfl) dX12_rain_111 [] [0, 1] trivial rfl rfl [oX12 ao io_thrown io_rows io_cells io_children io_changes io_taped io_at io_to io_nest io_readMany io_codeLong io_readLong io_undos io_wentHome io_tideLevel io_acts io_firstBreaks io_bestCrew io_sights io_wayMany io_random, rJ Y (ao 1) 24 co_row] trivial ⟨rfl, rfl, trivial⟩ rfl ?_
    refine a_if_eq C 122 dX12_rain_114 (by decide) (fun h7 => ?_) (fun h7 => ?_)
    · have hf := fx_t h7 hf
      refine a_bipush C (10 : Int32) dX12_rain_122 (by decide) ?_
      refine a_iload_n C dX12_rain_124 rfl ?_
      refine a_isub C dX12_rain_125 ?_
      refine a_i2l C dX12_rain_126 ?_
      refine a_kill [9] ?_
      exact kX12_rain_b127 C hQ hk75 hk99 hf
    · have hf := fx_f h7 hf
      refine a_iload_n C dX12_rain_117 rfl ?_
      refine a_i2l C dX12_rain_118 ?_
      refine a_goto C 127 dX12_rain_119 (by decide) ?_
      refine a_kill [9] ?_
      exact kX12_rain_b127 C hQ hk75 hk99 hf
set_option maxHeartbeats 400000 in
set_option maxRecDepth 100000 in
theorem kX12_rain_b99 {X : cxT} {l : Launch} {D : va_G} {Y : Nat → ClassId} {ao : Nat → Nat} {io_thrown : Int32} {io_rows : Int32} {io_cells : Int32} {io_children : Int32} {io_changes : Int32} {io_taped : Int32} {io_at : Int32} {io_to : Int32} {io_nest : Int32} {io_readMany : Int32} {io_codeLong : Int32} {io_readLong : Int32} {io_undos : Int32} {io_wentHome : Int32} {io_tideLevel : Int32} {io_acts : Int32} {io_firstBreaks : Int32} {io_bestCrew : Int32} {io_sights : Int32} {io_wayMany : Int32} {io_random : Int32} {co_row : Nat → Int64} {x1 : Int32} {x2 : Int32} {x3 : Int32} {x4 : Int64} {x6 : Int64} {x8 : Int32} {x9 : Int64} {x11 : Int32} {res : Int32 × Int32 × Int32 × (Nat → Int64)} (C : axC X l D Y cX12_rain 12 RX12 wsX12_rain rmX12_rain (some .int)) (hQ : axQ X 0 0 (fun r9 w9 => r9 = (some (.int res.1)) ∧ w9 = [oX12 ao res.2.1 res.2.2.1 io_cells io_children io_changes io_taped io_at io_to io_nest io_readMany io_codeLong io_readLong io_undos io_wentHome io_tideLevel io_acts io_firstBreaks io_bestCrew io_sights io_wayMany io_random, rJ Y (ao 1) 24 res.2.2.2])) {k75 : Int64 × Int32 → Option (Int32 × Int32 × Int32 × (Nat → Int64))} (hk75 : ∀ s : Int64 × Int32, k75 s = some res → ax X 0 0 75 [some (.ref (ao 0)), some (.int x1), some (.int x2), some (.int x3), some (.long s.1), none, some (.long x6), none, some (.int s.2), none, none, none] [oX12 ao io_thrown io_rows io_cells io_children io_changes io_taped io_at io_to io_nest io_readMany io_codeLong io_readLong io_undos io_wentHome io_tideLevel io_acts io_firstBreaks io_bestCrew io_sights io_wayMany io_random, rJ Y (ao 1) 24 co_row] []) (hf : fX12_rain_b99 io_thrown io_rows co_row x1 x2 x3 x4 x6 x8 x9 x11 k75 = some res) : ax X 0 0 99 [some (.ref (ao 0)), some (.int x1), some (.int x2), some (.int x3), some (.long x4), none, some (.long x6), none, some (.int x8), some (.long x9), none, some (.int x11)] [oX12 ao io_thrown io_rows io_cells io_children io_changes io_taped io_at io_to io_nest io_readMany io_codeLong io_readLong io_undos io_wentHome io_tideLevel io_acts io_firstBreaks io_bestCrew io_sights io_wayMany io_random, rJ Y (ao 1) 24 co_row] [] := by
  unfold fX12_rain_b99 at hf
  exact fx_loop (P := fun s : Int64 × Int32 => ax X 0 0 99 [some (.ref (ao 0)), some (.int x1), some (.int x2), some (.int x3), some (.long x4), none, some (.long x6), none, some (.int x8), some (.long s.1), none, some (.int s.2)] [oX12 ao io_thrown io_rows io_cells io_children io_changes io_taped io_at io_to io_nest io_readMany io_codeLong io_readLong io_undos io_wentHome io_tideLevel io_acts io_firstBreaks io_bestCrew io_sights io_wayMany io_random, rJ Y (ao 1) 24 co_row] []) (fun s k99 hk99 h => kX12_rain_l99 C hQ hk75 hk99 h) FUEL (x9, x11) hf
def fX12_rain_l75 (io_thrown : Int32) (io_rows : Int32) (co_row : Nat → Int64) (x1 : Int32) (x2 : Int32) (x3 : Int32) (x6 : Int64) (k75 : Int64 × Int32 → Option (Int32 × Int32 × Int32 × (Nat → Int64))) (x4 : Int64) (x8 : Int32) : Option (Int32 × Int32 × Int32 × (Nat → Int64)) :=
  if (jshl (1 : Int32) x1) ≤ x8 then (fX12_rain_b149 io_thrown io_rows co_row x4 x6) else ((fX12_hasRun x8 x1 x2).bind (fun r9 => (fX12_flag r9).bind (fun r10 => fX12_rain_b99 io_thrown io_rows co_row x1 x2 x3 x4 x6 x8 (r10.toInt64) (0 : Int32) k75)))
def fX12_rain_b75 (io_thrown : Int32) (io_rows : Int32) (co_row : Nat → Int64) (x1 : Int32) (x2 : Int32) (x3 : Int32) (x4 : Int64) (x6 : Int64) (x8 : Int32) : Option (Int32 × Int32 × Int32 × (Nat → Int64)) :=
  loopN (fun (s : Int64 × Int32) k75 => fX12_rain_l75 io_thrown io_rows co_row x1 x2 x3 x6 k75 s.1 s.2) FUEL (x4, x8)
set_option maxHeartbeats 400000 in
set_option maxRecDepth 100000 in
theorem kX12_rain_l75 {X : cxT} {l : Launch} {D : va_G} {Y : Nat → ClassId} {ao : Nat → Nat} {io_thrown : Int32} {io_rows : Int32} {io_cells : Int32} {io_children : Int32} {io_changes : Int32} {io_taped : Int32} {io_at : Int32} {io_to : Int32} {io_nest : Int32} {io_readMany : Int32} {io_codeLong : Int32} {io_readLong : Int32} {io_undos : Int32} {io_wentHome : Int32} {io_tideLevel : Int32} {io_acts : Int32} {io_firstBreaks : Int32} {io_bestCrew : Int32} {io_sights : Int32} {io_wayMany : Int32} {io_random : Int32} {co_row : Nat → Int64} {x1 : Int32} {x2 : Int32} {x3 : Int32} {x4 : Int64} {x6 : Int64} {x8 : Int32} {res : Int32 × Int32 × Int32 × (Nat → Int64)} (C : axC X l D Y cX12_rain 12 RX12 wsX12_rain rmX12_rain (some .int)) (hQ : axQ X 0 0 (fun r9 w9 => r9 = (some (.int res.1)) ∧ w9 = [oX12 ao res.2.1 res.2.2.1 io_cells io_children io_changes io_taped io_at io_to io_nest io_readMany io_codeLong io_readLong io_undos io_wentHome io_tideLevel io_acts io_firstBreaks io_bestCrew io_sights io_wayMany io_random, rJ Y (ao 1) 24 res.2.2.2])) {k75 : Int64 × Int32 → Option (Int32 × Int32 × Int32 × (Nat → Int64))} (hk75 : ∀ s : Int64 × Int32, k75 s = some res → ax X 0 0 75 [some (.ref (ao 0)), some (.int x1), some (.int x2), some (.int x3), some (.long s.1), none, some (.long x6), none, some (.int s.2), none, none, none] [oX12 ao io_thrown io_rows io_cells io_children io_changes io_taped io_at io_to io_nest io_readMany io_codeLong io_readLong io_undos io_wentHome io_tideLevel io_acts io_firstBreaks io_bestCrew io_sights io_wayMany io_random, rJ Y (ao 1) 24 co_row] []) (hf : fX12_rain_l75 io_thrown io_rows co_row x1 x2 x3 x6 k75 x4 x8 = some res) : ax X 0 0 75 [some (.ref (ao 0)), some (.int x1), some (.int x2), some (.int x3), some (.long x4), none, some (.long x6), none, some (.int x8), none, none, none] [oX12 ao io_thrown io_rows io_cells io_children io_changes io_taped io_at io_to io_nest io_readMany io_codeLong io_readLong io_undos io_wentHome io_tideLevel io_acts io_firstBreaks io_bestCrew io_sights io_wayMany io_random, rJ Y (ao 1) 24 co_row] [] := by
  unfold fX12_rain_l75 at hf
  refine a_iload C dX12_rain_75 rfl ?_
  refine a_iconst C (1 : Int32) dX12_rain_77 (by decide) ?_
  refine a_iload_n C dX12_rain_78 rfl ?_
  refine a_ishl C dX12_rain_79 ?_
  refine a_icmp_ge C 149 dX12_rain_80 (by decide) (fun h8 => ?_) (fun h8 => ?_)
  · have hf := fx_t h8 hf
    refine a_kill [1, 2, 3, 8] ?_
    exact kX12_rain_b149 C hQ hf
  · have hf := fx_f h8 hf
    refine a_iload C dX12_rain_83 rfl ?_
    refine a_iload_n C dX12_rain_85 rfl ?_
    refine a_iload_n C dX12_rain_86 rfl ?_
    obtain ⟨r9, h9, hf⟩ := fx_bind hf
    refine a_fS C (kX12_hasRun l D Y x8 x1 x2 r9 h9) gX12_rain_X12_hasRun rfl dvX12_hasRun ⟨⟨rfl, rfl⟩, ⟨Nat.le_of_ble_eq_true rfl, Nat.le_of_ble_eq_true rfl⟩, ⟨Nat.le_of_ble_eq_true rfl, Nat.le_of_ble_eq_true rfl⟩⟩ rfl (Nat.le_of_ble_eq_true rfl) dX12_rain_87 [] [0, 1] trivial rfl rfl [oX12 ao io_thrown io_rows io_cells io_children io_changes io_taped io_at io_to io_nest io_readMany io_codeLong io_readLong io_undos io_wentHome io_tideLevel io_acts io_firstBreaks io_bestCrew io_sights io_wayMany io_random, rJ Y (ao 1) 24 co_row] trivial ⟨rfl, rfl, trivial⟩ rfl ?_
    obtain ⟨r10, h10, hf⟩ := fx_bind hf
    refine a_fS C (kX12_flag l D Y r9 r10 h10) gX12_rain_X12_flag rfl dvX12_flag ⟨⟨rfl, rfl⟩, ⟨Nat.le_of_ble_eq_true rfl, Nat.le_of_ble_eq_true rfl⟩, ⟨Nat.le_of_ble_eq_true rfl, Nat.le_of_ble_eq_true rfl⟩⟩ rfl (Nat.le_of_ble_eq_true rfl) dX12_rain_90 [] [0, 1] trivial rfl rfl [oX12 ao io_thrown io_rows io_cells io_children io_changes io_taped io_at io_to io_nest io_readMany io_codeLong io_readLong io_undos io_wentHome io_tideLevel io_acts io_firstBreaks io_bestCrew io_sights io_wayMany io_random, rJ Y (ao 1) 24 co_row] trivial ⟨rfl, rfl, trivial⟩ rfl ?_
    refine a_i2l C dX12_rain_93 ?_
    refine a_lstore C dX12_rain_94 (by decide) rfl ?_
    refine a_iconst C (0 : Int32) dX12_rain_96 (by decide) ?_
    refine a_istore C dX12_rain_97 (by decide) rfl ?_
    exact kX12_rain_b99 C hQ hk75 hf
set_option maxHeartbeats 400000 in
set_option maxRecDepth 100000 in
theorem kX12_rain_b75 {X : cxT} {l : Launch} {D : va_G} {Y : Nat → ClassId} {ao : Nat → Nat} {io_thrown : Int32} {io_rows : Int32} {io_cells : Int32} {io_children : Int32} {io_changes : Int32} {io_taped : Int32} {io_at : Int32} {io_to : Int32} {io_nest : Int32} {io_readMany : Int32} {io_codeLong : Int32} {io_readLong : Int32} {io_undos : Int32} {io_wentHome : Int32} {io_tideLevel : Int32} {io_acts : Int32} {io_firstBreaks : Int32} {io_bestCrew : Int32} {io_sights : Int32} {io_wayMany : Int32} {io_random : Int32} {co_row : Nat → Int64} {x1 : Int32} {x2 : Int32} {x3 : Int32} {x4 : Int64} {x6 : Int64} {x8 : Int32} {res : Int32 × Int32 × Int32 × (Nat → Int64)} (C : axC X l D Y cX12_rain 12 RX12 wsX12_rain rmX12_rain (some .int)) (hQ : axQ X 0 0 (fun r9 w9 => r9 = (some (.int res.1)) ∧ w9 = [oX12 ao res.2.1 res.2.2.1 io_cells io_children io_changes io_taped io_at io_to io_nest io_readMany io_codeLong io_readLong io_undos io_wentHome io_tideLevel io_acts io_firstBreaks io_bestCrew io_sights io_wayMany io_random, rJ Y (ao 1) 24 res.2.2.2])) (hf : fX12_rain_b75 io_thrown io_rows co_row x1 x2 x3 x4 x6 x8 = some res) : ax X 0 0 75 [some (.ref (ao 0)), some (.int x1), some (.int x2), some (.int x3), some (.long x4), none, some (.long x6), none, some (.int x8), none, none, none] [oX12 ao io_thrown io_rows io_cells io_children io_changes io_taped io_at io_to io_nest io_readMany io_codeLong io_readLong io_undos io_wentHome io_tideLevel io_acts io_firstBreaks io_bestCrew io_sights io_wayMany io_random, rJ Y (ao 1) 24 co_row] [] := by
  unfold fX12_rain_b75 at hf
  exact fx_loop (P := fun s : Int64 × Int32 => ax X 0 0 75 [some (.ref (ao 0)), some (.int x1), some (.int x2), some (.int x3), some (.long s.1), none, some (.long x6), none, some (.int s.2), none, none, none] [oX12 ao io_thrown io_rows io_cells io_children io_changes io_taped io_at io_to io_nest io_readMany io_codeLong io_readLong io_undos io_wentHome io_tideLevel io_acts io_firstBreaks io_bestCrew io_sights io_wayMany io_random, rJ Y (ao 1) 24 co_row] []) (fun s k75 hk75 h => kX12_rain_l75 C hQ hk75 h) FUEL (x4, x8) hf
def fX12_rain_b72 (io_thrown : Int32) (io_rows : Int32) (co_row : Nat → Int64) (x1 : Int32) (x2 : Int32) (x3 : Int32) (x4 : Int64) (x6 : Int64) : Option (Int32 × Int32 × Int32 × (Nat → Int64)) :=
  fX12_rain_b75 io_thrown io_rows co_row x1 x2 x3 x4 x6 (0 : Int32)
set_option maxHeartbeats 400000 in
set_option maxRecDepth 100000 in
theorem kX12_rain_b72 {X : cxT} {l : Launch} {D : va_G} {Y : Nat → ClassId} {ao : Nat → Nat} {io_thrown : Int32} {io_rows : Int32} {io_cells : Int32} {io_children : Int32} {io_changes : Int32} {io_taped : Int32} {io_at : Int32} {io_to : Int32} {io_nest : Int32} {io_readMany : Int32} {io_codeLong : Int32} {io_readLong : Int32} {io_undos : Int32} {io_wentHome : Int32} {io_tideLevel : Int32} {io_acts : Int32} {io_firstBreaks : Int32} {io_bestCrew : Int32} {io_sights : Int32} {io_wayMany : Int32} {io_random : Int32} {co_row : Nat → Int64} {x1 : Int32} {x2 : Int32} {x3 : Int32} {x4 : Int64} {x6 : Int64} {res : Int32 × Int32 × Int32 × (Nat → Int64)} (C : axC X l D Y cX12_rain 12 RX12 wsX12_rain rmX12_rain (some .int)) (hQ : axQ X 0 0 (fun r9 w9 => r9 = (some (.int res.1)) ∧ w9 = [oX12 ao res.2.1 res.2.2.1 io_cells io_children io_changes io_taped io_at io_to io_nest io_readMany io_codeLong io_readLong io_undos io_wentHome io_tideLevel io_acts io_firstBreaks io_bestCrew io_sights io_wayMany io_random, rJ Y (ao 1) 24 res.2.2.2])) (hf : fX12_rain_b72 io_thrown io_rows co_row x1 x2 x3 x4 x6 = some res) : ax X 0 0 72 [some (.ref (ao 0)), some (.int x1), some (.int x2), some (.int x3), some (.long x4), none, some (.long x6), none, none, none, none, none] [oX12 ao io_thrown io_rows io_cells io_children io_changes io_taped io_at io_to io_nest io_readMany io_codeLong io_readLong io_undos io_wentHome io_tideLevel io_acts io_firstBreaks io_bestCrew io_sights io_wayMany io_random, rJ Y (ao 1) 24 co_row] [] := by
  unfold fX12_rain_b72 at hf
  refine a_iconst C (0 : Int32) dX12_rain_72 (by decide) ?_
  refine a_istore C dX12_rain_73 (by decide) rfl ?_
  exact kX12_rain_b75 C hQ hf
def fX12_rain_l52 (io_thrown : Int32) (io_rows : Int32) (co_row : Nat → Int64) (x1 : Int32) (x2 : Int32) (x3 : Int32) (x4 : Int64) (k52 : Int64 × Int32 → Option (Int32 × Int32 × Int32 × (Nat → Int64))) (x6 : Int64) (x8 : Int32) : Option (Int32 × Int32 × Int32 × (Nat → Int64)) :=
  if x1 ≤ x8 then (fX12_rain_b72 io_thrown io_rows co_row x1 x2 x3 x4 x6) else (k52 ((x6 * (10 : Int64)), (x8 + (1 : Int32))))
def fX12_rain_b52 (io_thrown : Int32) (io_rows : Int32) (co_row : Nat → Int64) (x1 : Int32) (x2 : Int32) (x3 : Int32) (x4 : Int64) (x6 : Int64) (x8 : Int32) : Option (Int32 × Int32 × Int32 × (Nat → Int64)) :=
  loopN (fun (s : Int64 × Int32) k52 => fX12_rain_l52 io_thrown io_rows co_row x1 x2 x3 x4 k52 s.1 s.2) FUEL (x6, x8)
set_option maxHeartbeats 400000 in
set_option maxRecDepth 100000 in
theorem kX12_rain_l52 {X : cxT} {l : Launch} {D : va_G} {Y : Nat → ClassId} {ao : Nat → Nat} {io_thrown : Int32} {io_rows : Int32} {io_cells : Int32} {io_children : Int32} {io_changes : Int32} {io_taped : Int32} {io_at : Int32} {io_to : Int32} {io_nest : Int32} {io_readMany : Int32} {io_codeLong : Int32} {io_readLong : Int32} {io_undos : Int32} {io_wentHome : Int32} {io_tideLevel : Int32} {io_acts : Int32} {io_firstBreaks : Int32} {io_bestCrew : Int32} {io_sights : Int32} {io_wayMany : Int32} {io_random : Int32} {co_row : Nat → Int64} {x1 : Int32} {x2 : Int32} {x3 : Int32} {x4 : Int64} {x6 : Int64} {x8 : Int32} {res : Int32 × Int32 × Int32 × (Nat → Int64)} (C : axC X l D Y cX12_rain 12 RX12 wsX12_rain rmX12_rain (some .int)) (hQ : axQ X 0 0 (fun r9 w9 => r9 = (some (.int res.1)) ∧ w9 = [oX12 ao res.2.1 res.2.2.1 io_cells io_children io_changes io_taped io_at io_to io_nest io_readMany io_codeLong io_readLong io_undos io_wentHome io_tideLevel io_acts io_firstBreaks io_bestCrew io_sights io_wayMany io_random, rJ Y (ao 1) 24 res.2.2.2])) {k52 : Int64 × Int32 → Option (Int32 × Int32 × Int32 × (Nat → Int64))} (hk52 : ∀ s : Int64 × Int32, k52 s = some res → ax X 0 0 52 [some (.ref (ao 0)), some (.int x1), some (.int x2), some (.int x3), some (.long x4), none, some (.long s.1), none, some (.int s.2), none, none, none] [oX12 ao io_thrown io_rows io_cells io_children io_changes io_taped io_at io_to io_nest io_readMany io_codeLong io_readLong io_undos io_wentHome io_tideLevel io_acts io_firstBreaks io_bestCrew io_sights io_wayMany io_random, rJ Y (ao 1) 24 co_row] []) (hf : fX12_rain_l52 io_thrown io_rows co_row x1 x2 x3 x4 k52 x6 x8 = some res) : ax X 0 0 52 [some (.ref (ao 0)), some (.int x1), some (.int x2), some (.int x3), some (.long x4), none, some (.long x6), none, some (.int x8), none, none, none] [oX12 ao io_thrown io_rows io_cells io_children io_changes io_taped io_at io_to io_nest io_readMany io_codeLong io_readLong io_undos io_wentHome io_tideLevel io_acts io_firstBreaks io_bestCrew io_sights io_wayMany io_random, rJ Y (ao 1) 24 co_row] [] := by
  unfold fX12_rain_l52 at hf
  refine a_iload C dX12_rain_52 rfl ?_
  refine a_iload_n C dX12_rain_54 rfl ?_
  refine a_icmp_ge C 72 dX12_rain_55 (by decide) (fun h11 => ?_) (fun h11 => ?_)
  · have hf := fx_t h11 hf
    refine a_kill [8] ?_
    exact kX12_rain_b72 C hQ hf
  · have hf := fx_f h11 hf
    refine a_lload C dX12_rain_58 rfl ?_
    refine a_ldc2 C (10 : Int64) dX12_rain_60 eX12_rain_k447 ?_
    refine a_lmul C dX12_rain_63 ?_
    refine a_lstore C dX12_rain_64 (by decide) rfl ?_
    refine a_iinc C (1 : Int32) dX12_rain_66 (by decide) rfl (by decide) rfl ?_
    refine a_goto C 52 dX12_rain_69 (by decide) ?_
    exact hk52 ((x6 * (10 : Int64)), (x8 + (1 : Int32))) hf
set_option maxHeartbeats 400000 in
set_option maxRecDepth 100000 in
theorem kX12_rain_b52 {X : cxT} {l : Launch} {D : va_G} {Y : Nat → ClassId} {ao : Nat → Nat} {io_thrown : Int32} {io_rows : Int32} {io_cells : Int32} {io_children : Int32} {io_changes : Int32} {io_taped : Int32} {io_at : Int32} {io_to : Int32} {io_nest : Int32} {io_readMany : Int32} {io_codeLong : Int32} {io_readLong : Int32} {io_undos : Int32} {io_wentHome : Int32} {io_tideLevel : Int32} {io_acts : Int32} {io_firstBreaks : Int32} {io_bestCrew : Int32} {io_sights : Int32} {io_wayMany : Int32} {io_random : Int32} {co_row : Nat → Int64} {x1 : Int32} {x2 : Int32} {x3 : Int32} {x4 : Int64} {x6 : Int64} {x8 : Int32} {res : Int32 × Int32 × Int32 × (Nat → Int64)} (C : axC X l D Y cX12_rain 12 RX12 wsX12_rain rmX12_rain (some .int)) (hQ : axQ X 0 0 (fun r9 w9 => r9 = (some (.int res.1)) ∧ w9 = [oX12 ao res.2.1 res.2.2.1 io_cells io_children io_changes io_taped io_at io_to io_nest io_readMany io_codeLong io_readLong io_undos io_wentHome io_tideLevel io_acts io_firstBreaks io_bestCrew io_sights io_wayMany io_random, rJ Y (ao 1) 24 res.2.2.2])) (hf : fX12_rain_b52 io_thrown io_rows co_row x1 x2 x3 x4 x6 x8 = some res) : ax X 0 0 52 [some (.ref (ao 0)), some (.int x1), some (.int x2), some (.int x3), some (.long x4), none, some (.long x6), none, some (.int x8), none, none, none] [oX12 ao io_thrown io_rows io_cells io_children io_changes io_taped io_at io_to io_nest io_readMany io_codeLong io_readLong io_undos io_wentHome io_tideLevel io_acts io_firstBreaks io_bestCrew io_sights io_wayMany io_random, rJ Y (ao 1) 24 co_row] [] := by
  unfold fX12_rain_b52 at hf
  exact fx_loop (P := fun s : Int64 × Int32 => ax X 0 0 52 [some (.ref (ao 0)), some (.int x1), some (.int x2), some (.int x3), some (.long x4), none, some (.long s.1), none, some (.int s.2), none, none, none] [oX12 ao io_thrown io_rows io_cells io_children io_changes io_taped io_at io_to io_nest io_readMany io_codeLong io_readLong io_undos io_wentHome io_tideLevel io_acts io_firstBreaks io_bestCrew io_sights io_wayMany io_random, rJ Y (ao 1) 24 co_row] []) (fun s k52 hk52 h => kX12_rain_l52 C hQ hk52 h) FUEL (x6, x8) hf
def fX12_rain (io_thrown : Int32) (io_rows : Int32) (co_row : Nat → Int64) (x1 : Int32) (x2 : Int32) (x3 : Int32) : Option (Int32 × Int32 × Int32 × (Nat → Int64)) :=
  (fX12_in (x1.toInt64) (1 : Int64) (12 : Int64)).bind (fun r12 => if r12 = (0 : Int32) then (fX12_rain_b41 (0 : Int32) io_rows co_row) else ((fX12_in (x2.toInt64) (1 : Int64) (12 : Int64)).bind (fun r14 => if r14 = (0 : Int32) then (fX12_rain_b41 (0 : Int32) io_rows co_row) else ((fX12_in (x3.toInt64) (0 : Int64) (10 : Int64)).bind (fun r16 => if r16 = (0 : Int32) then (fX12_rain_b41 (0 : Int32) io_rows co_row) else (fX12_rain_b52 (0 : Int32) io_rows co_row x1 x2 x3 (0 : Int64) (1 : Int64) (0 : Int32)))))))
set_option maxHeartbeats 400000 in
set_option maxRecDepth 100000 in
theorem kX12_rain (l : Launch) (D : va_G) (Y : Nat → ClassId) (ao : Nat → Nat) (io_thrown : Int32) (io_rows : Int32) (io_cells : Int32) (io_children : Int32) (io_changes : Int32) (io_taped : Int32) (io_at : Int32) (io_to : Int32) (io_nest : Int32) (io_readMany : Int32) (io_codeLong : Int32) (io_readLong : Int32) (io_undos : Int32) (io_wentHome : Int32) (io_tideLevel : Int32) (io_acts : Int32) (io_firstBreaks : Int32) (io_bestCrew : Int32) (io_sights : Int32) (io_wayMany : Int32) (io_random : Int32) (co_row : Nat → Int64) (x1 : Int32) (x2 : Int32) (x3 : Int32) (res : Int32 × Int32 × Int32 × (Nat → Int64)) (hf : fX12_rain io_thrown io_rows co_row x1 x2 x3 = some res) : amf l D Y yX12_rain wsX12_rain rmX12_rain [.ref (ao 0), .int x1, .int x2, .int x3] [oX12 ao io_thrown io_rows io_cells io_children io_changes io_taped io_at io_to io_nest io_readMany io_codeLong io_readLong io_undos io_wentHome io_tideLevel io_acts io_firstBreaks io_bestCrew io_sights io_wayMany io_random, rJ Y (ao 1) 24 co_row] (some (.int res.1)) [oX12 ao res.2.1 res.2.2.1 io_cells io_children io_changes io_taped io_at io_to io_nest io_readMany io_codeLong io_readLong io_undos io_wentHome io_tideLevel io_acts io_firstBreaks io_bestCrew io_sights io_wayMany io_random, rJ Y (ao 1) 24 res.2.2.2] := by
  refine amf.of (cc := cX12_rain) (maxL := 12) (rt := (some .int)) (by decide) rfl RX12 rfl (Nat.le_of_ble_eq_true rfl) [some (.ref (ao 0)), some (.int x1), some (.int x2), some (.int x3), none, none, none, none, none, none, none, none] rfl ?_
  intro X C hQ
  unfold fX12_rain at hf
  refine a_aload_n C dX12_rain_0 rfl ?_
  refine a_iconst C (0 : Int32) dX12_rain_1 (by decide) ?_
  refine a_put C eX12_rain_112 tfX12_0 dX12_rain_2 0 rfl rfl rfl (Nat.le_of_ble_eq_true rfl) ?_
  refine a_iload_n C dX12_rain_5 rfl ?_
  refine a_i2l C dX12_rain_6 ?_
  refine a_lconst C (1 : Int64) dX12_rain_7 (by decide) ?_
  refine a_ldc2 C (12 : Int64) dX12_rain_8 eX12_rain_k445 ?_
  obtain ⟨r12, h12, hf⟩ := fx_bind hf
  refine a_fS C (kX12_in l D Y (x1.toInt64) (1 : Int64) (12 : Int64) r12 h12) gX12_rain_X12_in rfl dvX12_in ⟨⟨rfl, rfl⟩, ⟨Nat.le_of_ble_eq_true rfl, Nat.le_of_ble_eq_true rfl⟩, ⟨Nat.le_of_ble_eq_true rfl, Nat.le_of_ble_eq_true rfl⟩⟩ rfl (Nat.le_of_ble_eq_true rfl) dX12_rain_11 [] [0, 1] trivial rfl rfl [oX12 ao (0 : Int32) io_rows io_cells io_children io_changes io_taped io_at io_to io_nest io_readMany io_codeLong io_readLong io_undos io_wentHome io_tideLevel io_acts io_firstBreaks io_bestCrew io_sights io_wayMany io_random, rJ Y (ao 1) 24 co_row] trivial ⟨rfl, rfl, trivial⟩ rfl ?_
  refine a_if_eq C 41 dX12_rain_14 (by decide) (fun h13 => ?_) (fun h13 => ?_)
  · have hf := fx_t h13 hf
    refine a_kill [0, 1, 2, 3] ?_
    exact kX12_rain_b41 C hQ hf
  · have hf := fx_f h13 hf
    refine a_iload_n C dX12_rain_17 rfl ?_
    refine a_i2l C dX12_rain_18 ?_
    refine a_lconst C (1 : Int64) dX12_rain_19 (by decide) ?_
    refine a_ldc2 C (12 : Int64) dX12_rain_20 eX12_rain_k445 ?_
    obtain ⟨r14, h14, hf⟩ := fx_bind hf
    refine a_fS C (kX12_in l D Y (x2.toInt64) (1 : Int64) (12 : Int64) r14 h14) gX12_rain_X12_in rfl dvX12_in ⟨⟨rfl, rfl⟩, ⟨Nat.le_of_ble_eq_true rfl, Nat.le_of_ble_eq_true rfl⟩, ⟨Nat.le_of_ble_eq_true rfl, Nat.le_of_ble_eq_true rfl⟩⟩ rfl (Nat.le_of_ble_eq_true rfl) dX12_rain_23 [] [0, 1] trivial rfl rfl [oX12 ao (0 : Int32) io_rows io_cells io_children io_changes io_taped io_at io_to io_nest io_readMany io_codeLong io_readLong io_undos io_wentHome io_tideLevel io_acts io_firstBreaks io_bestCrew io_sights io_wayMany io_random, rJ Y (ao 1) 24 co_row] trivial ⟨rfl, rfl, trivial⟩ rfl ?_
    refine a_if_eq C 41 dX12_rain_26 (by decide) (fun h15 => ?_) (fun h15 => ?_)
    · have hf := fx_t h15 hf
      refine a_kill [0, 1, 2, 3] ?_
      exact kX12_rain_b41 C hQ hf
    · have hf := fx_f h15 hf
      refine a_iload_n C dX12_rain_29 rfl ?_
      refine a_i2l C dX12_rain_30 ?_
      refine a_lconst C (0 : Int64) dX12_rain_31 (by decide) ?_
      refine a_ldc2 C (10 : Int64) dX12_rain_32 eX12_rain_k447 ?_
      obtain ⟨r16, h16, hf⟩ := fx_bind hf
      refine a_fS C (kX12_in l D Y (x3.toInt64) (0 : Int64) (10 : Int64) r16 h16) gX12_rain_X12_in rfl dvX12_in ⟨⟨rfl, rfl⟩, ⟨Nat.le_of_ble_eq_true rfl, Nat.le_of_ble_eq_true rfl⟩, ⟨Nat.le_of_ble_eq_true rfl, Nat.le_of_ble_eq_true rfl⟩⟩ rfl (Nat.le_of_ble_eq_true rfl) dX12_rain_35 [] [0, 1] trivial rfl rfl [oX12 ao (0 : Int32) io_rows io_cells io_children io_changes io_taped io_at io_to io_nest io_readMany io_codeLong io_readLong io_undos io_wentHome io_tideLevel io_acts io_firstBreaks io_bestCrew io_sights io_wayMany io_random, rJ Y (ao 1) 24 co_row] trivial ⟨rfl, rfl, trivial⟩ rfl ?_
      refine a_if_ne C 43 dX12_rain_38 (by decide) (fun h17 => ?_) (fun h17 => ?_)
      · have hf := fx_f h17 hf
        refine a_lconst C (0 : Int64) dX12_rain_43 (by decide) ?_
        refine a_lstore C dX12_rain_44 (by decide) rfl ?_
        refine a_lconst C (1 : Int64) dX12_rain_46 (by decide) ?_
        refine a_lstore C dX12_rain_47 (by decide) rfl ?_
        refine a_iconst C (0 : Int32) dX12_rain_49 (by decide) ?_
        refine a_istore C dX12_rain_50 (by decide) rfl ?_
        exact kX12_rain_b52 C hQ hf
      · have hf := fx_t h17 hf
        refine a_kill [0, 1, 2, 3] ?_
        exact kX12_rain_b41 C hQ hf
-- X12_earns
abbrev rmX12_earns : Room := { frames := 0, cells := 0, slots := 0, locals := 0 }
theorem dvX12_earns : yX12_earns.cls ≠ "java/lang/invoke/MethodHandle" ∧ yX12_earns.cls ≠ "java/lang/invoke/VarHandle" ∧ (parseMethodDescriptor yX12_earns.desc).map (fun d => d.parameters.length) = some 4 := by decide +kernel
def fX12_earns_b21 (s0 : Int32) : Option (Int32) :=
  some s0
set_option maxHeartbeats 400000 in
set_option maxRecDepth 100000 in
theorem kX12_earns_b21 {X : cxT} {l : Launch} {D : va_G} {Y : Nat → ClassId} {s0 : Int32} {res : Int32} (C : axC X l D Y cX12_earns 4 RX12 wsX12_earns rmX12_earns (some .int)) (hQ : axQ X 0 0 (fun r9 w9 => r9 = (some (.int res)) ∧ w9 = [])) (hf : fX12_earns_b21 s0 = some res) : ax X 0 0 21 [none, none, none, none] [] [.int s0] := by
  unfold fX12_earns_b21 at hf
  obtain rfl := fx_some hf
  exact a_iret C hQ dX12_earns_21 ⟨rfl, rfl⟩
def fX12_earns (x0 : Int32) (x1 : Int32) (x2 : Int32) (x3 : Int32) : Option (Int32) :=
  if (x0 + x1) = (0 : Int32) then (fX12_earns_b21 (0 : Int32)) else (if ¬ (x0 + x1) = 0 then fX12_earns_b21 (((x2 * x0) / (x0 + x1)) - (x3 * x0)) else none)
set_option maxHeartbeats 400000 in
set_option maxRecDepth 100000 in
theorem kX12_earns (l : Launch) (D : va_G) (Y : Nat → ClassId) (x0 : Int32) (x1 : Int32) (x2 : Int32) (x3 : Int32) (res : Int32) (hf : fX12_earns x0 x1 x2 x3 = some res) : amf l D Y yX12_earns wsX12_earns rmX12_earns [.int x0, .int x1, .int x2, .int x3] [] (some (.int res)) [] := by
  refine amf.of (cc := cX12_earns) (maxL := 4) (rt := (some .int)) (by decide) rfl RX12 rfl (Nat.le_of_ble_eq_true rfl) [some (.int x0), some (.int x1), some (.int x2), some (.int x3)] rfl ?_
  intro X C hQ
  unfold fX12_earns at hf
  refine a_iload_n C dX12_earns_0 rfl ?_
  refine a_iload_n C dX12_earns_1 rfl ?_
  refine a_iadd C dX12_earns_2 ?_
  refine a_if_ne C 10 dX12_earns_3 (by decide) (fun h1 => ?_) (fun h1 => ?_)
  · have hf := fx_f h1 hf
    refine a_iload_n C dX12_earns_10 rfl ?_
    refine a_iload_n C dX12_earns_11 rfl ?_
    refine a_imul C dX12_earns_12 ?_
    refine a_iload_n C dX12_earns_13 rfl ?_
    refine a_iload_n C dX12_earns_14 rfl ?_
    refine a_iadd C dX12_earns_15 ?_
    obtain ⟨h2, hf⟩ := fx_ite hf
    refine a_idiv C dX12_earns_16 h2 ?_
    refine a_iload_n C dX12_earns_17 rfl ?_
    refine a_iload_n C dX12_earns_18 rfl ?_
    refine a_imul C dX12_earns_19 ?_
    refine a_isub C dX12_earns_20 ?_
    refine a_kill [0, 1, 2, 3] ?_
    exact kX12_earns_b21 C hQ hf
  · have hf := fx_t h1 hf
    refine a_iconst C (0 : Int32) dX12_earns_6 (by decide) ?_
    refine a_goto C 21 dX12_earns_7 (by decide) ?_
    refine a_kill [0, 1, 2, 3] ?_
    exact kX12_earns_b21 C hQ hf
-- X12_isRest
abbrev rmX12_isRest : Room := { frames := 1, cells := 0, slots := 0, locals := 23 }
theorem dvX12_isRest : yX12_isRest.cls ≠ "java/lang/invoke/MethodHandle" ∧ yX12_isRest.cls ≠ "java/lang/invoke/VarHandle" ∧ (parseMethodDescriptor yX12_isRest.desc).map (fun d => d.parameters.length) = some 4 := by decide +kernel
def fX12_isRest_b49 (x4 : Int32) : Option (Int32) :=
  if x4 = 0 ∨ x4 = 1 then some x4 else none
set_option maxHeartbeats 400000 in
set_option maxRecDepth 100000 in
theorem kX12_isRest_b49 {X : cxT} {l : Launch} {D : va_G} {Y : Nat → ClassId} {x4 : Int32} {res : Int32} (C : axC X l D Y cX12_isRest 6 RX12 wsX12_isRest rmX12_isRest (some .boolean)) (hQ : axQ X 0 0 (fun r9 w9 => r9 = (some (.int res)) ∧ w9 = [])) (hf : fX12_isRest_b49 x4 = some res) : ax X 0 0 49 [none, none, none, none, some (.int x4), none] [] [] := by
  unfold fX12_isRest_b49 at hf
  refine a_iload C dX12_isRest_49 rfl ?_
  obtain ⟨h1, hf⟩ := fx_ite hf
  obtain rfl := fx_some hf
  exact a_zret C hQ h1 dX12_isRest_51 ⟨rfl, rfl⟩
def fX12_isRest_b41 (x0 : Int32) (x1 : Int32) (x2 : Int32) (x3 : Int32) (x5 : Int32) (s0 : Int32) (k6 : Int32 × Int32 → Option (Int32)) : Option (Int32) :=
  k6 (s0, (x5 + (1 : Int32)))
set_option maxHeartbeats 400000 in
set_option maxRecDepth 100000 in
theorem kX12_isRest_b41 {X : cxT} {l : Launch} {D : va_G} {Y : Nat → ClassId} {x0 : Int32} {x1 : Int32} {x2 : Int32} {x3 : Int32} {x5 : Int32} {s0 : Int32} {res : Int32} (C : axC X l D Y cX12_isRest 6 RX12 wsX12_isRest rmX12_isRest (some .boolean)) (hQ : axQ X 0 0 (fun r9 w9 => r9 = (some (.int res)) ∧ w9 = [])) {k6 : Int32 × Int32 → Option (Int32)} (hk6 : ∀ s : Int32 × Int32, k6 s = some res → ax X 0 0 6 [some (.int x0), some (.int x1), some (.int x2), some (.int x3), some (.int s.1), some (.int s.2)] [] []) (hf : fX12_isRest_b41 x0 x1 x2 x3 x5 s0 k6 = some res) : ax X 0 0 41 [some (.int x0), some (.int x1), some (.int x2), some (.int x3), none, some (.int x5)] [] [.int s0] := by
  unfold fX12_isRest_b41 at hf
  refine a_istore C dX12_isRest_41 (by decide) rfl ?_
  refine a_iinc C (1 : Int32) dX12_isRest_43 (by decide) rfl (by decide) rfl ?_
  refine a_goto C 6 dX12_isRest_46 (by decide) ?_
  exact hk6 (s0, (x5 + (1 : Int32))) hf
def fX12_isRest_b40 (x0 : Int32) (x1 : Int32) (x2 : Int32) (x3 : Int32) (x5 : Int32) (k6 : Int32 × Int32 → Option (Int32)) : Option (Int32) :=
  fX12_isRest_b41 x0 x1 x2 x3 x5 (0 : Int32) k6
set_option maxHeartbeats 400000 in
set_option maxRecDepth 100000 in
theorem kX12_isRest_b40 {X : cxT} {l : Launch} {D : va_G} {Y : Nat → ClassId} {x0 : Int32} {x1 : Int32} {x2 : Int32} {x3 : Int32} {x5 : Int32} {res : Int32} (C : axC X l D Y cX12_isRest 6 RX12 wsX12_isRest rmX12_isRest (some .boolean)) (hQ : axQ X 0 0 (fun r9 w9 => r9 = (some (.int res)) ∧ w9 = [])) {k6 : Int32 × Int32 → Option (Int32)} (hk6 : ∀ s : Int32 × Int32, k6 s = some res → ax X 0 0 6 [some (.int x0), some (.int x1), some (.int x2), some (.int x3), some (.int s.1), some (.int s.2)] [] []) (hf : fX12_isRest_b40 x0 x1 x2 x3 x5 k6 = some res) : ax X 0 0 40 [some (.int x0), some (.int x1), some (.int x2), some (.int x3), none, some (.int x5)] [] [] := by
  unfold fX12_isRest_b40 at hf
  refine a_iconst C (0 : Int32) dX12_isRest_40 (by decide) ?_
  exact kX12_isRest_b41 C hQ hk6 hf
def fX12_isRest_l6 (x0 : Int32) (x1 : Int32) (x2 : Int32) (x3 : Int32) (k6 : Int32 × Int32 → Option (Int32)) (x4 : Int32) (x5 : Int32) : Option (Int32) :=
  if (9 : Int32) < x5 then (fX12_isRest_b49 x4) else (if x4 = (0 : Int32) then (fX12_isRest_b40 x0 x1 x2 x3 x5 k6) else ((fX12_earns x5 x1 x2 x3).bind (fun r4 => (fX12_earns x0 x1 x2 x3).bind (fun r5 => if r5 < r4 then (fX12_isRest_b40 x0 x1 x2 x3 x5 k6) else (fX12_isRest_b41 x0 x1 x2 x3 x5 (1 : Int32) k6)))))
def fX12_isRest_b6 (x0 : Int32) (x1 : Int32) (x2 : Int32) (x3 : Int32) (x4 : Int32) (x5 : Int32) : Option (Int32) :=
  loopN (fun (s : Int32 × Int32) k6 => fX12_isRest_l6 x0 x1 x2 x3 k6 s.1 s.2) FUEL (x4, x5)
set_option maxHeartbeats 400000 in
set_option maxRecDepth 100000 in
theorem kX12_isRest_l6 {X : cxT} {l : Launch} {D : va_G} {Y : Nat → ClassId} {x0 : Int32} {x1 : Int32} {x2 : Int32} {x3 : Int32} {x4 : Int32} {x5 : Int32} {res : Int32} (C : axC X l D Y cX12_isRest 6 RX12 wsX12_isRest rmX12_isRest (some .boolean)) (hQ : axQ X 0 0 (fun r9 w9 => r9 = (some (.int res)) ∧ w9 = [])) {k6 : Int32 × Int32 → Option (Int32)} (hk6 : ∀ s : Int32 × Int32, k6 s = some res → ax X 0 0 6 [some (.int x0), some (.int x1), some (.int x2), some (.int x3), some (.int s.1), some (.int s.2)] [] []) (hf : fX12_isRest_l6 x0 x1 x2 x3 k6 x4 x5 = some res) : ax X 0 0 6 [some (.int x0), some (.int x1), some (.int x2), some (.int x3), some (.int x4), some (.int x5)] [] [] := by
  unfold fX12_isRest_l6 at hf
  refine a_iload C dX12_isRest_6 rfl ?_
  refine a_bipush C (9 : Int32) dX12_isRest_8 (by decide) ?_
  refine a_icmp_gt C 49 dX12_isRest_10 (by decide) (fun h2 => ?_) (fun h2 => ?_)
  · have hf := fx_t h2 hf
    refine a_kill [0, 1, 2, 3, 5] ?_
    exact kX12_isRest_b49 C hQ hf
  · have hf := fx_f h2 hf
    refine a_iload C dX12_isRest_13 rfl ?_
    refine a_if_eq C 40 dX12_isRest_15 (by decide) (fun h3 => ?_) (fun h3 => ?_)
    · have hf := fx_t h3 hf
      refine a_kill [4] ?_
      exact kX12_isRest_b40 C hQ hk6 hf
    · have hf := fx_f h3 hf
      refine a_iload C dX12_isRest_18 rfl ?_
      refine a_iload_n C dX12_isRest_20 rfl ?_
      refine a_iload_n C dX12_isRest_21 rfl ?_
      refine a_iload_n C dX12_isRest_22 rfl ?_
      obtain ⟨r4, h4, hf⟩ := fx_bind hf
      refine a_fS C (kX12_earns l D Y x5 x1 x2 x3 r4 h4) gX12_isRest_X12_earns rfl dvX12_earns ⟨⟨rfl, rfl⟩, ⟨Nat.le_of_ble_eq_true rfl, Nat.le_of_ble_eq_true rfl⟩, ⟨Nat.le_of_ble_eq_true rfl, Nat.le_of_ble_eq_true rfl⟩⟩ rfl (Nat.le_of_ble_eq_true rfl) dX12_isRest_23 [] [] trivial rfl rfl [] trivial trivial rfl ?_
      refine a_iload_n C dX12_isRest_26 rfl ?_
      refine a_iload_n C dX12_isRest_27 rfl ?_
      refine a_iload_n C dX12_isRest_28 rfl ?_
      refine a_iload_n C dX12_isRest_29 rfl ?_
      obtain ⟨r5, h5, hf⟩ := fx_bind hf
      refine a_fS C (kX12_earns l D Y x0 x1 x2 x3 r5 h5) gX12_isRest_X12_earns rfl dvX12_earns ⟨⟨rfl, rfl⟩, ⟨Nat.le_of_ble_eq_true rfl, Nat.le_of_ble_eq_true rfl⟩, ⟨Nat.le_of_ble_eq_true rfl, Nat.le_of_ble_eq_true rfl⟩⟩ rfl (Nat.le_of_ble_eq_true rfl) dX12_isRest_30 [] [] trivial rfl rfl [] trivial trivial rfl ?_
      refine a_icmp_gt C 40 dX12_isRest_33 (by decide) (fun h6 => ?_) (fun h6 => ?_)
      · have hf := fx_t h6 hf
        refine a_kill [4] ?_
        exact kX12_isRest_b40 C hQ hk6 hf
      · have hf := fx_f h6 hf
        refine a_iconst C (1 : Int32) dX12_isRest_36 (by decide) ?_
        refine a_goto C 41 dX12_isRest_37 (by decide) ?_
        refine a_kill [4] ?_
        exact kX12_isRest_b41 C hQ hk6 hf
set_option maxHeartbeats 400000 in
set_option maxRecDepth 100000 in
theorem kX12_isRest_b6 {X : cxT} {l : Launch} {D : va_G} {Y : Nat → ClassId} {x0 : Int32} {x1 : Int32} {x2 : Int32} {x3 : Int32} {x4 : Int32} {x5 : Int32} {res : Int32} (C : axC X l D Y cX12_isRest 6 RX12 wsX12_isRest rmX12_isRest (some .boolean)) (hQ : axQ X 0 0 (fun r9 w9 => r9 = (some (.int res)) ∧ w9 = [])) (hf : fX12_isRest_b6 x0 x1 x2 x3 x4 x5 = some res) : ax X 0 0 6 [some (.int x0), some (.int x1), some (.int x2), some (.int x3), some (.int x4), some (.int x5)] [] [] := by
  unfold fX12_isRest_b6 at hf
  exact fx_loop (P := fun s : Int32 × Int32 => ax X 0 0 6 [some (.int x0), some (.int x1), some (.int x2), some (.int x3), some (.int s.1), some (.int s.2)] [] []) (fun s k6 hk6 h => kX12_isRest_l6 C hQ hk6 h) FUEL (x4, x5) hf
def fX12_isRest (x0 : Int32) (x1 : Int32) (x2 : Int32) (x3 : Int32) : Option (Int32) :=
  fX12_isRest_b6 x0 x1 x2 x3 (1 : Int32) (0 : Int32)
set_option maxHeartbeats 400000 in
set_option maxRecDepth 100000 in
theorem kX12_isRest (l : Launch) (D : va_G) (Y : Nat → ClassId) (x0 : Int32) (x1 : Int32) (x2 : Int32) (x3 : Int32) (res : Int32) (hf : fX12_isRest x0 x1 x2 x3 = some res) : amf l D Y yX12_isRest wsX12_isRest rmX12_isRest [.int x0, .int x1, .int x2, .int x3] [] (some (.int res)) [] := by
  refine amf.of (cc := cX12_isRest) (maxL := 6) (rt := (some .boolean)) (by decide) rfl RX12 rfl (Nat.le_of_ble_eq_true rfl) [some (.int x0), some (.int x1), some (.int x2), some (.int x3), none, none] rfl ?_
  intro X C hQ
  unfold fX12_isRest at hf
  refine a_iconst C (1 : Int32) dX12_isRest_0 (by decide) ?_
  refine a_istore C dX12_isRest_1 (by decide) rfl ?_
  refine a_iconst C (0 : Int32) dX12_isRest_3 (by decide) ?_
  refine a_istore C dX12_isRest_4 (by decide) rfl ?_
  exact kX12_isRest_b6 C hQ hf
