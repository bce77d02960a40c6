-- X12_bucketsAll
abbrev rmX12_bucketsAll : Room := { frames := 4, cells := 0, slots := 0, locals := 91 }
theorem dvX12_bucketsAll : yX12_bucketsAll.cls = RX12 ∧ yX12_bucketsAll.cls ≠ "java/lang/invoke/MethodHandle" ∧ yX12_bucketsAll.cls ≠ "java/lang/invoke/VarHandle" ∧ (parseMethodDescriptor yX12_bucketsAll.desc).map (fun d => d.parameters.length) = some 1 := by decide +kernel
theorem eX12_bucketsAll_inX12 : ∀ w ∈ wsX120, w ∈ wsX12_bucketsAll := by decide +kernel
theorem eX12_bucketsAll_126 : aF wsX12_bucketsAll RX12 126 12 4 := ⟨RX12, TX12, 53, rfl, eX12_bucketsAll_inX12, by decide, by decide +kernel⟩
def fX12_bucketsAll_b27 (io_children : Int32) (co_age : Nat → Int32) (co_skill : Nat → Int32) (co_friend : Nat → Int32) (cp1 : Nat → Int32) (x2 : Int32) : Option (Int32) :=
  some x2
set_option maxHeartbeats 4000000 in
set_option maxRecDepth 100000 in
theorem kX12_bucketsAll_b27 {X : cxT} {l : Launch} {D : va_G} {Y : Nat → ClassId} {ao : Nat → Nat} {qp1 : Nat} {io_thrown : Int32} {io_rows : Int32} {io_cells : Int32} {io_children : Int32} {io_changes : Int32} {io_taped : Int32} {io_at : Int32} {io_to : Int32} {io_nest : Int32} {io_readMany : Int32} {io_codeLong : Int32} {io_readLong : Int32} {io_undos : Int32} {io_wentHome : Int32} {io_tideLevel : Int32} {io_acts : Int32} {io_firstBreaks : Int32} {io_bestCrew : Int32} {io_sights : Int32} {io_wayMany : Int32} {io_random : Int32} {co_age : Nat → Int32} {co_skill : Nat → Int32} {co_friend : Nat → Int32} {cp1 : Nat → Int32} {x2 : Int32} {res : Int32} (C : axC X l D Y cX12_bucketsAll 4 RX12 wsX12_bucketsAll rmX12_bucketsAll (some .int)) (hQ : axQ X 0 0 (fun r9 w9 => r9 = (some (.int res)) ∧ w9 = [oX12 ao io_thrown io_rows io_cells io_children io_changes io_taped io_at io_to io_nest io_readMany io_codeLong io_readLong io_undos io_wentHome io_tideLevel io_acts io_firstBreaks io_bestCrew io_sights io_wayMany io_random, rI Y (ao 4) 8 co_age, rI Y (ao 5) 8 co_skill, rI Y (ao 6) 8 co_friend, rI Y qp1 43 cp1])) (hf : fX12_bucketsAll_b27 io_children co_age co_skill co_friend cp1 x2 = some res) : ax X 0 0 27 [none, none, some (.int x2), none] [oX12 ao io_thrown io_rows io_cells io_children io_changes io_taped io_at io_to io_nest io_readMany io_codeLong io_readLong io_undos io_wentHome io_tideLevel io_acts io_firstBreaks io_bestCrew io_sights io_wayMany io_random, rI Y (ao 4) 8 co_age, rI Y (ao 5) 8 co_skill, rI Y (ao 6) 8 co_friend, rI Y qp1 43 cp1] [] := by
  unfold fX12_bucketsAll_b27 at hf
  refine a_iload_n C dX12_bucketsAll_27 rfl ?_
  obtain rfl := fx_some hf
  exact a_iret C hQ dX12_bucketsAll_28 ⟨rfl, rfl⟩
def fX12_bucketsAll_l4 (io_children : Int32) (co_age : Nat → Int32) (co_skill : Nat → Int32) (co_friend : Nat → Int32) (cp1 : Nat → Int32) (k4 : Int32 × Int32 → Option (Int32)) (x2 : Int32) (x3 : Int32) : Option (Int32) :=
  if io_children ≤ x3 then (fX12_bucketsAll_b27 io_children co_age co_skill co_friend cp1 x2) else ((fX12_bucketsOf io_children co_age co_skill co_friend cp1 x3).bind (fun r2 => k4 ((x2 + r2), (x3 + (1 : Int32)))))
def fX12_bucketsAll_b4 (io_children : Int32) (co_age : Nat → Int32) (co_skill : Nat → Int32) (co_friend : Nat → Int32) (cp1 : Nat → Int32) (x2 : Int32) (x3 : Int32) : Option (Int32) :=
  loopN (fun (s : Int32 × Int32) k4 => fX12_bucketsAll_l4 io_children co_age co_skill co_friend cp1 k4 s.1 s.2) FUEL (x2, x3)
set_option maxHeartbeats 4000000 in
set_option maxRecDepth 100000 in
theorem kX12_bucketsAll_l4 {X : cxT} {l : Launch} {D : va_G} {Y : Nat → ClassId} {ao : Nat → Nat} {qp1 : Nat} {io_thrown : Int32} {io_rows : Int32} {io_cells : Int32} {io_children : Int32} {io_changes : Int32} {io_taped : Int32} {io_at : Int32} {io_to : Int32} {io_nest : Int32} {io_readMany : Int32} {io_codeLong : Int32} {io_readLong : Int32} {io_undos : Int32} {io_wentHome : Int32} {io_tideLevel : Int32} {io_acts : Int32} {io_firstBreaks : Int32} {io_bestCrew : Int32} {io_sights : Int32} {io_wayMany : Int32} {io_random : Int32} {co_age : Nat → Int32} {co_skill : Nat → Int32} {co_friend : Nat → Int32} {cp1 : Nat → Int32} {x2 : Int32} {x3 : Int32} {res : Int32} (C : axC X l D Y cX12_bucketsAll 4 RX12 wsX12_bucketsAll rmX12_bucketsAll (some .int)) (hQ : axQ X 0 0 (fun r9 w9 => r9 = (some (.int res)) ∧ w9 = [oX12 ao io_thrown io_rows io_cells io_children io_changes io_taped io_at io_to io_nest io_readMany io_codeLong io_readLong io_undos io_wentHome io_tideLevel io_acts io_firstBreaks io_bestCrew io_sights io_wayMany io_random, rI Y (ao 4) 8 co_age, rI Y (ao 5) 8 co_skill, rI Y (ao 6) 8 co_friend, rI Y qp1 43 cp1])) {k4 : Int32 × Int32 → Option (Int32)} (hk4 : ∀ s : Int32 × Int32, k4 s = some res → ax X 0 0 4 [some (.ref (ao 0)), some (.ref qp1), some (.int s.1), some (.int s.2)] [oX12 ao io_thrown io_rows io_cells io_children io_changes io_taped io_at io_to io_nest io_readMany io_codeLong io_readLong io_undos io_wentHome io_tideLevel io_acts io_firstBreaks io_bestCrew io_sights io_wayMany io_random, rI Y (ao 4) 8 co_age, rI Y (ao 5) 8 co_skill, rI Y (ao 6) 8 co_friend, rI Y qp1 43 cp1] []) (hf : fX12_bucketsAll_l4 io_children co_age co_skill co_friend cp1 k4 x2 x3 = some res) : ax X 0 0 4 [some (.ref (ao 0)), some (.ref qp1), some (.int x2), some (.int x3)] [oX12 ao io_thrown io_rows io_cells io_children io_changes io_taped io_at io_to io_nest io_readMany io_codeLong io_readLong io_undos io_wentHome io_tideLevel io_acts io_firstBreaks io_bestCrew io_sights io_wayMany io_random, rI Y (ao 4) 8 co_age, rI Y (ao 5) 8 co_skill, rI Y (ao 6) 8 co_friend, rI Y qp1 43 cp1] [] := by
  unfold fX12_bucketsAll_l4 at hf
  refine a_iload_n C dX12_bucketsAll_4 rfl ?_
  refine a_aload_n C dX12_bucketsAll_5 rfl ?_
  refine a_get C eX12_bucketsAll_126 dX12_bucketsAll_6 0 rfl rfl ?_
  refine a_icmp_ge C 27 dX12_bucketsAll_9 (by decide) (fun h1 => ?_) (fun h1 => ?_)
  · have hf := fx_t h1 hf
    refine a_kill [0, 1, 3] ?_
    exact kX12_bucketsAll_b27 C hQ hf
  · have hf := fx_f h1 hf
    refine a_iload_n C dX12_bucketsAll_12 rfl ?_
    refine a_aload_n C dX12_bucketsAll_13 rfl ?_
    refine a_aload_n C dX12_bucketsAll_14 rfl ?_
    refine a_iload_n C dX12_bucketsAll_15 rfl ?_
    obtain ⟨r2, h2, hf⟩ := fx_bind hf
    refine a_fV C (kX12_bucketsOf l D Y ao qp1 io_thrown io_rows io_cells io_children io_changes io_taped io_at io_to io_nest io_readMany io_codeLong io_readLong io_undos io_wentHome io_tideLevel io_acts io_firstBreaks io_bestCrew io_sights io_wayMany io_random co_age co_skill co_friend cp1 x3 r2 h2) gX12_bucketsAll_X12_bucketsOf rfl dvX12_bucketsOf ⟨⟨rfl, rfl⟩, ⟨Nat.le_of_ble_eq_true rfl, Nat.le_of_ble_eq_true rfl⟩, ⟨Nat.le_of_ble_eq_true rfl, Nat.le_of_ble_eq_true rfl⟩⟩ rfl (Nat.le_of_ble_eq_true rfl) dX12_bucketsAll_16 rfl rfl [0, 1, 2, 3, 4] rfl rfl rfl (wn := [oX12 ao io_thrown io_rows io_cells io_children io_changes io_taped io_at io_to io_nest io_readMany io_codeLong io_readLong io_undos io_wentHome io_tideLevel io_acts io_firstBreaks io_bestCrew io_sights io_wayMany io_random, rI Y (ao 4) 8 co_age, rI Y (ao 5) 8 co_skill, rI Y (ao 6) 8 co_friend, rI Y qp1 43 cp1]) rfl ?_
    refine a_iadd C dX12_bucketsAll_19 ?_
    refine a_istore_n C dX12_bucketsAll_20 (by decide) rfl ?_
    refine a_iinc C (1 : Int32) dX12_bucketsAll_21 (by decide) rfl (by decide) rfl ?_
    refine a_goto C 4 dX12_bucketsAll_24 (by decide) ?_
    exact hk4 ((x2 + r2), (x3 + (1 : Int32))) hf
set_option maxHeartbeats 4000000 in
set_option maxRecDepth 100000 in
theorem kX12_bucketsAll_b4 {X : cxT} {l : Launch} {D : va_G} {Y : Nat → ClassId} {ao : Nat → Nat} {qp1 : Nat} {io_thrown : Int32} {io_rows : Int32} {io_cells : Int32} {io_children : Int32} {io_changes : Int32} {io_taped : Int32} {io_at : Int32} {io_to : Int32} {io_nest : Int32} {io_readMany : Int32} {io_codeLong : Int32} {io_readLong : Int32} {io_undos : Int32} {io_wentHome : Int32} {io_tideLevel : Int32} {io_acts : Int32} {io_firstBreaks : Int32} {io_bestCrew : Int32} {io_sights : Int32} {io_wayMany : Int32} {io_random : Int32} {co_age : Nat → Int32} {co_skill : Nat → Int32} {co_friend : Nat → Int32} {cp1 : Nat → Int32} {x2 : Int32} {x3 : Int32} {res : Int32} (C : axC X l D Y cX12_bucketsAll 4 RX12 wsX12_bucketsAll rmX12_bucketsAll (some .int)) (hQ : axQ X 0 0 (fun r9 w9 => r9 = (some (.int res)) ∧ w9 = [oX12 ao io_thrown io_rows io_cells io_children io_changes io_taped io_at io_to io_nest io_readMany io_codeLong io_readLong io_undos io_wentHome io_tideLevel io_acts io_firstBreaks io_bestCrew io_sights io_wayMany io_random, rI Y (ao 4) 8 co_age, rI Y (ao 5) 8 co_skill, rI Y (ao 6) 8 co_friend, rI Y qp1 43 cp1])) (hf : fX12_bucketsAll_b4 io_children co_age co_skill co_friend cp1 x2 x3 = some res) : ax X 0 0 4 [some (.ref (ao 0)), some (.ref qp1), some (.int x2), some (.int x3)] [oX12 ao io_thrown io_rows io_cells io_children io_changes io_taped io_at io_to io_nest io_readMany io_codeLong io_readLong io_undos io_wentHome io_tideLevel io_acts io_firstBreaks io_bestCrew io_sights io_wayMany io_random, rI Y (ao 4) 8 co_age, rI Y (ao 5) 8 co_skill, rI Y (ao 6) 8 co_friend, rI Y qp1 43 cp1] [] := by
  unfold fX12_bucketsAll_b4 at hf
  exact fx_loop (P := fun s : Int32 × Int32 => ax X 0 0 4 [some (.ref (ao 0)), some (.ref qp1), some (.int s.1), some (.int s.2)] [oX12 ao io_thrown io_rows io_cells io_children io_changes io_taped io_at io_to io_nest io_readMany io_codeLong io_readLong io_undos io_wentHome io_tideLevel io_acts io_firstBreaks io_bestCrew io_sights io_wayMany io_random, rI Y (ao 4) 8 co_age, rI Y (ao 5) 8 co_skill, rI Y (ao 6) 8 co_friend, rI Y qp1 43 cp1] []) (fun s k4 hk4 h => kX12_bucketsAll_l4 C hQ hk4 h) FUEL (x2, x3) hf
def fX12_bucketsAll (io_children : Int32) (co_age : Nat → Int32) (co_skill : Nat → Int32) (co_friend : Nat → Int32) (cp1 : Nat → Int32) : Option (Int32) :=
  fX12_bucketsAll_b4 io_children co_age co_skill co_friend cp1 (0 : Int32) (0 : Int32)
set_option maxHeartbeats 4000000 in
set_option maxRecDepth 100000 in
theorem kX12_bucketsAll (l : Launch) (D : va_G) (Y : Nat → ClassId) (ao : Nat → Nat) (qp1 : Nat) (io_thrown : Int32) (io_rows : Int32) (io_cells : Int32) (io_children : Int32) (io_changes : Int32) (io_taped : Int32) (io_at : Int32) (io_to : Int32) (io_nest : Int32) (io_readMany : Int32) (io_codeLong : Int32) (io_readLong : Int32) (io_undos : Int32) (io_wentHome : Int32) (io_tideLevel : Int32) (io_acts : Int32) (io_firstBreaks : Int32) (io_bestCrew : Int32) (io_sights : Int32) (io_wayMany : Int32) (io_random : Int32) (co_age : Nat → Int32) (co_skill : Nat → Int32) (co_friend : Nat → Int32) (cp1 : Nat → Int32) (res : Int32) (hf : fX12_bucketsAll io_children co_age co_skill co_friend cp1 = some res) : amf l D Y yX12_bucketsAll wsX12_bucketsAll rmX12_bucketsAll [.ref (ao 0), .ref qp1] [oX12 ao io_thrown io_rows io_cells io_children io_changes io_taped io_at io_to io_nest io_readMany io_codeLong io_readLong io_undos io_wentHome io_tideLevel io_acts io_firstBreaks io_bestCrew io_sights io_wayMany io_random, rI Y (ao 4) 8 co_age, rI Y (ao 5) 8 co_skill, rI Y (ao 6) 8 co_friend, rI Y qp1 43 cp1] (some (.int res)) [oX12 ao io_thrown io_rows io_cells io_children io_changes io_taped io_at io_to io_nest io_readMany io_codeLong io_readLong io_undos io_wentHome io_tideLevel io_acts io_firstBreaks io_bestCrew io_sights io_wayMany io_random, rI Y (ao 4) 8 co_age, rI Y (ao 5) 8 co_skill, rI Y (ao 6) 8 co_friend, rI Y qp1 43 cp1] := by
  refine amf.of (cc := cX12_bucketsAll) (maxL := 4) (rt := (some .int)) (by decide) rfl RX12 rfl (Nat.le_of_ble_eq_true rfl) [some (.ref (ao 0)), some (.ref qp1), none, none] rfl ?_
  intro X C hQ
  unfold fX12_bucketsAll at hf
  refine a_iconst C (0 : Int32) dX12_bucketsAll_0 (by decide) ?_
  refine a_istore_n C dX12_bucketsAll_1 (by decide) rfl ?_
  refine a_iconst C (0 : Int32) dX12_bucketsAll_2 (by decide) ?_
  refine a_istore_n C dX12_bucketsAll_3 (by decide) rfl ?_
  exact kX12_bucketsAll_b4 C hQ hf
-- X12_spades
abbrev rmX12_spades : Room := { frames := 5, cells := 0, slots := 0, locals := 114 }
theorem dvX12_spades : yX12_spades.cls = RX12 ∧ yX12_spades.cls ≠ "java/lang/invoke/MethodHandle" ∧ yX12_spades.cls ≠ "java/lang/invoke/VarHandle" ∧ (parseMethodDescriptor yX12_spades.desc).map (fun d => d.parameters.length) = some 0 := by decide +kernel
theorem eX12_spades_inX12 : ∀ w ∈ wsX120, w ∈ wsX12_spades := by decide +kernel
theorem eX12_spades_119 : aF wsX12_spades RX12 119 12 1 := ⟨RX12, TX12, 53, rfl, eX12_spades_inX12, by decide, by decide +kernel⟩
theorem eX12_spades_m259 : ∀ w ∈ ([.methodLink RX12 259 Lib.Math.max.name, .static Lib.Math.max.name, .initialized "java/lang/Math", .code Lib.Math.max.name Lib.Math.max.code 2 (some .int)] : List Cond), w ∈ wsX12_spades := by decide +kernel
theorem eX12_spades_126 : aF wsX12_spades RX12 126 12 4 := ⟨RX12, TX12, 53, rfl, eX12_spades_inX12, by decide, by decide +kernel⟩
theorem eX12_spades_39 : aF wsX12_spades RX12 39 12 13 := ⟨RX12, TX12, 53, rfl, eX12_spades_inX12, by decide, by decide +kernel⟩
theorem eX12_spades_33 : aF wsX12_spades RX12 33 12 11 := ⟨RX12, TX12, 53, rfl, eX12_spades_inX12, by decide, by decide +kernel⟩
theorem eX12_spades_112 : aF wsX12_spades RX12 112 12 0 := ⟨RX12, TX12, 53, rfl, eX12_spades_inX12, by decide, by decide +kernel⟩
def fX12_spades_b114 (io_thrown : Int32) (io_rows : Int32) (io_children : Int32) (co_row : Nat → Int64) (co_age : Nat → Int32) (co_skill : Nat → Int32) (co_friend : Nat → Int32) (co_fixed : Nat → Int32) (co_now : Nat → Int32) (co_then : Nat → Int32) (x1 : Int32) (x2 : Int32) : Option (Int32 × Int32 × Int32 × (Nat → Int64) × (Nat → Int32)) :=
  (fX12_enters (0 : Int32) co_row (x1.toInt64)).bind (fun r1 => some (x2, io_thrown, r1.1, r1.2, co_then))
set_option maxHeartbeats 4000000 in
set_option maxRecDepth 100000 in
theorem kX12_spades_b114 {X : cxT} {l : Launch} {D : va_G} {Y : Nat → ClassId} {ao : Nat → Nat} {io_thrown : Int32} {io_rows : Int32} {io_cells : Int32} {io_children : Int32} {io_changes : Int32} {io_taped : Int32} {io_at : Int32} {io_to : Int32} {io_nest : Int32} {io_readMany : Int32} {io_codeLong : Int32} {io_readLong : Int32} {io_undos : Int32} {io_wentHome : Int32} {io_tideLevel : Int32} {io_acts : Int32} {io_firstBreaks : Int32} {io_bestCrew : Int32} {io_sights : Int32} {io_wayMany : Int32} {io_random : Int32} {co_row : Nat → Int64} {co_age : Nat → Int32} {co_skill : Nat → Int32} {co_friend : Nat → Int32} {co_fixed : Nat → Int32} {co_now : Nat → Int32} {co_then : Nat → Int32} {x1 : Int32} {x2 : Int32} {res : Int32 × Int32 × Int32 × (Nat → Int64) × (Nat → Int32)} (C : axC X l D Y cX12_spades 6 RX12 wsX12_spades rmX12_spades (some .int)) (hQ : axQ X 0 0 (fun r9 w9 => r9 = (some (.int res.1)) ∧ w9 = [oX12 ao res.2.1 res.2.2.1 io_cells io_children io_changes io_taped io_at io_to io_nest io_readMany io_codeLong io_readLong io_undos io_wentHome io_tideLevel io_acts io_firstBreaks io_bestCrew io_sights io_wayMany io_random, rJ Y (ao 1) 24 res.2.2.2.1, rI Y (ao 4) 8 co_age, rI Y (ao 5) 8 co_skill, rI Y (ao 6) 8 co_friend, rI Y (ao 7) 2 co_fixed, rI Y (ao 8) 43 co_now, rI Y (ao 9) 43 res.2.2.2.2])) (hf : fX12_spades_b114 io_thrown io_rows io_children co_row co_age co_skill co_friend co_fixed co_now co_then x1 x2 = some res) : ax X 0 0 114 [some (.ref (ao 0)), some (.int x1), some (.int x2), none, none, none] [oX12 ao io_thrown io_rows io_cells io_children io_changes io_taped io_at io_to io_nest io_readMany io_codeLong io_readLong io_undos io_wentHome io_tideLevel io_acts io_firstBreaks io_bestCrew io_sights io_wayMany io_random, rJ Y (ao 1) 24 co_row, rI Y (ao 4) 8 co_age, rI Y (ao 5) 8 co_skill, rI Y (ao 6) 8 co_friend, rI Y (ao 7) 2 co_fixed, rI Y (ao 8) 43 co_now, rI Y (ao 9) 43 co_then] [] := by
  unfold fX12_spades_b114 at hf
  refine a_aload_n C dX12_spades_114 rfl ?_
  refine a_iconst C (0 : Int32) dX12_spades_115 (by decide) ?_
  refine a_put C eX12_spades_119 tfX12_1 dX12_spades_116 0 rfl rfl rfl (Nat.le_of_ble_eq_true rfl) ?_
  refine a_aload_n C dX12_spades_119 rfl ?_
  refine a_iload_n C dX12_spades_120 rfl ?_
  refine a_i2l C dX12_spades_121 ?_
  obtain ⟨r1, h1, hf⟩ := fx_bind hf
  refine a_fV C (kX12_enters l D Y ao io_thrown (0 : Int32) io_cells io_children io_changes io_taped io_at io_to io_nest io_readMany io_codeLong io_readLong io_undos io_wentHome io_tideLevel io_acts io_firstBreaks io_bestCrew io_sights io_wayMany io_random co_row (x1.toInt64) r1 h1) gX12_spades_X12_enters rfl dvX12_enters ⟨⟨rfl, rfl⟩, ⟨Nat.le_of_ble_eq_true rfl, Nat.le_of_ble_eq_true rfl⟩, ⟨Nat.le_of_ble_eq_true rfl, Nat.le_of_ble_eq_true rfl⟩⟩ rfl (Nat.le_of_ble_eq_true rfl) dX12_spades_122 rfl rfl [0, 1] rfl rfl rfl (wn := [oX12 ao io_thrown r1.1 io_cells io_children io_changes io_taped io_at io_to io_nest io_readMany io_codeLong io_readLong io_undos io_wentHome io_tideLevel io_acts io_firstBreaks io_bestCrew io_sights io_wayMany io_random, rJ Y (ao 1) 24 r1.2, rI Y (ao 4) 8 co_age, rI Y (ao 5) 8 co_skill, rI Y (ao 6) 8 co_friend, rI Y (ao 7) 2 co_fixed, rI Y (ao 8) 43 co_now, rI Y (ao 9) 43 co_then]) rfl ?_
  refine a_iload_n C dX12_spades_125 rfl ?_
  obtain rfl := fx_some hf
  exact a_iret C hQ dX12_spades_126 ⟨rfl, rfl⟩
def fX12_spades_b100 (io_thrown : Int32) (io_rows : Int32) (io_children : Int32) (co_row : Nat → Int64) (co_age : Nat → Int32) (co_skill : Nat → Int32) (co_friend : Nat → Int32) (co_fixed : Nat → Int32) (co_now : Nat → Int32) (co_then : Nat → Int32) (x2 : Int32) (x3 : Int32) (x4 : Int32) (s0 : Int32) (k15 : (Nat → Int32) × Int32 × Int32 × Int32 → Option (Int32 × Int32 × Int32 × (Nat → Int64) × (Nat → Int32))) : Option (Int32 × Int32 × Int32 × (Nat → Int64) × (Nat → Int32)) :=
  k15 (co_then, s0, (jmax x2 x4), (x3 + (1 : Int32)))
set_option maxHeartbeats 4000000 in
set_option maxRecDepth 100000 in
theorem kX12_spades_b100 {X : cxT} {l : Launch} {D : va_G} {Y : Nat → ClassId} {ao : Nat → Nat} {io_thrown : Int32} {io_rows : Int32} {io_cells : Int32} {io_children : Int32} {io_changes : Int32} {io_taped : Int32} {io_at : Int32} {io_to : Int32} {io_nest : Int32} {io_readMany : Int32} {io_codeLong : Int32} {io_readLong : Int32} {io_undos : Int32} {io_wentHome : Int32} {io_tideLevel : Int32} {io_acts : Int32} {io_firstBreaks : Int32} {io_bestCrew : Int32} {io_sights : Int32} {io_wayMany : Int32} {io_random : Int32} {co_row : Nat → Int64} {co_age : Nat → Int32} {co_skill : Nat → Int32} {co_friend : Nat → Int32} {co_fixed : Nat → Int32} {co_now : Nat → Int32} {co_then : Nat → Int32} {x2 : Int32} {x3 : Int32} {x4 : Int32} {s0 : Int32} {res : Int32 × Int32 × Int32 × (Nat → Int64) × (Nat → Int32)} (C : axC X l D Y cX12_spades 6 RX12 wsX12_spades rmX12_spades (some .int)) (hQ : axQ X 0 0 (fun r9 w9 => r9 = (some (.int res.1)) ∧ w9 = [oX12 ao res.2.1 res.2.2.1 io_cells io_children io_changes io_taped io_at io_to io_nest io_readMany io_codeLong io_readLong io_undos io_wentHome io_tideLevel io_acts io_firstBreaks io_bestCrew io_sights io_wayMany io_random, rJ Y (ao 1) 24 res.2.2.2.1, rI Y (ao 4) 8 co_age, rI Y (ao 5) 8 co_skill, rI Y (ao 6) 8 co_friend, rI Y (ao 7) 2 co_fixed, rI Y (ao 8) 43 co_now, rI Y (ao 9) 43 res.2.2.2.2])) {k15 : (Nat → Int32) × Int32 × Int32 × Int32 → Option (Int32 × Int32 × Int32 × (Nat → Int64) × (Nat → Int32))} (hk15 : ∀ s : (Nat → Int32) × Int32 × Int32 × Int32, k15 s = some res → ax X 0 0 15 [some (.ref (ao 0)), some (.int s.2.1), some (.int s.2.2.1), some (.int s.2.2.2), none, none] [oX12 ao io_thrown io_rows io_cells io_children io_changes io_taped io_at io_to io_nest io_readMany io_codeLong io_readLong io_undos io_wentHome io_tideLevel io_acts io_firstBreaks io_bestCrew io_sights io_wayMany io_random, rJ Y (ao 1) 24 co_row, rI Y (ao 4) 8 co_age, rI Y (ao 5) 8 co_skill, rI Y (ao 6) 8 co_friend, rI Y (ao 7) 2 co_fixed, rI Y (ao 8) 43 co_now, rI Y (ao 9) 43 s.1] []) (hf : fX12_spades_b100 io_thrown io_rows io_children co_row co_age co_skill co_friend co_fixed co_now co_then x2 x3 x4 s0 k15 = some res) : ax X 0 0 100 [some (.ref (ao 0)), none, some (.int x2), some (.int x3), some (.int x4), none] [oX12 ao io_thrown io_rows io_cells io_children io_changes io_taped io_at io_to io_nest io_readMany io_codeLong io_readLong io_undos io_wentHome io_tideLevel io_acts io_firstBreaks io_bestCrew io_sights io_wayMany io_random, rJ Y (ao 1) 24 co_row, rI Y (ao 4) 8 co_age, rI Y (ao 5) 8 co_skill, rI Y (ao 6) 8 co_friend, rI Y (ao 7) 2 co_fixed, rI Y (ao 8) 43 co_now, rI Y (ao 9) 43 co_then] [.int s0] := by
  unfold fX12_spades_b100 at hf
  refine a_istore_n C dX12_spades_100 (by decide) rfl ?_
  refine a_iload_n C dX12_spades_101 rfl ?_
  refine a_iload C dX12_spades_102 rfl ?_
  refine a_mmax C dX12_spades_104 eX12_spades_m259 ⟨⟨Nat.le_of_ble_eq_true rfl, Nat.le_of_ble_eq_true rfl⟩, ⟨Nat.le_of_ble_eq_true rfl, Nat.le_of_ble_eq_true rfl⟩⟩ (Nat.le_of_ble_eq_true rfl) ?_
  refine a_istore_n C dX12_spades_107 (by decide) rfl ?_
  refine a_iinc C (1 : Int32) dX12_spades_108 (by decide) rfl (by decide) rfl ?_
  refine a_goto C 15 dX12_spades_111 (by decide) ?_
  refine a_kill [4] ?_
  exact hk15 (co_then, s0, (jmax x2 x4), (x3 + (1 : Int32))) hf
def fX12_spades_b88 (io_thrown : Int32) (io_rows : Int32) (io_children : Int32) (co_row : Nat → Int64) (co_age : Nat → Int32) (co_skill : Nat → Int32) (co_friend : Nat → Int32) (co_fixed : Nat → Int32) (co_now : Nat → Int32) (co_then : Nat → Int32) (x1 : Int32) (x2 : Int32) (x3 : Int32) (x4 : Int32) (s0 : Int32) (k15 : (Nat → Int32) × Int32 × Int32 × Int32 → Option (Int32 × Int32 × Int32 × (Nat → Int64) × (Nat → Int32))) : Option (Int32 × Int32 × Int32 × (Nat → Int64) × (Nat → Int32)) :=
  if s0 = (0 : Int32) then (fX12_spades_b100 io_thrown io_rows io_children co_row co_age co_skill co_friend co_fixed co_now co_then x2 x3 x4 x1 k15) else (fX12_spades_b100 io_thrown io_rows io_children co_row co_age co_skill co_friend co_fixed co_now co_then x2 x3 x4 x3 k15)
set_option maxHeartbeats 4000000 in
set_option maxRecDepth 100000 in
theorem kX12_spades_b88 {X : cxT} {l : Launch} {D : va_G} {Y : Nat → ClassId} {ao : Nat → Nat} {io_thrown : Int32} {io_rows : Int32} {io_cells : Int32} {io_children : Int32} {io_changes : Int32} {io_taped : Int32} {io_at : Int32} {io_to : Int32} {io_nest : Int32} {io_readMany : Int32} {io_codeLong : Int32} {io_readLong : Int32} {io_undos : Int32} {io_wentHome : Int32} {io_tideLevel : Int32} {io_acts : Int32} {io_firstBreaks : Int32} {io_bestCrew : Int32} {io_sights : Int32} {io_wayMany : Int32} {io_random : Int32} {co_row : Nat → Int64} {co_age : Nat → Int32} {co_skill : Nat → Int32} {co_friend : Nat → Int32} {co_fixed : Nat → Int32} {co_now : Nat → Int32} {co_then : Nat → Int32} {x1 : Int32} {x2 : Int32} {x3 : Int32} {x4 : Int32} {s0 : Int32} {res : Int32 × Int32 × Int32 × (Nat → Int64) × (Nat → Int32)} (C : axC X l D Y cX12_spades 6 RX12 wsX12_spades rmX12_spades (some .int)) (hQ : axQ X 0 0 (fun r9 w9 => r9 = (some (.int res.1)) ∧ w9 = [oX12 ao res.2.1 res.2.2.1 io_cells io_children io_changes io_taped io_at io_to io_nest io_readMany io_codeLong io_readLong io_undos io_wentHome io_tideLevel io_acts io_firstBreaks io_bestCrew io_sights io_wayMany io_random, rJ Y (ao 1) 24 res.2.2.2.1, rI Y (ao 4) 8 co_age, rI Y (ao 5) 8 co_skill, rI Y (ao 6) 8 co_friend, rI Y (ao 7) 2 co_fixed, rI Y (ao 8) 43 co_now, rI Y (ao 9) 43 res.2.2.2.2])) {k15 : (Nat → Int32) × Int32 × Int32 × Int32 → Option (Int32 × Int32 × Int32 × (Nat → Int64) × (Nat → Int32))} (hk15 : ∀ s : (Nat → Int32) × Int32 × Int32 × Int32, k15 s = some res → ax X 0 0 15 [some (.ref (ao 0)), some (.int s.2.1), some (.int s.2.2.1), some (.int s.2.2.2), none, none] [oX12 ao io_thrown io_rows io_cells io_children io_changes io_taped io_at io_to io_nest io_readMany io_codeLong io_readLong io_undos io_wentHome io_tideLevel io_acts io_firstBreaks io_bestCrew io_sights io_wayMany io_random, rJ Y (ao 1) 24 co_row, rI Y (ao 4) 8 co_age, rI Y (ao 5) 8 co_skill, rI Y (ao 6) 8 co_friend, rI Y (ao 7) 2 co_fixed, rI Y (ao 8) 43 co_now, rI Y (ao 9) 43 s.1] []) (hf : fX12_spades_b88 io_thrown io_rows io_children co_row co_age co_skill co_friend co_fixed co_now co_then x1 x2 x3 x4 s0 k15 = some res) : ax X 0 0 88 [some (.ref (ao 0)), some (.int x1), some (.int x2), some (.int x3), some (.int x4), none] [oX12 ao io_thrown io_rows io_cells io_children io_changes io_taped io_at io_to io_nest io_readMany io_codeLong io_readLong io_undos io_wentHome io_tideLevel io_acts io_firstBreaks io_bestCrew io_sights io_wayMany io_random, rJ Y (ao 1) 24 co_row, rI Y (ao 4) 8 co_age, rI Y (ao 5) 8 co_skill, rI Y (ao 6) 8 co_friend, rI Y (ao 7) 2 co_fixed, rI Y (ao 8) 43 co_now, rI Y (ao 9) 43 co_then] [.int s0] := by
  unfold fX12_spades_b88 at hf
  refine a_istore C dX12_spades_88 (by decide) rfl ?_
  refine a_iload C dX12_spades_90 rfl ?_
  refine a_if_eq C 99 dX12_spades_92 (by decide) (fun h2 => ?_) (fun h2 => ?_)
  · have hf := fx_t h2 hf
    refine a_iload_n C dX12_spades_99 rfl ?_
    refine a_kill [1, 5] ?_
    exact kX12_spades_b100 C hQ hk15 hf
  · have hf := fx_f h2 hf
    refine a_iload_n C dX12_spades_95 rfl ?_
    refine a_goto C 100 dX12_spades_96 (by decide) ?_
    refine a_kill [1, 5] ?_
    exact kX12_spades_b100 C hQ hk15 hf
def fX12_spades_b83 (io_thrown : Int32) (io_rows : Int32) (io_children : Int32) (co_row : Nat → Int64) (co_age : Nat → Int32) (co_skill : Nat → Int32) (co_friend : Nat → Int32) (co_fixed : Nat → Int32) (co_now : Nat → Int32) (co_then : Nat → Int32) (x1 : Int32) (x2 : Int32) (x3 : Int32) (x4 : Int32) (k15 : (Nat → Int32) × Int32 × Int32 × Int32 → Option (Int32 × Int32 × Int32 × (Nat → Int64) × (Nat → Int32))) : Option (Int32 × Int32 × Int32 × (Nat → Int64) × (Nat → Int32)) :=
  fX12_spades_b88 io_thrown io_rows io_children co_row co_age co_skill co_friend co_fixed co_now co_then x1 x2 x3 x4 (1 : Int32) k15
set_option maxHeartbeats 4000000 in
set_option maxRecDepth 100000 in
theorem kX12_spades_b83 {X : cxT} {l : Launch} {D : va_G} {Y : Nat → ClassId} {ao : Nat → Nat} {io_thrown : Int32} {io_rows : Int32} {io_cells : Int32} {io_children : Int32} {io_changes : Int32} {io_taped : Int32} {io_at : Int32} {io_to : Int32} {io_nest : Int32} {io_readMany : Int32} {io_codeLong : Int32} {io_readLong : Int32} {io_undos : Int32} {io_wentHome : Int32} {io_tideLevel : Int32} {io_acts : Int32} {io_firstBreaks : Int32} {io_bestCrew : Int32} {io_sights : Int32} {io_wayMany : Int32} {io_random : Int32} {co_row : Nat → Int64} {co_age : Nat → Int32} {co_skill : Nat → Int32} {co_friend : Nat → Int32} {co_fixed : Nat → Int32} {co_now : Nat → Int32} {co_then : Nat → Int32} {x1 : Int32} {x2 : Int32} {x3 : Int32} {x4 : Int32} {res : Int32 × Int32 × Int32 × (Nat → Int64) × (Nat → Int32)} (C : axC X l D Y cX12_spades 6 RX12 wsX12_spades rmX12_spades (some .int)) (hQ : axQ X 0 0 (fun r9 w9 => r9 = (some (.int res.1)) ∧ w9 = [oX12 ao res.2.1 res.2.2.1 io_cells io_children io_changes io_taped io_at io_to io_nest io_readMany io_codeLong io_readLong io_undos io_wentHome io_tideLevel io_acts io_firstBreaks io_bestCrew io_sights io_wayMany io_random, rJ Y (ao 1) 24 res.2.2.2.1, rI Y (ao 4) 8 co_age, rI Y (ao 5) 8 co_skill, rI Y (ao 6) 8 co_friend, rI Y (ao 7) 2 co_fixed, rI Y (ao 8) 43 co_now, rI Y (ao 9) 43 res.2.2.2.2])) {k15 : (Nat → Int32) × Int32 × Int32 × Int32 → Option (Int32 × Int32 × Int32 × (Nat → Int64) × (Nat → Int32))} (hk15 : ∀ s : (Nat → Int32) × Int32 × Int32 × Int32, k15 s = some res → ax X 0 0 15 [some (.ref (ao 0)), some (.int s.2.1), some (.int s.2.2.1), some (.int s.2.2.2), none, none] [oX12 ao io_thrown io_rows io_cells io_children io_changes io_taped io_at io_to io_nest io_readMany io_codeLong io_readLong io_undos io_wentHome io_tideLevel io_acts io_firstBreaks io_bestCrew io_sights io_wayMany io_random, rJ Y (ao 1) 24 co_row, rI Y (ao 4) 8 co_age, rI Y (ao 5) 8 co_skill, rI Y (ao 6) 8 co_friend, rI Y (ao 7) 2 co_fixed, rI Y (ao 8) 43 co_now, rI Y (ao 9) 43 s.1] []) (hf : fX12_spades_b83 io_thrown io_rows io_children co_row co_age co_skill co_friend co_fixed co_now co_then x1 x2 x3 x4 k15 = some res) : ax X 0 0 83 [some (.ref (ao 0)), some (.int x1), some (.int x2), some (.int x3), some (.int x4), none] [oX12 ao io_thrown io_rows io_cells io_children io_changes io_taped io_at io_to io_nest io_readMany io_codeLong io_readLong io_undos io_wentHome io_tideLevel io_acts io_firstBreaks io_bestCrew io_sights io_wayMany io_random, rJ Y (ao 1) 24 co_row, rI Y (ao 4) 8 co_age, rI Y (ao 5) 8 co_skill, rI Y (ao 6) 8 co_friend, rI Y (ao 7) 2 co_fixed, rI Y (ao 8) 43 co_now, rI Y (ao 9) 43 co_then] [] := by
  unfold fX12_spades_b83 at hf
  refine a_iconst C (1 : Int32) dX12_spades_83 (by decide) ?_
  refine a_goto C 88 dX12_spades_84 (by decide) ?_
  exact kX12_spades_b88 C hQ hk15 hf
def fX12_spades_b87 (io_thrown : Int32) (io_rows : Int32) (io_children : Int32) (co_row : Nat → Int64) (co_age : Nat → Int32) (co_skill : Nat → Int32) (co_friend : Nat → Int32) (co_fixed : Nat → Int32) (co_now : Nat → Int32) (co_then : Nat → Int32) (x1 : Int32) (x2 : Int32) (x3 : Int32) (x4 : Int32) (k15 : (Nat → Int32) × Int32 × Int32 × Int32 → Option (Int32 × Int32 × Int32 × (Nat → Int64) × (Nat → Int32))) : Option (Int32 × Int32 × Int32 × (Nat → Int64) × (Nat → Int32)) :=
  fX12_spades_b88 io_thrown io_rows io_children co_row co_age co_skill co_friend co_fixed co_now co_then x1 x2 x3 x4 (0 : Int32) k15
set_option maxHeartbeats 4000000 in
set_option maxRecDepth 100000 in
theorem kX12_spades_b87 {X : cxT} {l : Launch} {D : va_G} {Y : Nat → ClassId} {ao : Nat → Nat} {io_thrown : Int32} {io_rows : Int32} {io_cells : Int32} {io_children : Int32} {io_changes : Int32} {io_taped : Int32} {io_at : Int32} {io_to : Int32} {io_nest : Int32} {io_readMany : Int32} {io_codeLong : Int32} {io_readLong : Int32} {io_undos : Int32} {io_wentHome : Int32} {io_tideLevel : Int32} {io_acts : Int32} {io_firstBreaks : Int32} {io_bestCrew : Int32} {io_sights : Int32} {io_wayMany : Int32} {io_random : Int32} {co_row : Nat → Int64} {co_age : Nat → Int32} {co_skill : Nat → Int32} {co_friend : Nat → Int32} {co_fixed : Nat → Int32} {co_now : Nat → Int32} {co_then : Nat → Int32} {x1 : Int32} {x2 : Int32} {x3 : Int32} {x4 : Int32} {res : Int32 × Int32 × Int32 × (Nat → Int64) × (Nat → Int32)} (C : axC X l D Y cX12_spades 6 RX12 wsX12_spades rmX12_spades (some .int)) (hQ : axQ X 0 0 (fun r9 w9 => r9 = (some (.int res.1)) ∧ w9 = [oX12 ao res.2.1 res.2.2.1 io_cells io_children io_changes io_taped io_at io_to io_nest io_readMany io_codeLong io_readLong io_undos io_wentHome io_tideLevel io_acts io_firstBreaks io_bestCrew io_sights io_wayMany io_random, rJ Y (ao 1) 24 res.2.2.2.1, rI Y (ao 4) 8 co_age, rI Y (ao 5) 8 co_skill, rI Y (ao 6) 8 co_friend, rI Y (ao 7) 2 co_fixed, rI Y (ao 8) 43 co_now, rI Y (ao 9) 43 res.2.2.2.2])) {k15 : (Nat → Int32) × Int32 × Int32 × Int32 → Option (Int32 × Int32 × Int32 × (Nat → Int64) × (Nat → Int32))} (hk15 : ∀ s : (Nat → Int32) × Int32 × Int32 × Int32, k15 s = some res → ax X 0 0 15 [some (.ref (ao 0)), some (.int s.2.1), some (.int s.2.2.1), some (.int s.2.2.2), none, none] [oX12 ao io_thrown io_rows io_cells io_children io_changes io_taped io_at io_to io_nest io_readMany io_codeLong io_readLong io_undos io_wentHome io_tideLevel io_acts io_firstBreaks io_bestCrew io_sights io_wayMany io_random, rJ Y (ao 1) 24 co_row, rI Y (ao 4) 8 co_age, rI Y (ao 5) 8 co_skill, rI Y (ao 6) 8 co_friend, rI Y (ao 7) 2 co_fixed, rI Y (ao 8) 43 co_now, rI Y (ao 9) 43 s.1] []) (hf : fX12_spades_b87 io_thrown io_rows io_children co_row co_age co_skill co_friend co_fixed co_now co_then x1 x2 x3 x4 k15 = some res) : ax X 0 0 87 [some (.ref (ao 0)), some (.int x1), some (.int x2), some (.int x3), some (.int x4), none] [oX12 ao io_thrown io_rows io_cells io_children io_changes io_taped io_at io_to io_nest io_readMany io_codeLong io_readLong io_undos io_wentHome io_tideLevel io_acts io_firstBreaks io_bestCrew io_sights io_wayMany io_random, rJ Y (ao 1) 24 co_row, rI Y (ao 4) 8 co_age, rI Y (ao 5) 8 co_skill, rI Y (ao 6) 8 co_friend, rI Y (ao 7) 2 co_fixed, rI Y (ao 8) 43 co_now, rI Y (ao 9) 43 co_then] [] := by
  unfold fX12_spades_b87 at hf
  refine a_iconst C (0 : Int32) dX12_spades_87 (by decide) ?_
  exact kX12_spades_b88 C hQ hk15 hf
def fX12_spades_b58 (io_thrown : Int32) (io_rows : Int32) (io_children : Int32) (co_row : Nat → Int64) (co_age : Nat → Int32) (co_skill : Nat → Int32) (co_friend : Nat → Int32) (co_fixed : Nat → Int32) (co_now : Nat → Int32) (co_then : Nat → Int32) (x1 : Int32) (x2 : Int32) (x3 : Int32) (s0 : Int32) (k15 : (Nat → Int32) × Int32 × Int32 × Int32 → Option (Int32 × Int32 × Int32 × (Nat → Int64) × (Nat → Int32))) : Option (Int32 × Int32 × Int32 × (Nat → Int64) × (Nat → Int32)) :=
  if x2 < s0 then (fX12_spades_b83 io_thrown io_rows io_children co_row co_age co_skill co_friend co_fixed co_now co_then x1 x2 x3 s0 k15) else (if s0 = x2 then ((fJ6_bitCount_0f7a4 x3).bind (fun r5 => (fJ6_bitCount_0f7a4 x1).bind (fun r6 => if r6 ≤ r5 then (fX12_spades_b87 io_thrown io_rows io_children co_row co_age co_skill co_friend co_fixed co_now co_then x1 x2 x3 s0 k15) else (fX12_spades_b83 io_thrown io_rows io_children co_row co_age co_skill co_friend co_fixed co_now co_then x1 x2 x3 s0 k15)))) else (fX12_spades_b87 io_thrown io_rows io_children co_row co_age co_skill co_friend co_fixed co_now co_then x1 x2 x3 s0 k15))
set_option maxHeartbeats 4000000 in
set_option maxRecDepth 100000 in
theorem kX12_spades_b58 {X : cxT} {l : Launch} {D : va_G} {Y : Nat → ClassId} {ao : Nat → Nat} {io_thrown : Int32} {io_rows : Int32} {io_cells : Int32} {io_children : Int32} {io_changes : Int32} {io_taped : Int32} {io_at : Int32} {io_to : Int32} {io_nest : Int32} {io_readMany : Int32} {io_codeLong : Int32} {io_readLong : Int32} {io_undos : Int32} {io_wentHome : Int32} {io_tideLevel : Int32} {io_acts : Int32} {io_firstBreaks : Int32} {io_bestCrew : Int32} {io_sights : Int32} {io_wayMany : Int32} {io_random : Int32} {co_row : Nat → Int64} {co_age : Nat → Int32} {co_skill : Nat → Int32} {co_friend : Nat → Int32} {co_fixed : Nat → Int32} {co_now : Nat → Int32} {co_then : Nat → Int32} {x1 : Int32} {x2 : Int32} {x3 : Int32} {s0 : Int32} {res : Int32 × Int32 × Int32 × (Nat → Int64) × (Nat → Int32)} (C : axC X l D Y cX12_spades 6 RX12 wsX12_spades rmX12_spades (some .int)) (hQ : axQ X 0 0 (fun r9 w9 => r9 = (some (.int res.1)) ∧ w9 = [oX12 ao res.2.1 res.2.2.1 io_cells io_children io_changes io_taped io_at io_to io_nest io_readMany io_codeLong io_readLong io_undos io_wentHome io_tideLevel io_acts io_firstBreaks io_bestCrew io_sights io_wayMany io_random, rJ Y (ao 1) 24 res.2.2.2.1, rI Y (ao 4) 8 co_age, rI Y (ao 5) 8 co_skill, rI Y (ao 6) 8 co_friend, rI Y (ao 7) 2 co_fixed, rI Y (ao 8) 43 co_now, rI Y (ao 9) 43 res.2.2.2.2])) {k15 : (Nat → Int32) × Int32 × Int32 × Int32 → Option (Int32 × Int32 × Int32 × (Nat → Int64) × (Nat → Int32))} (hk15 : ∀ s : (Nat → Int32) × Int32 × Int32 × Int32, k15 s = some res → ax X 0 0 15 [some (.ref (ao 0)), some (.int s.2.1), some (.int s.2.2.1), some (.int s.2.2.2), none, none] [oX12 ao io_thrown io_rows io_cells io_children io_changes io_taped io_at io_to io_nest io_readMany io_codeLong io_readLong io_undos io_wentHome io_tideLevel io_acts io_firstBreaks io_bestCrew io_sights io_wayMany io_random, rJ Y (ao 1) 24 co_row, rI Y (ao 4) 8 co_age, rI Y (ao 5) 8 co_skill, rI Y (ao 6) 8 co_friend, rI Y (ao 7) 2 co_fixed, rI Y (ao 8) 43 co_now, rI Y (ao 9) 43 s.1] []) (hf : fX12_spades_b58 io_thrown io_rows io_children co_row co_age co_skill co_friend co_fixed co_now co_then x1 x2 x3 s0 k15 = some res) : ax X 0 0 58 [some (.ref (ao 0)), some (.int x1), some (.int x2), some (.int x3), none, none] [oX12 ao io_thrown io_rows io_cells io_children io_changes io_taped io_at io_to io_nest io_readMany io_codeLong io_readLong io_undos io_wentHome io_tideLevel io_acts io_firstBreaks io_bestCrew io_sights io_wayMany io_random, rJ Y (ao 1) 24 co_row, rI Y (ao 4) 8 co_age, rI Y (ao 5) 8 co_skill, rI Y (ao 6) 8 co_friend, rI Y (ao 7) 2 co_fixed, rI Y (ao 8) 43 co_now, rI Y (ao 9) 43 co_then] [.int s0] := by
  unfold fX12_spades_b58 at hf
  refine a_istore C dX12_spades_58 (by decide) rfl ?_
  refine a_iload C dX12_spades_60 rfl ?_
  refine a_iload_n C dX12_spades_62 rfl ?_
  refine a_icmp_gt C 83 dX12_spades_63 (by decide) (fun h3 => ?_) (fun h3 => ?_)
  · have hf := fx_t h3 hf
    exact kX12_spades_b83 C hQ hk15 hf
  · have hf := fx_f h3 hf
    refine a_iload C dX12_spades_66 rfl ?_
    refine a_iload_n C dX12_spades_68 rfl ?_
    refine a_icmp_ne C 87 dX12_spades_69 (by decide) (fun h4 => ?_) (fun h4 => ?_)
    · have hf := fx_f h4 hf
      exact kX12_spades_b87 C hQ hk15 hf
    · have hf := fx_t h4 hf
      refine a_iload_n C dX12_spades_72 rfl ?_
      obtain ⟨r5, h5, hf⟩ := fx_bind hf
      refine a_fS C (kJ6_bitCount_0f7a4 l D Y x3 r5 h5) gX12_spades_J6_bitCount_0f7a4 rfl dvJ6_bitCount_0f7a4 ⟨⟨rfl, rfl⟩, ⟨Nat.le_of_ble_eq_true rfl, Nat.le_of_ble_eq_true rfl⟩, ⟨Nat.le_of_ble_eq_true rfl, Nat.le_of_ble_eq_true rfl⟩⟩ rfl (Nat.le_of_ble_eq_true rfl) dX12_spades_73 [] rfl rfl rfl (wn := [oX12 ao io_thrown io_rows io_cells io_children io_changes io_taped io_at io_to io_nest io_readMany io_codeLong io_readLong io_undos io_wentHome io_tideLevel io_acts io_firstBreaks io_bestCrew io_sights io_wayMany io_random, rJ Y (ao 1) 24 co_row, rI Y (ao 4) 8 co_age, rI Y (ao 5) 8 co_skill, rI Y (ao 6) 8 co_friend, rI Y (ao 7) 2 co_fixed, rI Y (ao 8) 43 co_now, rI Y (ao 9) 43 co_then]) rfl ?_
      refine a_iload_n C dX12_spades_76 rfl ?_
      obtain ⟨r6, h6, hf⟩ := fx_bind hf
      refine a_fS C (kJ6_bitCount_0f7a4 l D Y x1 r6 h6) gX12_spades_J6_bitCount_0f7a4 rfl dvJ6_bitCount_0f7a4 ⟨⟨rfl, rfl⟩, ⟨Nat.le_of_ble_eq_true rfl, Nat.le_of_ble_eq_true rfl⟩, ⟨Nat.le_of_ble_eq_true rfl, Nat.le_of_ble_eq_true rfl⟩⟩ rfl (Nat.le_of_ble_eq_true rfl) dX12_spades_77 [] rfl rfl rfl (wn := [oX12 ao io_thrown io_rows io_cells io_children io_changes io_taped io_at io_to io_nest io_readMany io_codeLong io_readLong io_undos io_wentHome io_tideLevel io_acts io_firstBreaks io_bestCrew io_sights io_wayMany io_random, rJ Y (ao 1) 24 co_row, rI Y (ao 4) 8 co_age, rI Y (ao 5) 8 co_skill, rI Y (ao 6) 8 co_friend, rI Y (ao 7) 2 co_fixed, rI Y (ao 8) 43 co_now, rI Y (ao 9) 43 co_then]) rfl ?_
      refine a_icmp_ge C 87 dX12_spades_80 (by decide) (fun h7 => ?_) (fun h7 => ?_)
      · have hf := fx_t h7 hf
        exact kX12_spades_b87 C hQ hk15 hf
      · have hf := fx_f h7 hf
        exact kX12_spades_b83 C hQ hk15 hf
def fX12_spades_l15 (io_thrown : Int32) (io_rows : Int32) (io_children : Int32) (co_row : Nat → Int64) (co_age : Nat → Int32) (co_skill : Nat → Int32) (co_friend : Nat → Int32) (co_fixed : Nat → Int32) (co_now : Nat → Int32) (k15 : (Nat → Int32) × Int32 × Int32 × Int32 → Option (Int32 × Int32 × Int32 × (Nat → Int64) × (Nat → Int32))) (co_then : Nat → Int32) (x1 : Int32) (x2 : Int32) (x3 : Int32) : Option (Int32 × Int32 × Int32 × (Nat → Int64) × (Nat → Int32)) :=
  if (jshl (1 : Int32) io_children) ≤ x3 then (fX12_spades_b114 io_thrown io_rows io_children co_row co_age co_skill co_friend co_fixed co_now co_then x1 x2) else (if inb (41 : Int32) 43 then (fJ6_bitCount_0f7a4 x3).bind (fun r10 => if inb (1 : Int32) 2 then if r10 ≤ (co_fixed (Int32.toNatClampNeg (1 : Int32))) then ((fX12_bucketsAll io_children co_age co_skill co_friend (upd co_then (Int32.toNatClampNeg (41 : Int32)) x3)).bind (fun r13 => fX12_spades_b58 io_thrown io_rows io_children co_row co_age co_skill co_friend co_fixed co_now (upd co_then (Int32.toNatClampNeg (41 : Int32)) x3) x1 x2 x3 r13 k15)) else (fX12_spades_b58 io_thrown io_rows io_children co_row co_age co_skill co_friend co_fixed co_now (upd co_then (Int32.toNatClampNeg (41 : Int32)) x3) x1 x2 x3 (-1 : Int32) k15) else none) else none)
def fX12_spades_b15 (io_thrown : Int32) (io_rows : Int32) (io_children : Int32) (co_row : Nat → Int64) (co_age : Nat → Int32) (co_skill : Nat → Int32) (co_friend : Nat → Int32) (co_fixed : Nat → Int32) (co_now : Nat → Int32) (co_then : Nat → Int32) (x1 : Int32) (x2 : Int32) (x3 : Int32) : Option (Int32 × Int32 × Int32 × (Nat → Int64) × (Nat → Int32)) :=
  loopN (fun (s : (Nat → Int32) × Int32 × Int32 × Int32) k15 => fX12_spades_l15 io_thrown io_rows io_children co_row co_age co_skill co_friend co_fixed co_now k15 s.1 s.2.1 s.2.2.1 s.2.2.2) FUEL (co_then, x1, x2, x3)
set_option maxHeartbeats 4000000 in
set_option maxRecDepth 100000 in
theorem kX12_spades_l15 {X : cxT} {l : Launch} {D : va_G} {Y : Nat → ClassId} {ao : Nat → Nat} {io_thrown : Int32} {io_rows : Int32} {io_cells : Int32} {io_children : Int32} {io_changes : Int32} {io_taped : Int32} {io_at : Int32} {io_to : Int32} {io_nest : Int32} {io_readMany : Int32} {io_codeLong : Int32} {io_readLong : Int32} {io_undos : Int32} {io_wentHome : Int32} {io_tideLevel : Int32} {io_acts : Int32} {io_firstBreaks : Int32} {io_bestCrew : Int32} {io_sights : Int32} {io_wayMany : Int32} {io_random : Int32} {co_row : Nat → Int64} {co_age : Nat → Int32} {co_skill : Nat → Int32} {co_friend : Nat → Int32} {co_fixed : Nat → Int32} {co_now : Nat → Int32} {co_then : Nat → Int32} {x1 : Int32} {x2 : Int32} {x3 : Int32} {res : Int32 × Int32 × Int32 × (Nat → Int64) × (Nat → Int32)} (C : axC X l D Y cX12_spades 6 RX12 wsX12_spades rmX12_spades (some .int)) (hQ : axQ X 0 0 (fun r9 w9 => r9 = (some (.int res.1)) ∧ w9 = [oX12 ao res.2.1 res.2.2.1 io_cells io_children io_changes io_taped io_at io_to io_nest io_readMany io_codeLong io_readLong io_undos io_wentHome io_tideLevel io_acts io_firstBreaks io_bestCrew io_sights io_wayMany io_random, rJ Y (ao 1) 24 res.2.2.2.1, rI Y (ao 4) 8 co_age, rI Y (ao 5) 8 co_skill, rI Y (ao 6) 8 co_friend, rI Y (ao 7) 2 co_fixed, rI Y (ao 8) 43 co_now, rI Y (ao 9) 43 res.2.2.2.2])) {k15 : (Nat → Int32) × Int32 × Int32 × Int32 → Option (Int32 × Int32 × Int32 × (Nat → Int64) × (Nat → Int32))} (hk15 : ∀ s : (Nat → Int32) × Int32 × Int32 × Int32, k15 s = some res → ax X 0 0 15 [some (.ref (ao 0)), some (.int s.2.1), some (.int s.2.2.1), some (.int s.2.2.2), none, none] [oX12 ao io_thrown io_rows io_cells io_children io_changes io_taped io_at io_to io_nest io_readMany io_codeLong io_readLong io_undos io_wentHome io_tideLevel io_acts io_firstBreaks io_bestCrew io_sights io_wayMany io_random, rJ Y (ao 1) 24 co_row, rI Y (ao 4) 8 co_age, rI Y (ao 5) 8 co_skill, rI Y (ao 6) 8 co_friend, rI Y (ao 7) 2 co_fixed, rI Y (ao 8) 43 co_now, rI Y (ao 9) 43 s.1] []) (hf : fX12_spades_l15 io_thrown io_rows io_children co_row co_age co_skill co_friend co_fixed co_now k15 co_then x1 x2 x3 = some res) : ax X 0 0 15 [some (.ref (ao 0)), some (.int x1), some (.int x2), some (.int x3), none, none] [oX12 ao io_thrown io_rows io_cells io_children io_changes io_taped io_at io_to io_nest io_readMany io_codeLong io_readLong io_undos io_wentHome io_tideLevel io_acts io_firstBreaks io_bestCrew io_sights io_wayMany io_random, rJ Y (ao 1) 24 co_row, rI Y (ao 4) 8 co_age, rI Y (ao 5) 8 co_skill, rI Y (ao 6) 8 co_friend, rI Y (ao 7) 2 co_fixed, rI Y (ao 8) 43 co_now, rI Y (ao 9) 43 co_then] [] := by
  unfold fX12_spades_l15 at hf
  refine a_iload_n C dX12_spades_15 rfl ?_
  refine a_iconst C (1 : Int32) dX12_spades_16 (by decide) ?_
  refine a_aload_n C dX12_spades_17 rfl ?_
  refine a_get C eX12_spades_126 dX12_spades_18 0 rfl rfl ?_
  refine a_ishl C dX12_spades_21 ?_
  refine a_icmp_ge C 114 dX12_spades_22 (by decide) (fun h8 => ?_) (fun h8 => ?_)
  · have hf := fx_t h8 hf
    refine a_kill [3] ?_
    exact kX12_spades_b114 C hQ hf
  · have hf := fx_f h8 hf
    refine a_aload_n C dX12_spades_25 rfl ?_
    refine a_get C eX12_spades_39 dX12_spades_26 0 rfl rfl ?_
    refine a_bipush C (41 : Int32) dX12_spades_29 (by decide) ?_
    refine a_iload_n C dX12_spades_31 rfl ?_
    obtain ⟨h9, hf⟩ := fx_ite hf
    refine a_iast C dX12_spades_32 7 rfl h9 ?_
    refine a_iload_n C dX12_spades_33 rfl ?_
    obtain ⟨r10, h10, hf⟩ := fx_bind hf
    refine a_fS C (kJ6_bitCount_0f7a4 l D Y x3 r10 h10) gX12_spades_J6_bitCount_0f7a4 rfl dvJ6_bitCount_0f7a4 ⟨⟨rfl, rfl⟩, ⟨Nat.le_of_ble_eq_true rfl, Nat.le_of_ble_eq_true rfl⟩, ⟨Nat.le_of_ble_eq_true rfl, Nat.le_of_ble_eq_true rfl⟩⟩ rfl (Nat.le_of_ble_eq_true rfl) dX12_spades_34 [] rfl rfl rfl (wn := [oX12 ao io_thrown io_rows io_cells io_children io_changes io_taped io_at io_to io_nest io_readMany io_codeLong io_readLong io_undos io_wentHome io_tideLevel io_acts io_firstBreaks io_bestCrew io_sights io_wayMany io_random, rJ Y (ao 1) 24 co_row, rI Y (ao 4) 8 co_age, rI Y (ao 5) 8 co_skill, rI Y (ao 6) 8 co_friend, rI Y (ao 7) 2 co_fixed, rI Y (ao 8) 43 co_now, rI Y (ao 9) 43 (upd co_then (Int32.toNatClampNeg (41 : Int32)) x3)]) rfl ?_
    refine a_aload_n C dX12_spades_37 rfl ?_
    refine a_get C eX12_spades_33 dX12_spades_38 0 rfl rfl ?_
    refine a_iconst C (1 : Int32) dX12_spades_41 (by decide) ?_
    obtain ⟨h11, hf⟩ := fx_ite hf
    refine a_iald C dX12_spades_42 5 rfl h11 ?_
    refine a_icmp_le C 50 dX12_spades_43 (by decide) (fun h12 => ?_) (fun h12 => ?_)
    · have hf := fx_t h12 hf
      refine a_aload_n C dX12_spades_50 rfl ?_
      refine a_aload_n C dX12_spades_51 rfl ?_
      refine a_get C eX12_spades_39 dX12_spades_52 0 rfl rfl ?_
      obtain ⟨r13, h13, hf⟩ := fx_bind hf
      refine a_fV C (kX12_bucketsAll l D Y ao (ao 9) io_thrown io_rows io_cells io_children io_changes io_taped io_at io_to io_nest io_readMany io_codeLong io_readLong io_undos io_wentHome io_tideLevel io_acts io_firstBreaks io_bestCrew io_sights io_wayMany io_random co_age co_skill co_friend (upd co_then (Int32.toNatClampNeg (41 : Int32)) x3) r13 h13) gX12_spades_X12_bucketsAll rfl dvX12_bucketsAll ⟨⟨rfl, rfl⟩, ⟨Nat.le_of_ble_eq_true rfl, Nat.le_of_ble_eq_true rfl⟩, ⟨Nat.le_of_ble_eq_true rfl, Nat.le_of_ble_eq_true rfl⟩⟩ rfl (Nat.le_of_ble_eq_true rfl) dX12_spades_55 rfl rfl [0, 2, 3, 4, 7] rfl rfl rfl (wn := [oX12 ao io_thrown io_rows io_cells io_children io_changes io_taped io_at io_to io_nest io_readMany io_codeLong io_readLong io_undos io_wentHome io_tideLevel io_acts io_firstBreaks io_bestCrew io_sights io_wayMany io_random, rJ Y (ao 1) 24 co_row, rI Y (ao 4) 8 co_age, rI Y (ao 5) 8 co_skill, rI Y (ao 6) 8 co_friend, rI Y (ao 7) 2 co_fixed, rI Y (ao 8) 43 co_now, rI Y (ao 9) 43 (upd co_then (Int32.toNatClampNeg (41 : Int32)) x3)]) rfl ?_
      exact kX12_spades_b58 C hQ hk15 hf
    · have hf := fx_f h12 hf
      refine a_iconst C (-1 : Int32) dX12_spades_46 (by decide) ?_
      refine a_goto C 58 dX12_spades_47 (by decide) ?_
      exact kX12_spades_b58 C hQ hk15 hf
set_option maxHeartbeats 4000000 in
set_option maxRecDepth 100000 in
theorem kX12_spades_b15 {X : cxT} {l : Launch} {D : va_G} {Y : Nat → ClassId} {ao : Nat → Nat} {io_thrown : Int32} {io_rows : Int32} {io_cells : Int32} {io_children : Int32} {io_changes : Int32} {io_taped : Int32} {io_at : Int32} {io_to : Int32} {io_nest : Int32} {io_readMany : Int32} {io_codeLong : Int32} {io_readLong : Int32} {io_undos : Int32} {io_wentHome : Int32} {io_tideLevel : Int32} {io_acts : Int32} {io_firstBreaks : Int32} {io_bestCrew : Int32} {io_sights : Int32} {io_wayMany : Int32} {io_random : Int32} {co_row : Nat → Int64} {co_age : Nat → Int32} {co_skill : Nat → Int32} {co_friend : Nat → Int32} {co_fixed : Nat → Int32} {co_now : Nat → Int32} {co_then : Nat → Int32} {x1 : Int32} {x2 : Int32} {x3 : Int32} {res : Int32 × Int32 × Int32 × (Nat → Int64) × (Nat → Int32)} (C : axC X l D Y cX12_spades 6 RX12 wsX12_spades rmX12_spades (some .int)) (hQ : axQ X 0 0 (fun r9 w9 => r9 = (some (.int res.1)) ∧ w9 = [oX12 ao res.2.1 res.2.2.1 io_cells io_children io_changes io_taped io_at io_to io_nest io_readMany io_codeLong io_readLong io_undos io_wentHome io_tideLevel io_acts io_firstBreaks io_bestCrew io_sights io_wayMany io_random, rJ Y (ao 1) 24 res.2.2.2.1, rI Y (ao 4) 8 co_age, rI Y (ao 5) 8 co_skill, rI Y (ao 6) 8 co_friend, rI Y (ao 7) 2 co_fixed, rI Y (ao 8) 43 co_now, rI Y (ao 9) 43 res.2.2.2.2])) (hf : fX12_spades_b15 io_thrown io_rows io_children co_row co_age co_skill co_friend co_fixed co_now co_then x1 x2 x3 = some res) : ax X 0 0 15 [some (.ref (ao 0)), some (.int x1), some (.int x2), some (.int x3), none, none] [oX12 ao io_thrown io_rows io_cells io_children io_changes io_taped io_at io_to io_nest io_readMany io_codeLong io_readLong io_undos io_wentHome io_tideLevel io_acts io_firstBreaks io_bestCrew io_sights io_wayMany io_random, rJ Y (ao 1) 24 co_row, rI Y (ao 4) 8 co_age, rI Y (ao 5) 8 co_skill, rI Y (ao 6) 8 co_friend, rI Y (ao 7) 2 co_fixed, rI Y (ao 8) 43 co_now, rI Y (ao 9) 43 co_then] [] := by
  unfold fX12_spades_b15 at hf
  exact fx_loop (P := fun s : (Nat → Int32) × Int32 × Int32 × Int32 => ax X 0 0 15 [some (.ref (ao 0)), some (.int s.2.1), some (.int s.2.2.1), some (.int s.2.2.2), none, none] [oX12 ao io_thrown io_rows io_cells io_children io_changes io_taped io_at io_to io_nest io_readMany io_codeLong io_readLong io_undos io_wentHome io_tideLevel io_acts io_firstBreaks io_bestCrew io_sights io_wayMany io_random, rJ Y (ao 1) 24 co_row, rI Y (ao 4) 8 co_age, rI Y (ao 5) 8 co_skill, rI Y (ao 6) 8 co_friend, rI Y (ao 7) 2 co_fixed, rI Y (ao 8) 43 co_now, rI Y (ao 9) 43 s.1] []) (fun s k15 hk15 h => kX12_spades_l15 C hQ hk15 h) FUEL (co_then, x1, x2, x3) hf
def fX12_spades (io_thrown : Int32) (io_rows : Int32) (io_children : Int32) (co_row : Nat → Int64) (co_age : Nat → Int32) (co_skill : Nat → Int32) (co_friend : Nat → Int32) (co_fixed : Nat → Int32) (co_now : Nat → Int32) (co_then : Nat → Int32) : Option (Int32 × Int32 × Int32 × (Nat → Int64) × (Nat → Int32)) :=
  (fX12_puts co_now co_then).bind (fun r14 => fX12_spades_b15 (0 : Int32) io_rows io_children co_row co_age co_skill co_friend co_fixed co_now r14 (0 : Int32) (-1 : Int32) (0 : Int32))
set_option maxHeartbeats 4000000 in
set_option maxRecDepth 100000 in
theorem kX12_spades (l : Launch) (D : va_G) (Y : Nat → ClassId) (ao : Nat → Nat) (io_thrown : Int32) (io_rows : Int32) (io_cells : Int32) (io_children : Int32) (io_changes : Int32) (io_taped : Int32) (io_at : Int32) (io_to : Int32) (io_nest : Int32) (io_readMany : Int32) (io_codeLong : Int32) (io_readLong : Int32) (io_undos : Int32) (io_wentHome : Int32) (io_tideLevel : Int32) (io_acts : Int32) (io_firstBreaks : Int32) (io_bestCrew : Int32) (io_sights : Int32) (io_wayMany : Int32) (io_random : Int32) (co_row : Nat → Int64) (co_age : Nat → Int32) (co_skill : Nat → Int32) (co_friend : Nat → Int32) (co_fixed : Nat → Int32) (co_now : Nat → Int32) (co_then : Nat → Int32) (res : Int32 × Int32 × Int32 × (Nat → Int64) × (Nat → Int32)) (hf : fX12_spades io_thrown io_rows io_children co_row co_age co_skill co_friend co_fixed co_now co_then = some res) : amf l D Y yX12_spades wsX12_spades rmX12_spades [.ref (ao 0)] [oX12 ao io_thrown io_rows io_cells io_children io_changes io_taped io_at io_to io_nest io_readMany io_codeLong io_readLong io_undos io_wentHome io_tideLevel io_acts io_firstBreaks io_bestCrew io_sights io_wayMany io_random, rJ Y (ao 1) 24 co_row, rI Y (ao 4) 8 co_age, rI Y (ao 5) 8 co_skill, rI Y (ao 6) 8 co_friend, rI Y (ao 7) 2 co_fixed, rI Y (ao 8) 43 co_now, rI Y (ao 9) 43 co_then] (some (.int res.1)) [oX12 ao res.2.1 res.2.2.1 io_cells io_children io_changes io_taped io_at io_to io_nest io_readMany io_codeLong io_readLong io_undos io_wentHome io_tideLevel io_acts io_firstBreaks io_bestCrew io_sights io_wayMany io_random, rJ Y (ao 1) 24 res.2.2.2.1, rI Y (ao 4) 8 co_age, rI Y (ao 5) 8 co_skill, rI Y (ao 6) 8 co_friend, rI Y (ao 7) 2 co_fixed, rI Y (ao 8) 43 co_now, rI Y (ao 9) 43 res.2.2.2.2] := by
  refine amf.of (cc := cX12_spades) (maxL := 6) (rt := (some .int)) (by decide) rfl RX12 rfl (Nat.le_of_ble_eq_true rfl) [some (.ref (ao 0)), none, none, none, none, none] rfl ?_
  intro X C hQ
  unfold fX12_spades at hf
  refine a_aload_n C dX12_spades_0 rfl ?_
  refine a_iconst C (0 : Int32) dX12_spades_1 (by decide) ?_
  refine a_put C eX12_spades_112 tfX12_0 dX12_spades_2 0 rfl rfl rfl (Nat.le_of_ble_eq_true rfl) ?_
  refine a_aload_n C dX12_spades_5 rfl ?_
  obtain ⟨r14, h14, hf⟩ := fx_bind hf
  refine a_fV C (kX12_puts l D Y ao (0 : Int32) io_rows io_cells io_children io_changes io_taped io_at io_to io_nest io_readMany io_codeLong io_readLong io_undos io_wentHome io_tideLevel io_acts io_firstBreaks io_bestCrew io_sights io_wayMany io_random co_now co_then r14 h14) gX12_spades_X12_puts rfl dvX12_puts ⟨⟨rfl, rfl⟩, ⟨Nat.le_of_ble_eq_true rfl, Nat.le_of_ble_eq_true rfl⟩, ⟨Nat.le_of_ble_eq_true rfl, Nat.le_of_ble_eq_true rfl⟩⟩ rfl (Nat.le_of_ble_eq_true rfl) dX12_spades_6 rfl rfl [0, 6, 7] rfl rfl rfl (wn := [oX12 ao (0 : Int32) io_rows io_cells io_children io_changes io_taped io_at io_to io_nest io_readMany io_codeLong io_readLong io_undos io_wentHome io_tideLevel io_acts io_firstBreaks io_bestCrew io_sights io_wayMany io_random, rJ Y (ao 1) 24 co_row, rI Y (ao 4) 8 co_age, rI Y (ao 5) 8 co_skill, rI Y (ao 6) 8 co_friend, rI Y (ao 7) 2 co_fixed, rI Y (ao 8) 43 co_now, rI Y (ao 9) 43 r14]) rfl ?_
  refine a_iconst C (0 : Int32) dX12_spades_9 (by decide) ?_
  refine a_istore_n C dX12_spades_10 (by decide) rfl ?_
  refine a_iconst C (-1 : Int32) dX12_spades_11 (by decide) ?_
  refine a_istore_n C dX12_spades_12 (by decide) rfl ?_
  refine a_iconst C (0 : Int32) dX12_spades_13 (by decide) ?_
  refine a_istore_n C dX12_spades_14 (by decide) rfl ?_
  exact kX12_spades_b15 C hQ hf
-- X12_treats
abbrev rmX12_treats : Room := { frames := 1, cells := 0, slots := 0, locals := 25 }
theorem dvX12_treats : yX12_treats.cls = RX12 ∧ yX12_treats.cls ≠ "java/lang/invoke/MethodHandle" ∧ yX12_treats.cls ≠ "java/lang/invoke/VarHandle" ∧ (parseMethodDescriptor yX12_treats.desc).map (fun d => d.parameters.length) = some 1 := by decide +kernel
theorem eX12_treats_inX12 : ∀ w ∈ wsX120, w ∈ wsX12_treats := by decide +kernel
theorem eX12_treats_36 : aF wsX12_treats RX12 36 12 12 := ⟨RX12, TX12, 53, rfl, eX12_treats_inX12, by decide, by decide +kernel⟩
theorem eX12_treats_m142 : ∀ w ∈ ([.methodLink RX12 142 Lib.Math.min.name, .static Lib.Math.min.name, .initialized "java/lang/Math", .code Lib.Math.min.name Lib.Math.min.code 2 (some .int)] : List Cond), w ∈ wsX12_treats := by decide +kernel
theorem eX12_treats_126 : aF wsX12_treats RX12 126 12 4 := ⟨RX12, TX12, 53, rfl, eX12_treats_inX12, by decide, by decide +kernel⟩
theorem eX12_treats_119 : aF wsX12_treats RX12 119 12 1 := ⟨RX12, TX12, 53, rfl, eX12_treats_inX12, by decide, by decide +kernel⟩
theorem eX12_treats_112 : aF wsX12_treats RX12 112 12 0 := ⟨RX12, TX12, 53, rfl, eX12_treats_inX12, by decide, by decide +kernel⟩
theorem eX12_treats_k302 : Cond.constantLong RX12 302 (9 : Int64) ∈ wsX12_treats := by decide +kernel
def fX12_treats_b132 (io_thrown : Int32) (io_rows : Int32) (io_children : Int32) (co_row : Nat → Int64) (co_now : Nat → Int32) (x2 : Int32) : Option (Int32 × Int32 × Int32 × (Nat → Int64)) :=
  some (x2, io_thrown, io_rows, co_row)
set_option maxHeartbeats 4000000 in
set_option maxRecDepth 100000 in
theorem kX12_treats_b132 {X : cxT} {l : Launch} {D : va_G} {Y : Nat → ClassId} {ao : Nat → Nat} {io_thrown : Int32} {io_rows : Int32} {io_cells : Int32} {io_children : Int32} {io_changes : Int32} {io_taped : Int32} {io_at : Int32} {io_to : Int32} {io_nest : Int32} {io_readMany : Int32} {io_codeLong : Int32} {io_readLong : Int32} {io_undos : Int32} {io_wentHome : Int32} {io_tideLevel : Int32} {io_acts : Int32} {io_firstBreaks : Int32} {io_bestCrew : Int32} {io_sights : Int32} {io_wayMany : Int32} {io_random : Int32} {co_row : Nat → Int64} {co_now : Nat → Int32} {x2 : Int32} {res : Int32 × Int32 × Int32 × (Nat → Int64)} (C : axC X l D Y cX12_treats 5 RX12 wsX12_treats rmX12_treats (some .int)) (hQ : axQ X 0 0 (fun r9 w9 => r9 = (some (.int res.1)) ∧ w9 = [oX12 ao res.2.1 res.2.2.1 io_cells io_children io_changes io_taped io_at io_to io_nest io_readMany io_codeLong io_readLong io_undos io_wentHome io_tideLevel io_acts io_firstBreaks io_bestCrew io_sights io_wayMany io_random, rJ Y (ao 1) 24 res.2.2.2, rI Y (ao 8) 43 co_now])) (hf : fX12_treats_b132 io_thrown io_rows io_children co_row co_now x2 = some res) : ax X 0 0 132 [none, none, some (.int x2), none, none] [oX12 ao io_thrown io_rows io_cells io_children io_changes io_taped io_at io_to io_nest io_readMany io_codeLong io_readLong io_undos io_wentHome io_tideLevel io_acts io_firstBreaks io_bestCrew io_sights io_wayMany io_random, rJ Y (ao 1) 24 co_row, rI Y (ao 8) 43 co_now] [] := by
  unfold fX12_treats_b132 at hf
  refine a_iload_n C dX12_treats_132 rfl ?_
  obtain rfl := fx_some hf
  exact a_iret C hQ dX12_treats_133 ⟨rfl, rfl⟩
def fX12_treats_b114 (io_thrown : Int32) (io_rows : Int32) (io_children : Int32) (co_row : Nat → Int64) (co_now : Nat → Int32) (x1 : Int32) (x2 : Int32) (x3 : Int32) (x4 : Int32) (k64 : Int32 × (Nat → Int64) × Int32 × Int32 → Option (Int32 × Int32 × Int32 × (Nat → Int64))) : Option (Int32 × Int32 × Int32 × (Nat → Int64)) :=
  (fX12_enters io_rows co_row (x4.toInt64)).bind (fun r1 => k64 (r1.1, r1.2, (x2 + x4), (x3 + (1 : Int32))))
set_option maxHeartbeats 4000000 in
set_option maxRecDepth 100000 in
theorem kX12_treats_b114 {X : cxT} {l : Launch} {D : va_G} {Y : Nat → ClassId} {ao : Nat → Nat} {io_thrown : Int32} {io_rows : Int32} {io_cells : Int32} {io_children : Int32} {io_changes : Int32} {io_taped : Int32} {io_at : Int32} {io_to : Int32} {io_nest : Int32} {io_readMany : Int32} {io_codeLong : Int32} {io_readLong : Int32} {io_undos : Int32} {io_wentHome : Int32} {io_tideLevel : Int32} {io_acts : Int32} {io_firstBreaks : Int32} {io_bestCrew : Int32} {io_sights : Int32} {io_wayMany : Int32} {io_random : Int32} {co_row : Nat → Int64} {co_now : Nat → Int32} {x1 : Int32} {x2 : Int32} {x3 : Int32} {x4 : Int32} {res : Int32 × Int32 × Int32 × (Nat → Int64)} (C : axC X l D Y cX12_treats 5 RX12 wsX12_treats rmX12_treats (some .int)) (hQ : axQ X 0 0 (fun r9 w9 => r9 = (some (.int res.1)) ∧ w9 = [oX12 ao res.2.1 res.2.2.1 io_cells io_children io_changes io_taped io_at io_to io_nest io_readMany io_codeLong io_readLong io_undos io_wentHome io_tideLevel io_acts io_firstBreaks io_bestCrew io_sights io_wayMany io_random, rJ Y (ao 1) 24 res.2.2.2, rI Y (ao 8) 43 co_now])) {k64 : Int32 × (Nat → Int64) × Int32 × Int32 → Option (Int32 × Int32 × Int32 × (Nat → Int64))} (hk64 : ∀ s : Int32 × (Nat → Int64) × Int32 × Int32, k64 s = some res → ax X 0 0 64 [some (.ref (ao 0)), some (.int x1), some (.int s.2.2.1), some (.int s.2.2.2), none] [oX12 ao io_thrown s.1 io_cells io_children io_changes io_taped io_at io_to io_nest io_readMany io_codeLong io_readLong io_undos io_wentHome io_tideLevel io_acts io_firstBreaks io_bestCrew io_sights io_wayMany io_random, rJ Y (ao 1) 24 s.2.1, rI Y (ao 8) 43 co_now] []) (hf : fX12_treats_b114 io_thrown io_rows io_children co_row co_now x1 x2 x3 x4 k64 = some res) : ax X 0 0 114 [some (.ref (ao 0)), some (.int x1), some (.int x2), some (.int x3), some (.int x4)] [oX12 ao io_thrown io_rows io_cells io_children io_changes io_taped io_at io_to io_nest io_readMany io_codeLong io_readLong io_undos io_wentHome io_tideLevel io_acts io_firstBreaks io_bestCrew io_sights io_wayMany io_random, rJ Y (ao 1) 24 co_row, rI Y (ao 8) 43 co_now] [] := by
  unfold fX12_treats_b114 at hf
  refine a_iload_n C dX12_treats_114 rfl ?_
  refine a_iload C dX12_treats_115 rfl ?_
  refine a_iadd C dX12_treats_117 ?_
  refine a_istore_n C dX12_treats_118 (by decide) rfl ?_
  refine a_aload_n C dX12_treats_119 rfl ?_
  refine a_iload C dX12_treats_120 rfl ?_
  refine a_i2l C dX12_treats_122 ?_
  obtain ⟨r1, h1, hf⟩ := fx_bind hf
  refine a_fV C (kX12_enters l D Y ao io_thrown io_rows io_cells io_children io_changes io_taped io_at io_to io_nest io_readMany io_codeLong io_readLong io_undos io_wentHome io_tideLevel io_acts io_firstBreaks io_bestCrew io_sights io_wayMany io_random co_row (x4.toInt64) r1 h1) gX12_treats_X12_enters rfl dvX12_enters ⟨⟨rfl, rfl⟩, ⟨Nat.le_of_ble_eq_true rfl, Nat.le_of_ble_eq_true rfl⟩, ⟨Nat.le_of_ble_eq_true rfl, Nat.le_of_ble_eq_true rfl⟩⟩ rfl (Nat.le_of_ble_eq_true rfl) dX12_treats_123 rfl rfl [0, 1] rfl rfl rfl (wn := [oX12 ao io_thrown r1.1 io_cells io_children io_changes io_taped io_at io_to io_nest io_readMany io_codeLong io_readLong io_undos io_wentHome io_tideLevel io_acts io_firstBreaks io_bestCrew io_sights io_wayMany io_random, rJ Y (ao 1) 24 r1.2, rI Y (ao 8) 43 co_now]) rfl ?_
  refine a_iinc C (1 : Int32) dX12_treats_126 (by decide) rfl (by decide) rfl ?_
  refine a_goto C 64 dX12_treats_129 (by decide) ?_
  refine a_kill [4] ?_
  exact hk64 (r1.1, r1.2, (x2 + x4), (x3 + (1 : Int32))) hf
def fX12_treats_l75 (io_thrown : Int32) (io_rows : Int32) (io_children : Int32) (co_row : Nat → Int64) (co_now : Nat → Int32) (x1 : Int32) (x2 : Int32) (x3 : Int32) (k64 : Int32 × (Nat → Int64) × Int32 × Int32 → Option (Int32 × Int32 × Int32 × (Nat → Int64))) (k75 : Int32 → Option (Int32 × Int32 × Int32 × (Nat → Int64))) (x4 : Int32) : Option (Int32 × Int32 × Int32 × (Nat → Int64)) :=
  (fX12_atOf co_now x3).bind (fun r2 => if r2 < (0 : Int32) then (fX12_treats_b114 io_thrown io_rows io_children co_row co_now x1 x2 x3 x4 k64) else ((fX12_moodOf co_now x3).bind (fun r4 => if x1 < (jmin (9 : Int32) (r4 + ((3 : Int32) * x4))) then (fX12_treats_b114 io_thrown io_rows io_children co_row co_now x1 x2 x3 x4 k64) else (k75 (x4 + (1 : Int32))))))
def fX12_treats_b75 (io_thrown : Int32) (io_rows : Int32) (io_children : Int32) (co_row : Nat → Int64) (co_now : Nat → Int32) (x1 : Int32) (x2 : Int32) (x3 : Int32) (x4 : Int32) (k64 : Int32 × (Nat → Int64) × Int32 × Int32 → Option (Int32 × Int32 × Int32 × (Nat → Int64))) : Option (Int32 × Int32 × Int32 × (Nat → Int64)) :=
  loopN (fun (s : Int32) k75 => fX12_treats_l75 io_thrown io_rows io_children co_row co_now x1 x2 x3 k64 k75 s) FUEL x4
set_option maxHeartbeats 4000000 in
set_option maxRecDepth 100000 in
theorem kX12_treats_l75 {X : cxT} {l : Launch} {D : va_G} {Y : Nat → ClassId} {ao : Nat → Nat} {io_thrown : Int32} {io_rows : Int32} {io_cells : Int32} {io_children : Int32} {io_changes : Int32} {io_taped : Int32} {io_at : Int32} {io_to : Int32} {io_nest : Int32} {io_readMany : Int32} {io_codeLong : Int32} {io_readLong : Int32} {io_undos : Int32} {io_wentHome : Int32} {io_tideLevel : Int32} {io_acts : Int32} {io_firstBreaks : Int32} {io_bestCrew : Int32} {io_sights : Int32} {io_wayMany : Int32} {io_random : Int32} {co_row : Nat → Int64} {co_now : Nat → Int32} {x1 : Int32} {x2 : Int32} {x3 : Int32} {x4 : Int32} {res : Int32 × Int32 × Int32 × (Nat → Int64)} (C : axC X l D Y cX12_treats 5 RX12 wsX12_treats rmX12_treats (some .int)) (hQ : axQ X 0 0 (fun r9 w9 => r9 = (some (.int res.1)) ∧ w9 = [oX12 ao res.2.1 res.2.2.1 io_cells io_children io_changes io_taped io_at io_to io_nest io_readMany io_codeLong io_readLong io_undos io_wentHome io_tideLevel io_acts io_firstBreaks io_bestCrew io_sights io_wayMany io_random, rJ Y (ao 1) 24 res.2.2.2, rI Y (ao 8) 43 co_now])) {k64 : Int32 × (Nat → Int64) × Int32 × Int32 → Option (Int32 × Int32 × Int32 × (Nat → Int64))} (hk64 : ∀ s : Int32 × (Nat → Int64) × Int32 × Int32, k64 s = some res → ax X 0 0 64 [some (.ref (ao 0)), some (.int x1), some (.int s.2.2.1), some (.int s.2.2.2), none] [oX12 ao io_thrown s.1 io_cells io_children io_changes io_taped io_at io_to io_nest io_readMany io_codeLong io_readLong io_undos io_wentHome io_tideLevel io_acts io_firstBreaks io_bestCrew io_sights io_wayMany io_random, rJ Y (ao 1) 24 s.2.1, rI Y (ao 8) 43 co_now] []) {k75 : Int32 → Option (Int32 × Int32 × Int32 × (Nat → Int64))} (hk75 : ∀ s : Int32, k75 s = some res → ax X 0 0 75 [some (.ref (ao 0)), some (.int x1), some (.int x2), some (.int x3), some (.int s)] [oX12 ao io_thrown io_rows io_cells io_children io_changes io_taped io_at io_to io_nest io_readMany io_codeLong io_readLong io_undos io_wentHome io_tideLevel io_acts io_firstBreaks io_bestCrew io_sights io_wayMany io_random, rJ Y (ao 1) 24 co_row, rI Y (ao 8) 43 co_now] []) (hf : fX12_treats_l75 io_thrown io_rows io_children co_row co_now x1 x2 x3 k64 k75 x4 = some res) : ax X 0 0 75 [some (.ref (ao 0)), some (.int x1), some (.int x2), some (.int x3), some (.int x4)] [oX12 ao io_thrown io_rows io_cells io_children io_changes io_taped io_at io_to io_nest io_readMany io_codeLong io_readLong io_undos io_wentHome io_tideLevel io_acts io_firstBreaks io_bestCrew io_sights io_wayMany io_random, rJ Y (ao 1) 24 co_row, rI Y (ao 8) 43 co_now] [] := by
  unfold fX12_treats_l75 at hf
  refine a_aload_n C dX12_treats_75 rfl ?_
  refine a_get C eX12_treats_36 dX12_treats_76 0 rfl rfl ?_
  refine a_iload_n C dX12_treats_79 rfl ?_
  obtain ⟨r2, h2, hf⟩ := fx_bind hf
  refine a_fS C (kX12_atOf l D Y (ao 8) co_now x3 r2 h2) gX12_treats_X12_atOf rfl dvX12_atOf ⟨⟨rfl, rfl⟩, ⟨Nat.le_of_ble_eq_true rfl, Nat.le_of_ble_eq_true rfl⟩, ⟨Nat.le_of_ble_eq_true rfl, Nat.le_of_ble_eq_true rfl⟩⟩ rfl (Nat.le_of_ble_eq_true rfl) dX12_treats_80 [2] rfl rfl rfl (wn := [oX12 ao io_thrown io_rows io_cells io_children io_changes io_taped io_at io_to io_nest io_readMany io_codeLong io_readLong io_undos io_wentHome io_tideLevel io_acts io_firstBreaks io_bestCrew io_sights io_wayMany io_random, rJ Y (ao 1) 24 co_row, rI Y (ao 8) 43 co_now]) rfl ?_
  refine a_if_lt C 114 dX12_treats_83 (by decide) (fun h3 => ?_) (fun h3 => ?_)
  · have hf := fx_t h3 hf
    exact kX12_treats_b114 C hQ hk64 hf
  · have hf := fx_f h3 hf
    refine a_bipush C (9 : Int32) dX12_treats_86 (by decide) ?_
    refine a_aload_n C dX12_treats_88 rfl ?_
    refine a_get C eX12_treats_36 dX12_treats_89 0 rfl rfl ?_
    refine a_iload_n C dX12_treats_92 rfl ?_
    obtain ⟨r4, h4, hf⟩ := fx_bind hf
    refine a_fS C (kX12_moodOf l D Y (ao 8) co_now x3 r4 h4) gX12_treats_X12_moodOf rfl dvX12_moodOf ⟨⟨rfl, rfl⟩, ⟨Nat.le_of_ble_eq_true rfl, Nat.le_of_ble_eq_true rfl⟩, ⟨Nat.le_of_ble_eq_true rfl, Nat.le_of_ble_eq_true rfl⟩⟩ rfl (Nat.le_of_ble_eq_true rfl) dX12_treats_93 [2] rfl rfl rfl (wn := [oX12 ao io_thrown io_rows io_cells io_children io_changes io_taped io_at io_to io_nest io_readMany io_codeLong io_readLong io_undos io_wentHome io_tideLevel io_acts io_firstBreaks io_bestCrew io_sights io_wayMany io_random, rJ Y (ao 1) 24 co_row, rI Y (ao 8) 43 co_now]) rfl ?_
    refine a_iconst C (3 : Int32) dX12_treats_96 (by decide) ?_
    refine a_iload C dX12_treats_97 rfl ?_
    refine a_imul C dX12_treats_99 ?_
    refine a_iadd C dX12_treats_100 ?_
    refine a_mmin C dX12_treats_101 eX12_treats_m142 ⟨⟨Nat.le_of_ble_eq_true rfl, Nat.le_of_ble_eq_true rfl⟩, ⟨Nat.le_of_ble_eq_true rfl, Nat.le_of_ble_eq_true rfl⟩⟩ (Nat.le_of_ble_eq_true rfl) ?_
    refine a_iload_n C dX12_treats_104 rfl ?_
    refine a_icmp_gt C 114 dX12_treats_105 (by decide) (fun h5 => ?_) (fun h5 => ?_)
    · have hf := fx_t h5 hf
      exact kX12_treats_b114 C hQ hk64 hf
    · have hf := fx_f h5 hf
      refine a_iinc C (1 : Int32) dX12_treats_108 (by decide) rfl (by decide) rfl ?_
      refine a_goto C 75 dX12_treats_111 (by decide) ?_
      exact hk75 (x4 + (1 : Int32)) hf
set_option maxHeartbeats 4000000 in
set_option maxRecDepth 100000 in
theorem kX12_treats_b75 {X : cxT} {l : Launch} {D : va_G} {Y : Nat → ClassId} {ao : Nat → Nat} {io_thrown : Int32} {io_rows : Int32} {io_cells : Int32} {io_children : Int32} {io_changes : Int32} {io_taped : Int32} {io_at : Int32} {io_to : Int32} {io_nest : Int32} {io_readMany : Int32} {io_codeLong : Int32} {io_readLong : Int32} {io_undos : Int32} {io_wentHome : Int32} {io_tideLevel : Int32} {io_acts : Int32} {io_firstBreaks : Int32} {io_bestCrew : Int32} {io_sights : Int32} {io_wayMany : Int32} {io_random : Int32} {co_row : Nat → Int64} {co_now : Nat → Int32} {x1 : Int32} {x2 : Int32} {x3 : Int32} {x4 : Int32} {res : Int32 × Int32 × Int32 × (Nat → Int64)} (C : axC X l D Y cX12_treats 5 RX12 wsX12_treats rmX12_treats (some .int)) (hQ : axQ X 0 0 (fun r9 w9 => r9 = (some (.int res.1)) ∧ w9 = [oX12 ao res.2.1 res.2.2.1 io_cells io_children io_changes io_taped io_at io_to io_nest io_readMany io_codeLong io_readLong io_undos io_wentHome io_tideLevel io_acts io_firstBreaks io_bestCrew io_sights io_wayMany io_random, rJ Y (ao 1) 24 res.2.2.2, rI Y (ao 8) 43 co_now])) {k64 : Int32 × (Nat → Int64) × Int32 × Int32 → Option (Int32 × Int32 × Int32 × (Nat → Int64))} (hk64 : ∀ s : Int32 × (Nat → Int64) × Int32 × Int32, k64 s = some res → ax X 0 0 64 [some (.ref (ao 0)), some (.int x1), some (.int s.2.2.1), some (.int s.2.2.2), none] [oX12 ao io_thrown s.1 io_cells io_children io_changes io_taped io_at io_to io_nest io_readMany io_codeLong io_readLong io_undos io_wentHome io_tideLevel io_acts io_firstBreaks io_bestCrew io_sights io_wayMany io_random, rJ Y (ao 1) 24 s.2.1, rI Y (ao 8) 43 co_now] []) (hf : fX12_treats_b75 io_thrown io_rows io_children co_row co_now x1 x2 x3 x4 k64 = some res) : ax X 0 0 75 [some (.ref (ao 0)), some (.int x1), some (.int x2), some (.int x3), some (.int x4)] [oX12 ao io_thrown io_rows io_cells io_children io_changes io_taped io_at io_to io_nest io_readMany io_codeLong io_readLong io_undos io_wentHome io_tideLevel io_acts io_firstBreaks io_bestCrew io_sights io_wayMany io_random, rJ Y (ao 1) 24 co_row, rI Y (ao 8) 43 co_now] [] := by
  unfold fX12_treats_b75 at hf
  exact fx_loop (P := fun s : Int32 => ax X 0 0 75 [some (.ref (ao 0)), some (.int x1), some (.int x2), some (.int x3), some (.int s)] [oX12 ao io_thrown io_rows io_cells io_children io_changes io_taped io_at io_to io_nest io_readMany io_codeLong io_readLong io_undos io_wentHome io_tideLevel io_acts io_firstBreaks io_bestCrew io_sights io_wayMany io_random, rJ Y (ao 1) 24 co_row, rI Y (ao 8) 43 co_now] []) (fun s k75 hk75 h => kX12_treats_l75 C hQ hk64 hk75 h) FUEL x4 hf
def fX12_treats_l64 (io_thrown : Int32) (io_children : Int32) (co_now : Nat → Int32) (x1 : Int32) (k64 : Int32 × (Nat → Int64) × Int32 × Int32 → Option (Int32 × Int32 × Int32 × (Nat → Int64))) (io_rows : Int32) (co_row : Nat → Int64) (x2 : Int32) (x3 : Int32) : Option (Int32 × Int32 × Int32 × (Nat → Int64)) :=
  if io_children ≤ x3 then (fX12_treats_b132 io_thrown io_rows io_children co_row co_now x2) else (fX12_treats_b75 io_thrown io_rows io_children co_row co_now x1 x2 x3 (0 : Int32) k64)
def fX12_treats_b64 (io_thrown : Int32) (io_rows : Int32) (io_children : Int32) (co_row : Nat → Int64) (co_now : Nat → Int32) (x1 : Int32) (x2 : Int32) (x3 : Int32) : Option (Int32 × Int32 × Int32 × (Nat → Int64)) :=
  loopN (fun (s : Int32 × (Nat → Int64) × Int32 × Int32) k64 => fX12_treats_l64 io_thrown io_children co_now x1 k64 s.1 s.2.1 s.2.2.1 s.2.2.2) FUEL (io_rows, co_row, x2, x3)
set_option maxHeartbeats 4000000 in
set_option maxRecDepth 100000 in
theorem kX12_treats_l64 {X : cxT} {l : Launch} {D : va_G} {Y : Nat → ClassId} {ao : Nat → Nat} {io_thrown : Int32} {io_rows : Int32} {io_cells : Int32} {io_children : Int32} {io_changes : Int32} {io_taped : Int32} {io_at : Int32} {io_to : Int32} {io_nest : Int32} {io_readMany : Int32} {io_codeLong : Int32} {io_readLong : Int32} {io_undos : Int32} {io_wentHome : Int32} {io_tideLevel : Int32} {io_acts : Int32} {io_firstBreaks : Int32} {io_bestCrew : Int32} {io_sights : Int32} {io_wayMany : Int32} {io_random : Int32} {co_row : Nat → Int64} {co_now : Nat → Int32} {x1 : Int32} {x2 : Int32} {x3 : Int32} {res : Int32 × Int32 × Int32 × (Nat → Int64)} (C : axC X l D Y cX12_treats 5 RX12 wsX12_treats rmX12_treats (some .int)) (hQ : axQ X 0 0 (fun r9 w9 => r9 = (some (.int res.1)) ∧ w9 = [oX12 ao res.2.1 res.2.2.1 io_cells io_children io_changes io_taped io_at io_to io_nest io_readMany io_codeLong io_readLong io_undos io_wentHome io_tideLevel io_acts io_firstBreaks io_bestCrew io_sights io_wayMany io_random, rJ Y (ao 1) 24 res.2.2.2, rI Y (ao 8) 43 co_now])) {k64 : Int32 × (Nat → Int64) × Int32 × Int32 → Option (Int32 × Int32 × Int32 × (Nat → Int64))} (hk64 : ∀ s : Int32 × (Nat → Int64) × Int32 × Int32, k64 s = some res → ax X 0 0 64 [some (.ref (ao 0)), some (.int x1), some (.int s.2.2.1), some (.int s.2.2.2), none] [oX12 ao io_thrown s.1 io_cells io_children io_changes io_taped io_at io_to io_nest io_readMany io_codeLong io_readLong io_undos io_wentHome io_tideLevel io_acts io_firstBreaks io_bestCrew io_sights io_wayMany io_random, rJ Y (ao 1) 24 s.2.1, rI Y (ao 8) 43 co_now] []) (hf : fX12_treats_l64 io_thrown io_children co_now x1 k64 io_rows co_row x2 x3 = some res) : ax X 0 0 64 [some (.ref (ao 0)), some (.int x1), some (.int x2), some (.int x3), none] [oX12 ao io_thrown io_rows io_cells io_children io_changes io_taped io_at io_to io_nest io_readMany io_codeLong io_readLong io_undos io_wentHome io_tideLevel io_acts io_firstBreaks io_bestCrew io_sights io_wayMany io_random, rJ Y (ao 1) 24 co_row, rI Y (ao 8) 43 co_now] [] := by
  unfold fX12_treats_l64 at hf
  refine a_iload_n C dX12_treats_64 rfl ?_
  refine a_aload_n C dX12_treats_65 rfl ?_
  refine a_get C eX12_treats_126 dX12_treats_66 0 rfl rfl ?_
  refine a_icmp_ge C 132 dX12_treats_69 (by decide) (fun h6 => ?_) (fun h6 => ?_)
  · have hf := fx_t h6 hf
    refine a_kill [0, 1, 3] ?_
    exact kX12_treats_b132 C hQ hf
  · have hf := fx_f h6 hf
    refine a_iconst C (0 : Int32) dX12_treats_72 (by decide) ?_
    refine a_istore C dX12_treats_73 (by decide) rfl ?_
    exact kX12_treats_b75 C hQ hk64 hf
set_option maxHeartbeats 4000000 in
set_option maxRecDepth 100000 in
theorem kX12_treats_b64 {X : cxT} {l : Launch} {D : va_G} {Y : Nat → ClassId} {ao : Nat → Nat} {io_thrown : Int32} {io_rows : Int32} {io_cells : Int32} {io_children : Int32} {io_changes : Int32} {io_taped : Int32} {io_at : Int32} {io_to : Int32} {io_nest : Int32} {io_readMany : Int32} {io_codeLong : Int32} {io_readLong : Int32} {io_undos : Int32} {io_wentHome : Int32} {io_tideLevel : Int32} {io_acts : Int32} {io_firstBreaks : Int32} {io_bestCrew : Int32} {io_sights : Int32} {io_wayMany : Int32} {io_random : Int32} {co_row : Nat → Int64} {co_now : Nat → Int32} {x1 : Int32} {x2 : Int32} {x3 : Int32} {res : Int32 × Int32 × Int32 × (Nat → Int64)} (C : axC X l D Y cX12_treats 5 RX12 wsX12_treats rmX12_treats (some .int)) (hQ : axQ X 0 0 (fun r9 w9 => r9 = (some (.int res.1)) ∧ w9 = [oX12 ao res.2.1 res.2.2.1 io_cells io_children io_changes io_taped io_at io_to io_nest io_readMany io_codeLong io_readLong io_undos io_wentHome io_tideLevel io_acts io_firstBreaks io_bestCrew io_sights io_wayMany io_random, rJ Y (ao 1) 24 res.2.2.2, rI Y (ao 8) 43 co_now])) (hf : fX12_treats_b64 io_thrown io_rows io_children co_row co_now x1 x2 x3 = some res) : ax X 0 0 64 [some (.ref (ao 0)), some (.int x1), some (.int x2), some (.int x3), none] [oX12 ao io_thrown io_rows io_cells io_children io_changes io_taped io_at io_to io_nest io_readMany io_codeLong io_readLong io_undos io_wentHome io_tideLevel io_acts io_firstBreaks io_bestCrew io_sights io_wayMany io_random, rJ Y (ao 1) 24 co_row, rI Y (ao 8) 43 co_now] [] := by
  unfold fX12_treats_b64 at hf
  exact fx_loop (P := fun s : Int32 × (Nat → Int64) × Int32 × Int32 => ax X 0 0 64 [some (.ref (ao 0)), some (.int x1), some (.int s.2.2.1), some (.int s.2.2.2), none] [oX12 ao io_thrown s.1 io_cells io_children io_changes io_taped io_at io_to io_nest io_readMany io_codeLong io_readLong io_undos io_wentHome io_tideLevel io_acts io_firstBreaks io_bestCrew io_sights io_wayMany io_random, rJ Y (ao 1) 24 s.2.1, rI Y (ao 8) 43 co_now] []) (fun s k64 hk64 h => kX12_treats_l64 C hQ hk64 h) FUEL (io_rows, co_row, x2, x3) hf
def fX12_treats_b57 (io_thrown : Int32) (io_rows : Int32) (io_children : Int32) (co_row : Nat → Int64) (co_now : Nat → Int32) (x1 : Int32) (x2 : Int32) : Option (Int32 × Int32 × Int32 × (Nat → Int64)) :=
  fX12_treats_b64 io_thrown (0 : Int32) io_children co_row co_now x1 x2 (0 : Int32)
set_option maxHeartbeats 4000000 in
set_option maxRecDepth 100000 in
theorem kX12_treats_b57 {X : cxT} {l : Launch} {D : va_G} {Y : Nat → ClassId} {ao : Nat → Nat} {io_thrown : Int32} {io_rows : Int32} {io_cells : Int32} {io_children : Int32} {io_changes : Int32} {io_taped : Int32} {io_at : Int32} {io_to : Int32} {io_nest : Int32} {io_readMany : Int32} {io_codeLong : Int32} {io_readLong : Int32} {io_undos : Int32} {io_wentHome : Int32} {io_tideLevel : Int32} {io_acts : Int32} {io_firstBreaks : Int32} {io_bestCrew : Int32} {io_sights : Int32} {io_wayMany : Int32} {io_random : Int32} {co_row : Nat → Int64} {co_now : Nat → Int32} {x1 : Int32} {x2 : Int32} {res : Int32 × Int32 × Int32 × (Nat → Int64)} (C : axC X l D Y cX12_treats 5 RX12 wsX12_treats rmX12_treats (some .int)) (hQ : axQ X 0 0 (fun r9 w9 => r9 = (some (.int res.1)) ∧ w9 = [oX12 ao res.2.1 res.2.2.1 io_cells io_children io_changes io_taped io_at io_to io_nest io_readMany io_codeLong io_readLong io_undos io_wentHome io_tideLevel io_acts io_firstBreaks io_bestCrew io_sights io_wayMany io_random, rJ Y (ao 1) 24 res.2.2.2, rI Y (ao 8) 43 co_now])) (hf : fX12_treats_b57 io_thrown io_rows io_children co_row co_now x1 x2 = some res) : ax X 0 0 57 [some (.ref (ao 0)), some (.int x1), some (.int x2), none, none] [oX12 ao io_thrown io_rows io_cells io_children io_changes io_taped io_at io_to io_nest io_readMany io_codeLong io_readLong io_undos io_wentHome io_tideLevel io_acts io_firstBreaks io_bestCrew io_sights io_wayMany io_random, rJ Y (ao 1) 24 co_row, rI Y (ao 8) 43 co_now] [] := by
  unfold fX12_treats_b57 at hf
  refine a_aload_n C dX12_treats_57 rfl ?_
  refine a_iconst C (0 : Int32) dX12_treats_58 (by decide) ?_
  refine a_put C eX12_treats_119 tfX12_1 dX12_treats_59 0 rfl rfl rfl (Nat.le_of_ble_eq_true rfl) ?_
  refine a_iconst C (0 : Int32) dX12_treats_62 (by decide) ?_
  refine a_istore_n C dX12_treats_63 (by decide) rfl ?_
  exact kX12_treats_b64 C hQ hf
def fX12_treats_b51 (io_thrown : Int32) (io_rows : Int32) (io_children : Int32) (co_row : Nat → Int64) (co_now : Nat → Int32) (x1 : Int32) (x2 : Int32) (x3 : Int32) (k23 : Int32 → Option (Int32 × Int32 × Int32 × (Nat → Int64))) : Option (Int32 × Int32 × Int32 × (Nat → Int64)) :=
  k23 (x3 + (1 : Int32))
set_option maxHeartbeats 4000000 in
set_option maxRecDepth 100000 in
theorem kX12_treats_b51 {X : cxT} {l : Launch} {D : va_G} {Y : Nat → ClassId} {ao : Nat → Nat} {io_thrown : Int32} {io_rows : Int32} {io_cells : Int32} {io_children : Int32} {io_changes : Int32} {io_taped : Int32} {io_at : Int32} {io_to : Int32} {io_nest : Int32} {io_readMany : Int32} {io_codeLong : Int32} {io_readLong : Int32} {io_undos : Int32} {io_wentHome : Int32} {io_tideLevel : Int32} {io_acts : Int32} {io_firstBreaks : Int32} {io_bestCrew : Int32} {io_sights : Int32} {io_wayMany : Int32} {io_random : Int32} {co_row : Nat → Int64} {co_now : Nat → Int32} {x1 : Int32} {x2 : Int32} {x3 : Int32} {res : Int32 × Int32 × Int32 × (Nat → Int64)} (C : axC X l D Y cX12_treats 5 RX12 wsX12_treats rmX12_treats (some .int)) (hQ : axQ X 0 0 (fun r9 w9 => r9 = (some (.int res.1)) ∧ w9 = [oX12 ao res.2.1 res.2.2.1 io_cells io_children io_changes io_taped io_at io_to io_nest io_readMany io_codeLong io_readLong io_undos io_wentHome io_tideLevel io_acts io_firstBreaks io_bestCrew io_sights io_wayMany io_random, rJ Y (ao 1) 24 res.2.2.2, rI Y (ao 8) 43 co_now])) {k23 : Int32 → Option (Int32 × Int32 × Int32 × (Nat → Int64))} (hk23 : ∀ s : Int32, k23 s = some res → ax X 0 0 23 [some (.ref (ao 0)), some (.int x1), some (.int x2), some (.int s), none] [oX12 ao io_thrown io_rows io_cells io_children io_changes io_taped io_at io_to io_nest io_readMany io_codeLong io_readLong io_undos io_wentHome io_tideLevel io_acts io_firstBreaks io_bestCrew io_sights io_wayMany io_random, rJ Y (ao 1) 24 co_row, rI Y (ao 8) 43 co_now] []) (hf : fX12_treats_b51 io_thrown io_rows io_children co_row co_now x1 x2 x3 k23 = some res) : ax X 0 0 51 [some (.ref (ao 0)), some (.int x1), some (.int x2), some (.int x3), none] [oX12 ao io_thrown io_rows io_cells io_children io_changes io_taped io_at io_to io_nest io_readMany io_codeLong io_readLong io_undos io_wentHome io_tideLevel io_acts io_firstBreaks io_bestCrew io_sights io_wayMany io_random, rJ Y (ao 1) 24 co_row, rI Y (ao 8) 43 co_now] [] := by
  unfold fX12_treats_b51 at hf
  refine a_iinc C (1 : Int32) dX12_treats_51 (by decide) rfl (by decide) rfl ?_
  refine a_goto C 23 dX12_treats_54 (by decide) ?_
  exact hk23 (x3 + (1 : Int32)) hf
def fX12_treats_b48 (io_thrown : Int32) (io_rows : Int32) (io_children : Int32) (co_row : Nat → Int64) (co_now : Nat → Int32) : Option (Int32 × Int32 × Int32 × (Nat → Int64)) :=
  some ((-2 : Int32), io_thrown, io_rows, co_row)
set_option maxHeartbeats 4000000 in
set_option maxRecDepth 100000 in
theorem kX12_treats_b48 {X : cxT} {l : Launch} {D : va_G} {Y : Nat → ClassId} {ao : Nat → Nat} {io_thrown : Int32} {io_rows : Int32} {io_cells : Int32} {io_children : Int32} {io_changes : Int32} {io_taped : Int32} {io_at : Int32} {io_to : Int32} {io_nest : Int32} {io_readMany : Int32} {io_codeLong : Int32} {io_readLong : Int32} {io_undos : Int32} {io_wentHome : Int32} {io_tideLevel : Int32} {io_acts : Int32} {io_firstBreaks : Int32} {io_bestCrew : Int32} {io_sights : Int32} {io_wayMany : Int32} {io_random : Int32} {co_row : Nat → Int64} {co_now : Nat → Int32} {res : Int32 × Int32 × Int32 × (Nat → Int64)} (C : axC X l D Y cX12_treats 5 RX12 wsX12_treats rmX12_treats (some .int)) (hQ : axQ X 0 0 (fun r9 w9 => r9 = (some (.int res.1)) ∧ w9 = [oX12 ao res.2.1 res.2.2.1 io_cells io_children io_changes io_taped io_at io_to io_nest io_readMany io_codeLong io_readLong io_undos io_wentHome io_tideLevel io_acts io_firstBreaks io_bestCrew io_sights io_wayMany io_random, rJ Y (ao 1) 24 res.2.2.2, rI Y (ao 8) 43 co_now])) (hf : fX12_treats_b48 io_thrown io_rows io_children co_row co_now = some res) : ax X 0 0 48 [none, none, none, none, none] [oX12 ao io_thrown io_rows io_cells io_children io_changes io_taped io_at io_to io_nest io_readMany io_codeLong io_readLong io_undos io_wentHome io_tideLevel io_acts io_firstBreaks io_bestCrew io_sights io_wayMany io_random, rJ Y (ao 1) 24 co_row, rI Y (ao 8) 43 co_now] [] := by
  unfold fX12_treats_b48 at hf
  refine a_bipush C (-2 : Int32) dX12_treats_48 (by decide) ?_
  obtain rfl := fx_some hf
  exact a_iret C hQ dX12_treats_50 ⟨rfl, rfl⟩
def fX12_treats_l23 (io_thrown : Int32) (io_rows : Int32) (io_children : Int32) (co_row : Nat → Int64) (co_now : Nat → Int32) (x1 : Int32) (x2 : Int32) (k23 : Int32 → Option (Int32 × Int32 × Int32 × (Nat → Int64))) (x3 : Int32) : Option (Int32 × Int32 × Int32 × (Nat → Int64)) :=
  if io_children ≤ x3 then (fX12_treats_b57 io_thrown io_rows io_children co_row co_now x1 x2) else ((fX12_atOf co_now x3).bind (fun r8 => if r8 < (0 : Int32) then (fX12_treats_b51 io_thrown io_rows io_children co_row co_now x1 x2 x3 k23) else (if x1 = (9 : Int32) then (fX12_treats_b48 io_thrown io_rows io_children co_row co_now) else (fX12_treats_b51 io_thrown io_rows io_children co_row co_now x1 x2 x3 k23))))
def fX12_treats_b23 (io_thrown : Int32) (io_rows : Int32) (io_children : Int32) (co_row : Nat → Int64) (co_now : Nat → Int32) (x1 : Int32) (x2 : Int32) (x3 : Int32) : Option (Int32 × Int32 × Int32 × (Nat → Int64)) :=
  loopN (fun (s : Int32) k23 => fX12_treats_l23 io_thrown io_rows io_children co_row co_now x1 x2 k23 s) FUEL x3
set_option maxHeartbeats 4000000 in
set_option maxRecDepth 100000 in
theorem kX12_treats_l23 {X : cxT} {l : Launch} {D : va_G} {Y : Nat → ClassId} {ao : Nat → Nat} {io_thrown : Int32} {io_rows : Int32} {io_cells : Int32} {io_children : Int32} {io_changes : Int32} {io_taped : Int32} {io_at : Int32} {io_to : Int32} {io_nest : Int32} {io_readMany : Int32} {io_codeLong : Int32} {io_readLong : Int32} {io_undos : Int32} {io_wentHome : Int32} {io_tideLevel : Int32} {io_acts : Int32} {io_firstBreaks : Int32} {io_bestCrew : Int32} {io_sights : Int32} {io_wayMany : Int32} {io_random : Int32} {co_row : Nat → Int64} {co_now : Nat → Int32} {x1 : Int32} {x2 : Int32} {x3 : Int32} {res : Int32 × Int32 × Int32 × (Nat → Int64)} (C : axC X l D Y cX12_treats 5 RX12 wsX12_treats rmX12_treats (some .int)) (hQ : axQ X 0 0 (fun r9 w9 => r9 = (some (.int res.1)) ∧ w9 = [oX12 ao res.2.1 res.2.2.1 io_cells io_children io_changes io_taped io_at io_to io_nest io_readMany io_codeLong io_readLong io_undos io_wentHome io_tideLevel io_acts io_firstBreaks io_bestCrew io_sights io_wayMany io_random, rJ Y (ao 1) 24 res.2.2.2, rI Y (ao 8) 43 co_now])) {k23 : Int32 → Option (Int32 × Int32 × Int32 × (Nat → Int64))} (hk23 : ∀ s : Int32, k23 s = some res → ax X 0 0 23 [some (.ref (ao 0)), some (.int x1), some (.int x2), some (.int s), none] [oX12 ao io_thrown io_rows io_cells io_children io_changes io_taped io_at io_to io_nest io_readMany io_codeLong io_readLong io_undos io_wentHome io_tideLevel io_acts io_firstBreaks io_bestCrew io_sights io_wayMany io_random, rJ Y (ao 1) 24 co_row, rI Y (ao 8) 43 co_now] []) (hf : fX12_treats_l23 io_thrown io_rows io_children co_row co_now x1 x2 k23 x3 = some res) : ax X 0 0 23 [some (.ref (ao 0)), some (.int x1), some (.int x2), some (.int x3), none] [oX12 ao io_thrown io_rows io_cells io_children io_changes io_taped io_at io_to io_nest io_readMany io_codeLong io_readLong io_undos io_wentHome io_tideLevel io_acts io_firstBreaks io_bestCrew io_sights io_wayMany io_random, rJ Y (ao 1) 24 co_row, rI Y (ao 8) 43 co_now] [] := by
  unfold fX12_treats_l23 at hf
  refine a_iload_n C dX12_treats_23 rfl ?_
  refine a_aload_n C dX12_treats_24 rfl ?_
  refine a_get C eX12_treats_126 dX12_treats_25 0 rfl rfl ?_
  refine a_icmp_ge C 57 dX12_treats_28 (by decide) (fun h7 => ?_) (fun h7 => ?_)
  · have hf := fx_t h7 hf
    refine a_kill [3] ?_
    exact kX12_treats_b57 C hQ hf
  · have hf := fx_f h7 hf
    refine a_aload_n C dX12_treats_31 rfl ?_
    refine a_get C eX12_treats_36 dX12_treats_32 0 rfl rfl ?_
    refine a_iload_n C dX12_treats_35 rfl ?_
    obtain ⟨r8, h8, hf⟩ := fx_bind hf
    refine a_fS C (kX12_atOf l D Y (ao 8) co_now x3 r8 h8) gX12_treats_X12_atOf rfl dvX12_atOf ⟨⟨rfl, rfl⟩, ⟨Nat.le_of_ble_eq_true rfl, Nat.le_of_ble_eq_true rfl⟩, ⟨Nat.le_of_ble_eq_true rfl, Nat.le_of_ble_eq_true rfl⟩⟩ rfl (Nat.le_of_ble_eq_true rfl) dX12_treats_36 [2] rfl rfl rfl (wn := [oX12 ao io_thrown io_rows io_cells io_children io_changes io_taped io_at io_to io_nest io_readMany io_codeLong io_readLong io_undos io_wentHome io_tideLevel io_acts io_firstBreaks io_bestCrew io_sights io_wayMany io_random, rJ Y (ao 1) 24 co_row, rI Y (ao 8) 43 co_now]) rfl ?_
    refine a_if_lt C 51 dX12_treats_39 (by decide) (fun h9 => ?_) (fun h9 => ?_)
    · have hf := fx_t h9 hf
      exact kX12_treats_b51 C hQ hk23 hf
    · have hf := fx_f h9 hf
      refine a_iload_n C dX12_treats_42 rfl ?_
      refine a_bipush C (9 : Int32) dX12_treats_43 (by decide) ?_
      refine a_icmp_ne C 51 dX12_treats_45 (by decide) (fun h10 => ?_) (fun h10 => ?_)
      · have hf := fx_f h10 hf
        exact kX12_treats_b51 C hQ hk23 hf
      · have hf := fx_t h10 hf
        refine a_kill [0, 1, 2, 3] ?_
        exact kX12_treats_b48 C hQ hf
set_option maxHeartbeats 4000000 in
set_option maxRecDepth 100000 in
theorem kX12_treats_b23 {X : cxT} {l : Launch} {D : va_G} {Y : Nat → ClassId} {ao : Nat → Nat} {io_thrown : Int32} {io_rows : Int32} {io_cells : Int32} {io_children : Int32} {io_changes : Int32} {io_taped : Int32} {io_at : Int32} {io_to : Int32} {io_nest : Int32} {io_readMany : Int32} {io_codeLong : Int32} {io_readLong : Int32} {io_undos : Int32} {io_wentHome : Int32} {io_tideLevel : Int32} {io_acts : Int32} {io_firstBreaks : Int32} {io_bestCrew : Int32} {io_sights : Int32} {io_wayMany : Int32} {io_random : Int32} {co_row : Nat → Int64} {co_now : Nat → Int32} {x1 : Int32} {x2 : Int32} {x3 : Int32} {res : Int32 × Int32 × Int32 × (Nat → Int64)} (C : axC X l D Y cX12_treats 5 RX12 wsX12_treats rmX12_treats (some .int)) (hQ : axQ X 0 0 (fun r9 w9 => r9 = (some (.int res.1)) ∧ w9 = [oX12 ao res.2.1 res.2.2.1 io_cells io_children io_changes io_taped io_at io_to io_nest io_readMany io_codeLong io_readLong io_undos io_wentHome io_tideLevel io_acts io_firstBreaks io_bestCrew io_sights io_wayMany io_random, rJ Y (ao 1) 24 res.2.2.2, rI Y (ao 8) 43 co_now])) (hf : fX12_treats_b23 io_thrown io_rows io_children co_row co_now x1 x2 x3 = some res) : ax X 0 0 23 [some (.ref (ao 0)), some (.int x1), some (.int x2), some (.int x3), none] [oX12 ao io_thrown io_rows io_cells io_children io_changes io_taped io_at io_to io_nest io_readMany io_codeLong io_readLong io_undos io_wentHome io_tideLevel io_acts io_firstBreaks io_bestCrew io_sights io_wayMany io_random, rJ Y (ao 1) 24 co_row, rI Y (ao 8) 43 co_now] [] := by
  unfold fX12_treats_b23 at hf
  exact fx_loop (P := fun s : Int32 => ax X 0 0 23 [some (.ref (ao 0)), some (.int x1), some (.int x2), some (.int s), none] [oX12 ao io_thrown io_rows io_cells io_children io_changes io_taped io_at io_to io_nest io_readMany io_codeLong io_readLong io_undos io_wentHome io_tideLevel io_acts io_firstBreaks io_bestCrew io_sights io_wayMany io_random, rJ Y (ao 1) 24 co_row, rI Y (ao 8) 43 co_now] []) (fun s k23 hk23 h => kX12_treats_l23 C hQ hk23 h) FUEL x3 hf
def fX12_treats (io_thrown : Int32) (io_rows : Int32) (io_children : Int32) (co_row : Nat → Int64) (co_now : Nat → Int32) (x1 : Int32) : Option (Int32 × Int32 × Int32 × (Nat → Int64)) :=
  (fX12_in (x1.toInt64) (1 : Int64) (9 : Int64)).bind (fun r11 => if r11 = (0 : Int32) then (some ((-1 : Int32), (0 : Int32), io_rows, co_row)) else (fX12_treats_b23 (0 : Int32) io_rows io_children co_row co_now x1 (0 : Int32) (0 : Int32)))
set_option maxHeartbeats 4000000 in
set_option maxRecDepth 100000 in
theorem kX12_treats (l : Launch) (D : va_G) (Y : Nat → ClassId) (ao : Nat → Nat) (io_thrown : Int32) (io_rows : Int32) (io_cells : Int32) (io_children : Int32) (io_changes : Int32) (io_taped : Int32) (io_at : Int32) (io_to : Int32) (io_nest : Int32) (io_readMany : Int32) (io_codeLong : Int32) (io_readLong : Int32) (io_undos : Int32) (io_wentHome : Int32) (io_tideLevel : Int32) (io_acts : Int32) (io_firstBreaks : Int32) (io_bestCrew : Int32) (io_sights : Int32) (io_wayMany : Int32) (io_random : Int32) (co_row : Nat → Int64) (co_now : Nat → Int32) (x1 : Int32) (res : Int32 × Int32 × Int32 × (Nat → Int64)) (hf : fX12_treats io_thrown io_rows io_children co_row co_now x1 = some res) : amf l D Y yX12_treats wsX12_treats rmX12_treats [.ref (ao 0), .int x1] [oX12 ao io_thrown io_rows io_cells io_children io_changes io_taped io_at io_to io_nest io_readMany io_codeLong io_readLong io_undos io_wentHome io_tideLevel io_acts io_firstBreaks io_bestCrew io_sights io_wayMany io_random, rJ Y (ao 1) 24 co_row, rI Y (ao 8) 43 co_now] (some (.int res.1)) [oX12 ao res.2.1 res.2.2.1 io_cells io_children io_changes io_taped io_at io_to io_nest io_readMany io_codeLong io_readLong io_undos io_wentHome io_tideLevel io_acts io_firstBreaks io_bestCrew io_sights io_wayMany io_random, rJ Y (ao 1) 24 res.2.2.2, rI Y (ao 8) 43 co_now] := by
  refine amf.of (cc := cX12_treats) (maxL := 5) (rt := (some .int)) (by decide) rfl RX12 rfl (Nat.le_of_ble_eq_true rfl) [some (.ref (ao 0)), some (.int x1), none, none, none] rfl ?_
  intro X C hQ
  unfold fX12_treats at hf
  refine a_aload_n C dX12_treats_0 rfl ?_
  refine a_iconst C (0 : Int32) dX12_treats_1 (by decide) ?_
  refine a_put C eX12_treats_112 tfX12_0 dX12_treats_2 0 rfl rfl rfl (Nat.le_of_ble_eq_true rfl) ?_
  refine a_iload_n C dX12_treats_5 rfl ?_
  refine a_i2l C dX12_treats_6 ?_
  refine a_lconst C (1 : Int64) dX12_treats_7 (by decide) ?_
  refine a_ldc2 C (9 : Int64) dX12_treats_8 eX12_treats_k302 ?_
  obtain ⟨r11, h11, hf⟩ := fx_bind hf
  refine a_fS C (kX12_in l D Y (x1.toInt64) (1 : Int64) (9 : Int64) r11 h11) gX12_treats_X12_in rfl dvX12_in ⟨⟨rfl, rfl⟩, ⟨Nat.le_of_ble_eq_true rfl, Nat.le_of_ble_eq_true rfl⟩, ⟨Nat.le_of_ble_eq_true rfl, Nat.le_of_ble_eq_true rfl⟩⟩ rfl (Nat.le_of_ble_eq_true rfl) dX12_treats_11 [] rfl rfl rfl (wn := [oX12 ao (0 : Int32) io_rows io_cells io_children io_changes io_taped io_at io_to io_nest io_readMany io_codeLong io_readLong io_undos io_wentHome io_tideLevel io_acts io_firstBreaks io_bestCrew io_sights io_wayMany io_random, rJ Y (ao 1) 24 co_row, rI Y (ao 8) 43 co_now]) rfl ?_
  refine a_if_ne C 19 dX12_treats_14 (by decide) (fun h12 => ?_) (fun h12 => ?_)
  · have hf := fx_f h12 hf
    refine a_iconst C (0 : Int32) dX12_treats_19 (by decide) ?_
    refine a_istore_n C dX12_treats_20 (by decide) rfl ?_
    refine a_iconst C (0 : Int32) dX12_treats_21 (by decide) ?_
    refine a_istore_n C dX12_treats_22 (by decide) rfl ?_
    exact kX12_treats_b23 C hQ hf
  · have hf := fx_t h12 hf
    refine a_iconst C (-1 : Int32) dX12_treats_17 (by decide) ?_
    obtain rfl := fx_some hf
    exact a_iret C hQ dX12_treats_18 ⟨rfl, rfl⟩
-- X12_work
abbrev rmX12_work : Room := { frames := 6, cells := 0, slots := 0, locals := 137 }
theorem dvX12_work : yX12_work.cls = RX12 ∧ yX12_work.cls ≠ "java/lang/invoke/MethodHandle" ∧ yX12_work.cls ≠ "java/lang/invoke/VarHandle" ∧ (parseMethodDescriptor yX12_work.desc).map (fun d => d.parameters.length) = some 1 := by decide +kernel
theorem eX12_work_inX12 : ∀ w ∈ wsX120, w ∈ wsX12_work := by decide +kernel
theorem eX12_work_39 : aF wsX12_work RX12 39 12 13 := ⟨RX12, TX12, 53, rfl, eX12_work_inX12, by decide, by decide +kernel⟩
theorem eX12_work_36 : aF wsX12_work RX12 36 12 12 := ⟨RX12, TX12, 53, rfl, eX12_work_inX12, by decide, by decide +kernel⟩
theorem eX12_work_13 : aF wsX12_work RX12 13 12 3 := ⟨RX12, TX12, 53, rfl, eX12_work_inX12, by decide, by decide +kernel⟩
theorem eX12_work_112 : aF wsX12_work RX12 112 12 0 := ⟨RX12, TX12, 53, rfl, eX12_work_inX12, by decide, by decide +kernel⟩
theorem eX12_work_k350 : Cond.constantLong RX12 350 (30 : Int64) ∈ wsX12_work := by decide +kernel
theorem eX12_work_119 : aF wsX12_work RX12 119 12 1 := ⟨RX12, TX12, 53, rfl, eX12_work_inX12, by decide, by decide +kernel⟩
def fX12_work_b71 (io_thrown : Int32) (io_rows : Int32) (io_cells : Int32) (io_children : Int32) (io_wentHome : Int32) (co_row : Nat → Int64) (co_age : Nat → Int32) (co_skill : Nat → Int32) (co_friend : Nat → Int32) (co_now : Nat → Int32) (co_then : Nat → Int32) (co_gets : Nat → Int32) : Option (Int32 × Int32 × Int32 × Int32 × (Nat → Int64) × (Nat → Int32) × (Nat → Int32)) :=
  (fX12_wallAll io_cells co_then).bind (fun r1 => (fX12_wallAll io_cells co_now).bind (fun r2 => some ((r1 - r2), io_thrown, io_rows, io_wentHome, co_row, co_then, co_gets)))
set_option maxHeartbeats 4000000 in
set_option maxRecDepth 100000 in
theorem kX12_work_b71 {X : cxT} {l : Launch} {D : va_G} {Y : Nat → ClassId} {ao : Nat → Nat} {io_thrown : Int32} {io_rows : Int32} {io_cells : Int32} {io_children : Int32} {io_changes : Int32} {io_taped : Int32} {io_at : Int32} {io_to : Int32} {io_nest : Int32} {io_readMany : Int32} {io_codeLong : Int32} {io_readLong : Int32} {io_undos : Int32} {io_wentHome : Int32} {io_tideLevel : Int32} {io_acts : Int32} {io_firstBreaks : Int32} {io_bestCrew : Int32} {io_sights : Int32} {io_wayMany : Int32} {io_random : Int32} {co_row : Nat → Int64} {co_age : Nat → Int32} {co_skill : Nat → Int32} {co_friend : Nat → Int32} {co_now : Nat → Int32} {co_then : Nat → Int32} {co_gets : Nat → Int32} {res : Int32 × Int32 × Int32 × Int32 × (Nat → Int64) × (Nat → Int32) × (Nat → Int32)} (C : axC X l D Y cX12_work 3 RX12 wsX12_work rmX12_work (some .int)) (hQ : axQ X 0 0 (fun r9 w9 => r9 = (some (.int res.1)) ∧ w9 = [oX12 ao res.2.1 res.2.2.1 io_cells io_children io_changes io_taped io_at io_to io_nest io_readMany io_codeLong io_readLong io_undos res.2.2.2.1 io_tideLevel io_acts io_firstBreaks io_bestCrew io_sights io_wayMany io_random, rJ Y (ao 1) 24 res.2.2.2.2.1, rI Y (ao 4) 8 co_age, rI Y (ao 5) 8 co_skill, rI Y (ao 6) 8 co_friend, rI Y (ao 8) 43 co_now, rI Y (ao 9) 43 res.2.2.2.2.2.1, rI Y (ao 17) 12 res.2.2.2.2.2.2])) (hf : fX12_work_b71 io_thrown io_rows io_cells io_children io_wentHome co_row co_age co_skill co_friend co_now co_then co_gets = some res) : ax X 0 0 71 [some (.ref (ao 0)), none, none] [oX12 ao io_thrown io_rows io_cells io_children io_changes io_taped io_at io_to io_nest io_readMany io_codeLong io_readLong io_undos io_wentHome io_tideLevel io_acts io_firstBreaks io_bestCrew io_sights io_wayMany io_random, rJ Y (ao 1) 24 co_row, rI Y (ao 4) 8 co_age, rI Y (ao 5) 8 co_skill, rI Y (ao 6) 8 co_friend, rI Y (ao 8) 43 co_now, rI Y (ao 9) 43 co_then, rI Y (ao 17) 12 co_gets] [] := by
  unfold fX12_work_b71 at hf
  refine a_aload_n C dX12_work_71 rfl ?_
  refine a_aload_n C dX12_work_72 rfl ?_
  refine a_get C eX12_work_39 dX12_work_73 0 rfl rfl ?_
  obtain ⟨r1, h1, hf⟩ := fx_bind hf
  refine a_fV C (kX12_wallAll l D Y ao (ao 9) io_thrown io_rows io_cells io_children io_changes io_taped io_at io_to io_nest io_readMany io_codeLong io_readLong io_undos io_wentHome io_tideLevel io_acts io_firstBreaks io_bestCrew io_sights io_wayMany io_random co_then r1 h1) gX12_work_X12_wallAll rfl dvX12_wallAll ⟨⟨rfl, rfl⟩, ⟨Nat.le_of_ble_eq_true rfl, Nat.le_of_ble_eq_true rfl⟩, ⟨Nat.le_of_ble_eq_true rfl, Nat.le_of_ble_eq_true rfl⟩⟩ rfl (Nat.le_of_ble_eq_true rfl) dX12_work_76 rfl rfl [0, 6] rfl rfl rfl (wn := [oX12 ao io_thrown io_rows io_cells io_children io_changes io_taped io_at io_to io_nest io_readMany io_codeLong io_readLong io_undos io_wentHome io_tideLevel io_acts io_firstBreaks io_bestCrew io_sights io_wayMany io_random, rJ Y (ao 1) 24 co_row, rI Y (ao 4) 8 co_age, rI Y (ao 5) 8 co_skill, rI Y (ao 6) 8 co_friend, rI Y (ao 8) 43 co_now, rI Y (ao 9) 43 co_then, rI Y (ao 17) 12 co_gets]) rfl ?_
  refine a_aload_n C dX12_work_79 rfl ?_
  refine a_aload_n C dX12_work_80 rfl ?_
  refine a_get C eX12_work_36 dX12_work_81 0 rfl rfl ?_
  obtain ⟨r2, h2, hf⟩ := fx_bind hf
  refine a_fV C (kX12_wallAll l D Y ao (ao 8) io_thrown io_rows io_cells io_children io_changes io_taped io_at io_to io_nest io_readMany io_codeLong io_readLong io_undos io_wentHome io_tideLevel io_acts io_firstBreaks io_bestCrew io_sights io_wayMany io_random co_now r2 h2) gX12_work_X12_wallAll rfl dvX12_wallAll ⟨⟨rfl, rfl⟩, ⟨Nat.le_of_ble_eq_true rfl, Nat.le_of_ble_eq_true rfl⟩, ⟨Nat.le_of_ble_eq_true rfl, Nat.le_of_ble_eq_true rfl⟩⟩ rfl (Nat.le_of_ble_eq_true rfl) dX12_work_84 rfl rfl [0, 5] rfl rfl rfl (wn := [oX12 ao io_thrown io_rows io_cells io_children io_changes io_taped io_at io_to io_nest io_readMany io_codeLong io_readLong io_undos io_wentHome io_tideLevel io_acts io_firstBreaks io_bestCrew io_sights io_wayMany io_random, rJ Y (ao 1) 24 co_row, rI Y (ao 4) 8 co_age, rI Y (ao 5) 8 co_skill, rI Y (ao 6) 8 co_friend, rI Y (ao 8) 43 co_now, rI Y (ao 9) 43 co_then, rI Y (ao 17) 12 co_gets]) rfl ?_
  refine a_isub C dX12_work_87 ?_
  obtain rfl := fx_some hf
  exact a_iret C hQ dX12_work_88 ⟨rfl, rfl⟩
def fX12_work_l39 (io_thrown : Int32) (io_cells : Int32) (io_children : Int32) (io_wentHome : Int32) (co_age : Nat → Int32) (co_skill : Nat → Int32) (co_friend : Nat → Int32) (co_now : Nat → Int32) (co_then : Nat → Int32) (co_gets : Nat → Int32) (k39 : Int32 × (Nat → Int64) × Int32 → Option (Int32 × Int32 × Int32 × Int32 × (Nat → Int64) × (Nat → Int32) × (Nat → Int32))) (io_rows : Int32) (co_row : Nat → Int64) (x2 : Int32) : Option (Int32 × Int32 × Int32 × Int32 × (Nat → Int64) × (Nat → Int32) × (Nat → Int32)) :=
  if io_cells ≤ x2 then (fX12_work_b71 io_thrown io_rows io_cells io_children io_wentHome co_row co_age co_skill co_friend co_now co_then co_gets) else (if inb x2 43 then (fX12_enters io_rows co_row (((co_then (Int32.toNatClampNeg x2)) - (co_now (Int32.toNatClampNeg x2))).toInt64)).bind (fun r5 => k39 (r5.1, r5.2, (x2 + (1 : Int32)))) else none)
def fX12_work_b39 (io_thrown : Int32) (io_rows : Int32) (io_cells : Int32) (io_children : Int32) (io_wentHome : Int32) (co_row : Nat → Int64) (co_age : Nat → Int32) (co_skill : Nat → Int32) (co_friend : Nat → Int32) (co_now : Nat → Int32) (co_then : Nat → Int32) (co_gets : Nat → Int32) (x2 : Int32) : Option (Int32 × Int32 × Int32 × Int32 × (Nat → Int64) × (Nat → Int32) × (Nat → Int32)) :=
  loopN (fun (s : Int32 × (Nat → Int64) × Int32) k39 => fX12_work_l39 io_thrown io_cells io_children io_wentHome co_age co_skill co_friend co_now co_then co_gets k39 s.1 s.2.1 s.2.2) FUEL (io_rows, co_row, x2)
set_option maxHeartbeats 4000000 in
set_option maxRecDepth 100000 in
theorem kX12_work_l39 {X : cxT} {l : Launch} {D : va_G} {Y : Nat → ClassId} {ao : Nat → Nat} {io_thrown : Int32} {io_rows : Int32} {io_cells : Int32} {io_children : Int32} {io_changes : Int32} {io_taped : Int32} {io_at : Int32} {io_to : Int32} {io_nest : Int32} {io_readMany : Int32} {io_codeLong : Int32} {io_readLong : Int32} {io_undos : Int32} {io_wentHome : Int32} {io_tideLevel : Int32} {io_acts : Int32} {io_firstBreaks : Int32} {io_bestCrew : Int32} {io_sights : Int32} {io_wayMany : Int32} {io_random : Int32} {co_row : Nat → Int64} {co_age : Nat → Int32} {co_skill : Nat → Int32} {co_friend : Nat → Int32} {co_now : Nat → Int32} {co_then : Nat → Int32} {co_gets : Nat → Int32} {x2 : Int32} {res : Int32 × Int32 × Int32 × Int32 × (Nat → Int64) × (Nat → Int32) × (Nat → Int32)} (C : axC X l D Y cX12_work 3 RX12 wsX12_work rmX12_work (some .int)) (hQ : axQ X 0 0 (fun r9 w9 => r9 = (some (.int res.1)) ∧ w9 = [oX12 ao res.2.1 res.2.2.1 io_cells io_children io_changes io_taped io_at io_to io_nest io_readMany io_codeLong io_readLong io_undos res.2.2.2.1 io_tideLevel io_acts io_firstBreaks io_bestCrew io_sights io_wayMany io_random, rJ Y (ao 1) 24 res.2.2.2.2.1, rI Y (ao 4) 8 co_age, rI Y (ao 5) 8 co_skill, rI Y (ao 6) 8 co_friend, rI Y (ao 8) 43 co_now, rI Y (ao 9) 43 res.2.2.2.2.2.1, rI Y (ao 17) 12 res.2.2.2.2.2.2])) {k39 : Int32 × (Nat → Int64) × Int32 → Option (Int32 × Int32 × Int32 × Int32 × (Nat → Int64) × (Nat → Int32) × (Nat → Int32))} (hk39 : ∀ s : Int32 × (Nat → Int64) × Int32, k39 s = some res → ax X 0 0 39 [some (.ref (ao 0)), none, some (.int s.2.2)] [oX12 ao io_thrown s.1 io_cells io_children io_changes io_taped io_at io_to io_nest io_readMany io_codeLong io_readLong io_undos io_wentHome io_tideLevel io_acts io_firstBreaks io_bestCrew io_sights io_wayMany io_random, rJ Y (ao 1) 24 s.2.1, rI Y (ao 4) 8 co_age, rI Y (ao 5) 8 co_skill, rI Y (ao 6) 8 co_friend, rI Y (ao 8) 43 co_now, rI Y (ao 9) 43 co_then, rI Y (ao 17) 12 co_gets] []) (hf : fX12_work_l39 io_thrown io_cells io_children io_wentHome co_age co_skill co_friend co_now co_then co_gets k39 io_rows co_row x2 = some res) : ax X 0 0 39 [some (.ref (ao 0)), none, some (.int x2)] [oX12 ao io_thrown io_rows io_cells io_children io_changes io_taped io_at io_to io_nest io_readMany io_codeLong io_readLong io_undos io_wentHome io_tideLevel io_acts io_firstBreaks io_bestCrew io_sights io_wayMany io_random, rJ Y (ao 1) 24 co_row, rI Y (ao 4) 8 co_age, rI Y (ao 5) 8 co_skill, rI Y (ao 6) 8 co_friend, rI Y (ao 8) 43 co_now, rI Y (ao 9) 43 co_then, rI Y (ao 17) 12 co_gets] [] := by
  unfold fX12_work_l39 at hf
  refine a_iload_n C dX12_work_39 rfl ?_
  refine a_aload_n C dX12_work_40 rfl ?_
  refine a_get C eX12_work_13 dX12_work_41 0 rfl rfl ?_
  refine a_icmp_ge C 71 dX12_work_44 (by decide) (fun h3 => ?_) (fun h3 => ?_)
  · have hf := fx_t h3 hf
    refine a_kill [2] ?_
    exact kX12_work_b71 C hQ hf
  · have hf := fx_f h3 hf
    refine a_aload_n C dX12_work_47 rfl ?_
    refine a_aload_n C dX12_work_48 rfl ?_
    refine a_get C eX12_work_39 dX12_work_49 0 rfl rfl ?_
    refine a_iload_n C dX12_work_52 rfl ?_
    obtain ⟨h4, hf⟩ := fx_ite hf
    refine a_iald C dX12_work_53 6 rfl h4 ?_
    refine a_aload_n C dX12_work_54 rfl ?_
    refine a_get C eX12_work_36 dX12_work_55 0 rfl rfl ?_
    refine a_iload_n C dX12_work_58 rfl ?_
    refine a_iald C dX12_work_59 5 rfl h4 ?_
    refine a_isub C dX12_work_60 ?_
    refine a_i2l C dX12_work_61 ?_
    obtain ⟨r5, h5, hf⟩ := fx_bind hf
    refine a_fV C (kX12_enters l D Y ao io_thrown io_rows io_cells io_children io_changes io_taped io_at io_to io_nest io_readMany io_codeLong io_readLong io_undos io_wentHome io_tideLevel io_acts io_firstBreaks io_bestCrew io_sights io_wayMany io_random co_row (((co_then (Int32.toNatClampNeg x2)) - (co_now (Int32.toNatClampNeg x2))).toInt64) r5 h5) gX12_work_X12_enters rfl dvX12_enters ⟨⟨rfl, rfl⟩, ⟨Nat.le_of_ble_eq_true rfl, Nat.le_of_ble_eq_true rfl⟩, ⟨Nat.le_of_ble_eq_true rfl, Nat.le_of_ble_eq_true rfl⟩⟩ rfl (Nat.le_of_ble_eq_true rfl) dX12_work_62 rfl rfl [0, 1] rfl rfl rfl (wn := [oX12 ao io_thrown r5.1 io_cells io_children io_changes io_taped io_at io_to io_nest io_readMany io_codeLong io_readLong io_undos io_wentHome io_tideLevel io_acts io_firstBreaks io_bestCrew io_sights io_wayMany io_random, rJ Y (ao 1) 24 r5.2, rI Y (ao 4) 8 co_age, rI Y (ao 5) 8 co_skill, rI Y (ao 6) 8 co_friend, rI Y (ao 8) 43 co_now, rI Y (ao 9) 43 co_then, rI Y (ao 17) 12 co_gets]) rfl ?_
    refine a_iinc C (1 : Int32) dX12_work_65 (by decide) rfl (by decide) rfl ?_
    refine a_goto C 39 dX12_work_68 (by decide) ?_
    exact hk39 (r5.1, r5.2, (x2 + (1 : Int32))) hf
set_option maxHeartbeats 4000000 in
set_option maxRecDepth 100000 in
theorem kX12_work_b39 {X : cxT} {l : Launch} {D : va_G} {Y : Nat → ClassId} {ao : Nat → Nat} {io_thrown : Int32} {io_rows : Int32} {io_cells : Int32} {io_children : Int32} {io_changes : Int32} {io_taped : Int32} {io_at : Int32} {io_to : Int32} {io_nest : Int32} {io_readMany : Int32} {io_codeLong : Int32} {io_readLong : Int32} {io_undos : Int32} {io_wentHome : Int32} {io_tideLevel : Int32} {io_acts : Int32} {io_firstBreaks : Int32} {io_bestCrew : Int32} {io_sights : Int32} {io_wayMany : Int32} {io_random : Int32} {co_row : Nat → Int64} {co_age : Nat → Int32} {co_skill : Nat → Int32} {co_friend : Nat → Int32} {co_now : Nat → Int32} {co_then : Nat → Int32} {co_gets : Nat → Int32} {x2 : Int32} {res : Int32 × Int32 × Int32 × Int32 × (Nat → Int64) × (Nat → Int32) × (Nat → Int32)} (C : axC X l D Y cX12_work 3 RX12 wsX12_work rmX12_work (some .int)) (hQ : axQ X 0 0 (fun r9 w9 => r9 = (some (.int res.1)) ∧ w9 = [oX12 ao res.2.1 res.2.2.1 io_cells io_children io_changes io_taped io_at io_to io_nest io_readMany io_codeLong io_readLong io_undos res.2.2.2.1 io_tideLevel io_acts io_firstBreaks io_bestCrew io_sights io_wayMany io_random, rJ Y (ao 1) 24 res.2.2.2.2.1, rI Y (ao 4) 8 co_age, rI Y (ao 5) 8 co_skill, rI Y (ao 6) 8 co_friend, rI Y (ao 8) 43 co_now, rI Y (ao 9) 43 res.2.2.2.2.2.1, rI Y (ao 17) 12 res.2.2.2.2.2.2])) (hf : fX12_work_b39 io_thrown io_rows io_cells io_children io_wentHome co_row co_age co_skill co_friend co_now co_then co_gets x2 = some res) : ax X 0 0 39 [some (.ref (ao 0)), none, some (.int x2)] [oX12 ao io_thrown io_rows io_cells io_children io_changes io_taped io_at io_to io_nest io_readMany io_codeLong io_readLong io_undos io_wentHome io_tideLevel io_acts io_firstBreaks io_bestCrew io_sights io_wayMany io_random, rJ Y (ao 1) 24 co_row, rI Y (ao 4) 8 co_age, rI Y (ao 5) 8 co_skill, rI Y (ao 6) 8 co_friend, rI Y (ao 8) 43 co_now, rI Y (ao 9) 43 co_then, rI Y (ao 17) 12 co_gets] [] := by
  unfold fX12_work_b39 at hf
  exact fx_loop (P := fun s : Int32 × (Nat → Int64) × Int32 => ax X 0 0 39 [some (.ref (ao 0)), none, some (.int s.2.2)] [oX12 ao io_thrown s.1 io_cells io_children io_changes io_taped io_at io_to io_nest io_readMany io_codeLong io_readLong io_undos io_wentHome io_tideLevel io_acts io_firstBreaks io_bestCrew io_sights io_wayMany io_random, rJ Y (ao 1) 24 s.2.1, rI Y (ao 4) 8 co_age, rI Y (ao 5) 8 co_skill, rI Y (ao 6) 8 co_friend, rI Y (ao 8) 43 co_now, rI Y (ao 9) 43 co_then, rI Y (ao 17) 12 co_gets] []) (fun s k39 hk39 h => kX12_work_l39 C hQ hk39 h) FUEL (io_rows, co_row, x2) hf
def fX12_work (io_thrown : Int32) (io_rows : Int32) (io_cells : Int32) (io_children : Int32) (io_wentHome : Int32) (co_row : Nat → Int64) (co_age : Nat → Int32) (co_skill : Nat → Int32) (co_friend : Nat → Int32) (co_now : Nat → Int32) (co_then : Nat → Int32) (co_gets : Nat → Int32) (x1 : Int32) : Option (Int32 × Int32 × Int32 × Int32 × (Nat → Int64) × (Nat → Int32) × (Nat → Int32)) :=
  (fX12_in (x1.toInt64) (0 : Int64) (30 : Int64)).bind (fun r6 => if r6 = (0 : Int32) then (some ((-1 : Int32), (0 : Int32), io_rows, io_wentHome, co_row, co_then, co_gets)) else ((fX12_puts co_now co_then).bind (fun r8 => (fX12_builds io_cells io_children io_wentHome co_age co_skill co_friend co_gets r8 x1).bind (fun r9 => fX12_work_b39 (0 : Int32) (0 : Int32) io_cells io_children r9.1 co_row co_age co_skill co_friend co_now r9.2.2 r9.2.1 (0 : Int32)))))
set_option maxHeartbeats 4000000 in
set_option maxRecDepth 100000 in
theorem kX12_work (l : Launch) (D : va_G) (Y : Nat → ClassId) (ao : Nat → Nat) (io_thrown : Int32) (io_rows : Int32) (io_cells : Int32) (io_children : Int32) (io_changes : Int32) (io_taped : Int32) (io_at : Int32) (io_to : Int32) (io_nest : Int32) (io_readMany : Int32) (io_codeLong : Int32) (io_readLong : Int32) (io_undos : Int32) (io_wentHome : Int32) (io_tideLevel : Int32) (io_acts : Int32) (io_firstBreaks : Int32) (io_bestCrew : Int32) (io_sights : Int32) (io_wayMany : Int32) (io_random : Int32) (co_row : Nat → Int64) (co_age : Nat → Int32) (co_skill : Nat → Int32) (co_friend : Nat → Int32) (co_now : Nat → Int32) (co_then : Nat → Int32) (co_gets : Nat → Int32) (x1 : Int32) (res : Int32 × Int32 × Int32 × Int32 × (Nat → Int64) × (Nat → Int32) × (Nat → Int32)) (hf : fX12_work io_thrown io_rows io_cells io_children io_wentHome co_row co_age co_skill co_friend co_now co_then co_gets x1 = some res) : amf l D Y yX12_work wsX12_work rmX12_work [.ref (ao 0), .int x1] [oX12 ao io_thrown io_rows io_cells io_children io_changes io_taped io_at io_to io_nest io_readMany io_codeLong io_readLong io_undos io_wentHome io_tideLevel io_acts io_firstBreaks io_bestCrew io_sights io_wayMany io_random, rJ Y (ao 1) 24 co_row, rI Y (ao 4) 8 co_age, rI Y (ao 5) 8 co_skill, rI Y (ao 6) 8 co_friend, rI Y (ao 8) 43 co_now, rI Y (ao 9) 43 co_then, rI Y (ao 17) 12 co_gets] (some (.int res.1)) [oX12 ao res.2.1 res.2.2.1 io_cells io_children io_changes io_taped io_at io_to io_nest io_readMany io_codeLong io_readLong io_undos res.2.2.2.1 io_tideLevel io_acts io_firstBreaks io_bestCrew io_sights io_wayMany io_random, rJ Y (ao 1) 24 res.2.2.2.2.1, rI Y (ao 4) 8 co_age, rI Y (ao 5) 8 co_skill, rI Y (ao 6) 8 co_friend, rI Y (ao 8) 43 co_now, rI Y (ao 9) 43 res.2.2.2.2.2.1, rI Y (ao 17) 12 res.2.2.2.2.2.2] := by
  refine amf.of (cc := cX12_work) (maxL := 3) (rt := (some .int)) (by decide) rfl RX12 rfl (Nat.le_of_ble_eq_true rfl) [some (.ref (ao 0)), some (.int x1), none] rfl ?_
  intro X C hQ
  unfold fX12_work at hf
  refine a_aload_n C dX12_work_0 rfl ?_
  refine a_iconst C (0 : Int32) dX12_work_1 (by decide) ?_
  refine a_put C eX12_work_112 tfX12_0 dX12_work_2 0 rfl rfl rfl (Nat.le_of_ble_eq_true rfl) ?_
  refine a_iload_n C dX12_work_5 rfl ?_
  refine a_i2l C dX12_work_6 ?_
  refine a_lconst C (0 : Int64) dX12_work_7 (by decide) ?_
  refine a_ldc2 C (30 : Int64) dX12_work_8 eX12_work_k350 ?_
  obtain ⟨r6, h6, hf⟩ := fx_bind hf
  refine a_fS C (kX12_in l D Y (x1.toInt64) (0 : Int64) (30 : Int64) r6 h6) gX12_work_X12_in rfl dvX12_in ⟨⟨rfl, rfl⟩, ⟨Nat.le_of_ble_eq_true rfl, Nat.le_of_ble_eq_true rfl⟩, ⟨Nat.le_of_ble_eq_true rfl, Nat.le_of_ble_eq_true rfl⟩⟩ rfl (Nat.le_of_ble_eq_true rfl) dX12_work_11 [] rfl rfl rfl (wn := [oX12 ao (0 : Int32) io_rows io_cells io_children io_changes io_taped io_at io_to io_nest io_readMany io_codeLong io_readLong io_undos io_wentHome io_tideLevel io_acts io_firstBreaks io_bestCrew io_sights io_wayMany io_random, rJ Y (ao 1) 24 co_row, rI Y (ao 4) 8 co_age, rI Y (ao 5) 8 co_skill, rI Y (ao 6) 8 co_friend, rI Y (ao 8) 43 co_now, rI Y (ao 9) 43 co_then, rI Y (ao 17) 12 co_gets]) rfl ?_
  refine a_if_ne C 19 dX12_work_14 (by decide) (fun h7 => ?_) (fun h7 => ?_)
  · have hf := fx_f h7 hf
    refine a_aload_n C dX12_work_19 rfl ?_
    obtain ⟨r8, h8, hf⟩ := fx_bind hf
    refine a_fV C (kX12_puts l D Y ao (0 : Int32) io_rows io_cells io_children io_changes io_taped io_at io_to io_nest io_readMany io_codeLong io_readLong io_undos io_wentHome io_tideLevel io_acts io_firstBreaks io_bestCrew io_sights io_wayMany io_random co_now co_then r8 h8) gX12_work_X12_puts rfl dvX12_puts ⟨⟨rfl, rfl⟩, ⟨Nat.le_of_ble_eq_true rfl, Nat.le_of_ble_eq_true rfl⟩, ⟨Nat.le_of_ble_eq_true rfl, Nat.le_of_ble_eq_true rfl⟩⟩ rfl (Nat.le_of_ble_eq_true rfl) dX12_work_20 rfl rfl [0, 5, 6] rfl rfl rfl (wn := [oX12 ao (0 : Int32) io_rows io_cells io_children io_changes io_taped io_at io_to io_nest io_readMany io_codeLong io_readLong io_undos io_wentHome io_tideLevel io_acts io_firstBreaks io_bestCrew io_sights io_wayMany io_random, rJ Y (ao 1) 24 co_row, rI Y (ao 4) 8 co_age, rI Y (ao 5) 8 co_skill, rI Y (ao 6) 8 co_friend, rI Y (ao 8) 43 co_now, rI Y (ao 9) 43 r8, rI Y (ao 17) 12 co_gets]) rfl ?_
    refine a_aload_n C dX12_work_23 rfl ?_
    refine a_aload_n C dX12_work_24 rfl ?_
    refine a_get C eX12_work_39 dX12_work_25 0 rfl rfl ?_
    refine a_iload_n C dX12_work_28 rfl ?_
    obtain ⟨r9, h9, hf⟩ := fx_bind hf
    refine a_fV C (kX12_builds l D Y ao (ao 9) (0 : Int32) io_rows io_cells io_children io_changes io_taped io_at io_to io_nest io_readMany io_codeLong io_readLong io_undos io_wentHome io_tideLevel io_acts io_firstBreaks io_bestCrew io_sights io_wayMany io_random co_age co_skill co_friend co_gets r8 x1 r9 h9) gX12_work_X12_builds rfl dvX12_builds ⟨⟨rfl, rfl⟩, ⟨Nat.le_of_ble_eq_true rfl, Nat.le_of_ble_eq_true rfl⟩, ⟨Nat.le_of_ble_eq_true rfl, Nat.le_of_ble_eq_true rfl⟩⟩ rfl (Nat.le_of_ble_eq_true rfl) dX12_work_29 rfl rfl [0, 2, 3, 4, 7, 6] rfl rfl rfl (wn := [oX12 ao (0 : Int32) io_rows io_cells io_children io_changes io_taped io_at io_to io_nest io_readMany io_codeLong io_readLong io_undos r9.1 io_tideLevel io_acts io_firstBreaks io_bestCrew io_sights io_wayMany io_random, rJ Y (ao 1) 24 co_row, rI Y (ao 4) 8 co_age, rI Y (ao 5) 8 co_skill, rI Y (ao 6) 8 co_friend, rI Y (ao 8) 43 co_now, rI Y (ao 9) 43 r9.2.2, rI Y (ao 17) 12 r9.2.1]) rfl ?_
    refine a_aload_n C dX12_work_32 rfl ?_
    refine a_iconst C (0 : Int32) dX12_work_33 (by decide) ?_
    refine a_put C eX12_work_119 tfX12_1 dX12_work_34 0 rfl rfl rfl (Nat.le_of_ble_eq_true rfl) ?_
    refine a_iconst C (0 : Int32) dX12_work_37 (by decide) ?_
    refine a_istore_n C dX12_work_38 (by decide) rfl ?_
    refine a_kill [1] ?_
    exact kX12_work_b39 C hQ hf
  · have hf := fx_t h7 hf
    refine a_iconst C (-1 : Int32) dX12_work_17 (by decide) ?_
    obtain rfl := fx_some hf
    exact a_iret C hQ dX12_work_18 ⟨rfl, rfl⟩
-- X12_seen
abbrev rmX12_seen : Room := { frames := 2, cells := 0, slots := 0, locals := 46 }
theorem dvX12_seen : yX12_seen.cls = RX12 ∧ yX12_seen.cls ≠ "java/lang/invoke/MethodHandle" ∧ yX12_seen.cls ≠ "java/lang/invoke/VarHandle" ∧ (parseMethodDescriptor yX12_seen.desc).map (fun d => d.parameters.length) = some 2 := by decide +kernel
theorem eX12_seen_inX12 : ∀ w ∈ wsX120, w ∈ wsX12_seen := by decide +kernel
theorem eX12_seen_188 : aF wsX12_seen RX12 188 12 42 := ⟨RX12, TX12, 53, rfl, eX12_seen_inX12, by decide, by decide +kernel⟩
theorem eX12_seen_87 : aF wsX12_seen RX12 87 12 43 := ⟨RX12, TX12, 53, rfl, eX12_seen_inX12, by decide, by decide +kernel⟩
theorem eX12_seen_112 : aF wsX12_seen RX12 112 12 0 := ⟨RX12, TX12, 53, rfl, eX12_seen_inX12, by decide, by decide +kernel⟩
theorem eX12_seen_k369 : Cond.constantLong RX12 369 (99 : Int64) ∈ wsX12_seen := by decide +kernel
def fX12_seen_b47 (io_thrown : Int32) (io_cells : Int32) (io_sights : Int32) (co_sightOf : Nat → Int32) : Option (Int32 × Int32 × Int32 × (Nat → Int32)) :=
  some ((-1 : Int32), io_thrown, io_sights, co_sightOf)
set_option maxHeartbeats 4000000 in
set_option maxRecDepth 100000 in
theorem kX12_seen_b47 {X : cxT} {l : Launch} {D : va_G} {Y : Nat → ClassId} {ao : Nat → Nat} {io_thrown : Int32} {io_rows : Int32} {io_cells : Int32} {io_children : Int32} {io_changes : Int32} {io_taped : Int32} {io_at : Int32} {io_to : Int32} {io_nest : Int32} {io_readMany : Int32} {io_codeLong : Int32} {io_readLong : Int32} {io_undos : Int32} {io_wentHome : Int32} {io_tideLevel : Int32} {io_acts : Int32} {io_firstBreaks : Int32} {io_bestCrew : Int32} {io_sights : Int32} {io_wayMany : Int32} {io_random : Int32} {co_sightOf : Nat → Int32} {res : Int32 × Int32 × Int32 × (Nat → Int32)} (C : axC X l D Y cX12_seen 3 RX12 wsX12_seen rmX12_seen (some .int)) (hQ : axQ X 0 0 (fun r9 w9 => r9 = (some (.int res.1)) ∧ w9 = [oX12 ao res.2.1 io_rows io_cells io_children io_changes io_taped io_at io_to io_nest io_readMany io_codeLong io_readLong io_undos io_wentHome io_tideLevel io_acts io_firstBreaks io_bestCrew res.2.2.1 io_wayMany io_random, rI Y (ao 25) 12 res.2.2.2])) (hf : fX12_seen_b47 io_thrown io_cells io_sights co_sightOf = some res) : ax X 0 0 47 [none, none, none] [oX12 ao io_thrown io_rows io_cells io_children io_changes io_taped io_at io_to io_nest io_readMany io_codeLong io_readLong io_undos io_wentHome io_tideLevel io_acts io_firstBreaks io_bestCrew io_sights io_wayMany io_random, rI Y (ao 25) 12 co_sightOf] [] := by
  unfold fX12_seen_b47 at hf
  refine a_iconst C (-1 : Int32) dX12_seen_47 (by decide) ?_
  obtain rfl := fx_some hf
  exact a_iret C hQ dX12_seen_48 ⟨rfl, rfl⟩
def fX12_seen_b49 (io_thrown : Int32) (io_cells : Int32) (io_sights : Int32) (co_sightOf : Nat → Int32) (x1 : Int32) (x2 : Int32) : Option (Int32 × Int32 × Int32 × (Nat → Int32)) :=
  if inb x1 12 then (fJ6_bitCount_0f7a4 (io_sights ||| (jshl (1 : Int32) x1))).bind (fun r2 => some (r2, io_thrown, (io_sights ||| (jshl (1 : Int32) x1)), (upd co_sightOf (Int32.toNatClampNeg x1) x2))) else none
set_option maxHeartbeats 4000000 in
set_option maxRecDepth 100000 in
theorem kX12_seen_b49 {X : cxT} {l : Launch} {D : va_G} {Y : Nat → ClassId} {ao : Nat → Nat} {io_thrown : Int32} {io_rows : Int32} {io_cells : Int32} {io_children : Int32} {io_changes : Int32} {io_taped : Int32} {io_at : Int32} {io_to : Int32} {io_nest : Int32} {io_readMany : Int32} {io_codeLong : Int32} {io_readLong : Int32} {io_undos : Int32} {io_wentHome : Int32} {io_tideLevel : Int32} {io_acts : Int32} {io_firstBreaks : Int32} {io_bestCrew : Int32} {io_sights : Int32} {io_wayMany : Int32} {io_random : Int32} {co_sightOf : Nat → Int32} {x1 : Int32} {x2 : Int32} {res : Int32 × Int32 × Int32 × (Nat → Int32)} (C : axC X l D Y cX12_seen 3 RX12 wsX12_seen rmX12_seen (some .int)) (hQ : axQ X 0 0 (fun r9 w9 => r9 = (some (.int res.1)) ∧ w9 = [oX12 ao res.2.1 io_rows io_cells io_children io_changes io_taped io_at io_to io_nest io_readMany io_codeLong io_readLong io_undos io_wentHome io_tideLevel io_acts io_firstBreaks io_bestCrew res.2.2.1 io_wayMany io_random, rI Y (ao 25) 12 res.2.2.2])) (hf : fX12_seen_b49 io_thrown io_cells io_sights co_sightOf x1 x2 = some res) : ax X 0 0 49 [some (.ref (ao 0)), some (.int x1), some (.int x2)] [oX12 ao io_thrown io_rows io_cells io_children io_changes io_taped io_at io_to io_nest io_readMany io_codeLong io_readLong io_undos io_wentHome io_tideLevel io_acts io_firstBreaks io_bestCrew io_sights io_wayMany io_random, rI Y (ao 25) 12 co_sightOf] [] := by
  unfold fX12_seen_b49 at hf
  refine a_aload_n C dX12_seen_49 rfl ?_
  refine a_dup C dX12_seen_50 rfl ?_
  refine a_get C eX12_seen_188 dX12_seen_51 0 rfl rfl ?_
  refine a_iconst C (1 : Int32) dX12_seen_54 (by decide) ?_
  refine a_iload_n C dX12_seen_55 rfl ?_
  refine a_ishl C dX12_seen_56 ?_
  refine a_ior C dX12_seen_57 ?_
  refine a_put C eX12_seen_188 tfX12_42 dX12_seen_58 0 rfl rfl rfl (Nat.le_of_ble_eq_true rfl) ?_
  refine a_aload_n C dX12_seen_61 rfl ?_
  refine a_get C eX12_seen_87 dX12_seen_62 0 rfl rfl ?_
  refine a_iload_n C dX12_seen_65 rfl ?_
  refine a_iload_n C dX12_seen_66 rfl ?_
  obtain ⟨h1, hf⟩ := fx_ite hf
  refine a_iast C dX12_seen_67 1 rfl h1 ?_
  refine a_aload_n C dX12_seen_68 rfl ?_
  refine a_get C eX12_seen_188 dX12_seen_69 0 rfl rfl ?_
  obtain ⟨r2, h2, hf⟩ := fx_bind hf
  refine a_fS C (kJ6_bitCount_0f7a4 l D Y (io_sights ||| (jshl (1 : Int32) x1)) r2 h2) gX12_seen_J6_bitCount_0f7a4 rfl dvJ6_bitCount_0f7a4 ⟨⟨rfl, rfl⟩, ⟨Nat.le_of_ble_eq_true rfl, Nat.le_of_ble_eq_true rfl⟩, ⟨Nat.le_of_ble_eq_true rfl, Nat.le_of_ble_eq_true rfl⟩⟩ rfl (Nat.le_of_ble_eq_true rfl) dX12_seen_72 [] rfl rfl rfl (wn := [oX12 ao io_thrown io_rows io_cells io_children io_changes io_taped io_at io_to io_nest io_readMany io_codeLong io_readLong io_undos io_wentHome io_tideLevel io_acts io_firstBreaks io_bestCrew (io_sights ||| (jshl (1 : Int32) x1)) io_wayMany io_random, rI Y (ao 25) 12 (upd co_sightOf (Int32.toNatClampNeg x1) x2)]) rfl ?_
  obtain rfl := fx_some hf
  exact a_iret C hQ dX12_seen_75 ⟨rfl, rfl⟩
def fX12_seen (io_thrown : Int32) (io_cells : Int32) (io_sights : Int32) (co_sightOf : Nat → Int32) (x1 : Int32) (x2 : Int32) : Option (Int32 × Int32 × Int32 × (Nat → Int32)) :=
  (fX12_isCell io_cells x1).bind (fun r3 => if r3 = (0 : Int32) then (fX12_seen_b47 (0 : Int32) io_cells io_sights co_sightOf) else ((fX12_in (x2.toInt64) (0 : Int64) (99 : Int64)).bind (fun r5 => if r5 = (0 : Int32) then (fX12_seen_b47 (0 : Int32) io_cells io_sights co_sightOf) else ((fX12_has io_sights x1).bind (fun r7 => if r7 = (0 : Int32) then ((fJ6_bitCount_0f7a4 io_sights).bind (fun r9 => if r9 = (4 : Int32) then (fX12_seen_b47 (0 : Int32) io_cells io_sights co_sightOf) else (fX12_seen_b49 (0 : Int32) io_cells io_sights co_sightOf x1 x2))) else (fX12_seen_b49 (0 : Int32) io_cells io_sights co_sightOf x1 x2))))))
set_option maxHeartbeats 4000000 in
set_option maxRecDepth 100000 in
theorem kX12_seen (l : Launch) (D : va_G) (Y : Nat → ClassId) (ao : Nat → Nat) (io_thrown : Int32) (io_rows : Int32) (io_cells : Int32) (io_children : Int32) (io_changes : Int32) (io_taped : Int32) (io_at : Int32) (io_to : Int32) (io_nest : Int32) (io_readMany : Int32) (io_codeLong : Int32) (io_readLong : Int32) (io_undos : Int32) (io_wentHome : Int32) (io_tideLevel : Int32) (io_acts : Int32) (io_firstBreaks : Int32) (io_bestCrew : Int32) (io_sights : Int32) (io_wayMany : Int32) (io_random : Int32) (co_sightOf : Nat → Int32) (x1 : Int32) (x2 : Int32) (res : Int32 × Int32 × Int32 × (Nat → Int32)) (hf : fX12_seen io_thrown io_cells io_sights co_sightOf x1 x2 = some res) : amf l D Y yX12_seen wsX12_seen rmX12_seen [.ref (ao 0), .int x1, .int x2] [oX12 ao io_thrown io_rows io_cells io_children io_changes io_taped io_at io_to io_nest io_readMany io_codeLong io_readLong io_undos io_wentHome io_tideLevel io_acts io_firstBreaks io_bestCrew io_sights io_wayMany io_random, rI Y (ao 25) 12 co_sightOf] (some (.int res.1)) [oX12 ao res.2.1 io_rows io_cells io_children io_changes io_taped io_at io_to io_nest io_readMany io_codeLong io_readLong io_undos io_wentHome io_tideLevel io_acts io_firstBreaks io_bestCrew res.2.2.1 io_wayMany io_random, rI Y (ao 25) 12 res.2.2.2] := by
  refine amf.of (cc := cX12_seen) (maxL := 3) (rt := (some .int)) (by decide) rfl RX12 rfl (Nat.le_of_ble_eq_true rfl) [some (.ref (ao 0)), some (.int x1), some (.int x2)] rfl ?_
  intro X C hQ
  unfold fX12_seen at hf
  refine a_aload_n C dX12_seen_0 rfl ?_
  refine a_iconst C (0 : Int32) dX12_seen_1 (by decide) ?_
  refine a_put C eX12_seen_112 tfX12_0 dX12_seen_2 0 rfl rfl rfl (Nat.le_of_ble_eq_true rfl) ?_
  refine a_aload_n C dX12_seen_5 rfl ?_
  refine a_iload_n C dX12_seen_6 rfl ?_
  obtain ⟨r3, h3, hf⟩ := fx_bind hf
  refine a_fV C (kX12_isCell l D Y ao (0 : Int32) io_rows io_cells io_children io_changes io_taped io_at io_to io_nest io_readMany io_codeLong io_readLong io_undos io_wentHome io_tideLevel io_acts io_firstBreaks io_bestCrew io_sights io_wayMany io_random x1 r3 h3) gX12_seen_X12_isCell rfl dvX12_isCell ⟨⟨rfl, rfl⟩, ⟨Nat.le_of_ble_eq_true rfl, Nat.le_of_ble_eq_true rfl⟩, ⟨Nat.le_of_ble_eq_true rfl, Nat.le_of_ble_eq_true rfl⟩⟩ rfl (Nat.le_of_ble_eq_true rfl) dX12_seen_7 rfl rfl [0] rfl rfl rfl (wn := [oX12 ao (0 : Int32) io_rows io_cells io_children io_changes io_taped io_at io_to io_nest io_readMany io_codeLong io_readLong io_undos io_wentHome io_tideLevel io_acts io_firstBreaks io_bestCrew io_sights io_wayMany io_random, rI Y (ao 25) 12 co_sightOf]) rfl ?_
  refine a_if_eq C 47 dX12_seen_10 (by decide) (fun h4 => ?_) (fun h4 => ?_)
  · have hf := fx_t h4 hf
    refine a_kill [0, 1, 2] ?_
    exact kX12_seen_b47 C hQ hf
  · have hf := fx_f h4 hf
    refine a_iload_n C dX12_seen_13 rfl ?_
    refine a_i2l C dX12_seen_14 ?_
    refine a_lconst C (0 : Int64) dX12_seen_15 (by decide) ?_
    refine a_ldc2 C (99 : Int64) dX12_seen_16 eX12_seen_k369 ?_
    obtain ⟨r5, h5, hf⟩ := fx_bind hf
    refine a_fS C (kX12_in l D Y (x2.toInt64) (0 : Int64) (99 : Int64) r5 h5) gX12_seen_X12_in rfl dvX12_in ⟨⟨rfl, rfl⟩, ⟨Nat.le_of_ble_eq_true rfl, Nat.le_of_ble_eq_true rfl⟩, ⟨Nat.le_of_ble_eq_true rfl, Nat.le_of_ble_eq_true rfl⟩⟩ rfl (Nat.le_of_ble_eq_true rfl) dX12_seen_19 [] rfl rfl rfl (wn := [oX12 ao (0 : Int32) io_rows io_cells io_children io_changes io_taped io_at io_to io_nest io_readMany io_codeLong io_readLong io_undos io_wentHome io_tideLevel io_acts io_firstBreaks io_bestCrew io_sights io_wayMany io_random, rI Y (ao 25) 12 co_sightOf]) rfl ?_
    refine a_if_eq C 47 dX12_seen_22 (by decide) (fun h6 => ?_) (fun h6 => ?_)
    · have hf := fx_t h6 hf
      refine a_kill [0, 1, 2] ?_
      exact kX12_seen_b47 C hQ hf
    · have hf := fx_f h6 hf
      refine a_aload_n C dX12_seen_25 rfl ?_
      refine a_get C eX12_seen_188 dX12_seen_26 0 rfl rfl ?_
      refine a_iload_n C dX12_seen_29 rfl ?_
      obtain ⟨r7, h7, hf⟩ := fx_bind hf
      refine a_fS C (kX12_has l D Y io_sights x1 r7 h7) gX12_seen_X12_has rfl dvX12_has ⟨⟨rfl, rfl⟩, ⟨Nat.le_of_ble_eq_true rfl, Nat.le_of_ble_eq_true rfl⟩, ⟨Nat.le_of_ble_eq_true rfl, Nat.le_of_ble_eq_true rfl⟩⟩ rfl (Nat.le_of_ble_eq_true rfl) dX12_seen_30 [] rfl rfl rfl (wn := [oX12 ao (0 : Int32) io_rows io_cells io_children io_changes io_taped io_at io_to io_nest io_readMany io_codeLong io_readLong io_undos io_wentHome io_tideLevel io_acts io_firstBreaks io_bestCrew io_sights io_wayMany io_random, rI Y (ao 25) 12 co_sightOf]) rfl ?_
      refine a_if_ne C 49 dX12_seen_33 (by decide) (fun h8 => ?_) (fun h8 => ?_)
      · have hf := fx_f h8 hf
        exact kX12_seen_b49 C hQ hf
      · have hf := fx_t h8 hf
        refine a_aload_n C dX12_seen_36 rfl ?_
        refine a_get C eX12_seen_188 dX12_seen_37 0 rfl rfl ?_
        obtain ⟨r9, h9, hf⟩ := fx_bind hf
        refine a_fS C (kJ6_bitCount_0f7a4 l D Y io_sights r9 h9) gX12_seen_J6_bitCount_0f7a4 rfl dvJ6_bitCount_0f7a4 ⟨⟨rfl, rfl⟩, ⟨Nat.le_of_ble_eq_true rfl, Nat.le_of_ble_eq_true rfl⟩, ⟨Nat.le_of_ble_eq_true rfl, Nat.le_of_ble_eq_true rfl⟩⟩ rfl (Nat.le_of_ble_eq_true rfl) dX12_seen_40 [] rfl rfl rfl (wn := [oX12 ao (0 : Int32) io_rows io_cells io_children io_changes io_taped io_at io_to io_nest io_readMany io_codeLong io_readLong io_undos io_wentHome io_tideLevel io_acts io_firstBreaks io_bestCrew io_sights io_wayMany io_random, rI Y (ao 25) 12 co_sightOf]) rfl ?_
        refine a_iconst C (4 : Int32) dX12_seen_43 (by decide) ?_
        refine a_icmp_ne C 49 dX12_seen_44 (by decide) (fun h10 => ?_) (fun h10 => ?_)
        · have hf := fx_f h10 hf
          exact kX12_seen_b49 C hQ hf
        · have hf := fx_t h10 hf
          refine a_kill [0, 1, 2] ?_
          exact kX12_seen_b47 C hQ hf
-- X12_forget
abbrev rmX12_forget : Room := { frames := 1, cells := 0, slots := 0, locals := 20 }
theorem dvX12_forget : yX12_forget.cls = RX12 ∧ yX12_forget.cls ≠ "java/lang/invoke/MethodHandle" ∧ yX12_forget.cls ≠ "java/lang/invoke/VarHandle" ∧ (parseMethodDescriptor yX12_forget.desc).map (fun d => d.parameters.length) = some 0 := by decide +kernel
theorem eX12_forget_inX12 : ∀ w ∈ wsX120, w ∈ wsX12_forget := by decide +kernel
theorem eX12_forget_112 : aF wsX12_forget RX12 112 12 0 := ⟨RX12, TX12, 53, rfl, eX12_forget_inX12, by decide, by decide +kernel⟩
theorem eX12_forget_188 : aF wsX12_forget RX12 188 12 42 := ⟨RX12, TX12, 53, rfl, eX12_forget_inX12, by decide, by decide +kernel⟩
def fX12_forget (io_thrown : Int32) (io_sights : Int32) : Option (Int32 × Int32 × Int32) :=
  (fJ6_bitCount_0f7a4 io_sights).bind (fun r1 => some (r1, (0 : Int32), (0 : Int32)))
set_option maxHeartbeats 4000000 in
set_option maxRecDepth 100000 in
theorem kX12_forget (l : Launch) (D : va_G) (Y : Nat → ClassId) (ao : Nat → Nat) (io_thrown : Int32) (io_rows : Int32) (io_cells : Int32) (io_children : Int32) (io_changes : Int32) (io_taped : Int32) (io_at : Int32) (io_to : Int32) (io_nest : Int32) (io_readMany : Int32) (io_codeLong : Int32) (io_readLong : Int32) (io_undos : Int32) (io_wentHome : Int32) (io_tideLevel : Int32) (io_acts : Int32) (io_firstBreaks : Int32) (io_bestCrew : Int32) (io_sights : Int32) (io_wayMany : Int32) (io_random : Int32) (res : Int32 × Int32 × Int32) (hf : fX12_forget io_thrown io_sights = some res) : amf l D Y yX12_forget wsX12_forget rmX12_forget [.ref (ao 0)] [oX12 ao io_thrown io_rows io_cells io_children io_changes io_taped io_at io_to io_nest io_readMany io_codeLong io_readLong io_undos io_wentHome io_tideLevel io_acts io_firstBreaks io_bestCrew io_sights io_wayMany io_random] (some (.int res.1)) [oX12 ao res.2.1 io_rows io_cells io_children io_changes io_taped io_at io_to io_nest io_readMany io_codeLong io_readLong io_undos io_wentHome io_tideLevel io_acts io_firstBreaks io_bestCrew res.2.2 io_wayMany io_random] := by
  refine amf.of (cc := cX12_forget) (maxL := 2) (rt := (some .int)) (by decide) rfl RX12 rfl (Nat.le_of_ble_eq_true rfl) [some (.ref (ao 0)), none] rfl ?_
  intro X C hQ
  unfold fX12_forget at hf
  refine a_aload_n C dX12_forget_0 rfl ?_
  refine a_iconst C (0 : Int32) dX12_forget_1 (by decide) ?_
  refine a_put C eX12_forget_112 tfX12_0 dX12_forget_2 0 rfl rfl rfl (Nat.le_of_ble_eq_true rfl) ?_
  refine a_aload_n C dX12_forget_5 rfl ?_
  refine a_get C eX12_forget_188 dX12_forget_6 0 rfl rfl ?_
  obtain ⟨r1, h1, hf⟩ := fx_bind hf
  refine a_fS C (kJ6_bitCount_0f7a4 l D Y io_sights r1 h1) gX12_forget_J6_bitCount_0f7a4 rfl dvJ6_bitCount_0f7a4 ⟨⟨rfl, rfl⟩, ⟨Nat.le_of_ble_eq_true rfl, Nat.le_of_ble_eq_true rfl⟩, ⟨Nat.le_of_ble_eq_true rfl, Nat.le_of_ble_eq_true rfl⟩⟩ rfl (Nat.le_of_ble_eq_true rfl) dX12_forget_9 [] rfl rfl rfl (wn := [oX12 ao (0 : Int32) io_rows io_cells io_children io_changes io_taped io_at io_to io_nest io_readMany io_codeLong io_readLong io_undos io_wentHome io_tideLevel io_acts io_firstBreaks io_bestCrew io_sights io_wayMany io_random]) rfl ?_
  refine a_istore_n C dX12_forget_12 (by decide) rfl ?_
  refine a_aload_n C dX12_forget_13 rfl ?_
  refine a_iconst C (0 : Int32) dX12_forget_14 (by decide) ?_
  refine a_put C eX12_forget_188 tfX12_42 dX12_forget_15 0 rfl rfl rfl (Nat.le_of_ble_eq_true rfl) ?_
  refine a_iload_n C dX12_forget_18 rfl ?_
  obtain rfl := fx_some hf
  exact a_iret C hQ dX12_forget_19 ⟨rfl, rfl⟩
-- X12_isAsSeen
abbrev rmX12_isAsSeen : Room := { frames := 1, cells := 0, slots := 0, locals := 21 }
theorem dvX12_isAsSeen : yX12_isAsSeen.cls = RX12 ∧ yX12_isAsSeen.cls ≠ "java/lang/invoke/MethodHandle" ∧ yX12_isAsSeen.cls ≠ "java/lang/invoke/VarHandle" ∧ (parseMethodDescriptor yX12_isAsSeen.desc).map (fun d => d.parameters.length) = some 0 := by decide +kernel
theorem eX12_isAsSeen_inX12 : ∀ w ∈ wsX120, w ∈ wsX12_isAsSeen := by decide +kernel
theorem eX12_isAsSeen_13 : aF wsX12_isAsSeen RX12 13 12 3 := ⟨RX12, TX12, 53, rfl, eX12_isAsSeen_inX12, by decide, by decide +kernel⟩
theorem eX12_isAsSeen_188 : aF wsX12_isAsSeen RX12 188 12 42 := ⟨RX12, TX12, 53, rfl, eX12_isAsSeen_inX12, by decide, by decide +kernel⟩
theorem eX12_isAsSeen_90 : aF wsX12_isAsSeen RX12 90 12 44 := ⟨RX12, TX12, 53, rfl, eX12_isAsSeen_inX12, by decide, by decide +kernel⟩
theorem eX12_isAsSeen_87 : aF wsX12_isAsSeen RX12 87 12 43 := ⟨RX12, TX12, 53, rfl, eX12_isAsSeen_inX12, by decide, by decide +kernel⟩
def fX12_isAsSeen_b54 (io_cells : Int32) (io_sights : Int32) (co_sightOf : Nat → Int32) (co_built : Nat → Int32) (x1 : Int32) : Option (Int32) :=
  if x1 = 0 ∨ x1 = 1 then some x1 else none
set_option maxHeartbeats 4000000 in
set_option maxRecDepth 100000 in
theorem kX12_isAsSeen_b54 {X : cxT} {l : Launch} {D : va_G} {Y : Nat → ClassId} {ao : Nat → Nat} {io_thrown : Int32} {io_rows : Int32} {io_cells : Int32} {io_children : Int32} {io_changes : Int32} {io_taped : Int32} {io_at : Int32} {io_to : Int32} {io_nest : Int32} {io_readMany : Int32} {io_codeLong : Int32} {io_readLong : Int32} {io_undos : Int32} {io_wentHome : Int32} {io_tideLevel : Int32} {io_acts : Int32} {io_firstBreaks : Int32} {io_bestCrew : Int32} {io_sights : Int32} {io_wayMany : Int32} {io_random : Int32} {co_sightOf : Nat → Int32} {co_built : Nat → Int32} {x1 : Int32} {res : Int32} (C : axC X l D Y cX12_isAsSeen 3 RX12 wsX12_isAsSeen rmX12_isAsSeen (some .boolean)) (hQ : axQ X 0 0 (fun r9 w9 => r9 = (some (.int res)) ∧ w9 = [oX12 ao io_thrown io_rows io_cells io_children io_changes io_taped io_at io_to io_nest io_readMany io_codeLong io_readLong io_undos io_wentHome io_tideLevel io_acts io_firstBreaks io_bestCrew io_sights io_wayMany io_random, rI Y (ao 25) 12 co_sightOf, rI Y (ao 26) 12 co_built])) (hf : fX12_isAsSeen_b54 io_cells io_sights co_sightOf co_built x1 = some res) : ax X 0 0 54 [none, some (.int x1), none] [oX12 ao io_thrown io_rows io_cells io_children io_changes io_taped io_at io_to io_nest io_readMany io_codeLong io_readLong io_undos io_wentHome io_tideLevel io_acts io_firstBreaks io_bestCrew io_sights io_wayMany io_random, rI Y (ao 25) 12 co_sightOf, rI Y (ao 26) 12 co_built] [] := by
  unfold fX12_isAsSeen_b54 at hf
  refine a_iload_n C dX12_isAsSeen_54 rfl ?_
  obtain ⟨h1, hf⟩ := fx_ite hf
  obtain rfl := fx_some hf
  exact a_zret C hQ h1 dX12_isAsSeen_55 ⟨rfl, rfl⟩
def fX12_isAsSeen_b47 (io_cells : Int32) (io_sights : Int32) (co_sightOf : Nat → Int32) (co_built : Nat → Int32) (x2 : Int32) (s0 : Int32) (k4 : Int32 × Int32 → Option (Int32)) : Option (Int32) :=
  k4 (s0, (x2 + (1 : Int32)))
set_option maxHeartbeats 4000000 in
set_option maxRecDepth 100000 in
theorem kX12_isAsSeen_b47 {X : cxT} {l : Launch} {D : va_G} {Y : Nat → ClassId} {ao : Nat → Nat} {io_thrown : Int32} {io_rows : Int32} {io_cells : Int32} {io_children : Int32} {io_changes : Int32} {io_taped : Int32} {io_at : Int32} {io_to : Int32} {io_nest : Int32} {io_readMany : Int32} {io_codeLong : Int32} {io_readLong : Int32} {io_undos : Int32} {io_wentHome : Int32} {io_tideLevel : Int32} {io_acts : Int32} {io_firstBreaks : Int32} {io_bestCrew : Int32} {io_sights : Int32} {io_wayMany : Int32} {io_random : Int32} {co_sightOf : Nat → Int32} {co_built : Nat → Int32} {x2 : Int32} {s0 : Int32} {res : Int32} (C : axC X l D Y cX12_isAsSeen 3 RX12 wsX12_isAsSeen rmX12_isAsSeen (some .boolean)) (hQ : axQ X 0 0 (fun r9 w9 => r9 = (some (.int res)) ∧ w9 = [oX12 ao io_thrown io_rows io_cells io_children io_changes io_taped io_at io_to io_nest io_readMany io_codeLong io_readLong io_undos io_wentHome io_tideLevel io_acts io_firstBreaks io_bestCrew io_sights io_wayMany io_random, rI Y (ao 25) 12 co_sightOf, rI Y (ao 26) 12 co_built])) {k4 : Int32 × Int32 → Option (Int32)} (hk4 : ∀ s : Int32 × Int32, k4 s = some res → ax X 0 0 4 [some (.ref (ao 0)), some (.int s.1), some (.int s.2)] [oX12 ao io_thrown io_rows io_cells io_children io_changes io_taped io_at io_to io_nest io_readMany io_codeLong io_readLong io_undos io_wentHome io_tideLevel io_acts io_firstBreaks io_bestCrew io_sights io_wayMany io_random, rI Y (ao 25) 12 co_sightOf, rI Y (ao 26) 12 co_built] []) (hf : fX12_isAsSeen_b47 io_cells io_sights co_sightOf co_built x2 s0 k4 = some res) : ax X 0 0 47 [some (.ref (ao 0)), none, some (.int x2)] [oX12 ao io_thrown io_rows io_cells io_children io_changes io_taped io_at io_to io_nest io_readMany io_codeLong io_readLong io_undos io_wentHome io_tideLevel io_acts io_firstBreaks io_bestCrew io_sights io_wayMany io_random, rI Y (ao 25) 12 co_sightOf, rI Y (ao 26) 12 co_built] [.int s0] := by
  unfold fX12_isAsSeen_b47 at hf
  refine a_istore_n C dX12_isAsSeen_47 (by decide) rfl ?_
  refine a_iinc C (1 : Int32) dX12_isAsSeen_48 (by decide) rfl (by decide) rfl ?_
  refine a_goto C 4 dX12_isAsSeen_51 (by decide) ?_
  exact hk4 (s0, (x2 + (1 : Int32))) hf
def fX12_isAsSeen_b46 (io_cells : Int32) (io_sights : Int32) (co_sightOf : Nat → Int32) (co_built : Nat → Int32) (x2 : Int32) (k4 : Int32 × Int32 → Option (Int32)) : Option (Int32) :=
  fX12_isAsSeen_b47 io_cells io_sights co_sightOf co_built x2 (0 : Int32) k4
set_option maxHeartbeats 4000000 in
set_option maxRecDepth 100000 in
theorem kX12_isAsSeen_b46 {X : cxT} {l : Launch} {D : va_G} {Y : Nat → ClassId} {ao : Nat → Nat} {io_thrown : Int32} {io_rows : Int32} {io_cells : Int32} {io_children : Int32} {io_changes : Int32} {io_taped : Int32} {io_at : Int32} {io_to : Int32} {io_nest : Int32} {io_readMany : Int32} {io_codeLong : Int32} {io_readLong : Int32} {io_undos : Int32} {io_wentHome : Int32} {io_tideLevel : Int32} {io_acts : Int32} {io_firstBreaks : Int32} {io_bestCrew : Int32} {io_sights : Int32} {io_wayMany : Int32} {io_random : Int32} {co_sightOf : Nat → Int32} {co_built : Nat → Int32} {x2 : Int32} {res : Int32} (C : axC X l D Y cX12_isAsSeen 3 RX12 wsX12_isAsSeen rmX12_isAsSeen (some .boolean)) (hQ : axQ X 0 0 (fun r9 w9 => r9 = (some (.int res)) ∧ w9 = [oX12 ao io_thrown io_rows io_cells io_children io_changes io_taped io_at io_to io_nest io_readMany io_codeLong io_readLong io_undos io_wentHome io_tideLevel io_acts io_firstBreaks io_bestCrew io_sights io_wayMany io_random, rI Y (ao 25) 12 co_sightOf, rI Y (ao 26) 12 co_built])) {k4 : Int32 × Int32 → Option (Int32)} (hk4 : ∀ s : Int32 × Int32, k4 s = some res → ax X 0 0 4 [some (.ref (ao 0)), some (.int s.1), some (.int s.2)] [oX12 ao io_thrown io_rows io_cells io_children io_changes io_taped io_at io_to io_nest io_readMany io_codeLong io_readLong io_undos io_wentHome io_tideLevel io_acts io_firstBreaks io_bestCrew io_sights io_wayMany io_random, rI Y (ao 25) 12 co_sightOf, rI Y (ao 26) 12 co_built] []) (hf : fX12_isAsSeen_b46 io_cells io_sights co_sightOf co_built x2 k4 = some res) : ax X 0 0 46 [some (.ref (ao 0)), none, some (.int x2)] [oX12 ao io_thrown io_rows io_cells io_children io_changes io_taped io_at io_to io_nest io_readMany io_codeLong io_readLong io_undos io_wentHome io_tideLevel io_acts io_firstBreaks io_bestCrew io_sights io_wayMany io_random, rI Y (ao 25) 12 co_sightOf, rI Y (ao 26) 12 co_built] [] := by
  unfold fX12_isAsSeen_b46 at hf
  refine a_iconst C (0 : Int32) dX12_isAsSeen_46 (by decide) ?_
  exact kX12_isAsSeen_b47 C hQ hk4 hf
def fX12_isAsSeen_b42 (io_cells : Int32) (io_sights : Int32) (co_sightOf : Nat → Int32) (co_built : Nat → Int32) (x2 : Int32) (k4 : Int32 × Int32 → Option (Int32)) : Option (Int32) :=
  fX12_isAsSeen_b47 io_cells io_sights co_sightOf co_built x2 (1 : Int32) k4
set_option maxHeartbeats 4000000 in
set_option maxRecDepth 100000 in
theorem kX12_isAsSeen_b42 {X : cxT} {l : Launch} {D : va_G} {Y : Nat → ClassId} {ao : Nat → Nat} {io_thrown : Int32} {io_rows : Int32} {io_cells : Int32} {io_children : Int32} {io_changes : Int32} {io_taped : Int32} {io_at : Int32} {io_to : Int32} {io_nest : Int32} {io_readMany : Int32} {io_codeLong : Int32} {io_readLong : Int32} {io_undos : Int32} {io_wentHome : Int32} {io_tideLevel : Int32} {io_acts : Int32} {io_firstBreaks : Int32} {io_bestCrew : Int32} {io_sights : Int32} {io_wayMany : Int32} {io_random : Int32} {co_sightOf : Nat → Int32} {co_built : Nat → Int32} {x2 : Int32} {res : Int32} (C : axC X l D Y cX12_isAsSeen 3 RX12 wsX12_isAsSeen rmX12_isAsSeen (some .boolean)) (hQ : axQ X 0 0 (fun r9 w9 => r9 = (some (.int res)) ∧ w9 = [oX12 ao io_thrown io_rows io_cells io_children io_changes io_taped io_at io_to io_nest io_readMany io_codeLong io_readLong io_undos io_wentHome io_tideLevel io_acts io_firstBreaks io_bestCrew io_sights io_wayMany io_random, rI Y (ao 25) 12 co_sightOf, rI Y (ao 26) 12 co_built])) {k4 : Int32 × Int32 → Option (Int32)} (hk4 : ∀ s : Int32 × Int32, k4 s = some res → ax X 0 0 4 [some (.ref (ao 0)), some (.int s.1), some (.int s.2)] [oX12 ao io_thrown io_rows io_cells io_children io_changes io_taped io_at io_to io_nest io_readMany io_codeLong io_readLong io_undos io_wentHome io_tideLevel io_acts io_firstBreaks io_bestCrew io_sights io_wayMany io_random, rI Y (ao 25) 12 co_sightOf, rI Y (ao 26) 12 co_built] []) (hf : fX12_isAsSeen_b42 io_cells io_sights co_sightOf co_built x2 k4 = some res) : ax X 0 0 42 [some (.ref (ao 0)), none, some (.int x2)] [oX12 ao io_thrown io_rows io_cells io_children io_changes io_taped io_at io_to io_nest io_readMany io_codeLong io_readLong io_undos io_wentHome io_tideLevel io_acts io_firstBreaks io_bestCrew io_sights io_wayMany io_random, rI Y (ao 25) 12 co_sightOf, rI Y (ao 26) 12 co_built] [] := by
  unfold fX12_isAsSeen_b42 at hf
  refine a_iconst C (1 : Int32) dX12_isAsSeen_42 (by decide) ?_
  refine a_goto C 47 dX12_isAsSeen_43 (by decide) ?_
  exact kX12_isAsSeen_b47 C hQ hk4 hf
def fX12_isAsSeen_l4 (io_cells : Int32) (io_sights : Int32) (co_sightOf : Nat → Int32) (co_built : Nat → Int32) (k4 : Int32 × Int32 → Option (Int32)) (x1 : Int32) (x2 : Int32) : Option (Int32) :=
  if io_cells ≤ x2 then (fX12_isAsSeen_b54 io_cells io_sights co_sightOf co_built x1) else (if x1 = (0 : Int32) then (fX12_isAsSeen_b46 io_cells io_sights co_sightOf co_built x2 k4) else ((fX12_has io_sights x2).bind (fun r4 => if r4 = (0 : Int32) then (fX12_isAsSeen_b42 io_cells io_sights co_sightOf co_built x2 k4) else (if inb x2 12 then if (co_built (Int32.toNatClampNeg x2)) = (co_sightOf (Int32.toNatClampNeg x2)) then (fX12_isAsSeen_b42 io_cells io_sights co_sightOf co_built x2 k4) else (fX12_isAsSeen_b46 io_cells io_sights co_sightOf co_built x2 k4) else none))))
def fX12_isAsSeen_b4 (io_cells : Int32) (io_sights : Int32) (co_sightOf : Nat → Int32) (co_built : Nat → Int32) (x1 : Int32) (x2 : Int32) : Option (Int32) :=
  loopN (fun (s : Int32 × Int32) k4 => fX12_isAsSeen_l4 io_cells io_sights co_sightOf co_built k4 s.1 s.2) FUEL (x1, x2)
set_option maxHeartbeats 4000000 in
set_option maxRecDepth 100000 in
theorem kX12_isAsSeen_l4 {X : cxT} {l : Launch} {D : va_G} {Y : Nat → ClassId} {ao : Nat → Nat} {io_thrown : Int32} {io_rows : Int32} {io_cells : Int32} {io_children : Int32} {io_changes : Int32} {io_taped : Int32} {io_at : Int32} {io_to : Int32} {io_nest : Int32} {io_readMany : Int32} {io_codeLong : Int32} {io_readLong : Int32} {io_undos : Int32} {io_wentHome : Int32} {io_tideLevel : Int32} {io_acts : Int32} {io_firstBreaks : Int32} {io_bestCrew : Int32} {io_sights : Int32} {io_wayMany : Int32} {io_random : Int32} {co_sightOf : Nat → Int32} {co_built : Nat → Int32} {x1 : Int32} {x2 : Int32} {res : Int32} (C : axC X l D Y cX12_isAsSeen 3 RX12 wsX12_isAsSeen rmX12_isAsSeen (some .boolean)) (hQ : axQ X 0 0 (fun r9 w9 => r9 = (some (.int res)) ∧ w9 = [oX12 ao io_thrown io_rows io_cells io_children io_changes io_taped io_at io_to io_nest io_readMany io_codeLong io_readLong io_undos io_wentHome io_tideLevel io_acts io_firstBreaks io_bestCrew io_sights io_wayMany io_random, rI Y (ao 25) 12 co_sightOf, rI Y (ao 26) 12 co_built])) {k4 : Int32 × Int32 → Option (Int32)} (hk4 : ∀ s : Int32 × Int32, k4 s = some res → ax X 0 0 4 [some (.ref (ao 0)), some (.int s.1), some (.int s.2)] [oX12 ao io_thrown io_rows io_cells io_children io_changes io_taped io_at io_to io_nest io_readMany io_codeLong io_readLong io_undos io_wentHome io_tideLevel io_acts io_firstBreaks io_bestCrew io_sights io_wayMany io_random, rI Y (ao 25) 12 co_sightOf, rI Y (ao 26) 12 co_built] []) (hf : fX12_isAsSeen_l4 io_cells io_sights co_sightOf co_built k4 x1 x2 = some res) : ax X 0 0 4 [some (.ref (ao 0)), some (.int x1), some (.int x2)] [oX12 ao io_thrown io_rows io_cells io_children io_changes io_taped io_at io_to io_nest io_readMany io_codeLong io_readLong io_undos io_wentHome io_tideLevel io_acts io_firstBreaks io_bestCrew io_sights io_wayMany io_random, rI Y (ao 25) 12 co_sightOf, rI Y (ao 26) 12 co_built] [] := by
  unfold fX12_isAsSeen_l4 at hf
  refine a_iload_n C dX12_isAsSeen_4 rfl ?_
  refine a_aload_n C dX12_isAsSeen_5 rfl ?_
  refine a_get C eX12_isAsSeen_13 dX12_isAsSeen_6 0 rfl rfl ?_
  refine a_icmp_ge C 54 dX12_isAsSeen_9 (by decide) (fun h2 => ?_) (fun h2 => ?_)
  · have hf := fx_t h2 hf
    refine a_kill [0, 2] ?_
    exact kX12_isAsSeen_b54 C hQ hf
  · have hf := fx_f h2 hf
    refine a_iload_n C dX12_isAsSeen_12 rfl ?_
    refine a_if_eq C 46 dX12_isAsSeen_13 (by decide) (fun h3 => ?_) (fun h3 => ?_)
    · have hf := fx_t h3 hf
      refine a_kill [1] ?_
      exact kX12_isAsSeen_b46 C hQ hk4 hf
    · have hf := fx_f h3 hf
      refine a_aload_n C dX12_isAsSeen_16 rfl ?_
      refine a_get C eX12_isAsSeen_188 dX12_isAsSeen_17 0 rfl rfl ?_
      refine a_iload_n C dX12_isAsSeen_20 rfl ?_
      obtain ⟨r4, h4, hf⟩ := fx_bind hf
      refine a_fS C (kX12_has l D Y io_sights x2 r4 h4) gX12_isAsSeen_X12_has rfl dvX12_has ⟨⟨rfl, rfl⟩, ⟨Nat.le_of_ble_eq_true rfl, Nat.le_of_ble_eq_true rfl⟩, ⟨Nat.le_of_ble_eq_true rfl, Nat.le_of_ble_eq_true rfl⟩⟩ rfl (Nat.le_of_ble_eq_true rfl) dX12_isAsSeen_21 [] rfl rfl rfl (wn := [oX12 ao io_thrown io_rows io_cells io_children io_changes io_taped io_at io_to io_nest io_readMany io_codeLong io_readLong io_undos io_wentHome io_tideLevel io_acts io_firstBreaks io_bestCrew io_sights io_wayMany io_random, rI Y (ao 25) 12 co_sightOf, rI Y (ao 26) 12 co_built]) rfl ?_
      refine a_if_eq C 42 dX12_isAsSeen_24 (by decide) (fun h5 => ?_) (fun h5 => ?_)
      · have hf := fx_t h5 hf
        refine a_kill [1] ?_
        exact kX12_isAsSeen_b42 C hQ hk4 hf
      · have hf := fx_f h5 hf
        refine a_aload_n C dX12_isAsSeen_27 rfl ?_
        refine a_get C eX12_isAsSeen_90 dX12_isAsSeen_28 0 rfl rfl ?_
        refine a_iload_n C dX12_isAsSeen_31 rfl ?_
        obtain ⟨h6, hf⟩ := fx_ite hf
        refine a_iald C dX12_isAsSeen_32 2 rfl h6 ?_
        refine a_aload_n C dX12_isAsSeen_33 rfl ?_
        refine a_get C eX12_isAsSeen_87 dX12_isAsSeen_34 0 rfl rfl ?_
        refine a_iload_n C dX12_isAsSeen_37 rfl ?_
        refine a_iald C dX12_isAsSeen_38 1 rfl h6 ?_
        refine a_icmp_ne C 46 dX12_isAsSeen_39 (by decide) (fun h7 => ?_) (fun h7 => ?_)
        · have hf := fx_f h7 hf
          refine a_kill [1] ?_
          exact kX12_isAsSeen_b46 C hQ hk4 hf
        · have hf := fx_t h7 hf
          refine a_kill [1] ?_
          exact kX12_isAsSeen_b42 C hQ hk4 hf
set_option maxHeartbeats 4000000 in
set_option maxRecDepth 100000 in
theorem kX12_isAsSeen_b4 {X : cxT} {l : Launch} {D : va_G} {Y : Nat → ClassId} {ao : Nat → Nat} {io_thrown : Int32} {io_rows : Int32} {io_cells : Int32} {io_children : Int32} {io_changes : Int32} {io_taped : Int32} {io_at : Int32} {io_to : Int32} {io_nest : Int32} {io_readMany : Int32} {io_codeLong : Int32} {io_readLong : Int32} {io_undos : Int32} {io_wentHome : Int32} {io_tideLevel : Int32} {io_acts : Int32} {io_firstBreaks : Int32} {io_bestCrew : Int32} {io_sights : Int32} {io_wayMany : Int32} {io_random : Int32} {co_sightOf : Nat → Int32} {co_built : Nat → Int32} {x1 : Int32} {x2 : Int32} {res : Int32} (C : axC X l D Y cX12_isAsSeen 3 RX12 wsX12_isAsSeen rmX12_isAsSeen (some .boolean)) (hQ : axQ X 0 0 (fun r9 w9 => r9 = (some (.int res)) ∧ w9 = [oX12 ao io_thrown io_rows io_cells io_children io_changes io_taped io_at io_to io_nest io_readMany io_codeLong io_readLong io_undos io_wentHome io_tideLevel io_acts io_firstBreaks io_bestCrew io_sights io_wayMany io_random, rI Y (ao 25) 12 co_sightOf, rI Y (ao 26) 12 co_built])) (hf : fX12_isAsSeen_b4 io_cells io_sights co_sightOf co_built x1 x2 = some res) : ax X 0 0 4 [some (.ref (ao 0)), some (.int x1), some (.int x2)] [oX12 ao io_thrown io_rows io_cells io_children io_changes io_taped io_at io_to io_nest io_readMany io_codeLong io_readLong io_undos io_wentHome io_tideLevel io_acts io_firstBreaks io_bestCrew io_sights io_wayMany io_random, rI Y (ao 25) 12 co_sightOf, rI Y (ao 26) 12 co_built] [] := by
  unfold fX12_isAsSeen_b4 at hf
  exact fx_loop (P := fun s : Int32 × Int32 => ax X 0 0 4 [some (.ref (ao 0)), some (.int s.1), some (.int s.2)] [oX12 ao io_thrown io_rows io_cells io_children io_changes io_taped io_at io_to io_nest io_readMany io_codeLong io_readLong io_undos io_wentHome io_tideLevel io_acts io_firstBreaks io_bestCrew io_sights io_wayMany io_random, rI Y (ao 25) 12 co_sightOf, rI Y (ao 26) 12 co_built] []) (fun s k4 hk4 h => kX12_isAsSeen_l4 C hQ hk4 h) FUEL (x1, x2) hf
def fX12_isAsSeen (io_cells : Int32) (io_sights : Int32) (co_sightOf : Nat → Int32) (co_built : Nat → Int32) : Option (Int32) :=
  fX12_isAsSeen_b4 io_cells io_sights co_sightOf co_built (1 : Int32) (0 : Int32)
set_option maxHeartbeats 4000000 in
set_option maxRecDepth 100000 in
theorem kX12_isAsSeen (l : Launch) (D : va_G) (Y : Nat → ClassId) (ao : Nat → Nat) (io_thrown : Int32) (io_rows : Int32) (io_cells : Int32) (io_children : Int32) (io_changes : Int32) (io_taped : Int32) (io_at : Int32) (io_to : Int32) (io_nest : Int32) (io_readMany : Int32) (io_codeLong : Int32) (io_readLong : Int32) (io_undos : Int32) (io_wentHome : Int32) (io_tideLevel : Int32) (io_acts : Int32) (io_firstBreaks : Int32) (io_bestCrew : Int32) (io_sights : Int32) (io_wayMany : Int32) (io_random : Int32) (co_sightOf : Nat → Int32) (co_built : Nat → Int32) (res : Int32) (hf : fX12_isAsSeen io_cells io_sights co_sightOf co_built = some res) : amf l D Y yX12_isAsSeen wsX12_isAsSeen rmX12_isAsSeen [.ref (ao 0)] [oX12 ao io_thrown io_rows io_cells io_children io_changes io_taped io_at io_to io_nest io_readMany io_codeLong io_readLong io_undos io_wentHome io_tideLevel io_acts io_firstBreaks io_bestCrew io_sights io_wayMany io_random, rI Y (ao 25) 12 co_sightOf, rI Y (ao 26) 12 co_built] (some (.int res)) [oX12 ao io_thrown io_rows io_cells io_children io_changes io_taped io_at io_to io_nest io_readMany io_codeLong io_readLong io_undos io_wentHome io_tideLevel io_acts io_firstBreaks io_bestCrew io_sights io_wayMany io_random, rI Y (ao 25) 12 co_sightOf, rI Y (ao 26) 12 co_built] := by
  refine amf.of (cc := cX12_isAsSeen) (maxL := 3) (rt := (some .boolean)) (by decide) rfl RX12 rfl (Nat.le_of_ble_eq_true rfl) [some (.ref (ao 0)), none, none] rfl ?_
  intro X C hQ
  unfold fX12_isAsSeen at hf
  refine a_iconst C (1 : Int32) dX12_isAsSeen_0 (by decide) ?_
  refine a_istore_n C dX12_isAsSeen_1 (by decide) rfl ?_
  refine a_iconst C (0 : Int32) dX12_isAsSeen_2 (by decide) ?_
  refine a_istore_n C dX12_isAsSeen_3 (by decide) rfl ?_
  exact kX12_isAsSeen_b4 C hQ hf
-- X12_hasRun
abbrev rmX12_hasRun : Room := { frames := 1, cells := 0, slots := 0, locals := 21 }
theorem dvX12_hasRun : yX12_hasRun.cls ≠ "java/lang/invoke/MethodHandle" ∧ yX12_hasRun.cls ≠ "java/lang/invoke/VarHandle" ∧ (parseMethodDescriptor yX12_hasRun.desc).map (fun d => d.parameters.length) = some 3 := by decide +kernel
def fX12_hasRun_b54 (x4 : Int32) : Option (Int32) :=
  if x4 = 0 ∨ x4 = 1 then some x4 else none
set_option maxHeartbeats 4000000 in
set_option maxRecDepth 100000 in
theorem kX12_hasRun_b54 {X : cxT} {l : Launch} {D : va_G} {Y : Nat → ClassId} {x4 : Int32} {res : Int32} (C : axC X l D Y cX12_hasRun 6 RX12 wsX12_hasRun rmX12_hasRun (some .boolean)) (hQ : axQ X 0 0 (fun r9 w9 => r9 = (some (.int res)) ∧ w9 = [])) (hf : fX12_hasRun_b54 x4 = some res) : ax X 0 0 54 [none, none, none, none, some (.int x4), none] [] [] := by
  unfold fX12_hasRun_b54 at hf
  refine a_iload C dX12_hasRun_54 rfl ?_
  obtain ⟨h1, hf⟩ := fx_ite hf
  obtain rfl := fx_some hf
  exact a_zret C hQ h1 dX12_hasRun_56 ⟨rfl, rfl⟩
def fX12_hasRun_b46 (x0 : Int32) (x1 : Int32) (x2 : Int32) (x3 : Int32) (x5 : Int32) (s0 : Int32) (k8 : Int32 × Int32 × Int32 → Option (Int32)) : Option (Int32) :=
  k8 (x3, s0, (x5 + (1 : Int32)))
set_option maxHeartbeats 4000000 in
set_option maxRecDepth 100000 in
theorem kX12_hasRun_b46 {X : cxT} {l : Launch} {D : va_G} {Y : Nat → ClassId} {x0 : Int32} {x1 : Int32} {x2 : Int32} {x3 : Int32} {x5 : Int32} {s0 : Int32} {res : Int32} (C : axC X l D Y cX12_hasRun 6 RX12 wsX12_hasRun rmX12_hasRun (some .boolean)) (hQ : axQ X 0 0 (fun r9 w9 => r9 = (some (.int res)) ∧ w9 = [])) {k8 : Int32 × Int32 × Int32 → Option (Int32)} (hk8 : ∀ s : Int32 × Int32 × Int32, k8 s = some res → ax X 0 0 8 [some (.int x0), some (.int x1), some (.int x2), some (.int s.1), some (.int s.2.1), some (.int s.2.2)] [] []) (hf : fX12_hasRun_b46 x0 x1 x2 x3 x5 s0 k8 = some res) : ax X 0 0 46 [some (.int x0), some (.int x1), some (.int x2), some (.int x3), none, some (.int x5)] [] [.int s0] := by
  unfold fX12_hasRun_b46 at hf
  refine a_istore C dX12_hasRun_46 (by decide) rfl ?_
  refine a_iinc C (1 : Int32) dX12_hasRun_48 (by decide) rfl (by decide) rfl ?_
  refine a_goto C 8 dX12_hasRun_51 (by decide) ?_
  exact hk8 (x3, s0, (x5 + (1 : Int32))) hf
def fX12_hasRun_b41 (x0 : Int32) (x1 : Int32) (x2 : Int32) (x3 : Int32) (x5 : Int32) (k8 : Int32 × Int32 × Int32 → Option (Int32)) : Option (Int32) :=
  fX12_hasRun_b46 x0 x1 x2 x3 x5 (1 : Int32) k8
set_option maxHeartbeats 4000000 in
set_option maxRecDepth 100000 in
theorem kX12_hasRun_b41 {X : cxT} {l : Launch} {D : va_G} {Y : Nat → ClassId} {x0 : Int32} {x1 : Int32} {x2 : Int32} {x3 : Int32} {x5 : Int32} {res : Int32} (C : axC X l D Y cX12_hasRun 6 RX12 wsX12_hasRun rmX12_hasRun (some .boolean)) (hQ : axQ X 0 0 (fun r9 w9 => r9 = (some (.int res)) ∧ w9 = [])) {k8 : Int32 × Int32 × Int32 → Option (Int32)} (hk8 : ∀ s : Int32 × Int32 × Int32, k8 s = some res → ax X 0 0 8 [some (.int x0), some (.int x1), some (.int x2), some (.int s.1), some (.int s.2.1), some (.int s.2.2)] [] []) (hf : fX12_hasRun_b41 x0 x1 x2 x3 x5 k8 = some res) : ax X 0 0 41 [some (.int x0), some (.int x1), some (.int x2), some (.int x3), none, some (.int x5)] [] [] := by
  unfold fX12_hasRun_b41 at hf
  refine a_iconst C (1 : Int32) dX12_hasRun_41 (by decide) ?_
  refine a_goto C 46 dX12_hasRun_42 (by decide) ?_
  exact kX12_hasRun_b46 C hQ hk8 hf
def fX12_hasRun_b30 (x0 : Int32) (x1 : Int32) (x2 : Int32) (x4 : Int32) (x5 : Int32) (s0 : Int32) (k8 : Int32 × Int32 × Int32 → Option (Int32)) : Option (Int32) :=
  if x4 = (0 : Int32) then (if s0 < x2 then (fX12_hasRun_b46 x0 x1 x2 s0 x5 (0 : Int32) k8) else (fX12_hasRun_b41 x0 x1 x2 s0 x5 k8)) else (fX12_hasRun_b41 x0 x1 x2 s0 x5 k8)
set_option maxHeartbeats 4000000 in
set_option maxRecDepth 100000 in
theorem kX12_hasRun_b30 {X : cxT} {l : Launch} {D : va_G} {Y : Nat → ClassId} {x0 : Int32} {x1 : Int32} {x2 : Int32} {x4 : Int32} {x5 : Int32} {s0 : Int32} {res : Int32} (C : axC X l D Y cX12_hasRun 6 RX12 wsX12_hasRun rmX12_hasRun (some .boolean)) (hQ : axQ X 0 0 (fun r9 w9 => r9 = (some (.int res)) ∧ w9 = [])) {k8 : Int32 × Int32 × Int32 → Option (Int32)} (hk8 : ∀ s : Int32 × Int32 × Int32, k8 s = some res → ax X 0 0 8 [some (.int x0), some (.int x1), some (.int x2), some (.int s.1), some (.int s.2.1), some (.int s.2.2)] [] []) (hf : fX12_hasRun_b30 x0 x1 x2 x4 x5 s0 k8 = some res) : ax X 0 0 30 [some (.int x0), some (.int x1), some (.int x2), none, some (.int x4), some (.int x5)] [] [.int s0] := by
  unfold fX12_hasRun_b30 at hf
  refine a_istore_n C dX12_hasRun_30 (by decide) rfl ?_
  refine a_iload C dX12_hasRun_31 rfl ?_
  refine a_if_ne C 41 dX12_hasRun_33 (by decide) (fun h2 => ?_) (fun h2 => ?_)
  · have hf := fx_f h2 hf
    refine a_kill [4] ?_
    exact kX12_hasRun_b41 C hQ hk8 hf
  · have hf := fx_t h2 hf
    refine a_iload_n C dX12_hasRun_36 rfl ?_
    refine a_iload_n C dX12_hasRun_37 rfl ?_
    refine a_icmp_lt C 45 dX12_hasRun_38 (by decide) (fun h3 => ?_) (fun h3 => ?_)
    · have hf := fx_t h3 hf
      refine a_iconst C (0 : Int32) dX12_hasRun_45 (by decide) ?_
      refine a_kill [4] ?_
      exact kX12_hasRun_b46 C hQ hk8 hf
    · have hf := fx_f h3 hf
      refine a_kill [4] ?_
      exact kX12_hasRun_b41 C hQ hk8 hf
def fX12_hasRun_l8 (x0 : Int32) (x1 : Int32) (x2 : Int32) (k8 : Int32 × Int32 × Int32 → Option (Int32)) (x3 : Int32) (x4 : Int32) (x5 : Int32) : Option (Int32) :=
  if x1 ≤ x5 then (fX12_hasRun_b54 x4) else ((fX12_has x0 x5).bind (fun r5 => if r5 = (0 : Int32) then (fX12_hasRun_b30 x0 x1 x2 x4 x5 (0 : Int32) k8) else (fX12_hasRun_b30 x0 x1 x2 x4 x5 (x3 + (1 : Int32)) k8)))
def fX12_hasRun_b8 (x0 : Int32) (x1 : Int32) (x2 : Int32) (x3 : Int32) (x4 : Int32) (x5 : Int32) : Option (Int32) :=
  loopN (fun (s : Int32 × Int32 × Int32) k8 => fX12_hasRun_l8 x0 x1 x2 k8 s.1 s.2.1 s.2.2) FUEL (x3, x4, x5)
set_option maxHeartbeats 4000000 in
set_option maxRecDepth 100000 in
theorem kX12_hasRun_l8 {X : cxT} {l : Launch} {D : va_G} {Y : Nat → ClassId} {x0 : Int32} {x1 : Int32} {x2 : Int32} {x3 : Int32} {x4 : Int32} {x5 : Int32} {res : Int32} (C : axC X l D Y cX12_hasRun 6 RX12 wsX12_hasRun rmX12_hasRun (some .boolean)) (hQ : axQ X 0 0 (fun r9 w9 => r9 = (some (.int res)) ∧ w9 = [])) {k8 : Int32 × Int32 × Int32 → Option (Int32)} (hk8 : ∀ s : Int32 × Int32 × Int32, k8 s = some res → ax X 0 0 8 [some (.int x0), some (.int x1), some (.int x2), some (.int s.1), some (.int s.2.1), some (.int s.2.2)] [] []) (hf : fX12_hasRun_l8 x0 x1 x2 k8 x3 x4 x5 = some res) : ax X 0 0 8 [some (.int x0), some (.int x1), some (.int x2), some (.int x3), some (.int x4), some (.int x5)] [] [] := by
  unfold fX12_hasRun_l8 at hf
  refine a_iload C dX12_hasRun_8 rfl ?_
  refine a_iload_n C dX12_hasRun_10 rfl ?_
  refine a_icmp_ge C 54 dX12_hasRun_11 (by decide) (fun h4 => ?_) (fun h4 => ?_)
  · have hf := fx_t h4 hf
    refine a_kill [0, 1, 2, 3, 5] ?_
    exact kX12_hasRun_b54 C hQ hf
  · have hf := fx_f h4 hf
    refine a_iload_n C dX12_hasRun_14 rfl ?_
    refine a_iload C dX12_hasRun_15 rfl ?_
    obtain ⟨r5, h5, hf⟩ := fx_bind hf
    refine a_fS C (kX12_has l D Y x0 x5 r5 h5) gX12_hasRun_X12_has rfl dvX12_has ⟨⟨rfl, rfl⟩, ⟨Nat.le_of_ble_eq_true rfl, Nat.le_of_ble_eq_true rfl⟩, ⟨Nat.le_of_ble_eq_true rfl, Nat.le_of_ble_eq_true rfl⟩⟩ rfl (Nat.le_of_ble_eq_true rfl) dX12_hasRun_17 [] rfl rfl rfl (wn := []) rfl ?_
    refine a_if_eq C 29 dX12_hasRun_20 (by decide) (fun h6 => ?_) (fun h6 => ?_)
    · have hf := fx_t h6 hf
      refine a_iconst C (0 : Int32) dX12_hasRun_29 (by decide) ?_
      refine a_kill [3] ?_
      exact kX12_hasRun_b30 C hQ hk8 hf
    · have hf := fx_f h6 hf
      refine a_iload_n C dX12_hasRun_23 rfl ?_
      refine a_iconst C (1 : Int32) dX12_hasRun_24 (by decide) ?_
      refine a_iadd C dX12_hasRun_25 ?_
      refine a_goto C 30 dX12_hasRun_26 (by decide) ?_
      refine a_kill [3] ?_
      exact kX12_hasRun_b30 C hQ hk8 hf
set_option maxHeartbeats 4000000 in
set_option maxRecDepth 100000 in
theorem kX12_hasRun_b8 {X : cxT} {l : Launch} {D : va_G} {Y : Nat → ClassId} {x0 : Int32} {x1 : Int32} {x2 : Int32} {x3 : Int32} {x4 : Int32} {x5 : Int32} {res : Int32} (C : axC X l D Y cX12_hasRun 6 RX12 wsX12_hasRun rmX12_hasRun (some .boolean)) (hQ : axQ X 0 0 (fun r9 w9 => r9 = (some (.int res)) ∧ w9 = [])) (hf : fX12_hasRun_b8 x0 x1 x2 x3 x4 x5 = some res) : ax X 0 0 8 [some (.int x0), some (.int x1), some (.int x2), some (.int x3), some (.int x4), some (.int x5)] [] [] := by
  unfold fX12_hasRun_b8 at hf
  exact fx_loop (P := fun s : Int32 × Int32 × Int32 => ax X 0 0 8 [some (.int x0), some (.int x1), some (.int x2), some (.int s.1), some (.int s.2.1), some (.int s.2.2)] [] []) (fun s k8 hk8 h => kX12_hasRun_l8 C hQ hk8 h) FUEL (x3, x4, x5) hf
def fX12_hasRun (x0 : Int32) (x1 : Int32) (x2 : Int32) : Option (Int32) :=
  fX12_hasRun_b8 x0 x1 x2 (0 : Int32) (0 : Int32) (0 : Int32)
set_option maxHeartbeats 4000000 in
set_option maxRecDepth 100000 in
theorem kX12_hasRun (l : Launch) (D : va_G) (Y : Nat → ClassId) (x0 : Int32) (x1 : Int32) (x2 : Int32) (res : Int32) (hf : fX12_hasRun x0 x1 x2 = some res) : amf l D Y yX12_hasRun wsX12_hasRun rmX12_hasRun [.int x0, .int x1, .int x2] [] (some (.int res)) [] := by
  refine amf.of (cc := cX12_hasRun) (maxL := 6) (rt := (some .boolean)) (by decide) rfl RX12 rfl (Nat.le_of_ble_eq_true rfl) [some (.int x0), some (.int x1), some (.int x2), none, none, none] rfl ?_
  intro X C hQ
  unfold fX12_hasRun at hf
  refine a_iconst C (0 : Int32) dX12_hasRun_0 (by decide) ?_
  refine a_istore_n C dX12_hasRun_1 (by decide) rfl ?_
  refine a_iconst C (0 : Int32) dX12_hasRun_2 (by decide) ?_
  refine a_istore C dX12_hasRun_3 (by decide) rfl ?_
  refine a_iconst C (0 : Int32) dX12_hasRun_5 (by decide) ?_
  refine a_istore C dX12_hasRun_6 (by decide) rfl ?_
  exact kX12_hasRun_b8 C hQ hf
-- X12_earns
abbrev rmX12_earns : Room := { frames := 0, cells := 0, slots := 0, locals := 0 }
theorem dvX12_earns : yX12_earns.cls ≠ "java/lang/invoke/MethodHandle" ∧ yX12_earns.cls ≠ "java/lang/invoke/VarHandle" ∧ (parseMethodDescriptor yX12_earns.desc).map (fun d => d.parameters.length) = some 4 := by decide +kernel
def fX12_earns_b21 (s0 : Int32) : Option (Int32) :=
  some s0
set_option maxHeartbeats 4000000 in
set_option maxRecDepth 100000 in
theorem kX12_earns_b21 {X : cxT} {l : Launch} {D : va_G} {Y : Nat → ClassId} {s0 : Int32} {res : Int32} (C : axC X l D Y cX12_earns 4 RX12 wsX12_earns rmX12_earns (some .int)) (hQ : axQ X 0 0 (fun r9 w9 => r9 = (some (.int res)) ∧ w9 = [])) (hf : fX12_earns_b21 s0 = some res) : ax X 0 0 21 [none, none, none, none] [] [.int s0] := by
  unfold fX12_earns_b21 at hf
  obtain rfl := fx_some hf
  exact a_iret C hQ dX12_earns_21 ⟨rfl, rfl⟩
def fX12_earns (x0 : Int32) (x1 : Int32) (x2 : Int32) (x3 : Int32) : Option (Int32) :=
  if (x0 + x1) = (0 : Int32) then (fX12_earns_b21 (0 : Int32)) else (if ¬ (x0 + x1) = 0 then fX12_earns_b21 (((x2 * x0) / (x0 + x1)) - (x3 * x0)) else none)
set_option maxHeartbeats 4000000 in
set_option maxRecDepth 100000 in
theorem kX12_earns (l : Launch) (D : va_G) (Y : Nat → ClassId) (x0 : Int32) (x1 : Int32) (x2 : Int32) (x3 : Int32) (res : Int32) (hf : fX12_earns x0 x1 x2 x3 = some res) : amf l D Y yX12_earns wsX12_earns rmX12_earns [.int x0, .int x1, .int x2, .int x3] [] (some (.int res)) [] := by
  refine amf.of (cc := cX12_earns) (maxL := 4) (rt := (some .int)) (by decide) rfl RX12 rfl (Nat.le_of_ble_eq_true rfl) [some (.int x0), some (.int x1), some (.int x2), some (.int x3)] rfl ?_
  intro X C hQ
  unfold fX12_earns at hf
  refine a_iload_n C dX12_earns_0 rfl ?_
  refine a_iload_n C dX12_earns_1 rfl ?_
  refine a_iadd C dX12_earns_2 ?_
  refine a_if_ne C 10 dX12_earns_3 (by decide) (fun h1 => ?_) (fun h1 => ?_)
  · have hf := fx_f h1 hf
    refine a_iload_n C dX12_earns_10 rfl ?_
    refine a_iload_n C dX12_earns_11 rfl ?_
    refine a_imul C dX12_earns_12 ?_
    refine a_iload_n C dX12_earns_13 rfl ?_
    refine a_iload_n C dX12_earns_14 rfl ?_
    refine a_iadd C dX12_earns_15 ?_
    obtain ⟨h2, hf⟩ := fx_ite hf
    refine a_idiv C dX12_earns_16 h2 ?_
    refine a_iload_n C dX12_earns_17 rfl ?_
    refine a_iload_n C dX12_earns_18 rfl ?_
    refine a_imul C dX12_earns_19 ?_
    refine a_isub C dX12_earns_20 ?_
    refine a_kill [0, 1, 2, 3] ?_
    exact kX12_earns_b21 C hQ hf
  · have hf := fx_t h1 hf
    refine a_iconst C (0 : Int32) dX12_earns_6 (by decide) ?_
    refine a_goto C 21 dX12_earns_7 (by decide) ?_
    refine a_kill [0, 1, 2, 3] ?_
    exact kX12_earns_b21 C hQ hf
-- X12_isRest
abbrev rmX12_isRest : Room := { frames := 1, cells := 0, slots := 0, locals := 23 }
theorem dvX12_isRest : yX12_isRest.cls ≠ "java/lang/invoke/MethodHandle" ∧ yX12_isRest.cls ≠ "java/lang/invoke/VarHandle" ∧ (parseMethodDescriptor yX12_isRest.desc).map (fun d => d.parameters.length) = some 4 := by decide +kernel
def fX12_isRest_b49 (x4 : Int32) : Option (Int32) :=
  if x4 = 0 ∨ x4 = 1 then some x4 else none
set_option maxHeartbeats 4000000 in
set_option maxRecDepth 100000 in
theorem kX12_isRest_b49 {X : cxT} {l : Launch} {D : va_G} {Y : Nat → ClassId} {x4 : Int32} {res : Int32} (C : axC X l D Y cX12_isRest 6 RX12 wsX12_isRest rmX12_isRest (some .boolean)) (hQ : axQ X 0 0 (fun r9 w9 => r9 = (some (.int res)) ∧ w9 = [])) (hf : fX12_isRest_b49 x4 = some res) : ax X 0 0 49 [none, none, none, none, some (.int x4), none] [] [] := by
  unfold fX12_isRest_b49 at hf
  refine a_iload C dX12_isRest_49 rfl ?_
  obtain ⟨h1, hf⟩ := fx_ite hf
  obtain rfl := fx_some hf
  exact a_zret C hQ h1 dX12_isRest_51 ⟨rfl, rfl⟩
def fX12_isRest_b41 (x0 : Int32) (x1 : Int32) (x2 : Int32) (x3 : Int32) (x5 : Int32) (s0 : Int32) (k6 : Int32 × Int32 → Option (Int32)) : Option (Int32) :=
  k6 (s0, (x5 + (1 : Int32)))
set_option maxHeartbeats 4000000 in
set_option maxRecDepth 100000 in
theorem kX12_isRest_b41 {X : cxT} {l : Launch} {D : va_G} {Y : Nat → ClassId} {x0 : Int32} {x1 : Int32} {x2 : Int32} {x3 : Int32} {x5 : Int32} {s0 : Int32} {res : Int32} (C : axC X l D Y cX12_isRest 6 RX12 wsX12_isRest rmX12_isRest (some .boolean)) (hQ : axQ X 0 0 (fun r9 w9 => r9 = (some (.int res)) ∧ w9 = [])) {k6 : Int32 × Int32 → Option (Int32)} (hk6 : ∀ s : Int32 × Int32, k6 s = some res → ax X 0 0 6 [some (.int x0), some (.int x1), some (.int x2), some (.int x3), some (.int s.1), some (.int s.2)] [] []) (hf : fX12_isRest_b41 x0 x1 x2 x3 x5 s0 k6 = some res) : ax X 0 0 41 [some (.int x0), some (.int x1), some (.int x2), some (.int x3), none, some (.int x5)] [] [.int s0] := by
  unfold fX12_isRest_b41 at hf
  refine a_istore C dX12_isRest_41 (by decide) rfl ?_
  refine a_iinc C (1 : Int32) dX12_isRest_43 (by decide) rfl (by decide) rfl ?_
  refine a_goto C 6 dX12_isRest_46 (by decide) ?_
  exact hk6 (s0, (x5 + (1 : Int32))) hf
def fX12_isRest_b40 (x0 : Int32) (x1 : Int32) (x2 : Int32) (x3 : Int32) (x5 : Int32) (k6 : Int32 × Int32 → Option (Int32)) : Option (Int32) :=
  fX12_isRest_b41 x0 x1 x2 x3 x5 (0 : Int32) k6
set_option maxHeartbeats 4000000 in
set_option maxRecDepth 100000 in
theorem kX12_isRest_b40 {X : cxT} {l : Launch} {D : va_G} {Y : Nat → ClassId} {x0 : Int32} {x1 : Int32} {x2 : Int32} {x3 : Int32} {x5 : Int32} {res : Int32} (C : axC X l D Y cX12_isRest 6 RX12 wsX12_isRest rmX12_isRest (some .boolean)) (hQ : axQ X 0 0 (fun r9 w9 => r9 = (some (.int res)) ∧ w9 = [])) {k6 : Int32 × Int32 → Option (Int32)} (hk6 : ∀ s : Int32 × Int32, k6 s = some res → ax X 0 0 6 [some (.int x0), some (.int x1), some (.int x2), some (.int x3), some (.int s.1), some (.int s.2)] [] []) (hf : fX12_isRest_b40 x0 x1 x2 x3 x5 k6 = some res) : ax X 0 0 40 [some (.int x0), some (.int x1), some (.int x2), some (.int x3), none, some (.int x5)] [] [] := by
  unfold fX12_isRest_b40 at hf
  refine a_iconst C (0 : Int32) dX12_isRest_40 (by decide) ?_
  exact kX12_isRest_b41 C hQ hk6 hf
def fX12_isRest_l6 (x0 : Int32) (x1 : Int32) (x2 : Int32) (x3 : Int32) (k6 : Int32 × Int32 → Option (Int32)) (x4 : Int32) (x5 : Int32) : Option (Int32) :=
  if (9 : Int32) < x5 then (fX12_isRest_b49 x4) else (if x4 = (0 : Int32) then (fX12_isRest_b40 x0 x1 x2 x3 x5 k6) else ((fX12_earns x5 x1 x2 x3).bind (fun r4 => (fX12_earns x0 x1 x2 x3).bind (fun r5 => if r5 < r4 then (fX12_isRest_b40 x0 x1 x2 x3 x5 k6) else (fX12_isRest_b41 x0 x1 x2 x3 x5 (1 : Int32) k6)))))
def fX12_isRest_b6 (x0 : Int32) (x1 : Int32) (x2 : Int32) (x3 : Int32) (x4 : Int32) (x5 : Int32) : Option (Int32) :=
  loopN (fun (s : Int32 × Int32) k6 => fX12_isRest_l6 x0 x1 x2 x3 k6 s.1 s.2) FUEL (x4, x5)
set_option maxHeartbeats 4000000 in
set_option maxRecDepth 100000 in
theorem kX12_isRest_l6 {X : cxT} {l : Launch} {D : va_G} {Y : Nat → ClassId} {x0 : Int32} {x1 : Int32} {x2 : Int32} {x3 : Int32} {x4 : Int32} {x5 : Int32} {res : Int32} (C : axC X l D Y cX12_isRest 6 RX12 wsX12_isRest rmX12_isRest (some .boolean)) (hQ : axQ X 0 0 (fun r9 w9 => r9 = (some (.int res)) ∧ w9 = [])) {k6 : Int32 × Int32 → Option (Int32)} (hk6 : ∀ s : Int32 × Int32, k6 s = some res → ax X 0 0 6 [some (.int x0), some (.int x1), some (.int x2), some (.int x3), some (.int s.1), some (.int s.2)] [] []) (hf : fX12_isRest_l6 x0 x1 x2 x3 k6 x4 x5 = some res) : ax X 0 0 6 [some (.int x0), some (.int x1), some (.int x2), some (.int x3), some (.int x4), some (.int x5)] [] [] := by
  unfold fX12_isRest_l6 at hf
  refine a_iload C dX12_isRest_6 rfl ?_
  refine a_bipush C (9 : Int32) dX12_isRest_8 (by decide) ?_
  refine a_icmp_gt C 49 dX12_isRest_10 (by decide) (fun h2 => ?_) (fun h2 => ?_)
  · have hf := fx_t h2 hf
    refine a_kill [0, 1, 2, 3, 5] ?_
    exact kX12_isRest_b49 C hQ hf
  · have hf := fx_f h2 hf
    refine a_iload C dX12_isRest_13 rfl ?_
    refine a_if_eq C 40 dX12_isRest_15 (by decide) (fun h3 => ?_) (fun h3 => ?_)
    · have hf := fx_t h3 hf
      refine a_kill [4] ?_
      exact kX12_isRest_b40 C hQ hk6 hf
    · have hf := fx_f h3 hf
      refine a_iload C dX12_isRest_18 rfl ?_
      refine a_iload_n C dX12_isRest_20 rfl ?_
      refine a_iload_n C dX12_isRest_21 rfl ?_
      refine a_iload_n C dX12_isRest_22 rfl ?_
      obtain ⟨r4, h4, hf⟩ := fx_bind hf
      refine a_fS C (kX12_earns l D Y x5 x1 x2 x3 r4 h4) gX12_isRest_X12_earns rfl dvX12_earns ⟨⟨rfl, rfl⟩, ⟨Nat.le_of_ble_eq_true rfl, Nat.le_of_ble_eq_true rfl⟩, ⟨Nat.le_of_ble_eq_true rfl, Nat.le_of_ble_eq_true rfl⟩⟩ rfl (Nat.le_of_ble_eq_true rfl) dX12_isRest_23 [] rfl rfl rfl (wn := []) rfl ?_
      refine a_iload_n C dX12_isRest_26 rfl ?_
      refine a_iload_n C dX12_isRest_27 rfl ?_
      refine a_iload_n C dX12_isRest_28 rfl ?_
      refine a_iload_n C dX12_isRest_29 rfl ?_
      obtain ⟨r5, h5, hf⟩ := fx_bind hf
      refine a_fS C (kX12_earns l D Y x0 x1 x2 x3 r5 h5) gX12_isRest_X12_earns rfl dvX12_earns ⟨⟨rfl, rfl⟩, ⟨Nat.le_of_ble_eq_true rfl, Nat.le_of_ble_eq_true rfl⟩, ⟨Nat.le_of_ble_eq_true rfl, Nat.le_of_ble_eq_true rfl⟩⟩ rfl (Nat.le_of_ble_eq_true rfl) dX12_isRest_30 [] rfl rfl rfl (wn := []) rfl ?_
      refine a_icmp_gt C 40 dX12_isRest_33 (by decide) (fun h6 => ?_) (fun h6 => ?_)
      · have hf := fx_t h6 hf
        refine a_kill [4] ?_
        exact kX12_isRest_b40 C hQ hk6 hf
      · have hf := fx_f h6 hf
        refine a_iconst C (1 : Int32) dX12_isRest_36 (by decide) ?_
        refine a_goto C 41 dX12_isRest_37 (by decide) ?_
        refine a_kill [4] ?_
        exact kX12_isRest_b41 C hQ hk6 hf
set_option maxHeartbeats 4000000 in
set_option maxRecDepth 100000 in
theorem kX12_isRest_b6 {X : cxT} {l : Launch} {D : va_G} {Y : Nat → ClassId} {x0 : Int32} {x1 : Int32} {x2 : Int32} {x3 : Int32} {x4 : Int32} {x5 : Int32} {res : Int32} (C : axC X l D Y cX12_isRest 6 RX12 wsX12_isRest rmX12_isRest (some .boolean)) (hQ : axQ X 0 0 (fun r9 w9 => r9 = (some (.int res)) ∧ w9 = [])) (hf : fX12_isRest_b6 x0 x1 x2 x3 x4 x5 = some res) : ax X 0 0 6 [some (.int x0), some (.int x1), some (.int x2), some (.int x3), some (.int x4), some (.int x5)] [] [] := by
  unfold fX12_isRest_b6 at hf
  exact fx_loop (P := fun s : Int32 × Int32 => ax X 0 0 6 [some (.int x0), some (.int x1), some (.int x2), some (.int x3), some (.int s.1), some (.int s.2)] [] []) (fun s k6 hk6 h => kX12_isRest_l6 C hQ hk6 h) FUEL (x4, x5) hf
def fX12_isRest (x0 : Int32) (x1 : Int32) (x2 : Int32) (x3 : Int32) : Option (Int32) :=
  fX12_isRest_b6 x0 x1 x2 x3 (1 : Int32) (0 : Int32)
set_option maxHeartbeats 4000000 in
set_option maxRecDepth 100000 in
theorem kX12_isRest (l : Launch) (D : va_G) (Y : Nat → ClassId) (x0 : Int32) (x1 : Int32) (x2 : Int32) (x3 : Int32) (res : Int32) (hf : fX12_isRest x0 x1 x2 x3 = some res) : amf l D Y yX12_isRest wsX12_isRest rmX12_isRest [.int x0, .int x1, .int x2, .int x3] [] (some (.int res)) [] := by
  refine amf.of (cc := cX12_isRest) (maxL := 6) (rt := (some .boolean)) (by decide) rfl RX12 rfl (Nat.le_of_ble_eq_true rfl) [some (.int x0), some (.int x1), some (.int x2), some (.int x3), none, none] rfl ?_
  intro X C hQ
  unfold fX12_isRest at hf
  refine a_iconst C (1 : Int32) dX12_isRest_0 (by decide) ?_
  refine a_istore C dX12_isRest_1 (by decide) rfl ?_
  refine a_iconst C (0 : Int32) dX12_isRest_3 (by decide) ?_
  refine a_istore C dX12_isRest_4 (by decide) rfl ?_
  exact kX12_isRest_b6 C hQ hf
-- X12_rests
abbrev rmX12_rests : Room := { frames := 2, cells := 0, slots := 0, locals := 48 }
theorem dvX12_rests : yX12_rests.cls = RX12 ∧ yX12_rests.cls ≠ "java/lang/invoke/MethodHandle" ∧ yX12_rests.cls ≠ "java/lang/invoke/VarHandle" ∧ (parseMethodDescriptor yX12_rests.desc).map (fun d => d.parameters.length) = some 2 := by decide +kernel
theorem eX12_rests_inX12 : ∀ w ∈ wsX120, w ∈ wsX12_rests := by decide +kernel
theorem eX12_rests_112 : aF wsX12_rests RX12 112 12 0 := ⟨RX12, TX12, 53, rfl, eX12_rests_inX12, by decide, by decide +kernel⟩
theorem eX12_rests_k369 : Cond.constantLong RX12 369 (99 : Int64) ∈ wsX12_rests := by decide +kernel
theorem eX12_rests_k302 : Cond.constantLong RX12 302 (9 : Int64) ∈ wsX12_rests := by decide +kernel
theorem eX12_rests_119 : aF wsX12_rests RX12 119 12 1 := ⟨RX12, TX12, 53, rfl, eX12_rests_inX12, by decide, by decide +kernel⟩
def fX12_rests_b29 (io_thrown : Int32) (io_rows : Int32) (co_row : Nat → Int64) : Option (Int32 × Int32 × Int32 × (Nat → Int64)) :=
  some ((-1 : Int32), io_thrown, io_rows, co_row)
set_option maxHeartbeats 4000000 in
set_option maxRecDepth 100000 in
theorem kX12_rests_b29 {X : cxT} {l : Launch} {D : va_G} {Y : Nat → ClassId} {ao : Nat → Nat} {io_thrown : Int32} {io_rows : Int32} {io_cells : Int32} {io_children : Int32} {io_changes : Int32} {io_taped : Int32} {io_at : Int32} {io_to : Int32} {io_nest : Int32} {io_readMany : Int32} {io_codeLong : Int32} {io_readLong : Int32} {io_undos : Int32} {io_wentHome : Int32} {io_tideLevel : Int32} {io_acts : Int32} {io_firstBreaks : Int32} {io_bestCrew : Int32} {io_sights : Int32} {io_wayMany : Int32} {io_random : Int32} {co_row : Nat → Int64} {res : Int32 × Int32 × Int32 × (Nat → Int64)} (C : axC X l D Y cX12_rests 6 RX12 wsX12_rests rmX12_rests (some .int)) (hQ : axQ X 0 0 (fun r9 w9 => r9 = (some (.int res.1)) ∧ w9 = [oX12 ao res.2.1 res.2.2.1 io_cells io_children io_changes io_taped io_at io_to io_nest io_readMany io_codeLong io_readLong io_undos io_wentHome io_tideLevel io_acts io_firstBreaks io_bestCrew io_sights io_wayMany io_random, rJ Y (ao 1) 24 res.2.2.2])) (hf : fX12_rests_b29 io_thrown io_rows co_row = some res) : ax X 0 0 29 [none, none, none, none, none, none] [oX12 ao io_thrown io_rows io_cells io_children io_changes io_taped io_at io_to io_nest io_readMany io_codeLong io_readLong io_undos io_wentHome io_tideLevel io_acts io_firstBreaks io_bestCrew io_sights io_wayMany io_random, rJ Y (ao 1) 24 co_row] [] := by
  unfold fX12_rests_b29 at hf
  refine a_iconst C (-1 : Int32) dX12_rests_29 (by decide) ?_
  obtain rfl := fx_some hf
  exact a_iret C hQ dX12_rests_30 ⟨rfl, rfl⟩
def fX12_rests_b115 (io_thrown : Int32) (io_rows : Int32) (co_row : Nat → Int64) (x3 : Int32) : Option (Int32 × Int32 × Int32 × (Nat → Int64)) :=
  some (x3, io_thrown, io_rows, co_row)
set_option maxHeartbeats 4000000 in
set_option maxRecDepth 100000 in
theorem kX12_rests_b115 {X : cxT} {l : Launch} {D : va_G} {Y : Nat → ClassId} {ao : Nat → Nat} {io_thrown : Int32} {io_rows : Int32} {io_cells : Int32} {io_children : Int32} {io_changes : Int32} {io_taped : Int32} {io_at : Int32} {io_to : Int32} {io_nest : Int32} {io_readMany : Int32} {io_codeLong : Int32} {io_readLong : Int32} {io_undos : Int32} {io_wentHome : Int32} {io_tideLevel : Int32} {io_acts : Int32} {io_firstBreaks : Int32} {io_bestCrew : Int32} {io_sights : Int32} {io_wayMany : Int32} {io_random : Int32} {co_row : Nat → Int64} {x3 : Int32} {res : Int32 × Int32 × Int32 × (Nat → Int64)} (C : axC X l D Y cX12_rests 6 RX12 wsX12_rests rmX12_rests (some .int)) (hQ : axQ X 0 0 (fun r9 w9 => r9 = (some (.int res.1)) ∧ w9 = [oX12 ao res.2.1 res.2.2.1 io_cells io_children io_changes io_taped io_at io_to io_nest io_readMany io_codeLong io_readLong io_undos io_wentHome io_tideLevel io_acts io_firstBreaks io_bestCrew io_sights io_wayMany io_random, rJ Y (ao 1) 24 res.2.2.2])) (hf : fX12_rests_b115 io_thrown io_rows co_row x3 = some res) : ax X 0 0 115 [none, none, none, some (.int x3), none, none] [oX12 ao io_thrown io_rows io_cells io_children io_changes io_taped io_at io_to io_nest io_readMany io_codeLong io_readLong io_undos io_wentHome io_tideLevel io_acts io_firstBreaks io_bestCrew io_sights io_wayMany io_random, rJ Y (ao 1) 24 co_row] [] := by
  unfold fX12_rests_b115 at hf
  refine a_iload_n C dX12_rests_115 rfl ?_
  obtain rfl := fx_some hf
  exact a_iret C hQ dX12_rests_116 ⟨rfl, rfl⟩
def fX12_rests_b109 (io_thrown : Int32) (io_rows : Int32) (co_row : Nat → Int64) (x1 : Int32) (x2 : Int32) (x3 : Int32) (x4 : Int32) (k41 : Int32 × (Nat → Int64) × Int32 × Int32 → Option (Int32 × Int32 × Int32 × (Nat → Int64))) : Option (Int32 × Int32 × Int32 × (Nat → Int64)) :=
  k41 (io_rows, co_row, x3, (x4 + (1 : Int32)))
set_option maxHeartbeats 4000000 in
set_option maxRecDepth 100000 in
theorem kX12_rests_b109 {X : cxT} {l : Launch} {D : va_G} {Y : Nat → ClassId} {ao : Nat → Nat} {io_thrown : Int32} {io_rows : Int32} {io_cells : Int32} {io_children : Int32} {io_changes : Int32} {io_taped : Int32} {io_at : Int32} {io_to : Int32} {io_nest : Int32} {io_readMany : Int32} {io_codeLong : Int32} {io_readLong : Int32} {io_undos : Int32} {io_wentHome : Int32} {io_tideLevel : Int32} {io_acts : Int32} {io_firstBreaks : Int32} {io_bestCrew : Int32} {io_sights : Int32} {io_wayMany : Int32} {io_random : Int32} {co_row : Nat → Int64} {x1 : Int32} {x2 : Int32} {x3 : Int32} {x4 : Int32} {res : Int32 × Int32 × Int32 × (Nat → Int64)} (C : axC X l D Y cX12_rests 6 RX12 wsX12_rests rmX12_rests (some .int)) (hQ : axQ X 0 0 (fun r9 w9 => r9 = (some (.int res.1)) ∧ w9 = [oX12 ao res.2.1 res.2.2.1 io_cells io_children io_changes io_taped io_at io_to io_nest io_readMany io_codeLong io_readLong io_undos io_wentHome io_tideLevel io_acts io_firstBreaks io_bestCrew io_sights io_wayMany io_random, rJ Y (ao 1) 24 res.2.2.2])) {k41 : Int32 × (Nat → Int64) × Int32 × Int32 → Option (Int32 × Int32 × Int32 × (Nat → Int64))} (hk41 : ∀ s : Int32 × (Nat → Int64) × Int32 × Int32, k41 s = some res → ax X 0 0 41 [some (.ref (ao 0)), some (.int x1), some (.int x2), some (.int s.2.2.1), some (.int s.2.2.2), none] [oX12 ao io_thrown s.1 io_cells io_children io_changes io_taped io_at io_to io_nest io_readMany io_codeLong io_readLong io_undos io_wentHome io_tideLevel io_acts io_firstBreaks io_bestCrew io_sights io_wayMany io_random, rJ Y (ao 1) 24 s.2.1] []) (hf : fX12_rests_b109 io_thrown io_rows co_row x1 x2 x3 x4 k41 = some res) : ax X 0 0 109 [some (.ref (ao 0)), some (.int x1), some (.int x2), some (.int x3), some (.int x4), none] [oX12 ao io_thrown io_rows io_cells io_children io_changes io_taped io_at io_to io_nest io_readMany io_codeLong io_readLong io_undos io_wentHome io_tideLevel io_acts io_firstBreaks io_bestCrew io_sights io_wayMany io_random, rJ Y (ao 1) 24 co_row] [] := by
  unfold fX12_rests_b109 at hf
  refine a_iinc C (1 : Int32) dX12_rests_109 (by decide) rfl (by decide) rfl ?_
  refine a_goto C 41 dX12_rests_112 (by decide) ?_
  exact hk41 (io_rows, co_row, x3, (x4 + (1 : Int32))) hf
def fX12_rests_b103 (io_thrown : Int32) (io_rows : Int32) (co_row : Nat → Int64) (x1 : Int32) (x2 : Int32) (x3 : Int32) (x4 : Int32) (x5 : Int32) (k41 : Int32 × (Nat → Int64) × Int32 × Int32 → Option (Int32 × Int32 × Int32 × (Nat → Int64))) (k51 : Int32 × (Nat → Int64) × Int32 × Int32 → Option (Int32 × Int32 × Int32 × (Nat → Int64))) : Option (Int32 × Int32 × Int32 × (Nat → Int64)) :=
  k51 (io_rows, co_row, x3, (x5 + (1 : Int32)))
set_option maxHeartbeats 4000000 in
set_option maxRecDepth 100000 in
theorem kX12_rests_b103 {X : cxT} {l : Launch} {D : va_G} {Y : Nat → ClassId} {ao : Nat → Nat} {io_thrown : Int32} {io_rows : Int32} {io_cells : Int32} {io_children : Int32} {io_changes : Int32} {io_taped : Int32} {io_at : Int32} {io_to : Int32} {io_nest : Int32} {io_readMany : Int32} {io_codeLong : Int32} {io_readLong : Int32} {io_undos : Int32} {io_wentHome : Int32} {io_tideLevel : Int32} {io_acts : Int32} {io_firstBreaks : Int32} {io_bestCrew : Int32} {io_sights : Int32} {io_wayMany : Int32} {io_random : Int32} {co_row : Nat → Int64} {x1 : Int32} {x2 : Int32} {x3 : Int32} {x4 : Int32} {x5 : Int32} {res : Int32 × Int32 × Int32 × (Nat → Int64)} (C : axC X l D Y cX12_rests 6 RX12 wsX12_rests rmX12_rests (some .int)) (hQ : axQ X 0 0 (fun r9 w9 => r9 = (some (.int res.1)) ∧ w9 = [oX12 ao res.2.1 res.2.2.1 io_cells io_children io_changes io_taped io_at io_to io_nest io_readMany io_codeLong io_readLong io_undos io_wentHome io_tideLevel io_acts io_firstBreaks io_bestCrew io_sights io_wayMany io_random, rJ Y (ao 1) 24 res.2.2.2])) {k41 : Int32 × (Nat → Int64) × Int32 × Int32 → Option (Int32 × Int32 × Int32 × (Nat → Int64))} (hk41 : ∀ s : Int32 × (Nat → Int64) × Int32 × Int32, k41 s = some res → ax X 0 0 41 [some (.ref (ao 0)), some (.int x1), some (.int x2), some (.int s.2.2.1), some (.int s.2.2.2), none] [oX12 ao io_thrown s.1 io_cells io_children io_changes io_taped io_at io_to io_nest io_readMany io_codeLong io_readLong io_undos io_wentHome io_tideLevel io_acts io_firstBreaks io_bestCrew io_sights io_wayMany io_random, rJ Y (ao 1) 24 s.2.1] []) {k51 : Int32 × (Nat → Int64) × Int32 × Int32 → Option (Int32 × Int32 × Int32 × (Nat → Int64))} (hk51 : ∀ s : Int32 × (Nat → Int64) × Int32 × Int32, k51 s = some res → ax X 0 0 51 [some (.ref (ao 0)), some (.int x1), some (.int x2), some (.int s.2.2.1), some (.int x4), some (.int s.2.2.2)] [oX12 ao io_thrown s.1 io_cells io_children io_changes io_taped io_at io_to io_nest io_readMany io_codeLong io_readLong io_undos io_wentHome io_tideLevel io_acts io_firstBreaks io_bestCrew io_sights io_wayMany io_random, rJ Y (ao 1) 24 s.2.1] []) (hf : fX12_rests_b103 io_thrown io_rows co_row x1 x2 x3 x4 x5 k41 k51 = some res) : ax X 0 0 103 [some (.ref (ao 0)), some (.int x1), some (.int x2), some (.int x3), some (.int x4), some (.int x5)] [oX12 ao io_thrown io_rows io_cells io_children io_changes io_taped io_at io_to io_nest io_readMany io_codeLong io_readLong io_undos io_wentHome io_tideLevel io_acts io_firstBreaks io_bestCrew io_sights io_wayMany io_random, rJ Y (ao 1) 24 co_row] [] := by
  unfold fX12_rests_b103 at hf
  refine a_iinc C (1 : Int32) dX12_rests_103 (by decide) rfl (by decide) rfl ?_
  refine a_goto C 51 dX12_rests_106 (by decide) ?_
  exact hk51 (io_rows, co_row, x3, (x5 + (1 : Int32))) hf
def fX12_rests_b100 (io_thrown : Int32) (io_rows : Int32) (co_row : Nat → Int64) (x1 : Int32) (x2 : Int32) (x3 : Int32) (x4 : Int32) (x5 : Int32) (k41 : Int32 × (Nat → Int64) × Int32 × Int32 → Option (Int32 × Int32 × Int32 × (Nat → Int64))) (k51 : Int32 × (Nat → Int64) × Int32 × Int32 → Option (Int32 × Int32 × Int32 × (Nat → Int64))) : Option (Int32 × Int32 × Int32 × (Nat → Int64)) :=
  fX12_rests_b103 io_thrown io_rows co_row x1 x2 (x3 + (1 : Int32)) x4 x5 k41 k51
set_option maxHeartbeats 4000000 in
set_option maxRecDepth 100000 in
theorem kX12_rests_b100 {X : cxT} {l : Launch} {D : va_G} {Y : Nat → ClassId} {ao : Nat → Nat} {io_thrown : Int32} {io_rows : Int32} {io_cells : Int32} {io_children : Int32} {io_changes : Int32} {io_taped : Int32} {io_at : Int32} {io_to : Int32} {io_nest : Int32} {io_readMany : Int32} {io_codeLong : Int32} {io_readLong : Int32} {io_undos : Int32} {io_wentHome : Int32} {io_tideLevel : Int32} {io_acts : Int32} {io_firstBreaks : Int32} {io_bestCrew : Int32} {io_sights : Int32} {io_wayMany : Int32} {io_random : Int32} {co_row : Nat → Int64} {x1 : Int32} {x2 : Int32} {x3 : Int32} {x4 : Int32} {x5 : Int32} {res : Int32 × Int32 × Int32 × (Nat → Int64)} (C : axC X l D Y cX12_rests 6 RX12 wsX12_rests rmX12_rests (some .int)) (hQ : axQ X 0 0 (fun r9 w9 => r9 = (some (.int res.1)) ∧ w9 = [oX12 ao res.2.1 res.2.2.1 io_cells io_children io_changes io_taped io_at io_to io_nest io_readMany io_codeLong io_readLong io_undos io_wentHome io_tideLevel io_acts io_firstBreaks io_bestCrew io_sights io_wayMany io_random, rJ Y (ao 1) 24 res.2.2.2])) {k41 : Int32 × (Nat → Int64) × Int32 × Int32 → Option (Int32 × Int32 × Int32 × (Nat → Int64))} (hk41 : ∀ s : Int32 × (Nat → Int64) × Int32 × Int32, k41 s = some res → ax X 0 0 41 [some (.ref (ao 0)), some (.int x1), some (.int x2), some (.int s.2.2.1), some (.int s.2.2.2), none] [oX12 ao io_thrown s.1 io_cells io_children io_changes io_taped io_at io_to io_nest io_readMany io_codeLong io_readLong io_undos io_wentHome io_tideLevel io_acts io_firstBreaks io_bestCrew io_sights io_wayMany io_random, rJ Y (ao 1) 24 s.2.1] []) {k51 : Int32 × (Nat → Int64) × Int32 × Int32 → Option (Int32 × Int32 × Int32 × (Nat → Int64))} (hk51 : ∀ s : Int32 × (Nat → Int64) × Int32 × Int32, k51 s = some res → ax X 0 0 51 [some (.ref (ao 0)), some (.int x1), some (.int x2), some (.int s.2.2.1), some (.int x4), some (.int s.2.2.2)] [oX12 ao io_thrown s.1 io_cells io_children io_changes io_taped io_at io_to io_nest io_readMany io_codeLong io_readLong io_undos io_wentHome io_tideLevel io_acts io_firstBreaks io_bestCrew io_sights io_wayMany io_random, rJ Y (ao 1) 24 s.2.1] []) (hf : fX12_rests_b100 io_thrown io_rows co_row x1 x2 x3 x4 x5 k41 k51 = some res) : ax X 0 0 100 [some (.ref (ao 0)), some (.int x1), some (.int x2), some (.int x3), some (.int x4), some (.int x5)] [oX12 ao io_thrown io_rows io_cells io_children io_changes io_taped io_at io_to io_nest io_readMany io_codeLong io_readLong io_undos io_wentHome io_tideLevel io_acts io_firstBreaks io_bestCrew io_sights io_wayMany io_random, rJ Y (ao 1) 24 co_row] [] := by
  unfold fX12_rests_b100 at hf
  refine a_iinc C (1 : Int32) dX12_rests_100 (by decide) rfl (by decide) rfl ?_
  exact kX12_rests_b103 C hQ hk41 hk51 hf
def fX12_rests_l51 (io_thrown : Int32) (x1 : Int32) (x2 : Int32) (x4 : Int32) (k41 : Int32 × (Nat → Int64) × Int32 × Int32 → Option (Int32 × Int32 × Int32 × (Nat → Int64))) (k51 : Int32 × (Nat → Int64) × Int32 × Int32 → Option (Int32 × Int32 × Int32 × (Nat → Int64))) (io_rows : Int32) (co_row : Nat → Int64) (x3 : Int32) (x5 : Int32) : Option (Int32 × Int32 × Int32 × (Nat → Int64)) :=
  if (9 : Int32) < x5 then (fX12_rests_b109 io_thrown io_rows co_row x1 x2 x3 x4 k41) else ((fX12_isRest x4 x5 x1 x2).bind (fun r2 => if r2 = (0 : Int32) then (fX12_rests_b103 io_thrown io_rows co_row x1 x2 x3 x4 x5 k41 k51) else ((fX12_isRest x5 x4 x1 x2).bind (fun r4 => if r4 = (0 : Int32) then (fX12_rests_b103 io_thrown io_rows co_row x1 x2 x3 x4 x5 k41 k51) else (if x3 = (0 : Int32) then ((fX12_enters io_rows co_row (x4.toInt64)).bind (fun r7 => (fX12_enters r7.1 r7.2 (x5.toInt64)).bind (fun r8 => fX12_rests_b100 io_thrown r8.1 r8.2 x1 x2 x3 x4 x5 k41 k51))) else (fX12_rests_b100 io_thrown io_rows co_row x1 x2 x3 x4 x5 k41 k51))))))
def fX12_rests_b51 (io_thrown : Int32) (io_rows : Int32) (co_row : Nat → Int64) (x1 : Int32) (x2 : Int32) (x3 : Int32) (x4 : Int32) (x5 : Int32) (k41 : Int32 × (Nat → Int64) × Int32 × Int32 → Option (Int32 × Int32 × Int32 × (Nat → Int64))) : Option (Int32 × Int32 × Int32 × (Nat → Int64)) :=
  loopN (fun (s : Int32 × (Nat → Int64) × Int32 × Int32) k51 => fX12_rests_l51 io_thrown x1 x2 x4 k41 k51 s.1 s.2.1 s.2.2.1 s.2.2.2) FUEL (io_rows, co_row, x3, x5)
set_option maxHeartbeats 4000000 in
set_option maxRecDepth 100000 in
theorem kX12_rests_l51 {X : cxT} {l : Launch} {D : va_G} {Y : Nat → ClassId} {ao : Nat → Nat} {io_thrown : Int32} {io_rows : Int32} {io_cells : Int32} {io_children : Int32} {io_changes : Int32} {io_taped : Int32} {io_at : Int32} {io_to : Int32} {io_nest : Int32} {io_readMany : Int32} {io_codeLong : Int32} {io_readLong : Int32} {io_undos : Int32} {io_wentHome : Int32} {io_tideLevel : Int32} {io_acts : Int32} {io_firstBreaks : Int32} {io_bestCrew : Int32} {io_sights : Int32} {io_wayMany : Int32} {io_random : Int32} {co_row : Nat → Int64} {x1 : Int32} {x2 : Int32} {x3 : Int32} {x4 : Int32} {x5 : Int32} {res : Int32 × Int32 × Int32 × (Nat → Int64)} (C : axC X l D Y cX12_rests 6 RX12 wsX12_rests rmX12_rests (some .int)) (hQ : axQ X 0 0 (fun r9 w9 => r9 = (some (.int res.1)) ∧ w9 = [oX12 ao res.2.1 res.2.2.1 io_cells io_children io_changes io_taped io_at io_to io_nest io_readMany io_codeLong io_readLong io_undos io_wentHome io_tideLevel io_acts io_firstBreaks io_bestCrew io_sights io_wayMany io_random, rJ Y (ao 1) 24 res.2.2.2])) {k41 : Int32 × (Nat → Int64) × Int32 × Int32 → Option (Int32 × Int32 × Int32 × (Nat → Int64))} (hk41 : ∀ s : Int32 × (Nat → Int64) × Int32 × Int32, k41 s = some res → ax X 0 0 41 [some (.ref (ao 0)), some (.int x1), some (.int x2), some (.int s.2.2.1), some (.int s.2.2.2), none] [oX12 ao io_thrown s.1 io_cells io_children io_changes io_taped io_at io_to io_nest io_readMany io_codeLong io_readLong io_undos io_wentHome io_tideLevel io_acts io_firstBreaks io_bestCrew io_sights io_wayMany io_random, rJ Y (ao 1) 24 s.2.1] []) {k51 : Int32 × (Nat → Int64) × Int32 × Int32 → Option (Int32 × Int32 × Int32 × (Nat → Int64))} (hk51 : ∀ s : Int32 × (Nat → Int64) × Int32 × Int32, k51 s = some res → ax X 0 0 51 [some (.ref (ao 0)), some (.int x1), some (.int x2), some (.int s.2.2.1), some (.int x4), some (.int s.2.2.2)] [oX12 ao io_thrown s.1 io_cells io_children io_changes io_taped io_at io_to io_nest io_readMany io_codeLong io_readLong io_undos io_wentHome io_tideLevel io_acts io_firstBreaks io_bestCrew io_sights io_wayMany io_random, rJ Y (ao 1) 24 s.2.1] []) (hf : fX12_rests_l51 io_thrown x1 x2 x4 k41 k51 io_rows co_row x3 x5 = some res) : ax X 0 0 51 [some (.ref (ao 0)), some (.int x1), some (.int x2), some (.int x3), some (.int x4), some (.int x5)] [oX12 ao io_thrown io_rows io_cells io_children io_changes io_taped io_at io_to io_nest io_readMany io_codeLong io_readLong io_undos io_wentHome io_tideLevel io_acts io_firstBreaks io_bestCrew io_sights io_wayMany io_random, rJ Y (ao 1) 24 co_row] [] := by
  unfold fX12_rests_l51 at hf
  refine a_iload C dX12_rests_51 rfl ?_
  refine a_bipush C (9 : Int32) dX12_rests_53 (by decide) ?_
  refine a_icmp_gt C 109 dX12_rests_55 (by decide) (fun h1 => ?_) (fun h1 => ?_)
  · have hf := fx_t h1 hf
    refine a_kill [5] ?_
    exact kX12_rests_b109 C hQ hk41 hf
  · have hf := fx_f h1 hf
    refine a_iload C dX12_rests_58 rfl ?_
    refine a_iload C dX12_rests_60 rfl ?_
    refine a_iload_n C dX12_rests_62 rfl ?_
    refine a_iload_n C dX12_rests_63 rfl ?_
    obtain ⟨r2, h2, hf⟩ := fx_bind hf
    refine a_fS C (kX12_isRest l D Y x4 x5 x1 x2 r2 h2) gX12_rests_X12_isRest rfl dvX12_isRest ⟨⟨rfl, rfl⟩, ⟨Nat.le_of_ble_eq_true rfl, Nat.le_of_ble_eq_true rfl⟩, ⟨Nat.le_of_ble_eq_true rfl, Nat.le_of_ble_eq_true rfl⟩⟩ rfl (Nat.le_of_ble_eq_true rfl) dX12_rests_64 [] rfl rfl rfl (wn := [oX12 ao io_thrown io_rows io_cells io_children io_changes io_taped io_at io_to io_nest io_readMany io_codeLong io_readLong io_undos io_wentHome io_tideLevel io_acts io_firstBreaks io_bestCrew io_sights io_wayMany io_random, rJ Y (ao 1) 24 co_row]) rfl ?_
    refine a_if_eq C 103 dX12_rests_67 (by decide) (fun h3 => ?_) (fun h3 => ?_)
    · have hf := fx_t h3 hf
      exact kX12_rests_b103 C hQ hk41 hk51 hf
    · have hf := fx_f h3 hf
      refine a_iload C dX12_rests_70 rfl ?_
      refine a_iload C dX12_rests_72 rfl ?_
      refine a_iload_n C dX12_rests_74 rfl ?_
      refine a_iload_n C dX12_rests_75 rfl ?_
      obtain ⟨r4, h4, hf⟩ := fx_bind hf
      refine a_fS C (kX12_isRest l D Y x5 x4 x1 x2 r4 h4) gX12_rests_X12_isRest rfl dvX12_isRest ⟨⟨rfl, rfl⟩, ⟨Nat.le_of_ble_eq_true rfl, Nat.le_of_ble_eq_true rfl⟩, ⟨Nat.le_of_ble_eq_true rfl, Nat.le_of_ble_eq_true rfl⟩⟩ rfl (Nat.le_of_ble_eq_true rfl) dX12_rests_76 [] rfl rfl rfl (wn := [oX12 ao io_thrown io_rows io_cells io_children io_changes io_taped io_at io_to io_nest io_readMany io_codeLong io_readLong io_undos io_wentHome io_tideLevel io_acts io_firstBreaks io_bestCrew io_sights io_wayMany io_random, rJ Y (ao 1) 24 co_row]) rfl ?_
      refine a_if_eq C 103 dX12_rests_79 (by decide) (fun h5 => ?_) (fun h5 => ?_)
      · have hf := fx_t h5 hf
        exact kX12_rests_b103 C hQ hk41 hk51 hf
      · have hf := fx_f h5 hf
        refine a_iload_n C dX12_rests_82 rfl ?_
        refine a_if_ne C 100 dX12_rests_83 (by decide) (fun h6 => ?_) (fun h6 => ?_)
        · have hf := fx_f h6 hf
          exact kX12_rests_b100 C hQ hk41 hk51 hf
        · have hf := fx_t h6 hf
          refine a_aload_n C dX12_rests_86 rfl ?_
          refine a_iload C dX12_rests_87 rfl ?_
          refine a_i2l C dX12_rests_89 ?_
          obtain ⟨r7, h7, hf⟩ := fx_bind hf
          refine a_fV C (kX12_enters l D Y ao io_thrown io_rows io_cells io_children io_changes io_taped io_at io_to io_nest io_readMany io_codeLong io_readLong io_undos io_wentHome io_tideLevel io_acts io_firstBreaks io_bestCrew io_sights io_wayMany io_random co_row (x4.toInt64) r7 h7) gX12_rests_X12_enters rfl dvX12_enters ⟨⟨rfl, rfl⟩, ⟨Nat.le_of_ble_eq_true rfl, Nat.le_of_ble_eq_true rfl⟩, ⟨Nat.le_of_ble_eq_true rfl, Nat.le_of_ble_eq_true rfl⟩⟩ rfl (Nat.le_of_ble_eq_true rfl) dX12_rests_90 rfl rfl [0, 1] rfl rfl rfl (wn := [oX12 ao io_thrown r7.1 io_cells io_children io_changes io_taped io_at io_to io_nest io_readMany io_codeLong io_readLong io_undos io_wentHome io_tideLevel io_acts io_firstBreaks io_bestCrew io_sights io_wayMany io_random, rJ Y (ao 1) 24 r7.2]) rfl ?_
          refine a_aload_n C dX12_rests_93 rfl ?_
          refine a_iload C dX12_rests_94 rfl ?_
          refine a_i2l C dX12_rests_96 ?_
          obtain ⟨r8, h8, hf⟩ := fx_bind hf
          refine a_fV C (kX12_enters l D Y ao io_thrown r7.1 io_cells io_children io_changes io_taped io_at io_to io_nest io_readMany io_codeLong io_readLong io_undos io_wentHome io_tideLevel io_acts io_firstBreaks io_bestCrew io_sights io_wayMany io_random r7.2 (x5.toInt64) r8 h8) gX12_rests_X12_enters rfl dvX12_enters ⟨⟨rfl, rfl⟩, ⟨Nat.le_of_ble_eq_true rfl, Nat.le_of_ble_eq_true rfl⟩, ⟨Nat.le_of_ble_eq_true rfl, Nat.le_of_ble_eq_true rfl⟩⟩ rfl (Nat.le_of_ble_eq_true rfl) dX12_rests_97 rfl rfl [0, 1] rfl rfl rfl (wn := [oX12 ao io_thrown r8.1 io_cells io_children io_changes io_taped io_at io_to io_nest io_readMany io_codeLong io_readLong io_undos io_wentHome io_tideLevel io_acts io_firstBreaks io_bestCrew io_sights io_wayMany io_random, rJ Y (ao 1) 24 r8.2]) rfl ?_
          exact kX12_rests_b100 C hQ hk41 hk51 hf
set_option maxHeartbeats 4000000 in
set_option maxRecDepth 100000 in
theorem kX12_rests_b51 {X : cxT} {l : Launch} {D : va_G} {Y : Nat → ClassId} {ao : Nat → Nat} {io_thrown : Int32} {io_rows : Int32} {io_cells : Int32} {io_children : Int32} {io_changes : Int32} {io_taped : Int32} {io_at : Int32} {io_to : Int32} {io_nest : Int32} {io_readMany : Int32} {io_codeLong : Int32} {io_readLong : Int32} {io_undos : Int32} {io_wentHome : Int32} {io_tideLevel : Int32} {io_acts : Int32} {io_firstBreaks : Int32} {io_bestCrew : Int32} {io_sights : Int32} {io_wayMany : Int32} {io_random : Int32} {co_row : Nat → Int64} {x1 : Int32} {x2 : Int32} {x3 : Int32} {x4 : Int32} {x5 : Int32} {res : Int32 × Int32 × Int32 × (Nat → Int64)} (C : axC X l D Y cX12_rests 6 RX12 wsX12_rests rmX12_rests (some .int)) (hQ : axQ X 0 0 (fun r9 w9 => r9 = (some (.int res.1)) ∧ w9 = [oX12 ao res.2.1 res.2.2.1 io_cells io_children io_changes io_taped io_at io_to io_nest io_readMany io_codeLong io_readLong io_undos io_wentHome io_tideLevel io_acts io_firstBreaks io_bestCrew io_sights io_wayMany io_random, rJ Y (ao 1) 24 res.2.2.2])) {k41 : Int32 × (Nat → Int64) × Int32 × Int32 → Option (Int32 × Int32 × Int32 × (Nat → Int64))} (hk41 : ∀ s : Int32 × (Nat → Int64) × Int32 × Int32, k41 s = some res → ax X 0 0 41 [some (.ref (ao 0)), some (.int x1), some (.int x2), some (.int s.2.2.1), some (.int s.2.2.2), none] [oX12 ao io_thrown s.1 io_cells io_children io_changes io_taped io_at io_to io_nest io_readMany io_codeLong io_readLong io_undos io_wentHome io_tideLevel io_acts io_firstBreaks io_bestCrew io_sights io_wayMany io_random, rJ Y (ao 1) 24 s.2.1] []) (hf : fX12_rests_b51 io_thrown io_rows co_row x1 x2 x3 x4 x5 k41 = some res) : ax X 0 0 51 [some (.ref (ao 0)), some (.int x1), some (.int x2), some (.int x3), some (.int x4), some (.int x5)] [oX12 ao io_thrown io_rows io_cells io_children io_changes io_taped io_at io_to io_nest io_readMany io_codeLong io_readLong io_undos io_wentHome io_tideLevel io_acts io_firstBreaks io_bestCrew io_sights io_wayMany io_random, rJ Y (ao 1) 24 co_row] [] := by
  unfold fX12_rests_b51 at hf
  exact fx_loop (P := fun s : Int32 × (Nat → Int64) × Int32 × Int32 => ax X 0 0 51 [some (.ref (ao 0)), some (.int x1), some (.int x2), some (.int s.2.2.1), some (.int x4), some (.int s.2.2.2)] [oX12 ao io_thrown s.1 io_cells io_children io_changes io_taped io_at io_to io_nest io_readMany io_codeLong io_readLong io_undos io_wentHome io_tideLevel io_acts io_firstBreaks io_bestCrew io_sights io_wayMany io_random, rJ Y (ao 1) 24 s.2.1] []) (fun s k51 hk51 h => kX12_rests_l51 C hQ hk41 hk51 h) FUEL (io_rows, co_row, x3, x5) hf
def fX12_rests_l41 (io_thrown : Int32) (x1 : Int32) (x2 : Int32) (k41 : Int32 × (Nat → Int64) × Int32 × Int32 → Option (Int32 × Int32 × Int32 × (Nat → Int64))) (io_rows : Int32) (co_row : Nat → Int64) (x3 : Int32) (x4 : Int32) : Option (Int32 × Int32 × Int32 × (Nat → Int64)) :=
  if (9 : Int32) < x4 then (fX12_rests_b115 io_thrown io_rows co_row x3) else (fX12_rests_b51 io_thrown io_rows co_row x1 x2 x3 x4 (0 : Int32) k41)
def fX12_rests_b41 (io_thrown : Int32) (io_rows : Int32) (co_row : Nat → Int64) (x1 : Int32) (x2 : Int32) (x3 : Int32) (x4 : Int32) : Option (Int32 × Int32 × Int32 × (Nat → Int64)) :=
  loopN (fun (s : Int32 × (Nat → Int64) × Int32 × Int32) k41 => fX12_rests_l41 io_thrown x1 x2 k41 s.1 s.2.1 s.2.2.1 s.2.2.2) FUEL (io_rows, co_row, x3, x4)
set_option maxHeartbeats 4000000 in
set_option maxRecDepth 100000 in
theorem kX12_rests_l41 {X : cxT} {l : Launch} {D : va_G} {Y : Nat → ClassId} {ao : Nat → Nat} {io_thrown : Int32} {io_rows : Int32} {io_cells : Int32} {io_children : Int32} {io_changes : Int32} {io_taped : Int32} {io_at : Int32} {io_to : Int32} {io_nest : Int32} {io_readMany : Int32} {io_codeLong : Int32} {io_readLong : Int32} {io_undos : Int32} {io_wentHome : Int32} {io_tideLevel : Int32} {io_acts : Int32} {io_firstBreaks : Int32} {io_bestCrew : Int32} {io_sights : Int32} {io_wayMany : Int32} {io_random : Int32} {co_row : Nat → Int64} {x1 : Int32} {x2 : Int32} {x3 : Int32} {x4 : Int32} {res : Int32 × Int32 × Int32 × (Nat → Int64)} (C : axC X l D Y cX12_rests 6 RX12 wsX12_rests rmX12_rests (some .int)) (hQ : axQ X 0 0 (fun r9 w9 => r9 = (some (.int res.1)) ∧ w9 = [oX12 ao res.2.1 res.2.2.1 io_cells io_children io_changes io_taped io_at io_to io_nest io_readMany io_codeLong io_readLong io_undos io_wentHome io_tideLevel io_acts io_firstBreaks io_bestCrew io_sights io_wayMany io_random, rJ Y (ao 1) 24 res.2.2.2])) {k41 : Int32 × (Nat → Int64) × Int32 × Int32 → Option (Int32 × Int32 × Int32 × (Nat → Int64))} (hk41 : ∀ s : Int32 × (Nat → Int64) × Int32 × Int32, k41 s = some res → ax X 0 0 41 [some (.ref (ao 0)), some (.int x1), some (.int x2), some (.int s.2.2.1), some (.int s.2.2.2), none] [oX12 ao io_thrown s.1 io_cells io_children io_changes io_taped io_at io_to io_nest io_readMany io_codeLong io_readLong io_undos io_wentHome io_tideLevel io_acts io_firstBreaks io_bestCrew io_sights io_wayMany io_random, rJ Y (ao 1) 24 s.2.1] []) (hf : fX12_rests_l41 io_thrown x1 x2 k41 io_rows co_row x3 x4 = some res) : ax X 0 0 41 [some (.ref (ao 0)), some (.int x1), some (.int x2), some (.int x3), some (.int x4), none] [oX12 ao io_thrown io_rows io_cells io_children io_changes io_taped io_at io_to io_nest io_readMany io_codeLong io_readLong io_undos io_wentHome io_tideLevel io_acts io_firstBreaks io_bestCrew io_sights io_wayMany io_random, rJ Y (ao 1) 24 co_row] [] := by
  unfold fX12_rests_l41 at hf
  refine a_iload C dX12_rests_41 rfl ?_
  refine a_bipush C (9 : Int32) dX12_rests_43 (by decide) ?_
  refine a_icmp_gt C 115 dX12_rests_45 (by decide) (fun h9 => ?_) (fun h9 => ?_)
  · have hf := fx_t h9 hf
    refine a_kill [0, 1, 2, 4] ?_
    exact kX12_rests_b115 C hQ hf
  · have hf := fx_f h9 hf
    refine a_iconst C (0 : Int32) dX12_rests_48 (by decide) ?_
    refine a_istore C dX12_rests_49 (by decide) rfl ?_
    exact kX12_rests_b51 C hQ hk41 hf
set_option maxHeartbeats 4000000 in
set_option maxRecDepth 100000 in
theorem kX12_rests_b41 {X : cxT} {l : Launch} {D : va_G} {Y : Nat → ClassId} {ao : Nat → Nat} {io_thrown : Int32} {io_rows : Int32} {io_cells : Int32} {io_children : Int32} {io_changes : Int32} {io_taped : Int32} {io_at : Int32} {io_to : Int32} {io_nest : Int32} {io_readMany : Int32} {io_codeLong : Int32} {io_readLong : Int32} {io_undos : Int32} {io_wentHome : Int32} {io_tideLevel : Int32} {io_acts : Int32} {io_firstBreaks : Int32} {io_bestCrew : Int32} {io_sights : Int32} {io_wayMany : Int32} {io_random : Int32} {co_row : Nat → Int64} {x1 : Int32} {x2 : Int32} {x3 : Int32} {x4 : Int32} {res : Int32 × Int32 × Int32 × (Nat → Int64)} (C : axC X l D Y cX12_rests 6 RX12 wsX12_rests rmX12_rests (some .int)) (hQ : axQ X 0 0 (fun r9 w9 => r9 = (some (.int res.1)) ∧ w9 = [oX12 ao res.2.1 res.2.2.1 io_cells io_children io_changes io_taped io_at io_to io_nest io_readMany io_codeLong io_readLong io_undos io_wentHome io_tideLevel io_acts io_firstBreaks io_bestCrew io_sights io_wayMany io_random, rJ Y (ao 1) 24 res.2.2.2])) (hf : fX12_rests_b41 io_thrown io_rows co_row x1 x2 x3 x4 = some res) : ax X 0 0 41 [some (.ref (ao 0)), some (.int x1), some (.int x2), some (.int x3), some (.int x4), none] [oX12 ao io_thrown io_rows io_cells io_children io_changes io_taped io_at io_to io_nest io_readMany io_codeLong io_readLong io_undos io_wentHome io_tideLevel io_acts io_firstBreaks io_bestCrew io_sights io_wayMany io_random, rJ Y (ao 1) 24 co_row] [] := by
  unfold fX12_rests_b41 at hf
  exact fx_loop (P := fun s : Int32 × (Nat → Int64) × Int32 × Int32 => ax X 0 0 41 [some (.ref (ao 0)), some (.int x1), some (.int x2), some (.int s.2.2.1), some (.int s.2.2.2), none] [oX12 ao io_thrown s.1 io_cells io_children io_changes io_taped io_at io_to io_nest io_readMany io_codeLong io_readLong io_undos io_wentHome io_tideLevel io_acts io_firstBreaks io_bestCrew io_sights io_wayMany io_random, rJ Y (ao 1) 24 s.2.1] []) (fun s k41 hk41 h => kX12_rests_l41 C hQ hk41 h) FUEL (io_rows, co_row, x3, x4) hf
def fX12_rests (io_thrown : Int32) (io_rows : Int32) (co_row : Nat → Int64) (x1 : Int32) (x2 : Int32) : Option (Int32 × Int32 × Int32 × (Nat → Int64)) :=
  (fX12_in (x1.toInt64) (1 : Int64) (99 : Int64)).bind (fun r10 => if r10 = (0 : Int32) then (fX12_rests_b29 (0 : Int32) io_rows co_row) else ((fX12_in (x2.toInt64) (0 : Int64) (9 : Int64)).bind (fun r12 => if r12 = (0 : Int32) then (fX12_rests_b29 (0 : Int32) io_rows co_row) else (fX12_rests_b41 (0 : Int32) (0 : Int32) co_row x1 x2 (0 : Int32) (0 : Int32)))))
set_option maxHeartbeats 4000000 in
set_option maxRecDepth 100000 in
theorem kX12_rests (l : Launch) (D : va_G) (Y : Nat → ClassId) (ao : Nat → Nat) (io_thrown : Int32) (io_rows : Int32) (io_cells : Int32) (io_children : Int32) (io_changes : Int32) (io_taped : Int32) (io_at : Int32) (io_to : Int32) (io_nest : Int32) (io_readMany : Int32) (io_codeLong : Int32) (io_readLong : Int32) (io_undos : Int32) (io_wentHome : Int32) (io_tideLevel : Int32) (io_acts : Int32) (io_firstBreaks : Int32) (io_bestCrew : Int32) (io_sights : Int32) (io_wayMany : Int32) (io_random : Int32) (co_row : Nat → Int64) (x1 : Int32) (x2 : Int32) (res : Int32 × Int32 × Int32 × (Nat → Int64)) (hf : fX12_rests io_thrown io_rows co_row x1 x2 = some res) : amf l D Y yX12_rests wsX12_rests rmX12_rests [.ref (ao 0), .int x1, .int x2] [oX12 ao io_thrown io_rows io_cells io_children io_changes io_taped io_at io_to io_nest io_readMany io_codeLong io_readLong io_undos io_wentHome io_tideLevel io_acts io_firstBreaks io_bestCrew io_sights io_wayMany io_random, rJ Y (ao 1) 24 co_row] (some (.int res.1)) [oX12 ao res.2.1 res.2.2.1 io_cells io_children io_changes io_taped io_at io_to io_nest io_readMany io_codeLong io_readLong io_undos io_wentHome io_tideLevel io_acts io_firstBreaks io_bestCrew io_sights io_wayMany io_random, rJ Y (ao 1) 24 res.2.2.2] := by
  refine amf.of (cc := cX12_rests) (maxL := 6) (rt := (some .int)) (by decide) rfl RX12 rfl (Nat.le_of_ble_eq_true rfl) [some (.ref (ao 0)), some (.int x1), some (.int x2), none, none, none] rfl ?_
  intro X C hQ
  unfold fX12_rests at hf
  refine a_aload_n C dX12_rests_0 rfl ?_
  refine a_iconst C (0 : Int32) dX12_rests_1 (by decide) ?_
  refine a_put C eX12_rests_112 tfX12_0 dX12_rests_2 0 rfl rfl rfl (Nat.le_of_ble_eq_true rfl) ?_
  refine a_iload_n C dX12_rests_5 rfl ?_
  refine a_i2l C dX12_rests_6 ?_
  refine a_lconst C (1 : Int64) dX12_rests_7 (by decide) ?_
  refine a_ldc2 C (99 : Int64) dX12_rests_8 eX12_rests_k369 ?_
  obtain ⟨r10, h10, hf⟩ := fx_bind hf
  refine a_fS C (kX12_in l D Y (x1.toInt64) (1 : Int64) (99 : Int64) r10 h10) gX12_rests_X12_in rfl dvX12_in ⟨⟨rfl, rfl⟩, ⟨Nat.le_of_ble_eq_true rfl, Nat.le_of_ble_eq_true rfl⟩, ⟨Nat.le_of_ble_eq_true rfl, Nat.le_of_ble_eq_true rfl⟩⟩ rfl (Nat.le_of_ble_eq_true rfl) dX12_rests_11 [] rfl rfl rfl (wn := [oX12 ao (0 : Int32) io_rows io_cells io_children io_changes io_taped io_at io_to io_nest io_readMany io_codeLong io_readLong io_undos io_wentHome io_tideLevel io_acts io_firstBreaks io_bestCrew io_sights io_wayMany io_random, rJ Y (ao 1) 24 co_row]) rfl ?_
  refine a_if_eq C 29 dX12_rests_14 (by decide) (fun h11 => ?_) (fun h11 => ?_)
  · have hf := fx_t h11 hf
    refine a_kill [0, 1, 2] ?_
    exact kX12_rests_b29 C hQ hf
  · have hf := fx_f h11 hf
    refine a_iload_n C dX12_rests_17 rfl ?_
    refine a_i2l C dX12_rests_18 ?_
    refine a_lconst C (0 : Int64) dX12_rests_19 (by decide) ?_
    refine a_ldc2 C (9 : Int64) dX12_rests_20 eX12_rests_k302 ?_
    obtain ⟨r12, h12, hf⟩ := fx_bind hf
    refine a_fS C (kX12_in l D Y (x2.toInt64) (0 : Int64) (9 : Int64) r12 h12) gX12_rests_X12_in rfl dvX12_in ⟨⟨rfl, rfl⟩, ⟨Nat.le_of_ble_eq_true rfl, Nat.le_of_ble_eq_true rfl⟩, ⟨Nat.le_of_ble_eq_true rfl, Nat.le_of_ble_eq_true rfl⟩⟩ rfl (Nat.le_of_ble_eq_true rfl) dX12_rests_23 [] rfl rfl rfl (wn := [oX12 ao (0 : Int32) io_rows io_cells io_children io_changes io_taped io_at io_to io_nest io_readMany io_codeLong io_readLong io_undos io_wentHome io_tideLevel io_acts io_firstBreaks io_bestCrew io_sights io_wayMany io_random, rJ Y (ao 1) 24 co_row]) rfl ?_
    refine a_if_ne C 31 dX12_rests_26 (by decide) (fun h13 => ?_) (fun h13 => ?_)
    · have hf := fx_f h13 hf
      refine a_iconst C (0 : Int32) dX12_rests_31 (by decide) ?_
      refine a_istore_n C dX12_rests_32 (by decide) rfl ?_
      refine a_aload_n C dX12_rests_33 rfl ?_
      refine a_iconst C (0 : Int32) dX12_rests_34 (by decide) ?_
      refine a_put C eX12_rests_119 tfX12_1 dX12_rests_35 0 rfl rfl rfl (Nat.le_of_ble_eq_true rfl) ?_
      refine a_iconst C (0 : Int32) dX12_rests_38 (by decide) ?_
      refine a_istore C dX12_rests_39 (by decide) rfl ?_
      exact kX12_rests_b41 C hQ hf
    · have hf := fx_t h13 hf
      refine a_kill [0, 1, 2] ?_
      exact kX12_rests_b29 C hQ hf
-- X12_draws
abbrev rmX12_draws : Room := { frames := 0, cells := 0, slots := 0, locals := 0 }
theorem dvX12_draws : yX12_draws.cls = RX12 ∧ yX12_draws.cls ≠ "java/lang/invoke/MethodHandle" ∧ yX12_draws.cls ≠ "java/lang/invoke/VarHandle" ∧ (parseMethodDescriptor yX12_draws.desc).map (fun d => d.parameters.length) = some 1 := by decide +kernel
theorem eX12_draws_inX12 : ∀ w ∈ wsX120, w ∈ wsX12_draws := by decide +kernel
theorem eX12_draws_461 : aF wsX12_draws RX12 461 12 49 := ⟨RX12, TX12, 53, rfl, eX12_draws_inX12, by decide, by decide +kernel⟩
theorem eX12_draws_k464 : Cond.constant RX12 464 (1103515245 : Int32) ∈ wsX12_draws := by decide +kernel
def fX12_draws (io_random : Int32) (x1 : Int32) : Option (Int32 × Int32) :=
  if ¬ x1 = 0 then some ((jrem (jushr ((io_random * (1103515245 : Int32)) + (12345 : Int32)) (16 : Int32)) x1), ((io_random * (1103515245 : Int32)) + (12345 : Int32))) else none
set_option maxHeartbeats 4000000 in
set_option maxRecDepth 100000 in
theorem kX12_draws (l : Launch) (D : va_G) (Y : Nat → ClassId) (ao : Nat → Nat) (io_thrown : Int32) (io_rows : Int32) (io_cells : Int32) (io_children : Int32) (io_changes : Int32) (io_taped : Int32) (io_at : Int32) (io_to : Int32) (io_nest : Int32) (io_readMany : Int32) (io_codeLong : Int32) (io_readLong : Int32) (io_undos : Int32) (io_wentHome : Int32) (io_tideLevel : Int32) (io_acts : Int32) (io_firstBreaks : Int32) (io_bestCrew : Int32) (io_sights : Int32) (io_wayMany : Int32) (io_random : Int32) (x1 : Int32) (res : Int32 × Int32) (hf : fX12_draws io_random x1 = some res) : amf l D Y yX12_draws wsX12_draws rmX12_draws [.ref (ao 0), .int x1] [oX12 ao io_thrown io_rows io_cells io_children io_changes io_taped io_at io_to io_nest io_readMany io_codeLong io_readLong io_undos io_wentHome io_tideLevel io_acts io_firstBreaks io_bestCrew io_sights io_wayMany io_random] (some (.int res.1)) [oX12 ao io_thrown io_rows io_cells io_children io_changes io_taped io_at io_to io_nest io_readMany io_codeLong io_readLong io_undos io_wentHome io_tideLevel io_acts io_firstBreaks io_bestCrew io_sights io_wayMany res.2] := by
  refine amf.of (cc := cX12_draws) (maxL := 2) (rt := (some .int)) (by decide) rfl RX12 rfl (Nat.le_of_ble_eq_true rfl) [some (.ref (ao 0)), some (.int x1)] rfl ?_
  intro X C hQ
  unfold fX12_draws at hf
  refine a_aload_n C dX12_draws_0 rfl ?_
  refine a_aload_n C dX12_draws_1 rfl ?_
  refine a_get C eX12_draws_461 dX12_draws_2 0 rfl rfl ?_
  refine a_ldcw C (1103515245 : Int32) dX12_draws_5 eX12_draws_k464 ?_
  refine a_imul C dX12_draws_8 ?_
  refine a_sipush C (12345 : Int32) dX12_draws_9 (by decide) ?_
  refine a_iadd C dX12_draws_12 ?_
  refine a_put C eX12_draws_461 tfX12_49 dX12_draws_13 0 rfl rfl rfl (Nat.le_of_ble_eq_true rfl) ?_
  refine a_aload_n C dX12_draws_16 rfl ?_
  refine a_get C eX12_draws_461 dX12_draws_17 0 rfl rfl ?_
  refine a_bipush C (16 : Int32) dX12_draws_20 (by decide) ?_
  refine a_iushr C dX12_draws_22 ?_
  refine a_iload_n C dX12_draws_23 rfl ?_
  obtain ⟨h1, hf⟩ := fx_ite hf
  refine a_irem C dX12_draws_24 h1 ?_
  obtain rfl := fx_some hf
  exact a_iret C hQ dX12_draws_25 ⟨rfl, rfl⟩
-- X12_summers
abbrev rmX12_summers : Room := { frames := 5, cells := 0, slots := 0, locals := 114 }
theorem dvX12_summers : yX12_summers.cls = RX12 ∧ yX12_summers.cls ≠ "java/lang/invoke/MethodHandle" ∧ yX12_summers.cls ≠ "java/lang/invoke/VarHandle" ∧ (parseMethodDescriptor yX12_summers.desc).map (fun d => d.parameters.length) = some 2 := by decide +kernel
theorem eX12_summers_inX12 : ∀ w ∈ wsX120, w ∈ wsX12_summers := by decide +kernel
theorem eX12_summers_119 : aF wsX12_summers RX12 119 12 1 := ⟨RX12, TX12, 53, rfl, eX12_summers_inX12, by decide, by decide +kernel⟩
theorem eX12_summers_39 : aF wsX12_summers RX12 39 12 13 := ⟨RX12, TX12, 53, rfl, eX12_summers_inX12, by decide, by decide +kernel⟩
theorem eX12_summers_126 : aF wsX12_summers RX12 126 12 4 := ⟨RX12, TX12, 53, rfl, eX12_summers_inX12, by decide, by decide +kernel⟩
theorem eX12_summers_13 : aF wsX12_summers RX12 13 12 3 := ⟨RX12, TX12, 53, rfl, eX12_summers_inX12, by decide, by decide +kernel⟩
theorem eX12_summers_112 : aF wsX12_summers RX12 112 12 0 := ⟨RX12, TX12, 53, rfl, eX12_summers_inX12, by decide, by decide +kernel⟩
theorem eX12_summers_k398 : Cond.constantLong RX12 398 (60 : Int64) ∈ wsX12_summers := by decide +kernel
theorem eX12_summers_461 : aF wsX12_summers RX12 461 12 49 := ⟨RX12, TX12, 53, rfl, eX12_summers_inX12, by decide, by decide +kernel⟩
def fX12_summers_b136 (io_thrown : Int32) (io_rows : Int32) (io_cells : Int32) (io_children : Int32) (io_codeLong : Int32) (io_wentHome : Int32) (io_tideLevel : Int32) (io_random : Int32) (co_row : Nat → Int64) (co_base : Nat → Int32) (co_dyke : Nat → Int32) (co_age : Nat → Int32) (co_skill : Nat → Int32) (co_friend : Nat → Int32) (co_fixed : Nat → Int32) (co_now : Nat → Int32) (co_then : Nat → Int32) (co_code : Nat → Int32) (co_stack : Nat → Int32) (co_asked : Nat → Int32) (co_gets : Nat → Int32) (x3 : Int32) : Option (Int32 × Int32 × Int32 × Int32 × Int32 × Int32 × (Nat → Int64) × (Nat → Int32) × (Nat → Int32) × (Nat → Int32) × (Nat → Int32)) :=
  (fX12_wet io_cells co_then).bind (fun r1 => (fJ6_bitCount_0f7a4 r1).bind (fun r2 => (fX12_enters (0 : Int32) co_row (r2.toInt64)).bind (fun r3 => (fX12_childrenAt io_children co_then (-1 : Int32)).bind (fun r4 => (fJ6_bitCount_0f7a4 r4).bind (fun r5 => (fX12_enters r3.1 r3.2 (r5.toInt64)).bind (fun r6 => some (x3, io_thrown, r6.1, io_wentHome, io_tideLevel, io_random, r6.2, co_then, co_stack, co_asked, co_gets)))))))
set_option maxHeartbeats 4000000 in
set_option maxRecDepth 100000 in
theorem kX12_summers_b136 {X : cxT} {l : Launch} {D : va_G} {Y : Nat → ClassId} {ao : Nat → Nat} {io_thrown : Int32} {io_rows : Int32} {io_cells : Int32} {io_children : Int32} {io_changes : Int32} {io_taped : Int32} {io_at : Int32} {io_to : Int32} {io_nest : Int32} {io_readMany : Int32} {io_codeLong : Int32} {io_readLong : Int32} {io_undos : Int32} {io_wentHome : Int32} {io_tideLevel : Int32} {io_acts : Int32} {io_firstBreaks : Int32} {io_bestCrew : Int32} {io_sights : Int32} {io_wayMany : Int32} {io_random : Int32} {co_row : Nat → Int64} {co_base : Nat → Int32} {co_dyke : Nat → Int32} {co_age : Nat → Int32} {co_skill : Nat → Int32} {co_friend : Nat → Int32} {co_fixed : Nat → Int32} {co_now : Nat → Int32} {co_then : Nat → Int32} {co_code : Nat → Int32} {co_stack : Nat → Int32} {co_asked : Nat → Int32} {co_gets : Nat → Int32} {x3 : Int32} {res : Int32 × Int32 × Int32 × Int32 × Int32 × Int32 × (Nat → Int64) × (Nat → Int32) × (Nat → Int32) × (Nat → Int32) × (Nat → Int32)} (C : axC X l D Y cX12_summers 7 RX12 wsX12_summers rmX12_summers (some .int)) (hQ : axQ X 0 0 (fun r9 w9 => r9 = (some (.int res.1)) ∧ w9 = [oX12 ao res.2.1 res.2.2.1 io_cells io_children io_changes io_taped io_at io_to io_nest io_readMany io_codeLong io_readLong io_undos res.2.2.2.1 res.2.2.2.2.1 io_acts io_firstBreaks io_bestCrew io_sights io_wayMany res.2.2.2.2.2.1, rJ Y (ao 1) 24 res.2.2.2.2.2.2.1, rI Y (ao 2) 12 co_base, rI Y (ao 3) 12 co_dyke, rI Y (ao 4) 8 co_age, rI Y (ao 5) 8 co_skill, rI Y (ao 6) 8 co_friend, rI Y (ao 7) 2 co_fixed, rI Y (ao 8) 43 co_now, rI Y (ao 9) 43 res.2.2.2.2.2.2.2.1, rI Y (ao 12) 80 co_code, rI Y (ao 14) 80 res.2.2.2.2.2.2.2.2.1, rI Y (ao 15) 4 res.2.2.2.2.2.2.2.2.2.1, rI Y (ao 17) 12 res.2.2.2.2.2.2.2.2.2.2])) (hf : fX12_summers_b136 io_thrown io_rows io_cells io_children io_codeLong io_wentHome io_tideLevel io_random co_row co_base co_dyke co_age co_skill co_friend co_fixed co_now co_then co_code co_stack co_asked co_gets x3 = some res) : ax X 0 0 136 [some (.ref (ao 0)), none, none, some (.int x3), none, none, none] [oX12 ao io_thrown io_rows io_cells io_children io_changes io_taped io_at io_to io_nest io_readMany io_codeLong io_readLong io_undos io_wentHome io_tideLevel io_acts io_firstBreaks io_bestCrew io_sights io_wayMany io_random, rJ Y (ao 1) 24 co_row, rI Y (ao 2) 12 co_base, rI Y (ao 3) 12 co_dyke, rI Y (ao 4) 8 co_age, rI Y (ao 5) 8 co_skill, rI Y (ao 6) 8 co_friend, rI Y (ao 7) 2 co_fixed, rI Y (ao 8) 43 co_now, rI Y (ao 9) 43 co_then, rI Y (ao 12) 80 co_code, rI Y (ao 14) 80 co_stack, rI Y (ao 15) 4 co_asked, rI Y (ao 17) 12 co_gets] [] := by
  unfold fX12_summers_b136 at hf
  refine a_aload_n C dX12_summers_136 rfl ?_
  refine a_iconst C (0 : Int32) dX12_summers_137 (by decide) ?_
  refine a_put C eX12_summers_119 tfX12_1 dX12_summers_138 0 rfl rfl rfl (Nat.le_of_ble_eq_true rfl) ?_
  refine a_aload_n C dX12_summers_141 rfl ?_
  refine a_aload_n C dX12_summers_142 rfl ?_
  refine a_aload_n C dX12_summers_143 rfl ?_
  refine a_get C eX12_summers_39 dX12_summers_144 0 rfl rfl ?_
  obtain ⟨r1, h1, hf⟩ := fx_bind hf
  refine a_fV C (kX12_wet l D Y ao (ao 9) io_thrown (0 : Int32) io_cells io_children io_changes io_taped io_at io_to io_nest io_readMany io_codeLong io_readLong io_undos io_wentHome io_tideLevel io_acts io_firstBreaks io_bestCrew io_sights io_wayMany io_random co_then r1 h1) gX12_summers_X12_wet rfl dvX12_wet ⟨⟨rfl, rfl⟩, ⟨Nat.le_of_ble_eq_true rfl, Nat.le_of_ble_eq_true rfl⟩, ⟨Nat.le_of_ble_eq_true rfl, Nat.le_of_ble_eq_true rfl⟩⟩ rfl (Nat.le_of_ble_eq_true rfl) dX12_summers_147 rfl rfl [0, 9] rfl rfl rfl (wn := [oX12 ao io_thrown (0 : Int32) io_cells io_children io_changes io_taped io_at io_to io_nest io_readMany io_codeLong io_readLong io_undos io_wentHome io_tideLevel io_acts io_firstBreaks io_bestCrew io_sights io_wayMany io_random, rJ Y (ao 1) 24 co_row, rI Y (ao 2) 12 co_base, rI Y (ao 3) 12 co_dyke, rI Y (ao 4) 8 co_age, rI Y (ao 5) 8 co_skill, rI Y (ao 6) 8 co_friend, rI Y (ao 7) 2 co_fixed, rI Y (ao 8) 43 co_now, rI Y (ao 9) 43 co_then, rI Y (ao 12) 80 co_code, rI Y (ao 14) 80 co_stack, rI Y (ao 15) 4 co_asked, rI Y (ao 17) 12 co_gets]) rfl ?_
  obtain ⟨r2, h2, hf⟩ := fx_bind hf
  refine a_fS C (kJ6_bitCount_0f7a4 l D Y r1 r2 h2) gX12_summers_J6_bitCount_0f7a4 rfl dvJ6_bitCount_0f7a4 ⟨⟨rfl, rfl⟩, ⟨Nat.le_of_ble_eq_true rfl, Nat.le_of_ble_eq_true rfl⟩, ⟨Nat.le_of_ble_eq_true rfl, Nat.le_of_ble_eq_true rfl⟩⟩ rfl (Nat.le_of_ble_eq_true rfl) dX12_summers_150 [] rfl rfl rfl (wn := [oX12 ao io_thrown (0 : Int32) io_cells io_children io_changes io_taped io_at io_to io_nest io_readMany io_codeLong io_readLong io_undos io_wentHome io_tideLevel io_acts io_firstBreaks io_bestCrew io_sights io_wayMany io_random, rJ Y (ao 1) 24 co_row, rI Y (ao 2) 12 co_base, rI Y (ao 3) 12 co_dyke, rI Y (ao 4) 8 co_age, rI Y (ao 5) 8 co_skill, rI Y (ao 6) 8 co_friend, rI Y (ao 7) 2 co_fixed, rI Y (ao 8) 43 co_now, rI Y (ao 9) 43 co_then, rI Y (ao 12) 80 co_code, rI Y (ao 14) 80 co_stack, rI Y (ao 15) 4 co_asked, rI Y (ao 17) 12 co_gets]) rfl ?_
  refine a_i2l C dX12_summers_153 ?_
  obtain ⟨r3, h3, hf⟩ := fx_bind hf
  refine a_fV C (kX12_enters l D Y ao io_thrown (0 : Int32) io_cells io_children io_changes io_taped io_at io_to io_nest io_readMany io_codeLong io_readLong io_undos io_wentHome io_tideLevel io_acts io_firstBreaks io_bestCrew io_sights io_wayMany io_random co_row (r2.toInt64) r3 h3) gX12_summers_X12_enters rfl dvX12_enters ⟨⟨rfl, rfl⟩, ⟨Nat.le_of_ble_eq_true rfl, Nat.le_of_ble_eq_true rfl⟩, ⟨Nat.le_of_ble_eq_true rfl, Nat.le_of_ble_eq_true rfl⟩⟩ rfl (Nat.le_of_ble_eq_true rfl) dX12_summers_154 rfl rfl [0, 1] rfl rfl rfl (wn := [oX12 ao io_thrown r3.1 io_cells io_children io_changes io_taped io_at io_to io_nest io_readMany io_codeLong io_readLong io_undos io_wentHome io_tideLevel io_acts io_firstBreaks io_bestCrew io_sights io_wayMany io_random, rJ Y (ao 1) 24 r3.2, rI Y (ao 2) 12 co_base, rI Y (ao 3) 12 co_dyke, rI Y (ao 4) 8 co_age, rI Y (ao 5) 8 co_skill, rI Y (ao 6) 8 co_friend, rI Y (ao 7) 2 co_fixed, rI Y (ao 8) 43 co_now, rI Y (ao 9) 43 co_then, rI Y (ao 12) 80 co_code, rI Y (ao 14) 80 co_stack, rI Y (ao 15) 4 co_asked, rI Y (ao 17) 12 co_gets]) rfl ?_
  refine a_aload_n C dX12_summers_157 rfl ?_
  refine a_aload_n C dX12_summers_158 rfl ?_
  refine a_aload_n C dX12_summers_159 rfl ?_
  refine a_get C eX12_summers_39 dX12_summers_160 0 rfl rfl ?_
  refine a_iconst C (-1 : Int32) dX12_summers_163 (by decide) ?_
  obtain ⟨r4, h4, hf⟩ := fx_bind hf
  refine a_fV C (kX12_childrenAt l D Y ao (ao 9) io_thrown r3.1 io_cells io_children io_changes io_taped io_at io_to io_nest io_readMany io_codeLong io_readLong io_undos io_wentHome io_tideLevel io_acts io_firstBreaks io_bestCrew io_sights io_wayMany io_random co_then (-1 : Int32) r4 h4) gX12_summers_X12_childrenAt rfl dvX12_childrenAt ⟨⟨rfl, rfl⟩, ⟨Nat.le_of_ble_eq_true rfl, Nat.le_of_ble_eq_true rfl⟩, ⟨Nat.le_of_ble_eq_true rfl, Nat.le_of_ble_eq_true rfl⟩⟩ rfl (Nat.le_of_ble_eq_true rfl) dX12_summers_164 rfl rfl [0, 9] rfl rfl rfl (wn := [oX12 ao io_thrown r3.1 io_cells io_children io_changes io_taped io_at io_to io_nest io_readMany io_codeLong io_readLong io_undos io_wentHome io_tideLevel io_acts io_firstBreaks io_bestCrew io_sights io_wayMany io_random, rJ Y (ao 1) 24 r3.2, rI Y (ao 2) 12 co_base, rI Y (ao 3) 12 co_dyke, rI Y (ao 4) 8 co_age, rI Y (ao 5) 8 co_skill, rI Y (ao 6) 8 co_friend, rI Y (ao 7) 2 co_fixed, rI Y (ao 8) 43 co_now, rI Y (ao 9) 43 co_then, rI Y (ao 12) 80 co_code, rI Y (ao 14) 80 co_stack, rI Y (ao 15) 4 co_asked, rI Y (ao 17) 12 co_gets]) rfl ?_
  obtain ⟨r5, h5, hf⟩ := fx_bind hf
  refine a_fS C (kJ6_bitCount_0f7a4 l D Y r4 r5 h5) gX12_summers_J6_bitCount_0f7a4 rfl dvJ6_bitCount_0f7a4 ⟨⟨rfl, rfl⟩, ⟨Nat.le_of_ble_eq_true rfl, Nat.le_of_ble_eq_true rfl⟩, ⟨Nat.le_of_ble_eq_true rfl, Nat.le_of_ble_eq_true rfl⟩⟩ rfl (Nat.le_of_ble_eq_true rfl) dX12_summers_167 [] rfl rfl rfl (wn := [oX12 ao io_thrown r3.1 io_cells io_children io_changes io_taped io_at io_to io_nest io_readMany io_codeLong io_readLong io_undos io_wentHome io_tideLevel io_acts io_firstBreaks io_bestCrew io_sights io_wayMany io_random, rJ Y (ao 1) 24 r3.2, rI Y (ao 2) 12 co_base, rI Y (ao 3) 12 co_dyke, rI Y (ao 4) 8 co_age, rI Y (ao 5) 8 co_skill, rI Y (ao 6) 8 co_friend, rI Y (ao 7) 2 co_fixed, rI Y (ao 8) 43 co_now, rI Y (ao 9) 43 co_then, rI Y (ao 12) 80 co_code, rI Y (ao 14) 80 co_stack, rI Y (ao 15) 4 co_asked, rI Y (ao 17) 12 co_gets]) rfl ?_
  refine a_i2l C dX12_summers_170 ?_
  obtain ⟨r6, h6, hf⟩ := fx_bind hf
  refine a_fV C (kX12_enters l D Y ao io_thrown r3.1 io_cells io_children io_changes io_taped io_at io_to io_nest io_readMany io_codeLong io_readLong io_undos io_wentHome io_tideLevel io_acts io_firstBreaks io_bestCrew io_sights io_wayMany io_random r3.2 (r5.toInt64) r6 h6) gX12_summers_X12_enters rfl dvX12_enters ⟨⟨rfl, rfl⟩, ⟨Nat.le_of_ble_eq_true rfl, Nat.le_of_ble_eq_true rfl⟩, ⟨Nat.le_of_ble_eq_true rfl, Nat.le_of_ble_eq_true rfl⟩⟩ rfl (Nat.le_of_ble_eq_true rfl) dX12_summers_171 rfl rfl [0, 1] rfl rfl rfl (wn := [oX12 ao io_thrown r6.1 io_cells io_children io_changes io_taped io_at io_to io_nest io_readMany io_codeLong io_readLong io_undos io_wentHome io_tideLevel io_acts io_firstBreaks io_bestCrew io_sights io_wayMany io_random, rJ Y (ao 1) 24 r6.2, rI Y (ao 2) 12 co_base, rI Y (ao 3) 12 co_dyke, rI Y (ao 4) 8 co_age, rI Y (ao 5) 8 co_skill, rI Y (ao 6) 8 co_friend, rI Y (ao 7) 2 co_fixed, rI Y (ao 8) 43 co_now, rI Y (ao 9) 43 co_then, rI Y (ao 12) 80 co_code, rI Y (ao 14) 80 co_stack, rI Y (ao 15) 4 co_asked, rI Y (ao 17) 12 co_gets]) rfl ?_
  refine a_iload_n C dX12_summers_174 rfl ?_
  obtain rfl := fx_some hf
  exact a_iret C hQ dX12_summers_175 ⟨rfl, rfl⟩
def fX12_summers_b130 (io_thrown : Int32) (io_rows : Int32) (io_cells : Int32) (io_children : Int32) (io_codeLong : Int32) (io_wentHome : Int32) (io_tideLevel : Int32) (io_random : Int32) (co_row : Nat → Int64) (co_base : Nat → Int32) (co_dyke : Nat → Int32) (co_age : Nat → Int32) (co_skill : Nat → Int32) (co_friend : Nat → Int32) (co_fixed : Nat → Int32) (co_now : Nat → Int32) (co_then : Nat → Int32) (co_code : Nat → Int32) (co_stack : Nat → Int32) (co_asked : Nat → Int32) (co_gets : Nat → Int32) (x2 : Int32) (x3 : Int32) (x4 : Int32) (k33 : Int32 × Int32 × Int32 × (Nat → Int32) × (Nat → Int32) × (Nat → Int32) × (Nat → Int32) × Int32 × Int32 → Option (Int32 × Int32 × Int32 × Int32 × Int32 × Int32 × (Nat → Int64) × (Nat → Int32) × (Nat → Int32) × (Nat → Int32) × (Nat → Int32))) : Option (Int32 × Int32 × Int32 × Int32 × Int32 × Int32 × (Nat → Int64) × (Nat → Int32) × (Nat → Int32) × (Nat → Int32) × (Nat → Int32)) :=
  k33 (io_wentHome, io_tideLevel, io_random, co_then, co_stack, co_asked, co_gets, x3, (x4 + (1 : Int32)))
set_option maxHeartbeats 4000000 in
set_option maxRecDepth 100000 in
theorem kX12_summers_b130 {X : cxT} {l : Launch} {D : va_G} {Y : Nat → ClassId} {ao : Nat → Nat} {io_thrown : Int32} {io_rows : Int32} {io_cells : Int32} {io_children : Int32} {io_changes : Int32} {io_taped : Int32} {io_at : Int32} {io_to : Int32} {io_nest : Int32} {io_readMany : Int32} {io_codeLong : Int32} {io_readLong : Int32} {io_undos : Int32} {io_wentHome : Int32} {io_tideLevel : Int32} {io_acts : Int32} {io_firstBreaks : Int32} {io_bestCrew : Int32} {io_sights : Int32} {io_wayMany : Int32} {io_random : Int32} {co_row : Nat → Int64} {co_base : Nat → Int32} {co_dyke : Nat → Int32} {co_age : Nat → Int32} {co_skill : Nat → Int32} {co_friend : Nat → Int32} {co_fixed : Nat → Int32} {co_now : Nat → Int32} {co_then : Nat → Int32} {co_code : Nat → Int32} {co_stack : Nat → Int32} {co_asked : Nat → Int32} {co_gets : Nat → Int32} {x2 : Int32} {x3 : Int32} {x4 : Int32} {res : Int32 × Int32 × Int32 × Int32 × Int32 × Int32 × (Nat → Int64) × (Nat → Int32) × (Nat → Int32) × (Nat → Int32) × (Nat → Int32)} (C : axC X l D Y cX12_summers 7 RX12 wsX12_summers rmX12_summers (some .int)) (hQ : axQ X 0 0 (fun r9 w9 => r9 = (some (.int res.1)) ∧ w9 = [oX12 ao res.2.1 res.2.2.1 io_cells io_children io_changes io_taped io_at io_to io_nest io_readMany io_codeLong io_readLong io_undos res.2.2.2.1 res.2.2.2.2.1 io_acts io_firstBreaks io_bestCrew io_sights io_wayMany res.2.2.2.2.2.1, rJ Y (ao 1) 24 res.2.2.2.2.2.2.1, rI Y (ao 2) 12 co_base, rI Y (ao 3) 12 co_dyke, rI Y (ao 4) 8 co_age, rI Y (ao 5) 8 co_skill, rI Y (ao 6) 8 co_friend, rI Y (ao 7) 2 co_fixed, rI Y (ao 8) 43 co_now, rI Y (ao 9) 43 res.2.2.2.2.2.2.2.1, rI Y (ao 12) 80 co_code, rI Y (ao 14) 80 res.2.2.2.2.2.2.2.2.1, rI Y (ao 15) 4 res.2.2.2.2.2.2.2.2.2.1, rI Y (ao 17) 12 res.2.2.2.2.2.2.2.2.2.2])) {k33 : Int32 × Int32 × Int32 × (Nat → Int32) × (Nat → Int32) × (Nat → Int32) × (Nat → Int32) × Int32 × Int32 → Option (Int32 × Int32 × Int32 × Int32 × Int32 × Int32 × (Nat → Int64) × (Nat → Int32) × (Nat → Int32) × (Nat → Int32) × (Nat → Int32))} (hk33 : ∀ s : Int32 × Int32 × Int32 × (Nat → Int32) × (Nat → Int32) × (Nat → Int32) × (Nat → Int32) × Int32 × Int32, k33 s = some res → ax X 0 0 33 [some (.ref (ao 0)), none, some (.int x2), some (.int s.2.2.2.2.2.2.2.1), some (.int s.2.2.2.2.2.2.2.2), none, none] [oX12 ao io_thrown io_rows io_cells io_children io_changes io_taped io_at io_to io_nest io_readMany io_codeLong io_readLong io_undos s.1 s.2.1 io_acts io_firstBreaks io_bestCrew io_sights io_wayMany s.2.2.1, rJ Y (ao 1) 24 co_row, rI Y (ao 2) 12 co_base, rI Y (ao 3) 12 co_dyke, rI Y (ao 4) 8 co_age, rI Y (ao 5) 8 co_skill, rI Y (ao 6) 8 co_friend, rI Y (ao 7) 2 co_fixed, rI Y (ao 8) 43 co_now, rI Y (ao 9) 43 s.2.2.2.1, rI Y (ao 12) 80 co_code, rI Y (ao 14) 80 s.2.2.2.2.1, rI Y (ao 15) 4 s.2.2.2.2.2.1, rI Y (ao 17) 12 s.2.2.2.2.2.2.1] []) (hf : fX12_summers_b130 io_thrown io_rows io_cells io_children io_codeLong io_wentHome io_tideLevel io_random co_row co_base co_dyke co_age co_skill co_friend co_fixed co_now co_then co_code co_stack co_asked co_gets x2 x3 x4 k33 = some res) : ax X 0 0 130 [some (.ref (ao 0)), none, some (.int x2), some (.int x3), some (.int x4), none, none] [oX12 ao io_thrown io_rows io_cells io_children io_changes io_taped io_at io_to io_nest io_readMany io_codeLong io_readLong io_undos io_wentHome io_tideLevel io_acts io_firstBreaks io_bestCrew io_sights io_wayMany io_random, rJ Y (ao 1) 24 co_row, rI Y (ao 2) 12 co_base, rI Y (ao 3) 12 co_dyke, rI Y (ao 4) 8 co_age, rI Y (ao 5) 8 co_skill, rI Y (ao 6) 8 co_friend, rI Y (ao 7) 2 co_fixed, rI Y (ao 8) 43 co_now, rI Y (ao 9) 43 co_then, rI Y (ao 12) 80 co_code, rI Y (ao 14) 80 co_stack, rI Y (ao 15) 4 co_asked, rI Y (ao 17) 12 co_gets] [] := by
  unfold fX12_summers_b130 at hf
  refine a_iinc C (1 : Int32) dX12_summers_130 (by decide) rfl (by decide) rfl ?_
  refine a_goto C 33 dX12_summers_133 (by decide) ?_
  exact hk33 (io_wentHome, io_tideLevel, io_random, co_then, co_stack, co_asked, co_gets, x3, (x4 + (1 : Int32))) hf
def fX12_summers_b86 (io_thrown : Int32) (io_rows : Int32) (io_cells : Int32) (io_children : Int32) (io_codeLong : Int32) (io_wentHome : Int32) (io_tideLevel : Int32) (io_random : Int32) (co_row : Nat → Int64) (co_base : Nat → Int32) (co_dyke : Nat → Int32) (co_age : Nat → Int32) (co_skill : Nat → Int32) (co_friend : Nat → Int32) (co_fixed : Nat → Int32) (co_now : Nat → Int32) (co_then : Nat → Int32) (co_code : Nat → Int32) (co_stack : Nat → Int32) (co_asked : Nat → Int32) (co_gets : Nat → Int32) (x2 : Int32) (x4 : Int32) (s0 : Int32) (s1 : Int32) (k33 : Int32 × Int32 × Int32 × (Nat → Int32) × (Nat → Int32) × (Nat → Int32) × (Nat → Int32) × Int32 × Int32 → Option (Int32 × Int32 × Int32 × Int32 × Int32 × Int32 × (Nat → Int64) × (Nat → Int32) × (Nat → Int32) × (Nat → Int32) × (Nat → Int32))) : Option (Int32 × Int32 × Int32 × Int32 × Int32 × Int32 × (Nat → Int64) × (Nat → Int32) × (Nat → Int32) × (Nat → Int32) × (Nat → Int32)) :=
  (fX12_flag s1).bind (fun r7 => fX12_summers_b130 io_thrown io_rows io_cells io_children io_codeLong io_wentHome io_tideLevel io_random co_row co_base co_dyke co_age co_skill co_friend co_fixed co_now co_then co_code co_stack co_asked co_gets x2 (s0 + r7) x4 k33)
set_option maxHeartbeats 4000000 in
set_option maxRecDepth 100000 in
theorem kX12_summers_b86 {X : cxT} {l : Launch} {D : va_G} {Y : Nat → ClassId} {ao : Nat → Nat} {io_thrown : Int32} {io_rows : Int32} {io_cells : Int32} {io_children : Int32} {io_changes : Int32} {io_taped : Int32} {io_at : Int32} {io_to : Int32} {io_nest : Int32} {io_readMany : Int32} {io_codeLong : Int32} {io_readLong : Int32} {io_undos : Int32} {io_wentHome : Int32} {io_tideLevel : Int32} {io_acts : Int32} {io_firstBreaks : Int32} {io_bestCrew : Int32} {io_sights : Int32} {io_wayMany : Int32} {io_random : Int32} {co_row : Nat → Int64} {co_base : Nat → Int32} {co_dyke : Nat → Int32} {co_age : Nat → Int32} {co_skill : Nat → Int32} {co_friend : Nat → Int32} {co_fixed : Nat → Int32} {co_now : Nat → Int32} {co_then : Nat → Int32} {co_code : Nat → Int32} {co_stack : Nat → Int32} {co_asked : Nat → Int32} {co_gets : Nat → Int32} {x2 : Int32} {x4 : Int32} {s0 : Int32} {s1 : Int32} {res : Int32 × Int32 × Int32 × Int32 × Int32 × Int32 × (Nat → Int64) × (Nat → Int32) × (Nat → Int32) × (Nat → Int32) × (Nat → Int32)} (C : axC X l D Y cX12_summers 7 RX12 wsX12_summers rmX12_summers (some .int)) (hQ : axQ X 0 0 (fun r9 w9 => r9 = (some (.int res.1)) ∧ w9 = [oX12 ao res.2.1 res.2.2.1 io_cells io_children io_changes io_taped io_at io_to io_nest io_readMany io_codeLong io_readLong io_undos res.2.2.2.1 res.2.2.2.2.1 io_acts io_firstBreaks io_bestCrew io_sights io_wayMany res.2.2.2.2.2.1, rJ Y (ao 1) 24 res.2.2.2.2.2.2.1, rI Y (ao 2) 12 co_base, rI Y (ao 3) 12 co_dyke, rI Y (ao 4) 8 co_age, rI Y (ao 5) 8 co_skill, rI Y (ao 6) 8 co_friend, rI Y (ao 7) 2 co_fixed, rI Y (ao 8) 43 co_now, rI Y (ao 9) 43 res.2.2.2.2.2.2.2.1, rI Y (ao 12) 80 co_code, rI Y (ao 14) 80 res.2.2.2.2.2.2.2.2.1, rI Y (ao 15) 4 res.2.2.2.2.2.2.2.2.2.1, rI Y (ao 17) 12 res.2.2.2.2.2.2.2.2.2.2])) {k33 : Int32 × Int32 × Int32 × (Nat → Int32) × (Nat → Int32) × (Nat → Int32) × (Nat → Int32) × Int32 × Int32 → Option (Int32 × Int32 × Int32 × Int32 × Int32 × Int32 × (Nat → Int64) × (Nat → Int32) × (Nat → Int32) × (Nat → Int32) × (Nat → Int32))} (hk33 : ∀ s : Int32 × Int32 × Int32 × (Nat → Int32) × (Nat → Int32) × (Nat → Int32) × (Nat → Int32) × Int32 × Int32, k33 s = some res → ax X 0 0 33 [some (.ref (ao 0)), none, some (.int x2), some (.int s.2.2.2.2.2.2.2.1), some (.int s.2.2.2.2.2.2.2.2), none, none] [oX12 ao io_thrown io_rows io_cells io_children io_changes io_taped io_at io_to io_nest io_readMany io_codeLong io_readLong io_undos s.1 s.2.1 io_acts io_firstBreaks io_bestCrew io_sights io_wayMany s.2.2.1, rJ Y (ao 1) 24 co_row, rI Y (ao 2) 12 co_base, rI Y (ao 3) 12 co_dyke, rI Y (ao 4) 8 co_age, rI Y (ao 5) 8 co_skill, rI Y (ao 6) 8 co_friend, rI Y (ao 7) 2 co_fixed, rI Y (ao 8) 43 co_now, rI Y (ao 9) 43 s.2.2.2.1, rI Y (ao 12) 80 co_code, rI Y (ao 14) 80 s.2.2.2.2.1, rI Y (ao 15) 4 s.2.2.2.2.2.1, rI Y (ao 17) 12 s.2.2.2.2.2.2.1] []) (hf : fX12_summers_b86 io_thrown io_rows io_cells io_children io_codeLong io_wentHome io_tideLevel io_random co_row co_base co_dyke co_age co_skill co_friend co_fixed co_now co_then co_code co_stack co_asked co_gets x2 x4 s0 s1 k33 = some res) : ax X 0 0 86 [some (.ref (ao 0)), none, some (.int x2), none, some (.int x4), none, none] [oX12 ao io_thrown io_rows io_cells io_children io_changes io_taped io_at io_to io_nest io_readMany io_codeLong io_readLong io_undos io_wentHome io_tideLevel io_acts io_firstBreaks io_bestCrew io_sights io_wayMany io_random, rJ Y (ao 1) 24 co_row, rI Y (ao 2) 12 co_base, rI Y (ao 3) 12 co_dyke, rI Y (ao 4) 8 co_age, rI Y (ao 5) 8 co_skill, rI Y (ao 6) 8 co_friend, rI Y (ao 7) 2 co_fixed, rI Y (ao 8) 43 co_now, rI Y (ao 9) 43 co_then, rI Y (ao 12) 80 co_code, rI Y (ao 14) 80 co_stack, rI Y (ao 15) 4 co_asked, rI Y (ao 17) 12 co_gets] [.int s1, .int s0] := by
  unfold fX12_summers_b86 at hf
  obtain ⟨r7, h7, hf⟩ := fx_bind hf
  refine a_fS C (kX12_flag l D Y s1 r7 h7) gX12_summers_X12_flag rfl dvX12_flag ⟨⟨rfl, rfl⟩, ⟨Nat.le_of_ble_eq_true rfl, Nat.le_of_ble_eq_true rfl⟩, ⟨Nat.le_of_ble_eq_true rfl, Nat.le_of_ble_eq_true rfl⟩⟩ rfl (Nat.le_of_ble_eq_true rfl) dX12_summers_86 [] rfl rfl rfl (wn := [oX12 ao io_thrown io_rows io_cells io_children io_changes io_taped io_at io_to io_nest io_readMany io_codeLong io_readLong io_undos io_wentHome io_tideLevel io_acts io_firstBreaks io_bestCrew io_sights io_wayMany io_random, rJ Y (ao 1) 24 co_row, rI Y (ao 2) 12 co_base, rI Y (ao 3) 12 co_dyke, rI Y (ao 4) 8 co_age, rI Y (ao 5) 8 co_skill, rI Y (ao 6) 8 co_friend, rI Y (ao 7) 2 co_fixed, rI Y (ao 8) 43 co_now, rI Y (ao 9) 43 co_then, rI Y (ao 12) 80 co_code, rI Y (ao 14) 80 co_stack, rI Y (ao 15) 4 co_asked, rI Y (ao 17) 12 co_gets]) rfl ?_
  refine a_iadd C dX12_summers_89 ?_
  refine a_istore_n C dX12_summers_90 (by decide) rfl ?_
  refine a_goto C 130 dX12_summers_91 (by decide) ?_
  exact kX12_summers_b130 C hQ hk33 hf
def fX12_summers_l33 (io_thrown : Int32) (io_rows : Int32) (io_cells : Int32) (io_children : Int32) (io_codeLong : Int32) (co_row : Nat → Int64) (co_base : Nat → Int32) (co_dyke : Nat → Int32) (co_age : Nat → Int32) (co_skill : Nat → Int32) (co_friend : Nat → Int32) (co_fixed : Nat → Int32) (co_now : Nat → Int32) (co_code : Nat → Int32) (x2 : Int32) (k33 : Int32 × Int32 × Int32 × (Nat → Int32) × (Nat → Int32) × (Nat → Int32) × (Nat → Int32) × Int32 × Int32 → Option (Int32 × Int32 × Int32 × Int32 × Int32 × Int32 × (Nat → Int64) × (Nat → Int32) × (Nat → Int32) × (Nat → Int32) × (Nat → Int32))) (io_wentHome : Int32) (io_tideLevel : Int32) (io_random : Int32) (co_then : Nat → Int32) (co_stack : Nat → Int32) (co_asked : Nat → Int32) (co_gets : Nat → Int32) (x3 : Int32) (x4 : Int32) : Option (Int32 × Int32 × Int32 × Int32 × Int32 × Int32 × (Nat → Int64) × (Nat → Int32) × (Nat → Int32) × (Nat → Int32) × (Nat → Int32)) :=
  if x2 ≤ x4 then (fX12_summers_b136 io_thrown io_rows io_cells io_children io_codeLong io_wentHome io_tideLevel io_random co_row co_base co_dyke co_age co_skill co_friend co_fixed co_now co_then co_code co_stack co_asked co_gets x3) else ((fX12_draws io_random (4 : Int32)).bind (fun r9 => if (2 : Int32) ≤ r9.1 then (if r9.1 = (3 : Int32) then ((fX12_tideComes io_cells io_codeLong io_tideLevel co_base co_dyke co_fixed co_code co_stack co_asked co_then).bind (fun r16 => if r16.1 = (0 : Int32) then (fX12_summers_b86 io_thrown io_rows io_cells io_children io_codeLong io_wentHome r16.2.1 r9.2 co_row co_base co_dyke co_age co_skill co_friend co_fixed co_now r16.2.2.2.2 co_code r16.2.2.1 r16.2.2.2.1 co_gets x2 x4 x3 (0 : Int32) k33) else (fX12_summers_b86 io_thrown io_rows io_cells io_children io_codeLong io_wentHome r16.2.1 r9.2 co_row co_base co_dyke co_age co_skill co_friend co_fixed co_now r16.2.2.2.2 co_code r16.2.2.1 r16.2.2.2.1 co_gets x2 x4 x3 (1 : Int32) k33))) else (if io_children ≤ (0 : Int32) then (fX12_summers_b130 io_thrown io_rows io_cells io_children io_codeLong io_wentHome io_tideLevel r9.2 co_row co_base co_dyke co_age co_skill co_friend co_fixed co_now co_then co_code co_stack co_asked co_gets x2 x3 x4 k33) else ((fX12_draws r9.2 io_children).bind (fun r13 => (fX12_draws r13.2 io_cells).bind (fun r14 => (fX12_goes io_cells io_children co_then r13.1 r14.1).bind (fun r15 => fX12_summers_b130 io_thrown io_rows io_cells io_children io_codeLong io_wentHome io_tideLevel r14.2 co_row co_base co_dyke co_age co_skill co_friend co_fixed co_now r15.2 co_code co_stack co_asked co_gets x2 x3 x4 k33)))))) else ((fX12_spellGoes io_cells io_children io_wentHome co_age co_skill co_friend co_gets co_then).bind (fun r18 => fX12_summers_b130 io_thrown io_rows io_cells io_children io_codeLong r18.1 io_tideLevel r9.2 co_row co_base co_dyke co_age co_skill co_friend co_fixed co_now r18.2.2 co_code co_stack co_asked r18.2.1 x2 x3 x4 k33))))
def fX12_summers_b33 (io_thrown : Int32) (io_rows : Int32) (io_cells : Int32) (io_children : Int32) (io_codeLong : Int32) (io_wentHome : Int32) (io_tideLevel : Int32) (io_random : Int32) (co_row : Nat → Int64) (co_base : Nat → Int32) (co_dyke : Nat → Int32) (co_age : Nat → Int32) (co_skill : Nat → Int32) (co_friend : Nat → Int32) (co_fixed : Nat → Int32) (co_now : Nat → Int32) (co_then : Nat → Int32) (co_code : Nat → Int32) (co_stack : Nat → Int32) (co_asked : Nat → Int32) (co_gets : Nat → Int32) (x2 : Int32) (x3 : Int32) (x4 : Int32) : Option (Int32 × Int32 × Int32 × Int32 × Int32 × Int32 × (Nat → Int64) × (Nat → Int32) × (Nat → Int32) × (Nat → Int32) × (Nat → Int32)) :=
  loopN (fun (s : Int32 × Int32 × Int32 × (Nat → Int32) × (Nat → Int32) × (Nat → Int32) × (Nat → Int32) × Int32 × Int32) k33 => fX12_summers_l33 io_thrown io_rows io_cells io_children io_codeLong co_row co_base co_dyke co_age co_skill co_friend co_fixed co_now co_code x2 k33 s.1 s.2.1 s.2.2.1 s.2.2.2.1 s.2.2.2.2.1 s.2.2.2.2.2.1 s.2.2.2.2.2.2.1 s.2.2.2.2.2.2.2.1 s.2.2.2.2.2.2.2.2) FUEL (io_wentHome, io_tideLevel, io_random, co_then, co_stack, co_asked, co_gets, x3, x4)
set_option maxHeartbeats 4000000 in
set_option maxRecDepth 100000 in
theorem kX12_summers_l33 {X : cxT} {l : Launch} {D : va_G} {Y : Nat → ClassId} {ao : Nat → Nat} {io_thrown : Int32} {io_rows : Int32} {io_cells : Int32} {io_children : Int32} {io_changes : Int32} {io_taped : Int32} {io_at : Int32} {io_to : Int32} {io_nest : Int32} {io_readMany : Int32} {io_codeLong : Int32} {io_readLong : Int32} {io_undos : Int32} {io_wentHome : Int32} {io_tideLevel : Int32} {io_acts : Int32} {io_firstBreaks : Int32} {io_bestCrew : Int32} {io_sights : Int32} {io_wayMany : Int32} {io_random : Int32} {co_row : Nat → Int64} {co_base : Nat → Int32} {co_dyke : Nat → Int32} {co_age : Nat → Int32} {co_skill : Nat → Int32} {co_friend : Nat → Int32} {co_fixed : Nat → Int32} {co_now : Nat → Int32} {co_then : Nat → Int32} {co_code : Nat → Int32} {co_stack : Nat → Int32} {co_asked : Nat → Int32} {co_gets : Nat → Int32} {x2 : Int32} {x3 : Int32} {x4 : Int32} {res : Int32 × Int32 × Int32 × Int32 × Int32 × Int32 × (Nat → Int64) × (Nat → Int32) × (Nat → Int32) × (Nat → Int32) × (Nat → Int32)} (C : axC X l D Y cX12_summers 7 RX12 wsX12_summers rmX12_summers (some .int)) (hQ : axQ X 0 0 (fun r9 w9 => r9 = (some (.int res.1)) ∧ w9 = [oX12 ao res.2.1 res.2.2.1 io_cells io_children io_changes io_taped io_at io_to io_nest io_readMany io_codeLong io_readLong io_undos res.2.2.2.1 res.2.2.2.2.1 io_acts io_firstBreaks io_bestCrew io_sights io_wayMany res.2.2.2.2.2.1, rJ Y (ao 1) 24 res.2.2.2.2.2.2.1, rI Y (ao 2) 12 co_base, rI Y (ao 3) 12 co_dyke, rI Y (ao 4) 8 co_age, rI Y (ao 5) 8 co_skill, rI Y (ao 6) 8 co_friend, rI Y (ao 7) 2 co_fixed, rI Y (ao 8) 43 co_now, rI Y (ao 9) 43 res.2.2.2.2.2.2.2.1, rI Y (ao 12) 80 co_code, rI Y (ao 14) 80 res.2.2.2.2.2.2.2.2.1, rI Y (ao 15) 4 res.2.2.2.2.2.2.2.2.2.1, rI Y (ao 17) 12 res.2.2.2.2.2.2.2.2.2.2])) {k33 : Int32 × Int32 × Int32 × (Nat → Int32) × (Nat → Int32) × (Nat → Int32) × (Nat → Int32) × Int32 × Int32 → Option (Int32 × Int32 × Int32 × Int32 × Int32 × Int32 × (Nat → Int64) × (Nat → Int32) × (Nat → Int32) × (Nat → Int32) × (Nat → Int32))} (hk33 : ∀ s : Int32 × Int32 × Int32 × (Nat → Int32) × (Nat → Int32) × (Nat → Int32) × (Nat → Int32) × Int32 × Int32, k33 s = some res → ax X 0 0 33 [some (.ref (ao 0)), none, some (.int x2), some (.int s.2.2.2.2.2.2.2.1), some (.int s.2.2.2.2.2.2.2.2), none, none] [oX12 ao io_thrown io_rows io_cells io_children io_changes io_taped io_at io_to io_nest io_readMany io_codeLong io_readLong io_undos s.1 s.2.1 io_acts io_firstBreaks io_bestCrew io_sights io_wayMany s.2.2.1, rJ Y (ao 1) 24 co_row, rI Y (ao 2) 12 co_base, rI Y (ao 3) 12 co_dyke, rI Y (ao 4) 8 co_age, rI Y (ao 5) 8 co_skill, rI Y (ao 6) 8 co_friend, rI Y (ao 7) 2 co_fixed, rI Y (ao 8) 43 co_now, rI Y (ao 9) 43 s.2.2.2.1, rI Y (ao 12) 80 co_code, rI Y (ao 14) 80 s.2.2.2.2.1, rI Y (ao 15) 4 s.2.2.2.2.2.1, rI Y (ao 17) 12 s.2.2.2.2.2.2.1] []) (hf : fX12_summers_l33 io_thrown io_rows io_cells io_children io_codeLong co_row co_base co_dyke co_age co_skill co_friend co_fixed co_now co_code x2 k33 io_wentHome io_tideLevel io_random co_then co_stack co_asked co_gets x3 x4 = some res) : ax X 0 0 33 [some (.ref (ao 0)), none, some (.int x2), some (.int x3), some (.int x4), none, none] [oX12 ao io_thrown io_rows io_cells io_children io_changes io_taped io_at io_to io_nest io_readMany io_codeLong io_readLong io_undos io_wentHome io_tideLevel io_acts io_firstBreaks io_bestCrew io_sights io_wayMany io_random, rJ Y (ao 1) 24 co_row, rI Y (ao 2) 12 co_base, rI Y (ao 3) 12 co_dyke, rI Y (ao 4) 8 co_age, rI Y (ao 5) 8 co_skill, rI Y (ao 6) 8 co_friend, rI Y (ao 7) 2 co_fixed, rI Y (ao 8) 43 co_now, rI Y (ao 9) 43 co_then, rI Y (ao 12) 80 co_code, rI Y (ao 14) 80 co_stack, rI Y (ao 15) 4 co_asked, rI Y (ao 17) 12 co_gets] [] := by
  unfold fX12_summers_l33 at hf
  refine a_iload C dX12_summers_33 rfl ?_
  refine a_iload_n C dX12_summers_35 rfl ?_
  refine a_icmp_ge C 136 dX12_summers_36 (by decide) (fun h8 => ?_) (fun h8 => ?_)
  · have hf := fx_t h8 hf
    refine a_kill [2, 4] ?_
    exact kX12_summers_b136 C hQ hf
  · have hf := fx_f h8 hf
    refine a_aload_n C dX12_summers_39 rfl ?_
    refine a_iconst C (4 : Int32) dX12_summers_40 (by decide) ?_
    obtain ⟨r9, h9, hf⟩ := fx_bind hf
    refine a_fV C (kX12_draws l D Y ao io_thrown io_rows io_cells io_children io_changes io_taped io_at io_to io_nest io_readMany io_codeLong io_readLong io_undos io_wentHome io_tideLevel io_acts io_firstBreaks io_bestCrew io_sights io_wayMany io_random (4 : Int32) r9 h9) gX12_summers_X12_draws rfl dvX12_draws ⟨⟨rfl, rfl⟩, ⟨Nat.le_of_ble_eq_true rfl, Nat.le_of_ble_eq_true rfl⟩, ⟨Nat.le_of_ble_eq_true rfl, Nat.le_of_ble_eq_true rfl⟩⟩ rfl (Nat.le_of_ble_eq_true rfl) dX12_summers_41 rfl rfl [0] rfl rfl rfl (wn := [oX12 ao io_thrown io_rows io_cells io_children io_changes io_taped io_at io_to io_nest io_readMany io_codeLong io_readLong io_undos io_wentHome io_tideLevel io_acts io_firstBreaks io_bestCrew io_sights io_wayMany r9.2, rJ Y (ao 1) 24 co_row, rI Y (ao 2) 12 co_base, rI Y (ao 3) 12 co_dyke, rI Y (ao 4) 8 co_age, rI Y (ao 5) 8 co_skill, rI Y (ao 6) 8 co_friend, rI Y (ao 7) 2 co_fixed, rI Y (ao 8) 43 co_now, rI Y (ao 9) 43 co_then, rI Y (ao 12) 80 co_code, rI Y (ao 14) 80 co_stack, rI Y (ao 15) 4 co_asked, rI Y (ao 17) 12 co_gets]) rfl ?_
    refine a_istore C dX12_summers_44 (by decide) rfl ?_
    refine a_iload C dX12_summers_46 rfl ?_
    refine a_iconst C (2 : Int32) dX12_summers_48 (by decide) ?_
    refine a_icmp_ge C 63 dX12_summers_49 (by decide) (fun h10 => ?_) (fun h10 => ?_)
    · have hf := fx_t h10 hf
      refine a_iload C dX12_summers_63 rfl ?_
      refine a_iconst C (3 : Int32) dX12_summers_65 (by decide) ?_
      refine a_icmp_ne C 94 dX12_summers_66 (by decide) (fun h11 => ?_) (fun h11 => ?_)
      · have hf := fx_f h11 hf
        refine a_aload_n C dX12_summers_94 rfl ?_
        refine a_get C eX12_summers_126 dX12_summers_95 0 rfl rfl ?_
        refine a_if_le C 130 dX12_summers_98 (by decide) (fun h12 => ?_) (fun h12 => ?_)
        · have hf := fx_t h12 hf
          refine a_kill [5] ?_
          exact kX12_summers_b130 C hQ hk33 hf
        · have hf := fx_f h12 hf
          refine a_aload_n C dX12_summers_101 rfl ?_
          refine a_aload_n C dX12_summers_102 rfl ?_
          refine a_get C eX12_summers_126 dX12_summers_103 0 rfl rfl ?_
          obtain ⟨r13, h13, hf⟩ := fx_bind hf
          refine a_fV C (kX12_draws l D Y ao io_thrown io_rows io_cells io_children io_changes io_taped io_at io_to io_nest io_readMany io_codeLong io_readLong io_undos io_wentHome io_tideLevel io_acts io_firstBreaks io_bestCrew io_sights io_wayMany r9.2 io_children r13 h13) gX12_summers_X12_draws rfl dvX12_draws ⟨⟨rfl, rfl⟩, ⟨Nat.le_of_ble_eq_true rfl, Nat.le_of_ble_eq_true rfl⟩, ⟨Nat.le_of_ble_eq_true rfl, Nat.le_of_ble_eq_true rfl⟩⟩ rfl (Nat.le_of_ble_eq_true rfl) dX12_summers_106 rfl rfl [0] rfl rfl rfl (wn := [oX12 ao io_thrown io_rows io_cells io_children io_changes io_taped io_at io_to io_nest io_readMany io_codeLong io_readLong io_undos io_wentHome io_tideLevel io_acts io_firstBreaks io_bestCrew io_sights io_wayMany r13.2, rJ Y (ao 1) 24 co_row, rI Y (ao 2) 12 co_base, rI Y (ao 3) 12 co_dyke, rI Y (ao 4) 8 co_age, rI Y (ao 5) 8 co_skill, rI Y (ao 6) 8 co_friend, rI Y (ao 7) 2 co_fixed, rI Y (ao 8) 43 co_now, rI Y (ao 9) 43 co_then, rI Y (ao 12) 80 co_code, rI Y (ao 14) 80 co_stack, rI Y (ao 15) 4 co_asked, rI Y (ao 17) 12 co_gets]) rfl ?_
          refine a_istore C dX12_summers_109 (by decide) rfl ?_
          refine a_aload_n C dX12_summers_111 rfl ?_
          refine a_aload_n C dX12_summers_112 rfl ?_
          refine a_get C eX12_summers_39 dX12_summers_113 0 rfl rfl ?_
          refine a_iload C dX12_summers_116 rfl ?_
          refine a_aload_n C dX12_summers_118 rfl ?_
          refine a_aload_n C dX12_summers_119 rfl ?_
          refine a_get C eX12_summers_13 dX12_summers_120 0 rfl rfl ?_
          obtain ⟨r14, h14, hf⟩ := fx_bind hf
          refine a_fV C (kX12_draws l D Y ao io_thrown io_rows io_cells io_children io_changes io_taped io_at io_to io_nest io_readMany io_codeLong io_readLong io_undos io_wentHome io_tideLevel io_acts io_firstBreaks io_bestCrew io_sights io_wayMany r13.2 io_cells r14 h14) gX12_summers_X12_draws rfl dvX12_draws ⟨⟨rfl, rfl⟩, ⟨Nat.le_of_ble_eq_true rfl, Nat.le_of_ble_eq_true rfl⟩, ⟨Nat.le_of_ble_eq_true rfl, Nat.le_of_ble_eq_true rfl⟩⟩ rfl (Nat.le_of_ble_eq_true rfl) dX12_summers_123 rfl rfl [0] rfl rfl rfl (wn := [oX12 ao io_thrown io_rows io_cells io_children io_changes io_taped io_at io_to io_nest io_readMany io_codeLong io_readLong io_undos io_wentHome io_tideLevel io_acts io_firstBreaks io_bestCrew io_sights io_wayMany r14.2, rJ Y (ao 1) 24 co_row, rI Y (ao 2) 12 co_base, rI Y (ao 3) 12 co_dyke, rI Y (ao 4) 8 co_age, rI Y (ao 5) 8 co_skill, rI Y (ao 6) 8 co_friend, rI Y (ao 7) 2 co_fixed, rI Y (ao 8) 43 co_now, rI Y (ao 9) 43 co_then, rI Y (ao 12) 80 co_code, rI Y (ao 14) 80 co_stack, rI Y (ao 15) 4 co_asked, rI Y (ao 17) 12 co_gets]) rfl ?_
          obtain ⟨r15, h15, hf⟩ := fx_bind hf
          refine a_fV C (kX12_goes l D Y ao (ao 9) io_thrown io_rows io_cells io_children io_changes io_taped io_at io_to io_nest io_readMany io_codeLong io_readLong io_undos io_wentHome io_tideLevel io_acts io_firstBreaks io_bestCrew io_sights io_wayMany r14.2 co_then r13.1 r14.1 r15 h15) gX12_summers_X12_goes rfl dvX12_goes ⟨⟨rfl, rfl⟩, ⟨Nat.le_of_ble_eq_true rfl, Nat.le_of_ble_eq_true rfl⟩, ⟨Nat.le_of_ble_eq_true rfl, Nat.le_of_ble_eq_true rfl⟩⟩ rfl (Nat.le_of_ble_eq_true rfl) dX12_summers_126 rfl rfl [0, 9] rfl rfl rfl (wn := [oX12 ao io_thrown io_rows io_cells io_children io_changes io_taped io_at io_to io_nest io_readMany io_codeLong io_readLong io_undos io_wentHome io_tideLevel io_acts io_firstBreaks io_bestCrew io_sights io_wayMany r14.2, rJ Y (ao 1) 24 co_row, rI Y (ao 2) 12 co_base, rI Y (ao 3) 12 co_dyke, rI Y (ao 4) 8 co_age, rI Y (ao 5) 8 co_skill, rI Y (ao 6) 8 co_friend, rI Y (ao 7) 2 co_fixed, rI Y (ao 8) 43 co_now, rI Y (ao 9) 43 r15.2, rI Y (ao 12) 80 co_code, rI Y (ao 14) 80 co_stack, rI Y (ao 15) 4 co_asked, rI Y (ao 17) 12 co_gets]) rfl ?_
          refine a_pop C dX12_summers_129 rfl ?_
          refine a_kill [5, 6] ?_
          exact kX12_summers_b130 C hQ hk33 hf
      · have hf := fx_t h11 hf
        refine a_iload_n C dX12_summers_69 rfl ?_
        refine a_aload_n C dX12_summers_70 rfl ?_
        refine a_aload_n C dX12_summers_71 rfl ?_
        refine a_get C eX12_summers_39 dX12_summers_72 0 rfl rfl ?_
        obtain ⟨r16, h16, hf⟩ := fx_bind hf
        refine a_fV C (kX12_tideComes l D Y ao (ao 9) io_thrown io_rows io_cells io_children io_changes io_taped io_at io_to io_nest io_readMany io_codeLong io_readLong io_undos io_wentHome io_tideLevel io_acts io_firstBreaks io_bestCrew io_sights io_wayMany r9.2 co_base co_dyke co_fixed co_code co_stack co_asked co_then r16 h16) gX12_summers_X12_tideComes rfl dvX12_tideComes ⟨⟨rfl, rfl⟩, ⟨Nat.le_of_ble_eq_true rfl, Nat.le_of_ble_eq_true rfl⟩, ⟨Nat.le_of_ble_eq_true rfl, Nat.le_of_ble_eq_true rfl⟩⟩ rfl (Nat.le_of_ble_eq_true rfl) dX12_summers_75 rfl rfl [0, 2, 3, 7, 10, 11, 12, 9] rfl rfl rfl (wn := [oX12 ao io_thrown io_rows io_cells io_children io_changes io_taped io_at io_to io_nest io_readMany io_codeLong io_readLong io_undos io_wentHome r16.2.1 io_acts io_firstBreaks io_bestCrew io_sights io_wayMany r9.2, rJ Y (ao 1) 24 co_row, rI Y (ao 2) 12 co_base, rI Y (ao 3) 12 co_dyke, rI Y (ao 4) 8 co_age, rI Y (ao 5) 8 co_skill, rI Y (ao 6) 8 co_friend, rI Y (ao 7) 2 co_fixed, rI Y (ao 8) 43 co_now, rI Y (ao 9) 43 r16.2.2.2.2, rI Y (ao 12) 80 co_code, rI Y (ao 14) 80 r16.2.2.1, rI Y (ao 15) 4 r16.2.2.2.1, rI Y (ao 17) 12 co_gets]) rfl ?_
        refine a_if_eq C 85 dX12_summers_78 (by decide) (fun h17 => ?_) (fun h17 => ?_)
        · have hf := fx_t h17 hf
          refine a_iconst C (0 : Int32) dX12_summers_85 (by decide) ?_
          refine a_kill [3, 5] ?_
          exact kX12_summers_b86 C hQ hk33 hf
        · have hf := fx_f h17 hf
          refine a_iconst C (1 : Int32) dX12_summers_81 (by decide) ?_
          refine a_goto C 86 dX12_summers_82 (by decide) ?_
          refine a_kill [3, 5] ?_
          exact kX12_summers_b86 C hQ hk33 hf
    · have hf := fx_f h10 hf
      refine a_aload_n C dX12_summers_52 rfl ?_
      refine a_aload_n C dX12_summers_53 rfl ?_
      refine a_get C eX12_summers_39 dX12_summers_54 0 rfl rfl ?_
      obtain ⟨r18, h18, hf⟩ := fx_bind hf
      refine a_fV C (kX12_spellGoes l D Y ao (ao 9) io_thrown io_rows io_cells io_children io_changes io_taped io_at io_to io_nest io_readMany io_codeLong io_readLong io_undos io_wentHome io_tideLevel io_acts io_firstBreaks io_bestCrew io_sights io_wayMany r9.2 co_age co_skill co_friend co_gets co_then r18 h18) gX12_summers_X12_spellGoes rfl dvX12_spellGoes ⟨⟨rfl, rfl⟩, ⟨Nat.le_of_ble_eq_true rfl, Nat.le_of_ble_eq_true rfl⟩, ⟨Nat.le_of_ble_eq_true rfl, Nat.le_of_ble_eq_true rfl⟩⟩ rfl (Nat.le_of_ble_eq_true rfl) dX12_summers_57 rfl rfl [0, 4, 5, 6, 13, 9] rfl rfl rfl (wn := [oX12 ao io_thrown io_rows io_cells io_children io_changes io_taped io_at io_to io_nest io_readMany io_codeLong io_readLong io_undos r18.1 io_tideLevel io_acts io_firstBreaks io_bestCrew io_sights io_wayMany r9.2, rJ Y (ao 1) 24 co_row, rI Y (ao 2) 12 co_base, rI Y (ao 3) 12 co_dyke, rI Y (ao 4) 8 co_age, rI Y (ao 5) 8 co_skill, rI Y (ao 6) 8 co_friend, rI Y (ao 7) 2 co_fixed, rI Y (ao 8) 43 co_now, rI Y (ao 9) 43 r18.2.2, rI Y (ao 12) 80 co_code, rI Y (ao 14) 80 co_stack, rI Y (ao 15) 4 co_asked, rI Y (ao 17) 12 r18.2.1]) rfl ?_
      refine a_goto C 130 dX12_summers_60 (by decide) ?_
      refine a_kill [5] ?_
      exact kX12_summers_b130 C hQ hk33 hf
set_option maxHeartbeats 4000000 in
set_option maxRecDepth 100000 in
theorem kX12_summers_b33 {X : cxT} {l : Launch} {D : va_G} {Y : Nat → ClassId} {ao : Nat → Nat} {io_thrown : Int32} {io_rows : Int32} {io_cells : Int32} {io_children : Int32} {io_changes : Int32} {io_taped : Int32} {io_at : Int32} {io_to : Int32} {io_nest : Int32} {io_readMany : Int32} {io_codeLong : Int32} {io_readLong : Int32} {io_undos : Int32} {io_wentHome : Int32} {io_tideLevel : Int32} {io_acts : Int32} {io_firstBreaks : Int32} {io_bestCrew : Int32} {io_sights : Int32} {io_wayMany : Int32} {io_random : Int32} {co_row : Nat → Int64} {co_base : Nat → Int32} {co_dyke : Nat → Int32} {co_age : Nat → Int32} {co_skill : Nat → Int32} {co_friend : Nat → Int32} {co_fixed : Nat → Int32} {co_now : Nat → Int32} {co_then : Nat → Int32} {co_code : Nat → Int32} {co_stack : Nat → Int32} {co_asked : Nat → Int32} {co_gets : Nat → Int32} {x2 : Int32} {x3 : Int32} {x4 : Int32} {res : Int32 × Int32 × Int32 × Int32 × Int32 × Int32 × (Nat → Int64) × (Nat → Int32) × (Nat → Int32) × (Nat → Int32) × (Nat → Int32)} (C : axC X l D Y cX12_summers 7 RX12 wsX12_summers rmX12_summers (some .int)) (hQ : axQ X 0 0 (fun r9 w9 => r9 = (some (.int res.1)) ∧ w9 = [oX12 ao res.2.1 res.2.2.1 io_cells io_children io_changes io_taped io_at io_to io_nest io_readMany io_codeLong io_readLong io_undos res.2.2.2.1 res.2.2.2.2.1 io_acts io_firstBreaks io_bestCrew io_sights io_wayMany res.2.2.2.2.2.1, rJ Y (ao 1) 24 res.2.2.2.2.2.2.1, rI Y (ao 2) 12 co_base, rI Y (ao 3) 12 co_dyke, rI Y (ao 4) 8 co_age, rI Y (ao 5) 8 co_skill, rI Y (ao 6) 8 co_friend, rI Y (ao 7) 2 co_fixed, rI Y (ao 8) 43 co_now, rI Y (ao 9) 43 res.2.2.2.2.2.2.2.1, rI Y (ao 12) 80 co_code, rI Y (ao 14) 80 res.2.2.2.2.2.2.2.2.1, rI Y (ao 15) 4 res.2.2.2.2.2.2.2.2.2.1, rI Y (ao 17) 12 res.2.2.2.2.2.2.2.2.2.2])) (hf : fX12_summers_b33 io_thrown io_rows io_cells io_children io_codeLong io_wentHome io_tideLevel io_random co_row co_base co_dyke co_age co_skill co_friend co_fixed co_now co_then co_code co_stack co_asked co_gets x2 x3 x4 = some res) : ax X 0 0 33 [some (.ref (ao 0)), none, some (.int x2), some (.int x3), some (.int x4), none, none] [oX12 ao io_thrown io_rows io_cells io_children io_changes io_taped io_at io_to io_nest io_readMany io_codeLong io_readLong io_undos io_wentHome io_tideLevel io_acts io_firstBreaks io_bestCrew io_sights io_wayMany io_random, rJ Y (ao 1) 24 co_row, rI Y (ao 2) 12 co_base, rI Y (ao 3) 12 co_dyke, rI Y (ao 4) 8 co_age, rI Y (ao 5) 8 co_skill, rI Y (ao 6) 8 co_friend, rI Y (ao 7) 2 co_fixed, rI Y (ao 8) 43 co_now, rI Y (ao 9) 43 co_then, rI Y (ao 12) 80 co_code, rI Y (ao 14) 80 co_stack, rI Y (ao 15) 4 co_asked, rI Y (ao 17) 12 co_gets] [] := by
  unfold fX12_summers_b33 at hf
  exact fx_loop (P := fun s : Int32 × Int32 × Int32 × (Nat → Int32) × (Nat → Int32) × (Nat → Int32) × (Nat → Int32) × Int32 × Int32 => ax X 0 0 33 [some (.ref (ao 0)), none, some (.int x2), some (.int s.2.2.2.2.2.2.2.1), some (.int s.2.2.2.2.2.2.2.2), none, none] [oX12 ao io_thrown io_rows io_cells io_children io_changes io_taped io_at io_to io_nest io_readMany io_codeLong io_readLong io_undos s.1 s.2.1 io_acts io_firstBreaks io_bestCrew io_sights io_wayMany s.2.2.1, rJ Y (ao 1) 24 co_row, rI Y (ao 2) 12 co_base, rI Y (ao 3) 12 co_dyke, rI Y (ao 4) 8 co_age, rI Y (ao 5) 8 co_skill, rI Y (ao 6) 8 co_friend, rI Y (ao 7) 2 co_fixed, rI Y (ao 8) 43 co_now, rI Y (ao 9) 43 s.2.2.2.1, rI Y (ao 12) 80 co_code, rI Y (ao 14) 80 s.2.2.2.2.1, rI Y (ao 15) 4 s.2.2.2.2.2.1, rI Y (ao 17) 12 s.2.2.2.2.2.2.1] []) (fun s k33 hk33 h => kX12_summers_l33 C hQ hk33 h) FUEL (io_wentHome, io_tideLevel, io_random, co_then, co_stack, co_asked, co_gets, x3, x4) hf
def fX12_summers (io_thrown : Int32) (io_rows : Int32) (io_cells : Int32) (io_children : Int32) (io_codeLong : Int32) (io_wentHome : Int32) (io_tideLevel : Int32) (io_random : Int32) (co_row : Nat → Int64) (co_base : Nat → Int32) (co_dyke : Nat → Int32) (co_age : Nat → Int32) (co_skill : Nat → Int32) (co_friend : Nat → Int32) (co_fixed : Nat → Int32) (co_now : Nat → Int32) (co_then : Nat → Int32) (co_code : Nat → Int32) (co_stack : Nat → Int32) (co_asked : Nat → Int32) (co_gets : Nat → Int32) (x1 : Int32) (x2 : Int32) : Option (Int32 × Int32 × Int32 × Int32 × Int32 × Int32 × (Nat → Int64) × (Nat → Int32) × (Nat → Int32) × (Nat → Int32) × (Nat → Int32)) :=
  (fX12_in (x2.toInt64) (1 : Int64) (60 : Int64)).bind (fun r19 => if r19 = (0 : Int32) then (some ((-1 : Int32), (0 : Int32), io_rows, io_wentHome, io_tideLevel, io_random, co_row, co_then, co_stack, co_asked, co_gets)) else ((fX12_puts co_now co_then).bind (fun r21 => fX12_summers_b33 (0 : Int32) io_rows io_cells io_children io_codeLong io_wentHome io_tideLevel x1 co_row co_base co_dyke co_age co_skill co_friend co_fixed co_now r21 co_code co_stack co_asked co_gets x2 (0 : Int32) (0 : Int32))))
set_option maxHeartbeats 4000000 in
set_option maxRecDepth 100000 in
theorem kX12_summers (l : Launch) (D : va_G) (Y : Nat → ClassId) (ao : Nat → Nat) (io_thrown : Int32) (io_rows : Int32) (io_cells : Int32) (io_children : Int32) (io_changes : Int32) (io_taped : Int32) (io_at : Int32) (io_to : Int32) (io_nest : Int32) (io_readMany : Int32) (io_codeLong : Int32) (io_readLong : Int32) (io_undos : Int32) (io_wentHome : Int32) (io_tideLevel : Int32) (io_acts : Int32) (io_firstBreaks : Int32) (io_bestCrew : Int32) (io_sights : Int32) (io_wayMany : Int32) (io_random : Int32) (co_row : Nat → Int64) (co_base : Nat → Int32) (co_dyke : Nat → Int32) (co_age : Nat → Int32) (co_skill : Nat → Int32) (co_friend : Nat → Int32) (co_fixed : Nat → Int32) (co_now : Nat → Int32) (co_then : Nat → Int32) (co_code : Nat → Int32) (co_stack : Nat → Int32) (co_asked : Nat → Int32) (co_gets : Nat → Int32) (x1 : Int32) (x2 : Int32) (res : Int32 × Int32 × Int32 × Int32 × Int32 × Int32 × (Nat → Int64) × (Nat → Int32) × (Nat → Int32) × (Nat → Int32) × (Nat → Int32)) (hf : fX12_summers io_thrown io_rows io_cells io_children io_codeLong io_wentHome io_tideLevel io_random co_row co_base co_dyke co_age co_skill co_friend co_fixed co_now co_then co_code co_stack co_asked co_gets x1 x2 = some res) : amf l D Y yX12_summers wsX12_summers rmX12_summers [.ref (ao 0), .int x1, .int x2] [oX12 ao io_thrown io_rows io_cells io_children io_changes io_taped io_at io_to io_nest io_readMany io_codeLong io_readLong io_undos io_wentHome io_tideLevel io_acts io_firstBreaks io_bestCrew io_sights io_wayMany io_random, rJ Y (ao 1) 24 co_row, rI Y (ao 2) 12 co_base, rI Y (ao 3) 12 co_dyke, rI Y (ao 4) 8 co_age, rI Y (ao 5) 8 co_skill, rI Y (ao 6) 8 co_friend, rI Y (ao 7) 2 co_fixed, rI Y (ao 8) 43 co_now, rI Y (ao 9) 43 co_then, rI Y (ao 12) 80 co_code, rI Y (ao 14) 80 co_stack, rI Y (ao 15) 4 co_asked, rI Y (ao 17) 12 co_gets] (some (.int res.1)) [oX12 ao res.2.1 res.2.2.1 io_cells io_children io_changes io_taped io_at io_to io_nest io_readMany io_codeLong io_readLong io_undos res.2.2.2.1 res.2.2.2.2.1 io_acts io_firstBreaks io_bestCrew io_sights io_wayMany res.2.2.2.2.2.1, rJ Y (ao 1) 24 res.2.2.2.2.2.2.1, rI Y (ao 2) 12 co_base, rI Y (ao 3) 12 co_dyke, rI Y (ao 4) 8 co_age, rI Y (ao 5) 8 co_skill, rI Y (ao 6) 8 co_friend, rI Y (ao 7) 2 co_fixed, rI Y (ao 8) 43 co_now, rI Y (ao 9) 43 res.2.2.2.2.2.2.2.1, rI Y (ao 12) 80 co_code, rI Y (ao 14) 80 res.2.2.2.2.2.2.2.2.1, rI Y (ao 15) 4 res.2.2.2.2.2.2.2.2.2.1, rI Y (ao 17) 12 res.2.2.2.2.2.2.2.2.2.2] := by
  refine amf.of (cc := cX12_summers) (maxL := 7) (rt := (some .int)) (by decide) rfl RX12 rfl (Nat.le_of_ble_eq_true rfl) [some (.ref (ao 0)), some (.int x1), some (.int x2), none, none, none, none] rfl ?_
  intro X C hQ
  unfold fX12_summers at hf
  refine a_aload_n C dX12_summers_0 rfl ?_
  refine a_iconst C (0 : Int32) dX12_summers_1 (by decide) ?_
  refine a_put C eX12_summers_112 tfX12_0 dX12_summers_2 0 rfl rfl rfl (Nat.le_of_ble_eq_true rfl) ?_
  refine a_iload_n C dX12_summers_5 rfl ?_
  refine a_i2l C dX12_summers_6 ?_
  refine a_lconst C (1 : Int64) dX12_summers_7 (by decide) ?_
  refine a_ldc2 C (60 : Int64) dX12_summers_8 eX12_summers_k398 ?_
  obtain ⟨r19, h19, hf⟩ := fx_bind hf
  refine a_fS C (kX12_in l D Y (x2.toInt64) (1 : Int64) (60 : Int64) r19 h19) gX12_summers_X12_in rfl dvX12_in ⟨⟨rfl, rfl⟩, ⟨Nat.le_of_ble_eq_true rfl, Nat.le_of_ble_eq_true rfl⟩, ⟨Nat.le_of_ble_eq_true rfl, Nat.le_of_ble_eq_true rfl⟩⟩ rfl (Nat.le_of_ble_eq_true rfl) dX12_summers_11 [] rfl rfl rfl (wn := [oX12 ao (0 : Int32) io_rows io_cells io_children io_changes io_taped io_at io_to io_nest io_readMany io_codeLong io_readLong io_undos io_wentHome io_tideLevel io_acts io_firstBreaks io_bestCrew io_sights io_wayMany io_random, rJ Y (ao 1) 24 co_row, rI Y (ao 2) 12 co_base, rI Y (ao 3) 12 co_dyke, rI Y (ao 4) 8 co_age, rI Y (ao 5) 8 co_skill, rI Y (ao 6) 8 co_friend, rI Y (ao 7) 2 co_fixed, rI Y (ao 8) 43 co_now, rI Y (ao 9) 43 co_then, rI Y (ao 12) 80 co_code, rI Y (ao 14) 80 co_stack, rI Y (ao 15) 4 co_asked, rI Y (ao 17) 12 co_gets]) rfl ?_
  refine a_if_ne C 19 dX12_summers_14 (by decide) (fun h20 => ?_) (fun h20 => ?_)
  · have hf := fx_f h20 hf
    refine a_aload_n C dX12_summers_19 rfl ?_
    refine a_iload_n C dX12_summers_20 rfl ?_
    refine a_put C eX12_summers_461 tfX12_49 dX12_summers_21 0 rfl rfl rfl (Nat.le_of_ble_eq_true rfl) ?_
    refine a_iconst C (0 : Int32) dX12_summers_24 (by decide) ?_
    refine a_istore_n C dX12_summers_25 (by decide) rfl ?_
    refine a_aload_n C dX12_summers_26 rfl ?_
    obtain ⟨r21, h21, hf⟩ := fx_bind hf
    refine a_fV C (kX12_puts l D Y ao (0 : Int32) io_rows io_cells io_children io_changes io_taped io_at io_to io_nest io_readMany io_codeLong io_readLong io_undos io_wentHome io_tideLevel io_acts io_firstBreaks io_bestCrew io_sights io_wayMany x1 co_now co_then r21 h21) gX12_summers_X12_puts rfl dvX12_puts ⟨⟨rfl, rfl⟩, ⟨Nat.le_of_ble_eq_true rfl, Nat.le_of_ble_eq_true rfl⟩, ⟨Nat.le_of_ble_eq_true rfl, Nat.le_of_ble_eq_true rfl⟩⟩ rfl (Nat.le_of_ble_eq_true rfl) dX12_summers_27 rfl rfl [0, 8, 9] rfl rfl rfl (wn := [oX12 ao (0 : Int32) io_rows io_cells io_children io_changes io_taped io_at io_to io_nest io_readMany io_codeLong io_readLong io_undos io_wentHome io_tideLevel io_acts io_firstBreaks io_bestCrew io_sights io_wayMany x1, rJ Y (ao 1) 24 co_row, rI Y (ao 2) 12 co_base, rI Y (ao 3) 12 co_dyke, rI Y (ao 4) 8 co_age, rI Y (ao 5) 8 co_skill, rI Y (ao 6) 8 co_friend, rI Y (ao 7) 2 co_fixed, rI Y (ao 8) 43 co_now, rI Y (ao 9) 43 r21, rI Y (ao 12) 80 co_code, rI Y (ao 14) 80 co_stack, rI Y (ao 15) 4 co_asked, rI Y (ao 17) 12 co_gets]) rfl ?_
    refine a_iconst C (0 : Int32) dX12_summers_30 (by decide) ?_
    refine a_istore C dX12_summers_31 (by decide) rfl ?_
    refine a_kill [1] ?_
    exact kX12_summers_b33 C hQ hf
  · have hf := fx_t h20 hf
    refine a_iconst C (-1 : Int32) dX12_summers_17 (by decide) ?_
    obtain rfl := fx_some hf
    exact a_iret C hQ dX12_summers_18 ⟨rfl, rfl⟩
-- X12_keep
abbrev rmX12_keep : Room := { frames := 1, cells := 0, slots := 0, locals := 25 }
theorem dvX12_keep : yX12_keep.cls = RX12 ∧ yX12_keep.cls ≠ "java/lang/invoke/MethodHandle" ∧ yX12_keep.cls ≠ "java/lang/invoke/VarHandle" ∧ (parseMethodDescriptor yX12_keep.desc).map (fun d => d.parameters.length) = some 1 := by decide +kernel
theorem eX12_keep_inX12 : ∀ w ∈ wsX120, w ∈ wsX12_keep := by decide +kernel
theorem eX12_keep_109 : aF wsX12_keep RX12 109 12 52 := ⟨RX12, TX12, 53, rfl, eX12_keep_inX12, by decide, by decide +kernel⟩
theorem eX12_keep_36 : aF wsX12_keep RX12 36 12 12 := ⟨RX12, TX12, 53, rfl, eX12_keep_inX12, by decide, by decide +kernel⟩
theorem eX12_keep_112 : aF wsX12_keep RX12 112 12 0 := ⟨RX12, TX12, 53, rfl, eX12_keep_inX12, by decide, by decide +kernel⟩
theorem eX12_keep_k468 : Cond.constantLong RX12 468 (2 : Int64) ∈ wsX12_keep := by decide +kernel
theorem eX12_keep_102 : aF wsX12_keep RX12 102 12 50 := ⟨RX12, TX12, 53, rfl, eX12_keep_inX12, by decide, by decide +kernel⟩
theorem eX12_keep_106 : aF wsX12_keep RX12 106 12 51 := ⟨RX12, TX12, 53, rfl, eX12_keep_inX12, by decide, by decide +kernel⟩
theorem eX12_keep_194 : aF wsX12_keep RX12 194 12 5 := ⟨RX12, TX12, 53, rfl, eX12_keep_inX12, by decide, by decide +kernel⟩
def fX12_keep_b67 (io_thrown : Int32) (io_changes : Int32) (co_now : Nat → Int32) (co_isKept : Nat → Int32) (co_keptChanges : Nat → Int32) (co_kept : Nat → Int32) : Option (Int32 × Int32 × (Nat → Int32) × (Nat → Int32) × (Nat → Int32)) :=
  some ((1 : Int32), io_thrown, co_isKept, co_keptChanges, co_kept)
set_option maxHeartbeats 4000000 in
set_option maxRecDepth 100000 in
theorem kX12_keep_b67 {X : cxT} {l : Launch} {D : va_G} {Y : Nat → ClassId} {ao : Nat → Nat} {io_thrown : Int32} {io_rows : Int32} {io_cells : Int32} {io_children : Int32} {io_changes : Int32} {io_taped : Int32} {io_at : Int32} {io_to : Int32} {io_nest : Int32} {io_readMany : Int32} {io_codeLong : Int32} {io_readLong : Int32} {io_undos : Int32} {io_wentHome : Int32} {io_tideLevel : Int32} {io_acts : Int32} {io_firstBreaks : Int32} {io_bestCrew : Int32} {io_sights : Int32} {io_wayMany : Int32} {io_random : Int32} {co_now : Nat → Int32} {co_isKept : Nat → Int32} {co_keptChanges : Nat → Int32} {co_kept : Nat → Int32} {res : Int32 × Int32 × (Nat → Int32) × (Nat → Int32) × (Nat → Int32)} (C : axC X l D Y cX12_keep 3 RX12 wsX12_keep rmX12_keep (some .boolean)) (hQ : axQ X 0 0 (fun r9 w9 => r9 = (some (.int res.1)) ∧ w9 = [oX12 ao res.2.1 io_rows io_cells io_children io_changes io_taped io_at io_to io_nest io_readMany io_codeLong io_readLong io_undos io_wentHome io_tideLevel io_acts io_firstBreaks io_bestCrew io_sights io_wayMany io_random, rI Y (ao 8) 43 co_now, rZ Y (ao 30) 3 res.2.2.1, rI Y (ao 31) 3 res.2.2.2.1, rI Y (ao 32) 129 res.2.2.2.2])) (hf : fX12_keep_b67 io_thrown io_changes co_now co_isKept co_keptChanges co_kept = some res) : ax X 0 0 67 [none, none, none] [oX12 ao io_thrown io_rows io_cells io_children io_changes io_taped io_at io_to io_nest io_readMany io_codeLong io_readLong io_undos io_wentHome io_tideLevel io_acts io_firstBreaks io_bestCrew io_sights io_wayMany io_random, rI Y (ao 8) 43 co_now, rZ Y (ao 30) 3 co_isKept, rI Y (ao 31) 3 co_keptChanges, rI Y (ao 32) 129 co_kept] [] := by
  unfold fX12_keep_b67 at hf
  refine a_iconst C (1 : Int32) dX12_keep_67 (by decide) ?_
  obtain rfl := fx_some hf
  exact a_zret C hQ (Or.inr rfl) dX12_keep_68 ⟨rfl, rfl⟩
def fX12_keep_l38 (io_thrown : Int32) (io_changes : Int32) (co_now : Nat → Int32) (co_isKept : Nat → Int32) (co_keptChanges : Nat → Int32) (x1 : Int32) (k38 : (Nat → Int32) × Int32 → Option (Int32 × Int32 × (Nat → Int32) × (Nat → Int32) × (Nat → Int32))) (co_kept : Nat → Int32) (x2 : Int32) : Option (Int32 × Int32 × (Nat → Int32) × (Nat → Int32) × (Nat → Int32)) :=
  if (43 : Int32) ≤ x2 then (fX12_keep_b67 io_thrown io_changes co_now co_isKept co_keptChanges co_kept) else (if inb x2 43 then if inb (((43 : Int32) * x1) + x2) 129 then k38 ((upd co_kept (Int32.toNatClampNeg (((43 : Int32) * x1) + x2)) (co_now (Int32.toNatClampNeg x2))), (x2 + (1 : Int32))) else none else none)
def fX12_keep_b38 (io_thrown : Int32) (io_changes : Int32) (co_now : Nat → Int32) (co_isKept : Nat → Int32) (co_keptChanges : Nat → Int32) (co_kept : Nat → Int32) (x1 : Int32) (x2 : Int32) : Option (Int32 × Int32 × (Nat → Int32) × (Nat → Int32) × (Nat → Int32)) :=
  loopN (fun (s : (Nat → Int32) × Int32) k38 => fX12_keep_l38 io_thrown io_changes co_now co_isKept co_keptChanges x1 k38 s.1 s.2) FUEL (co_kept, x2)
set_option maxHeartbeats 4000000 in
set_option maxRecDepth 100000 in
theorem kX12_keep_l38 {X : cxT} {l : Launch} {D : va_G} {Y : Nat → ClassId} {ao : Nat → Nat} {io_thrown : Int32} {io_rows : Int32} {io_cells : Int32} {io_children : Int32} {io_changes : Int32} {io_taped : Int32} {io_at : Int32} {io_to : Int32} {io_nest : Int32} {io_readMany : Int32} {io_codeLong : Int32} {io_readLong : Int32} {io_undos : Int32} {io_wentHome : Int32} {io_tideLevel : Int32} {io_acts : Int32} {io_firstBreaks : Int32} {io_bestCrew : Int32} {io_sights : Int32} {io_wayMany : Int32} {io_random : Int32} {co_now : Nat → Int32} {co_isKept : Nat → Int32} {co_keptChanges : Nat → Int32} {co_kept : Nat → Int32} {x1 : Int32} {x2 : Int32} {res : Int32 × Int32 × (Nat → Int32) × (Nat → Int32) × (Nat → Int32)} (C : axC X l D Y cX12_keep 3 RX12 wsX12_keep rmX12_keep (some .boolean)) (hQ : axQ X 0 0 (fun r9 w9 => r9 = (some (.int res.1)) ∧ w9 = [oX12 ao res.2.1 io_rows io_cells io_children io_changes io_taped io_at io_to io_nest io_readMany io_codeLong io_readLong io_undos io_wentHome io_tideLevel io_acts io_firstBreaks io_bestCrew io_sights io_wayMany io_random, rI Y (ao 8) 43 co_now, rZ Y (ao 30) 3 res.2.2.1, rI Y (ao 31) 3 res.2.2.2.1, rI Y (ao 32) 129 res.2.2.2.2])) {k38 : (Nat → Int32) × Int32 → Option (Int32 × Int32 × (Nat → Int32) × (Nat → Int32) × (Nat → Int32))} (hk38 : ∀ s : (Nat → Int32) × Int32, k38 s = some res → ax X 0 0 38 [some (.ref (ao 0)), some (.int x1), some (.int s.2)] [oX12 ao io_thrown io_rows io_cells io_children io_changes io_taped io_at io_to io_nest io_readMany io_codeLong io_readLong io_undos io_wentHome io_tideLevel io_acts io_firstBreaks io_bestCrew io_sights io_wayMany io_random, rI Y (ao 8) 43 co_now, rZ Y (ao 30) 3 co_isKept, rI Y (ao 31) 3 co_keptChanges, rI Y (ao 32) 129 s.1] []) (hf : fX12_keep_l38 io_thrown io_changes co_now co_isKept co_keptChanges x1 k38 co_kept x2 = some res) : ax X 0 0 38 [some (.ref (ao 0)), some (.int x1), some (.int x2)] [oX12 ao io_thrown io_rows io_cells io_children io_changes io_taped io_at io_to io_nest io_readMany io_codeLong io_readLong io_undos io_wentHome io_tideLevel io_acts io_firstBreaks io_bestCrew io_sights io_wayMany io_random, rI Y (ao 8) 43 co_now, rZ Y (ao 30) 3 co_isKept, rI Y (ao 31) 3 co_keptChanges, rI Y (ao 32) 129 co_kept] [] := by
  unfold fX12_keep_l38 at hf
  refine a_iload_n C dX12_keep_38 rfl ?_
  refine a_bipush C (43 : Int32) dX12_keep_39 (by decide) ?_
  refine a_icmp_ge C 67 dX12_keep_41 (by decide) (fun h1 => ?_) (fun h1 => ?_)
  · have hf := fx_t h1 hf
    refine a_kill [0, 1, 2] ?_
    exact kX12_keep_b67 C hQ hf
  · have hf := fx_f h1 hf
    refine a_aload_n C dX12_keep_44 rfl ?_
    refine a_get C eX12_keep_109 dX12_keep_45 0 rfl rfl ?_
    refine a_bipush C (43 : Int32) dX12_keep_48 (by decide) ?_
    refine a_iload_n C dX12_keep_50 rfl ?_
    refine a_imul C dX12_keep_51 ?_
    refine a_iload_n C dX12_keep_52 rfl ?_
    refine a_iadd C dX12_keep_53 ?_
    refine a_aload_n C dX12_keep_54 rfl ?_
    refine a_get C eX12_keep_36 dX12_keep_55 0 rfl rfl ?_
    refine a_iload_n C dX12_keep_58 rfl ?_
    obtain ⟨h2, hf⟩ := fx_ite hf
    refine a_iald C dX12_keep_59 1 rfl h2 ?_
    obtain ⟨h3, hf⟩ := fx_ite hf
    refine a_iast C dX12_keep_60 4 rfl h3 ?_
    refine a_iinc C (1 : Int32) dX12_keep_61 (by decide) rfl (by decide) rfl ?_
    refine a_goto C 38 dX12_keep_64 (by decide) ?_
    exact hk38 ((upd co_kept (Int32.toNatClampNeg (((43 : Int32) * x1) + x2)) (co_now (Int32.toNatClampNeg x2))), (x2 + (1 : Int32))) hf
set_option maxHeartbeats 4000000 in
set_option maxRecDepth 100000 in
theorem kX12_keep_b38 {X : cxT} {l : Launch} {D : va_G} {Y : Nat → ClassId} {ao : Nat → Nat} {io_thrown : Int32} {io_rows : Int32} {io_cells : Int32} {io_children : Int32} {io_changes : Int32} {io_taped : Int32} {io_at : Int32} {io_to : Int32} {io_nest : Int32} {io_readMany : Int32} {io_codeLong : Int32} {io_readLong : Int32} {io_undos : Int32} {io_wentHome : Int32} {io_tideLevel : Int32} {io_acts : Int32} {io_firstBreaks : Int32} {io_bestCrew : Int32} {io_sights : Int32} {io_wayMany : Int32} {io_random : Int32} {co_now : Nat → Int32} {co_isKept : Nat → Int32} {co_keptChanges : Nat → Int32} {co_kept : Nat → Int32} {x1 : Int32} {x2 : Int32} {res : Int32 × Int32 × (Nat → Int32) × (Nat → Int32) × (Nat → Int32)} (C : axC X l D Y cX12_keep 3 RX12 wsX12_keep rmX12_keep (some .boolean)) (hQ : axQ X 0 0 (fun r9 w9 => r9 = (some (.int res.1)) ∧ w9 = [oX12 ao res.2.1 io_rows io_cells io_children io_changes io_taped io_at io_to io_nest io_readMany io_codeLong io_readLong io_undos io_wentHome io_tideLevel io_acts io_firstBreaks io_bestCrew io_sights io_wayMany io_random, rI Y (ao 8) 43 co_now, rZ Y (ao 30) 3 res.2.2.1, rI Y (ao 31) 3 res.2.2.2.1, rI Y (ao 32) 129 res.2.2.2.2])) (hf : fX12_keep_b38 io_thrown io_changes co_now co_isKept co_keptChanges co_kept x1 x2 = some res) : ax X 0 0 38 [some (.ref (ao 0)), some (.int x1), some (.int x2)] [oX12 ao io_thrown io_rows io_cells io_children io_changes io_taped io_at io_to io_nest io_readMany io_codeLong io_readLong io_undos io_wentHome io_tideLevel io_acts io_firstBreaks io_bestCrew io_sights io_wayMany io_random, rI Y (ao 8) 43 co_now, rZ Y (ao 30) 3 co_isKept, rI Y (ao 31) 3 co_keptChanges, rI Y (ao 32) 129 co_kept] [] := by
  unfold fX12_keep_b38 at hf
  exact fx_loop (P := fun s : (Nat → Int32) × Int32 => ax X 0 0 38 [some (.ref (ao 0)), some (.int x1), some (.int s.2)] [oX12 ao io_thrown io_rows io_cells io_children io_changes io_taped io_at io_to io_nest io_readMany io_codeLong io_readLong io_undos io_wentHome io_tideLevel io_acts io_firstBreaks io_bestCrew io_sights io_wayMany io_random, rI Y (ao 8) 43 co_now, rZ Y (ao 30) 3 co_isKept, rI Y (ao 31) 3 co_keptChanges, rI Y (ao 32) 129 s.1] []) (fun s k38 hk38 h => kX12_keep_l38 C hQ hk38 h) FUEL (co_kept, x2) hf
def fX12_keep (io_thrown : Int32) (io_changes : Int32) (co_now : Nat → Int32) (co_isKept : Nat → Int32) (co_keptChanges : Nat → Int32) (co_kept : Nat → Int32) (x1 : Int32) : Option (Int32 × Int32 × (Nat → Int32) × (Nat → Int32) × (Nat → Int32)) :=
  (fX12_in (x1.toInt64) (0 : Int64) (2 : Int64)).bind (fun r4 => if r4 = (0 : Int32) then (some ((0 : Int32), (0 : Int32), co_isKept, co_keptChanges, co_kept)) else (if inb x1 3 then fX12_keep_b38 (0 : Int32) io_changes co_now (upd co_isKept (Int32.toNatClampNeg x1) (vp_nar .boolean (1 : Int32))) (upd co_keptChanges (Int32.toNatClampNeg x1) io_changes) co_kept x1 (0 : Int32) else none))
set_option maxHeartbeats 4000000 in
set_option maxRecDepth 100000 in
theorem kX12_keep (l : Launch) (D : va_G) (Y : Nat → ClassId) (ao : Nat → Nat) (io_thrown : Int32) (io_rows : Int32) (io_cells : Int32) (io_children : Int32) (io_changes : Int32) (io_taped : Int32) (io_at : Int32) (io_to : Int32) (io_nest : Int32) (io_readMany : Int32) (io_codeLong : Int32) (io_readLong : Int32) (io_undos : Int32) (io_wentHome : Int32) (io_tideLevel : Int32) (io_acts : Int32) (io_firstBreaks : Int32) (io_bestCrew : Int32) (io_sights : Int32) (io_wayMany : Int32) (io_random : Int32) (co_now : Nat → Int32) (co_isKept : Nat → Int32) (co_keptChanges : Nat → Int32) (co_kept : Nat → Int32) (x1 : Int32) (res : Int32 × Int32 × (Nat → Int32) × (Nat → Int32) × (Nat → Int32)) (hf : fX12_keep io_thrown io_changes co_now co_isKept co_keptChanges co_kept x1 = some res) : amf l D Y yX12_keep wsX12_keep rmX12_keep [.ref (ao 0), .int x1] [oX12 ao io_thrown io_rows io_cells io_children io_changes io_taped io_at io_to io_nest io_readMany io_codeLong io_readLong io_undos io_wentHome io_tideLevel io_acts io_firstBreaks io_bestCrew io_sights io_wayMany io_random, rI Y (ao 8) 43 co_now, rZ Y (ao 30) 3 co_isKept, rI Y (ao 31) 3 co_keptChanges, rI Y (ao 32) 129 co_kept] (some (.int res.1)) [oX12 ao res.2.1 io_rows io_cells io_children io_changes io_taped io_at io_to io_nest io_readMany io_codeLong io_readLong io_undos io_wentHome io_tideLevel io_acts io_firstBreaks io_bestCrew io_sights io_wayMany io_random, rI Y (ao 8) 43 co_now, rZ Y (ao 30) 3 res.2.2.1, rI Y (ao 31) 3 res.2.2.2.1, rI Y (ao 32) 129 res.2.2.2.2] := by
  refine amf.of (cc := cX12_keep) (maxL := 3) (rt := (some .boolean)) (by decide) rfl RX12 rfl (Nat.le_of_ble_eq_true rfl) [some (.ref (ao 0)), some (.int x1), none] rfl ?_
  intro X C hQ
  unfold fX12_keep at hf
  refine a_aload_n C dX12_keep_0 rfl ?_
  refine a_iconst C (0 : Int32) dX12_keep_1 (by decide) ?_
  refine a_put C eX12_keep_112 tfX12_0 dX12_keep_2 0 rfl rfl rfl (Nat.le_of_ble_eq_true rfl) ?_
  refine a_iload_n C dX12_keep_5 rfl ?_
  refine a_i2l C dX12_keep_6 ?_
  refine a_lconst C (0 : Int64) dX12_keep_7 (by decide) ?_
  refine a_ldc2 C (2 : Int64) dX12_keep_8 eX12_keep_k468 ?_
  obtain ⟨r4, h4, hf⟩ := fx_bind hf
  refine a_fS C (kX12_in l D Y (x1.toInt64) (0 : Int64) (2 : Int64) r4 h4) gX12_keep_X12_in rfl dvX12_in ⟨⟨rfl, rfl⟩, ⟨Nat.le_of_ble_eq_true rfl, Nat.le_of_ble_eq_true rfl⟩, ⟨Nat.le_of_ble_eq_true rfl, Nat.le_of_ble_eq_true rfl⟩⟩ rfl (Nat.le_of_ble_eq_true rfl) dX12_keep_11 [] rfl rfl rfl (wn := [oX12 ao (0 : Int32) io_rows io_cells io_children io_changes io_taped io_at io_to io_nest io_readMany io_codeLong io_readLong io_undos io_wentHome io_tideLevel io_acts io_firstBreaks io_bestCrew io_sights io_wayMany io_random, rI Y (ao 8) 43 co_now, rZ Y (ao 30) 3 co_isKept, rI Y (ao 31) 3 co_keptChanges, rI Y (ao 32) 129 co_kept]) rfl ?_
  refine a_if_ne C 19 dX12_keep_14 (by decide) (fun h5 => ?_) (fun h5 => ?_)
  · have hf := fx_f h5 hf
    refine a_aload_n C dX12_keep_19 rfl ?_
    refine a_get C eX12_keep_102 dX12_keep_20 0 rfl rfl ?_
    refine a_iload_n C dX12_keep_23 rfl ?_
    refine a_iconst C (1 : Int32) dX12_keep_24 (by decide) ?_
    obtain ⟨h6, hf⟩ := fx_ite hf
    refine a_zast C dX12_keep_25 2 rfl h6 ?_
    refine a_aload_n C dX12_keep_26 rfl ?_
    refine a_get C eX12_keep_106 dX12_keep_27 0 rfl rfl ?_
    refine a_iload_n C dX12_keep_30 rfl ?_
    refine a_aload_n C dX12_keep_31 rfl ?_
    refine a_get C eX12_keep_194 dX12_keep_32 0 rfl rfl ?_
    refine a_iast C dX12_keep_35 3 rfl h6 ?_
    refine a_iconst C (0 : Int32) dX12_keep_36 (by decide) ?_
    refine a_istore_n C dX12_keep_37 (by decide) rfl ?_
    exact kX12_keep_b38 C hQ hf
  · have hf := fx_t h5 hf
    refine a_iconst C (0 : Int32) dX12_keep_17 (by decide) ?_
    obtain rfl := fx_some hf
    exact a_zret C hQ (Or.inl rfl) dX12_keep_18 ⟨rfl, rfl⟩
-- X12_again
abbrev rmX12_again : Room := { frames := 1, cells := 0, slots := 0, locals := 25 }
theorem dvX12_again : yX12_again.cls = RX12 ∧ yX12_again.cls ≠ "java/lang/invoke/MethodHandle" ∧ yX12_again.cls ≠ "java/lang/invoke/VarHandle" ∧ (parseMethodDescriptor yX12_again.desc).map (fun d => d.parameters.length) = some 1 := by decide +kernel
theorem eX12_again_inX12 : ∀ w ∈ wsX120, w ∈ wsX12_again := by decide +kernel
theorem eX12_again_191 : aF wsX12_again RX12 191 12 27 := ⟨RX12, TX12, 53, rfl, eX12_again_inX12, by decide, by decide +kernel⟩
theorem eX12_again_36 : aF wsX12_again RX12 36 12 12 := ⟨RX12, TX12, 53, rfl, eX12_again_inX12, by decide, by decide +kernel⟩
theorem eX12_again_109 : aF wsX12_again RX12 109 12 52 := ⟨RX12, TX12, 53, rfl, eX12_again_inX12, by decide, by decide +kernel⟩
theorem eX12_again_112 : aF wsX12_again RX12 112 12 0 := ⟨RX12, TX12, 53, rfl, eX12_again_inX12, by decide, by decide +kernel⟩
theorem eX12_again_k468 : Cond.constantLong RX12 468 (2 : Int64) ∈ wsX12_again := by decide +kernel
theorem eX12_again_102 : aF wsX12_again RX12 102 12 50 := ⟨RX12, TX12, 53, rfl, eX12_again_inX12, by decide, by decide +kernel⟩
theorem eX12_again_106 : aF wsX12_again RX12 106 12 51 := ⟨RX12, TX12, 53, rfl, eX12_again_inX12, by decide, by decide +kernel⟩
theorem eX12_again_194 : aF wsX12_again RX12 194 12 5 := ⟨RX12, TX12, 53, rfl, eX12_again_inX12, by decide, by decide +kernel⟩
def fX12_again_b39 (io_thrown : Int32) (io_changes : Int32) (io_undos : Int32) (co_now : Nat → Int32) (co_isKept : Nat → Int32) (co_keptChanges : Nat → Int32) (co_kept : Nat → Int32) : Option (Int32 × Int32 × Int32 × (Nat → Int32)) :=
  some ((0 : Int32), io_thrown, io_undos, co_now)
set_option maxHeartbeats 4000000 in
set_option maxRecDepth 100000 in
theorem kX12_again_b39 {X : cxT} {l : Launch} {D : va_G} {Y : Nat → ClassId} {ao : Nat → Nat} {io_thrown : Int32} {io_rows : Int32} {io_cells : Int32} {io_children : Int32} {io_changes : Int32} {io_taped : Int32} {io_at : Int32} {io_to : Int32} {io_nest : Int32} {io_readMany : Int32} {io_codeLong : Int32} {io_readLong : Int32} {io_undos : Int32} {io_wentHome : Int32} {io_tideLevel : Int32} {io_acts : Int32} {io_firstBreaks : Int32} {io_bestCrew : Int32} {io_sights : Int32} {io_wayMany : Int32} {io_random : Int32} {co_now : Nat → Int32} {co_isKept : Nat → Int32} {co_keptChanges : Nat → Int32} {co_kept : Nat → Int32} {res : Int32 × Int32 × Int32 × (Nat → Int32)} (C : axC X l D Y cX12_again 3 RX12 wsX12_again rmX12_again (some .boolean)) (hQ : axQ X 0 0 (fun r9 w9 => r9 = (some (.int res.1)) ∧ w9 = [oX12 ao res.2.1 io_rows io_cells io_children io_changes io_taped io_at io_to io_nest io_readMany io_codeLong io_readLong res.2.2.1 io_wentHome io_tideLevel io_acts io_firstBreaks io_bestCrew io_sights io_wayMany io_random, rI Y (ao 8) 43 res.2.2.2, rZ Y (ao 30) 3 co_isKept, rI Y (ao 31) 3 co_keptChanges, rI Y (ao 32) 129 co_kept])) (hf : fX12_again_b39 io_thrown io_changes io_undos co_now co_isKept co_keptChanges co_kept = some res) : ax X 0 0 39 [none, none, none] [oX12 ao io_thrown io_rows io_cells io_children io_changes io_taped io_at io_to io_nest io_readMany io_codeLong io_readLong io_undos io_wentHome io_tideLevel io_acts io_firstBreaks io_bestCrew io_sights io_wayMany io_random, rI Y (ao 8) 43 co_now, rZ Y (ao 30) 3 co_isKept, rI Y (ao 31) 3 co_keptChanges, rI Y (ao 32) 129 co_kept] [] := by
  unfold fX12_again_b39 at hf
  refine a_iconst C (0 : Int32) dX12_again_39 (by decide) ?_
  obtain rfl := fx_some hf
  exact a_zret C hQ (Or.inl rfl) dX12_again_40 ⟨rfl, rfl⟩
def fX12_again_b72 (io_thrown : Int32) (io_changes : Int32) (io_undos : Int32) (co_now : Nat → Int32) (co_isKept : Nat → Int32) (co_keptChanges : Nat → Int32) (co_kept : Nat → Int32) : Option (Int32 × Int32 × Int32 × (Nat → Int32)) :=
  some ((1 : Int32), io_thrown, (0 : Int32), co_now)
set_option maxHeartbeats 4000000 in
set_option maxRecDepth 100000 in
theorem kX12_again_b72 {X : cxT} {l : Launch} {D : va_G} {Y : Nat → ClassId} {ao : Nat → Nat} {io_thrown : Int32} {io_rows : Int32} {io_cells : Int32} {io_children : Int32} {io_changes : Int32} {io_taped : Int32} {io_at : Int32} {io_to : Int32} {io_nest : Int32} {io_readMany : Int32} {io_codeLong : Int32} {io_readLong : Int32} {io_undos : Int32} {io_wentHome : Int32} {io_tideLevel : Int32} {io_acts : Int32} {io_firstBreaks : Int32} {io_bestCrew : Int32} {io_sights : Int32} {io_wayMany : Int32} {io_random : Int32} {co_now : Nat → Int32} {co_isKept : Nat → Int32} {co_keptChanges : Nat → Int32} {co_kept : Nat → Int32} {res : Int32 × Int32 × Int32 × (Nat → Int32)} (C : axC X l D Y cX12_again 3 RX12 wsX12_again rmX12_again (some .boolean)) (hQ : axQ X 0 0 (fun r9 w9 => r9 = (some (.int res.1)) ∧ w9 = [oX12 ao res.2.1 io_rows io_cells io_children io_changes io_taped io_at io_to io_nest io_readMany io_codeLong io_readLong res.2.2.1 io_wentHome io_tideLevel io_acts io_firstBreaks io_bestCrew io_sights io_wayMany io_random, rI Y (ao 8) 43 res.2.2.2, rZ Y (ao 30) 3 co_isKept, rI Y (ao 31) 3 co_keptChanges, rI Y (ao 32) 129 co_kept])) (hf : fX12_again_b72 io_thrown io_changes io_undos co_now co_isKept co_keptChanges co_kept = some res) : ax X 0 0 72 [some (.ref (ao 0)), none, none] [oX12 ao io_thrown io_rows io_cells io_children io_changes io_taped io_at io_to io_nest io_readMany io_codeLong io_readLong io_undos io_wentHome io_tideLevel io_acts io_firstBreaks io_bestCrew io_sights io_wayMany io_random, rI Y (ao 8) 43 co_now, rZ Y (ao 30) 3 co_isKept, rI Y (ao 31) 3 co_keptChanges, rI Y (ao 32) 129 co_kept] [] := by
  unfold fX12_again_b72 at hf
  refine a_aload_n C dX12_again_72 rfl ?_
  refine a_iconst C (0 : Int32) dX12_again_73 (by decide) ?_
  refine a_put C eX12_again_191 tfX12_27 dX12_again_74 0 rfl rfl rfl (Nat.le_of_ble_eq_true rfl) ?_
  refine a_iconst C (1 : Int32) dX12_again_77 (by decide) ?_
  obtain rfl := fx_some hf
  exact a_zret C hQ (Or.inr rfl) dX12_again_78 ⟨rfl, rfl⟩
def fX12_again_l43 (io_thrown : Int32) (io_changes : Int32) (io_undos : Int32) (co_isKept : Nat → Int32) (co_keptChanges : Nat → Int32) (co_kept : Nat → Int32) (x1 : Int32) (k43 : (Nat → Int32) × Int32 → Option (Int32 × Int32 × Int32 × (Nat → Int32))) (co_now : Nat → Int32) (x2 : Int32) : Option (Int32 × Int32 × Int32 × (Nat → Int32)) :=
  if (43 : Int32) ≤ x2 then (fX12_again_b72 io_thrown io_changes io_undos co_now co_isKept co_keptChanges co_kept) else (if inb (((43 : Int32) * x1) + x2) 129 then if inb x2 43 then k43 ((upd co_now (Int32.toNatClampNeg x2) (co_kept (Int32.toNatClampNeg (((43 : Int32) * x1) + x2)))), (x2 + (1 : Int32))) else none else none)
def fX12_again_b43 (io_thrown : Int32) (io_changes : Int32) (io_undos : Int32) (co_now : Nat → Int32) (co_isKept : Nat → Int32) (co_keptChanges : Nat → Int32) (co_kept : Nat → Int32) (x1 : Int32) (x2 : Int32) : Option (Int32 × Int32 × Int32 × (Nat → Int32)) :=
  loopN (fun (s : (Nat → Int32) × Int32) k43 => fX12_again_l43 io_thrown io_changes io_undos co_isKept co_keptChanges co_kept x1 k43 s.1 s.2) FUEL (co_now, x2)
set_option maxHeartbeats 4000000 in
set_option maxRecDepth 100000 in
theorem kX12_again_l43 {X : cxT} {l : Launch} {D : va_G} {Y : Nat → ClassId} {ao : Nat → Nat} {io_thrown : Int32} {io_rows : Int32} {io_cells : Int32} {io_children : Int32} {io_changes : Int32} {io_taped : Int32} {io_at : Int32} {io_to : Int32} {io_nest : Int32} {io_readMany : Int32} {io_codeLong : Int32} {io_readLong : Int32} {io_undos : Int32} {io_wentHome : Int32} {io_tideLevel : Int32} {io_acts : Int32} {io_firstBreaks : Int32} {io_bestCrew : Int32} {io_sights : Int32} {io_wayMany : Int32} {io_random : Int32} {co_now : Nat → Int32} {co_isKept : Nat → Int32} {co_keptChanges : Nat → Int32} {co_kept : Nat → Int32} {x1 : Int32} {x2 : Int32} {res : Int32 × Int32 × Int32 × (Nat → Int32)} (C : axC X l D Y cX12_again 3 RX12 wsX12_again rmX12_again (some .boolean)) (hQ : axQ X 0 0 (fun r9 w9 => r9 = (some (.int res.1)) ∧ w9 = [oX12 ao res.2.1 io_rows io_cells io_children io_changes io_taped io_at io_to io_nest io_readMany io_codeLong io_readLong res.2.2.1 io_wentHome io_tideLevel io_acts io_firstBreaks io_bestCrew io_sights io_wayMany io_random, rI Y (ao 8) 43 res.2.2.2, rZ Y (ao 30) 3 co_isKept, rI Y (ao 31) 3 co_keptChanges, rI Y (ao 32) 129 co_kept])) {k43 : (Nat → Int32) × Int32 → Option (Int32 × Int32 × Int32 × (Nat → Int32))} (hk43 : ∀ s : (Nat → Int32) × Int32, k43 s = some res → ax X 0 0 43 [some (.ref (ao 0)), some (.int x1), some (.int s.2)] [oX12 ao io_thrown io_rows io_cells io_children io_changes io_taped io_at io_to io_nest io_readMany io_codeLong io_readLong io_undos io_wentHome io_tideLevel io_acts io_firstBreaks io_bestCrew io_sights io_wayMany io_random, rI Y (ao 8) 43 s.1, rZ Y (ao 30) 3 co_isKept, rI Y (ao 31) 3 co_keptChanges, rI Y (ao 32) 129 co_kept] []) (hf : fX12_again_l43 io_thrown io_changes io_undos co_isKept co_keptChanges co_kept x1 k43 co_now x2 = some res) : ax X 0 0 43 [some (.ref (ao 0)), some (.int x1), some (.int x2)] [oX12 ao io_thrown io_rows io_cells io_children io_changes io_taped io_at io_to io_nest io_readMany io_codeLong io_readLong io_undos io_wentHome io_tideLevel io_acts io_firstBreaks io_bestCrew io_sights io_wayMany io_random, rI Y (ao 8) 43 co_now, rZ Y (ao 30) 3 co_isKept, rI Y (ao 31) 3 co_keptChanges, rI Y (ao 32) 129 co_kept] [] := by
  unfold fX12_again_l43 at hf
  refine a_iload_n C dX12_again_43 rfl ?_
  refine a_bipush C (43 : Int32) dX12_again_44 (by decide) ?_
  refine a_icmp_ge C 72 dX12_again_46 (by decide) (fun h1 => ?_) (fun h1 => ?_)
  · have hf := fx_t h1 hf
    refine a_kill [1, 2] ?_
    exact kX12_again_b72 C hQ hf
  · have hf := fx_f h1 hf
    refine a_aload_n C dX12_again_49 rfl ?_
    refine a_get C eX12_again_36 dX12_again_50 0 rfl rfl ?_
    refine a_iload_n C dX12_again_53 rfl ?_
    refine a_aload_n C dX12_again_54 rfl ?_
    refine a_get C eX12_again_109 dX12_again_55 0 rfl rfl ?_
    refine a_bipush C (43 : Int32) dX12_again_58 (by decide) ?_
    refine a_iload_n C dX12_again_60 rfl ?_
    refine a_imul C dX12_again_61 ?_
    refine a_iload_n C dX12_again_62 rfl ?_
    refine a_iadd C dX12_again_63 ?_
    obtain ⟨h2, hf⟩ := fx_ite hf
    refine a_iald C dX12_again_64 4 rfl h2 ?_
    obtain ⟨h3, hf⟩ := fx_ite hf
    refine a_iast C dX12_again_65 1 rfl h3 ?_
    refine a_iinc C (1 : Int32) dX12_again_66 (by decide) rfl (by decide) rfl ?_
    refine a_goto C 43 dX12_again_69 (by decide) ?_
    exact hk43 ((upd co_now (Int32.toNatClampNeg x2) (co_kept (Int32.toNatClampNeg (((43 : Int32) * x1) + x2)))), (x2 + (1 : Int32))) hf
set_option maxHeartbeats 4000000 in
set_option maxRecDepth 100000 in
theorem kX12_again_b43 {X : cxT} {l : Launch} {D : va_G} {Y : Nat → ClassId} {ao : Nat → Nat} {io_thrown : Int32} {io_rows : Int32} {io_cells : Int32} {io_children : Int32} {io_changes : Int32} {io_taped : Int32} {io_at : Int32} {io_to : Int32} {io_nest : Int32} {io_readMany : Int32} {io_codeLong : Int32} {io_readLong : Int32} {io_undos : Int32} {io_wentHome : Int32} {io_tideLevel : Int32} {io_acts : Int32} {io_firstBreaks : Int32} {io_bestCrew : Int32} {io_sights : Int32} {io_wayMany : Int32} {io_random : Int32} {co_now : Nat → Int32} {co_isKept : Nat → Int32} {co_keptChanges : Nat → Int32} {co_kept : Nat → Int32} {x1 : Int32} {x2 : Int32} {res : Int32 × Int32 × Int32 × (Nat → Int32)} (C : axC X l D Y cX12_again 3 RX12 wsX12_again rmX12_again (some .boolean)) (hQ : axQ X 0 0 (fun r9 w9 => r9 = (some (.int res.1)) ∧ w9 = [oX12 ao res.2.1 io_rows io_cells io_children io_changes io_taped io_at io_to io_nest io_readMany io_codeLong io_readLong res.2.2.1 io_wentHome io_tideLevel io_acts io_firstBreaks io_bestCrew io_sights io_wayMany io_random, rI Y (ao 8) 43 res.2.2.2, rZ Y (ao 30) 3 co_isKept, rI Y (ao 31) 3 co_keptChanges, rI Y (ao 32) 129 co_kept])) (hf : fX12_again_b43 io_thrown io_changes io_undos co_now co_isKept co_keptChanges co_kept x1 x2 = some res) : ax X 0 0 43 [some (.ref (ao 0)), some (.int x1), some (.int x2)] [oX12 ao io_thrown io_rows io_cells io_children io_changes io_taped io_at io_to io_nest io_readMany io_codeLong io_readLong io_undos io_wentHome io_tideLevel io_acts io_firstBreaks io_bestCrew io_sights io_wayMany io_random, rI Y (ao 8) 43 co_now, rZ Y (ao 30) 3 co_isKept, rI Y (ao 31) 3 co_keptChanges, rI Y (ao 32) 129 co_kept] [] := by
  unfold fX12_again_b43 at hf
  exact fx_loop (P := fun s : (Nat → Int32) × Int32 => ax X 0 0 43 [some (.ref (ao 0)), some (.int x1), some (.int s.2)] [oX12 ao io_thrown io_rows io_cells io_children io_changes io_taped io_at io_to io_nest io_readMany io_codeLong io_readLong io_undos io_wentHome io_tideLevel io_acts io_firstBreaks io_bestCrew io_sights io_wayMany io_random, rI Y (ao 8) 43 s.1, rZ Y (ao 30) 3 co_isKept, rI Y (ao 31) 3 co_keptChanges, rI Y (ao 32) 129 co_kept] []) (fun s k43 hk43 h => kX12_again_l43 C hQ hk43 h) FUEL (co_now, x2) hf
def fX12_again (io_thrown : Int32) (io_changes : Int32) (io_undos : Int32) (co_now : Nat → Int32) (co_isKept : Nat → Int32) (co_keptChanges : Nat → Int32) (co_kept : Nat → Int32) (x1 : Int32) : Option (Int32 × Int32 × Int32 × (Nat → Int32)) :=
  (fX12_in (x1.toInt64) (0 : Int64) (2 : Int64)).bind (fun r4 => if r4 = (0 : Int32) then (fX12_again_b39 (0 : Int32) io_changes io_undos co_now co_isKept co_keptChanges co_kept) else (if inb x1 3 then if (co_isKept (Int32.toNatClampNeg x1)) = (0 : Int32) then (fX12_again_b39 (0 : Int32) io_changes io_undos co_now co_isKept co_keptChanges co_kept) else (if (co_keptChanges (Int32.toNatClampNeg x1)) = io_changes then (fX12_again_b43 (0 : Int32) io_changes io_undos co_now co_isKept co_keptChanges co_kept x1 (0 : Int32)) else (fX12_again_b39 (0 : Int32) io_changes io_undos co_now co_isKept co_keptChanges co_kept)) else none))
set_option maxHeartbeats 4000000 in
set_option maxRecDepth 100000 in
theorem kX12_again (l : Launch) (D : va_G) (Y : Nat → ClassId) (ao : Nat → Nat) (io_thrown : Int32) (io_rows : Int32) (io_cells : Int32) (io_children : Int32) (io_changes : Int32) (io_taped : Int32) (io_at : Int32) (io_to : Int32) (io_nest : Int32) (io_readMany : Int32) (io_codeLong : Int32) (io_readLong : Int32) (io_undos : Int32) (io_wentHome : Int32) (io_tideLevel : Int32) (io_acts : Int32) (io_firstBreaks : Int32) (io_bestCrew : Int32) (io_sights : Int32) (io_wayMany : Int32) (io_random : Int32) (co_now : Nat → Int32) (co_isKept : Nat → Int32) (co_keptChanges : Nat → Int32) (co_kept : Nat → Int32) (x1 : Int32) (res : Int32 × Int32 × Int32 × (Nat → Int32)) (hf : fX12_again io_thrown io_changes io_undos co_now co_isKept co_keptChanges co_kept x1 = some res) : amf l D Y yX12_again wsX12_again rmX12_again [.ref (ao 0), .int x1] [oX12 ao io_thrown io_rows io_cells io_children io_changes io_taped io_at io_to io_nest io_readMany io_codeLong io_readLong io_undos io_wentHome io_tideLevel io_acts io_firstBreaks io_bestCrew io_sights io_wayMany io_random, rI Y (ao 8) 43 co_now, rZ Y (ao 30) 3 co_isKept, rI Y (ao 31) 3 co_keptChanges, rI Y (ao 32) 129 co_kept] (some (.int res.1)) [oX12 ao res.2.1 io_rows io_cells io_children io_changes io_taped io_at io_to io_nest io_readMany io_codeLong io_readLong res.2.2.1 io_wentHome io_tideLevel io_acts io_firstBreaks io_bestCrew io_sights io_wayMany io_random, rI Y (ao 8) 43 res.2.2.2, rZ Y (ao 30) 3 co_isKept, rI Y (ao 31) 3 co_keptChanges, rI Y (ao 32) 129 co_kept] := by
  refine amf.of (cc := cX12_again) (maxL := 3) (rt := (some .boolean)) (by decide) rfl RX12 rfl (Nat.le_of_ble_eq_true rfl) [some (.ref (ao 0)), some (.int x1), none] rfl ?_
  intro X C hQ
  unfold fX12_again at hf
  refine a_aload_n C dX12_again_0 rfl ?_
  refine a_iconst C (0 : Int32) dX12_again_1 (by decide) ?_
  refine a_put C eX12_again_112 tfX12_0 dX12_again_2 0 rfl rfl rfl (Nat.le_of_ble_eq_true rfl) ?_
  refine a_iload_n C dX12_again_5 rfl ?_
  refine a_i2l C dX12_again_6 ?_
  refine a_lconst C (0 : Int64) dX12_again_7 (by decide) ?_
  refine a_ldc2 C (2 : Int64) dX12_again_8 eX12_again_k468 ?_
  obtain ⟨r4, h4, hf⟩ := fx_bind hf
  refine a_fS C (kX12_in l D Y (x1.toInt64) (0 : Int64) (2 : Int64) r4 h4) gX12_again_X12_in rfl dvX12_in ⟨⟨rfl, rfl⟩, ⟨Nat.le_of_ble_eq_true rfl, Nat.le_of_ble_eq_true rfl⟩, ⟨Nat.le_of_ble_eq_true rfl, Nat.le_of_ble_eq_true rfl⟩⟩ rfl (Nat.le_of_ble_eq_true rfl) dX12_again_11 [] rfl rfl rfl (wn := [oX12 ao (0 : Int32) io_rows io_cells io_children io_changes io_taped io_at io_to io_nest io_readMany io_codeLong io_readLong io_undos io_wentHome io_tideLevel io_acts io_firstBreaks io_bestCrew io_sights io_wayMany io_random, rI Y (ao 8) 43 co_now, rZ Y (ao 30) 3 co_isKept, rI Y (ao 31) 3 co_keptChanges, rI Y (ao 32) 129 co_kept]) rfl ?_
  refine a_if_eq C 39 dX12_again_14 (by decide) (fun h5 => ?_) (fun h5 => ?_)
  · have hf := fx_t h5 hf
    refine a_kill [0, 1] ?_
    exact kX12_again_b39 C hQ hf
  · have hf := fx_f h5 hf
    refine a_aload_n C dX12_again_17 rfl ?_
    refine a_get C eX12_again_102 dX12_again_18 0 rfl rfl ?_
    refine a_iload_n C dX12_again_21 rfl ?_
    obtain ⟨h6, hf⟩ := fx_ite hf
    refine a_zald C dX12_again_22 2 rfl h6 ?_
    refine a_if_eq C 39 dX12_again_23 (by decide) (fun h7 => ?_) (fun h7 => ?_)
    · have hf := fx_t h7 hf
      refine a_kill [0, 1] ?_
      exact kX12_again_b39 C hQ hf
    · have hf := fx_f h7 hf
      refine a_aload_n C dX12_again_26 rfl ?_
      refine a_get C eX12_again_106 dX12_again_27 0 rfl rfl ?_
      refine a_iload_n C dX12_again_30 rfl ?_
      refine a_iald C dX12_again_31 3 rfl h6 ?_
      refine a_aload_n C dX12_again_32 rfl ?_
      refine a_get C eX12_again_194 dX12_again_33 0 rfl rfl ?_
      refine a_icmp_eq C 41 dX12_again_36 (by decide) (fun h8 => ?_) (fun h8 => ?_)
      · have hf := fx_t h8 hf
        refine a_iconst C (0 : Int32) dX12_again_41 (by decide) ?_
        refine a_istore_n C dX12_again_42 (by decide) rfl ?_
        exact kX12_again_b43 C hQ hf
      · have hf := fx_f h8 hf
        refine a_kill [0, 1] ?_
        exact kX12_again_b39 C hQ hf
-- X12_count
abbrev rmX12_count : Room := { frames := 2, cells := 0, slots := 0, locals := 45 }
theorem dvX12_count : yX12_count.cls = RX12 ∧ yX12_count.cls ≠ "java/lang/invoke/MethodHandle" ∧ yX12_count.cls ≠ "java/lang/invoke/VarHandle" ∧ (parseMethodDescriptor yX12_count.desc).map (fun d => d.parameters.length) = some 1 := by decide +kernel
theorem eX12_count_inX12 : ∀ w ∈ wsX120, w ∈ wsX12_count := by decide +kernel
theorem eX12_count_112 : aF wsX12_count RX12 112 12 0 := ⟨RX12, TX12, 53, rfl, eX12_count_inX12, by decide, by decide +kernel⟩
theorem eX12_count_13 : aF wsX12_count RX12 13 12 3 := ⟨RX12, TX12, 53, rfl, eX12_count_inX12, by decide, by decide +kernel⟩
theorem eX12_count_126 : aF wsX12_count RX12 126 12 4 := ⟨RX12, TX12, 53, rfl, eX12_count_inX12, by decide, by decide +kernel⟩
theorem eX12_count_36 : aF wsX12_count RX12 36 12 12 := ⟨RX12, TX12, 53, rfl, eX12_count_inX12, by decide, by decide +kernel⟩
theorem eX12_count_33 : aF wsX12_count RX12 33 12 11 := ⟨RX12, TX12, 53, rfl, eX12_count_inX12, by decide, by decide +kernel⟩
theorem eX12_count_188 : aF wsX12_count RX12 188 12 42 := ⟨RX12, TX12, 53, rfl, eX12_count_inX12, by decide, by decide +kernel⟩
theorem eX12_count_191 : aF wsX12_count RX12 191 12 27 := ⟨RX12, TX12, 53, rfl, eX12_count_inX12, by decide, by decide +kernel⟩
theorem eX12_count_119 : aF wsX12_count RX12 119 12 1 := ⟨RX12, TX12, 53, rfl, eX12_count_inX12, by decide, by decide +kernel⟩
theorem eX12_count_133 : aF wsX12_count RX12 133 12 15 := ⟨RX12, TX12, 53, rfl, eX12_count_inX12, by decide, by decide +kernel⟩
def fX12_count (io_thrown : Int32) (io_rows : Int32) (io_cells : Int32) (io_children : Int32) (io_taped : Int32) (io_undos : Int32) (io_sights : Int32) (co_fixed : Nat → Int32) (co_now : Nat → Int32) (x1 : Int32) : Option (Int32 × Int32) :=
  if x1 = (0 : Int32) then (some (io_cells, (0 : Int32))) else if x1 = (1 : Int32) then (some (io_children, (0 : Int32))) else if x1 = (2 : Int32) then (if inb (42 : Int32) 43 then some ((co_now (Int32.toNatClampNeg (42 : Int32))), (0 : Int32)) else none) else if x1 = (3 : Int32) then (if inb (0 : Int32) 2 then some ((co_fixed (Int32.toNatClampNeg (0 : Int32))), (0 : Int32)) else none) else if x1 = (4 : Int32) then (if inb (1 : Int32) 2 then some ((co_fixed (Int32.toNatClampNeg (1 : Int32))), (0 : Int32)) else none) else if x1 = (5 : Int32) then (if inb (41 : Int32) 43 then some ((co_now (Int32.toNatClampNeg (41 : Int32))), (0 : Int32)) else none) else if x1 = (6 : Int32) then (if inb (12 : Int32) 43 then some ((co_now (Int32.toNatClampNeg (12 : Int32))), (0 : Int32)) else none) else if x1 = (7 : Int32) then ((fX12_wet io_cells co_now).bind (fun r14 => some (r14, (0 : Int32)))) else if x1 = (8 : Int32) then ((fX12_childrenAt io_children co_now (-1 : Int32)).bind (fun r16 => some (r16, (0 : Int32)))) else if x1 = (9 : Int32) then ((fX12_wallAll io_cells co_now).bind (fun r18 => some (r18, (0 : Int32)))) else if x1 = (10 : Int32) then (some (io_sights, (0 : Int32))) else if x1 = (11 : Int32) then (some (io_undos, (0 : Int32))) else if x1 = (12 : Int32) then (some (io_rows, (0 : Int32))) else if x1 = (13 : Int32) then (some (io_taped, (0 : Int32))) else (some ((-100 : Int32), (0 : Int32)))
set_option maxHeartbeats 4000000 in
set_option maxRecDepth 100000 in
theorem kX12_count (l : Launch) (D : va_G) (Y : Nat → ClassId) (ao : Nat → Nat) (io_thrown : Int32) (io_rows : Int32) (io_cells : Int32) (io_children : Int32) (io_changes : Int32) (io_taped : Int32) (io_at : Int32) (io_to : Int32) (io_nest : Int32) (io_readMany : Int32) (io_codeLong : Int32) (io_readLong : Int32) (io_undos : Int32) (io_wentHome : Int32) (io_tideLevel : Int32) (io_acts : Int32) (io_firstBreaks : Int32) (io_bestCrew : Int32) (io_sights : Int32) (io_wayMany : Int32) (io_random : Int32) (co_fixed : Nat → Int32) (co_now : Nat → Int32) (x1 : Int32) (res : Int32 × Int32) (hf : fX12_count io_thrown io_rows io_cells io_children io_taped io_undos io_sights co_fixed co_now x1 = some res) : amf l D Y yX12_count wsX12_count rmX12_count [.ref (ao 0), .int x1] [oX12 ao io_thrown io_rows io_cells io_children io_changes io_taped io_at io_to io_nest io_readMany io_codeLong io_readLong io_undos io_wentHome io_tideLevel io_acts io_firstBreaks io_bestCrew io_sights io_wayMany io_random, rI Y (ao 7) 2 co_fixed, rI Y (ao 8) 43 co_now] (some (.int res.1)) [oX12 ao res.2 io_rows io_cells io_children io_changes io_taped io_at io_to io_nest io_readMany io_codeLong io_readLong io_undos io_wentHome io_tideLevel io_acts io_firstBreaks io_bestCrew io_sights io_wayMany io_random, rI Y (ao 7) 2 co_fixed, rI Y (ao 8) 43 co_now] := by
  refine amf.of (cc := cX12_count) (maxL := 2) (rt := (some .int)) (by decide) rfl RX12 rfl (Nat.le_of_ble_eq_true rfl) [some (.ref (ao 0)), some (.int x1)] rfl ?_
  intro X C hQ
  unfold fX12_count at hf
  refine a_aload_n C dX12_count_0 rfl ?_
  refine a_iconst C (0 : Int32) dX12_count_1 (by decide) ?_
  refine a_put C eX12_count_112 tfX12_0 dX12_count_2 0 rfl rfl rfl (Nat.le_of_ble_eq_true rfl) ?_
  refine a_iload_n C dX12_count_5 rfl ?_
  by_cases h1 : x1 = (0 : Int32)
  · have hf := fx_t h1 hf
    refine a_tableIn C 76 dX12_count_6 (by rw [h1]; decide) (by rw [h1]; decide) (by rw [h1]; rfl) (by decide) ?_
    refine a_aload_n C dX12_count_76 rfl ?_
    refine a_get C eX12_count_13 dX12_count_77 0 rfl rfl ?_
    obtain rfl := fx_some hf
    exact a_iret C hQ dX12_count_80 ⟨rfl, rfl⟩
  have hf := fx_f h1 hf
  by_cases h2 : x1 = (1 : Int32)
  · have hf := fx_t h2 hf
    refine a_tableIn C 81 dX12_count_6 (by rw [h2]; decide) (by rw [h2]; decide) (by rw [h2]; rfl) (by decide) ?_
    refine a_aload_n C dX12_count_81 rfl ?_
    refine a_get C eX12_count_126 dX12_count_82 0 rfl rfl ?_
    obtain rfl := fx_some hf
    exact a_iret C hQ dX12_count_85 ⟨rfl, rfl⟩
  have hf := fx_f h2 hf
  by_cases h3 : x1 = (2 : Int32)
  · have hf := fx_t h3 hf
    refine a_tableIn C 86 dX12_count_6 (by rw [h3]; decide) (by rw [h3]; decide) (by rw [h3]; rfl) (by decide) ?_
    refine a_aload_n C dX12_count_86 rfl ?_
    refine a_get C eX12_count_36 dX12_count_87 0 rfl rfl ?_
    refine a_bipush C (42 : Int32) dX12_count_90 (by decide) ?_
    obtain ⟨h4, hf⟩ := fx_ite hf
    refine a_iald C dX12_count_92 2 rfl h4 ?_
    obtain rfl := fx_some hf
    exact a_iret C hQ dX12_count_93 ⟨rfl, rfl⟩
  have hf := fx_f h3 hf
  by_cases h5 : x1 = (3 : Int32)
  · have hf := fx_t h5 hf
    refine a_tableIn C 94 dX12_count_6 (by rw [h5]; decide) (by rw [h5]; decide) (by rw [h5]; rfl) (by decide) ?_
    refine a_aload_n C dX12_count_94 rfl ?_
    refine a_get C eX12_count_33 dX12_count_95 0 rfl rfl ?_
    refine a_iconst C (0 : Int32) dX12_count_98 (by decide) ?_
    obtain ⟨h6, hf⟩ := fx_ite hf
    refine a_iald C dX12_count_99 1 rfl h6 ?_
    obtain rfl := fx_some hf
    exact a_iret C hQ dX12_count_100 ⟨rfl, rfl⟩
  have hf := fx_f h5 hf
  by_cases h7 : x1 = (4 : Int32)
  · have hf := fx_t h7 hf
    refine a_tableIn C 101 dX12_count_6 (by rw [h7]; decide) (by rw [h7]; decide) (by rw [h7]; rfl) (by decide) ?_
    refine a_aload_n C dX12_count_101 rfl ?_
    refine a_get C eX12_count_33 dX12_count_102 0 rfl rfl ?_
    refine a_iconst C (1 : Int32) dX12_count_105 (by decide) ?_
    obtain ⟨h8, hf⟩ := fx_ite hf
    refine a_iald C dX12_count_106 1 rfl h8 ?_
    obtain rfl := fx_some hf
    exact a_iret C hQ dX12_count_107 ⟨rfl, rfl⟩
  have hf := fx_f h7 hf
  by_cases h9 : x1 = (5 : Int32)
  · have hf := fx_t h9 hf
    refine a_tableIn C 108 dX12_count_6 (by rw [h9]; decide) (by rw [h9]; decide) (by rw [h9]; rfl) (by decide) ?_
    refine a_aload_n C dX12_count_108 rfl ?_
    refine a_get C eX12_count_36 dX12_count_109 0 rfl rfl ?_
    refine a_bipush C (41 : Int32) dX12_count_112 (by decide) ?_
    obtain ⟨h10, hf⟩ := fx_ite hf
    refine a_iald C dX12_count_114 2 rfl h10 ?_
    obtain rfl := fx_some hf
    exact a_iret C hQ dX12_count_115 ⟨rfl, rfl⟩
  have hf := fx_f h9 hf
  by_cases h11 : x1 = (6 : Int32)
  · have hf := fx_t h11 hf
    refine a_tableIn C 116 dX12_count_6 (by rw [h11]; decide) (by rw [h11]; decide) (by rw [h11]; rfl) (by decide) ?_
    refine a_aload_n C dX12_count_116 rfl ?_
    refine a_get C eX12_count_36 dX12_count_117 0 rfl rfl ?_
    refine a_bipush C (12 : Int32) dX12_count_120 (by decide) ?_
    obtain ⟨h12, hf⟩ := fx_ite hf
    refine a_iald C dX12_count_122 2 rfl h12 ?_
    obtain rfl := fx_some hf
    exact a_iret C hQ dX12_count_123 ⟨rfl, rfl⟩
  have hf := fx_f h11 hf
  by_cases h13 : x1 = (7 : Int32)
  · have hf := fx_t h13 hf
    refine a_tableIn C 124 dX12_count_6 (by rw [h13]; decide) (by rw [h13]; decide) (by rw [h13]; rfl) (by decide) ?_
    refine a_aload_n C dX12_count_124 rfl ?_
    refine a_aload_n C dX12_count_125 rfl ?_
    refine a_get C eX12_count_36 dX12_count_126 0 rfl rfl ?_
    obtain ⟨r14, h14, hf⟩ := fx_bind hf
    refine a_fV C (kX12_wet l D Y ao (ao 8) (0 : Int32) io_rows io_cells io_children io_changes io_taped io_at io_to io_nest io_readMany io_codeLong io_readLong io_undos io_wentHome io_tideLevel io_acts io_firstBreaks io_bestCrew io_sights io_wayMany io_random co_now r14 h14) gX12_count_X12_wet rfl dvX12_wet ⟨⟨rfl, rfl⟩, ⟨Nat.le_of_ble_eq_true rfl, Nat.le_of_ble_eq_true rfl⟩, ⟨Nat.le_of_ble_eq_true rfl, Nat.le_of_ble_eq_true rfl⟩⟩ rfl (Nat.le_of_ble_eq_true rfl) dX12_count_129 rfl rfl [0, 2] rfl rfl rfl (wn := [oX12 ao (0 : Int32) io_rows io_cells io_children io_changes io_taped io_at io_to io_nest io_readMany io_codeLong io_readLong io_undos io_wentHome io_tideLevel io_acts io_firstBreaks io_bestCrew io_sights io_wayMany io_random, rI Y (ao 7) 2 co_fixed, rI Y (ao 8) 43 co_now]) rfl ?_
    obtain rfl := fx_some hf
    exact a_iret C hQ dX12_count_132 ⟨rfl, rfl⟩
  have hf := fx_f h13 hf
  by_cases h15 : x1 = (8 : Int32)
  · have hf := fx_t h15 hf
    refine a_tableIn C 133 dX12_count_6 (by rw [h15]; decide) (by rw [h15]; decide) (by rw [h15]; rfl) (by decide) ?_
    refine a_aload_n C dX12_count_133 rfl ?_
    refine a_aload_n C dX12_count_134 rfl ?_
    refine a_get C eX12_count_36 dX12_count_135 0 rfl rfl ?_
    refine a_iconst C (-1 : Int32) dX12_count_138 (by decide) ?_
    obtain ⟨r16, h16, hf⟩ := fx_bind hf
    refine a_fV C (kX12_childrenAt l D Y ao (ao 8) (0 : Int32) io_rows io_cells io_children io_changes io_taped io_at io_to io_nest io_readMany io_codeLong io_readLong io_undos io_wentHome io_tideLevel io_acts io_firstBreaks io_bestCrew io_sights io_wayMany io_random co_now (-1 : Int32) r16 h16) gX12_count_X12_childrenAt rfl dvX12_childrenAt ⟨⟨rfl, rfl⟩, ⟨Nat.le_of_ble_eq_true rfl, Nat.le_of_ble_eq_true rfl⟩, ⟨Nat.le_of_ble_eq_true rfl, Nat.le_of_ble_eq_true rfl⟩⟩ rfl (Nat.le_of_ble_eq_true rfl) dX12_count_139 rfl rfl [0, 2] rfl rfl rfl (wn := [oX12 ao (0 : Int32) io_rows io_cells io_children io_changes io_taped io_at io_to io_nest io_readMany io_codeLong io_readLong io_undos io_wentHome io_tideLevel io_acts io_firstBreaks io_bestCrew io_sights io_wayMany io_random, rI Y (ao 7) 2 co_fixed, rI Y (ao 8) 43 co_now]) rfl ?_
    obtain rfl := fx_some hf
    exact a_iret C hQ dX12_count_142 ⟨rfl, rfl⟩
  have hf := fx_f h15 hf
  by_cases h17 : x1 = (9 : Int32)
  · have hf := fx_t h17 hf
    refine a_tableIn C 143 dX12_count_6 (by rw [h17]; decide) (by rw [h17]; decide) (by rw [h17]; rfl) (by decide) ?_
    refine a_aload_n C dX12_count_143 rfl ?_
    refine a_aload_n C dX12_count_144 rfl ?_
    refine a_get C eX12_count_36 dX12_count_145 0 rfl rfl ?_
    obtain ⟨r18, h18, hf⟩ := fx_bind hf
    refine a_fV C (kX12_wallAll l D Y ao (ao 8) (0 : Int32) io_rows io_cells io_children io_changes io_taped io_at io_to io_nest io_readMany io_codeLong io_readLong io_undos io_wentHome io_tideLevel io_acts io_firstBreaks io_bestCrew io_sights io_wayMany io_random co_now r18 h18) gX12_count_X12_wallAll rfl dvX12_wallAll ⟨⟨rfl, rfl⟩, ⟨Nat.le_of_ble_eq_true rfl, Nat.le_of_ble_eq_true rfl⟩, ⟨Nat.le_of_ble_eq_true rfl, Nat.le_of_ble_eq_true rfl⟩⟩ rfl (Nat.le_of_ble_eq_true rfl) dX12_count_148 rfl rfl [0, 2] rfl rfl rfl (wn := [oX12 ao (0 : Int32) io_rows io_cells io_children io_changes io_taped io_at io_to io_nest io_readMany io_codeLong io_readLong io_undos io_wentHome io_tideLevel io_acts io_firstBreaks io_bestCrew io_sights io_wayMany io_random, rI Y (ao 7) 2 co_fixed, rI Y (ao 8) 43 co_now]) rfl ?_
    obtain rfl := fx_some hf
    exact a_iret C hQ dX12_count_151 ⟨rfl, rfl⟩
  have hf := fx_f h17 hf
  by_cases h19 : x1 = (10 : Int32)
  · have hf := fx_t h19 hf
    refine a_tableIn C 152 dX12_count_6 (by rw [h19]; decide) (by rw [h19]; decide) (by rw [h19]; rfl) (by decide) ?_
    refine a_aload_n C dX12_count_152 rfl ?_
    refine a_get C eX12_count_188 dX12_count_153 0 rfl rfl ?_
    obtain rfl := fx_some hf
    exact a_iret C hQ dX12_count_156 ⟨rfl, rfl⟩
  have hf := fx_f h19 hf
  by_cases h20 : x1 = (11 : Int32)
  · have hf := fx_t h20 hf
    refine a_tableIn C 157 dX12_count_6 (by rw [h20]; decide) (by rw [h20]; decide) (by rw [h20]; rfl) (by decide) ?_
    refine a_aload_n C dX12_count_157 rfl ?_
    refine a_get C eX12_count_191 dX12_count_158 0 rfl rfl ?_
    obtain rfl := fx_some hf
    exact a_iret C hQ dX12_count_161 ⟨rfl, rfl⟩
  have hf := fx_f h20 hf
  by_cases h21 : x1 = (12 : Int32)
  · have hf := fx_t h21 hf
    refine a_tableIn C 162 dX12_count_6 (by rw [h21]; decide) (by rw [h21]; decide) (by rw [h21]; rfl) (by decide) ?_
    refine a_aload_n C dX12_count_162 rfl ?_
    refine a_get C eX12_count_119 dX12_count_163 0 rfl rfl ?_
    obtain rfl := fx_some hf
    exact a_iret C hQ dX12_count_166 ⟨rfl, rfl⟩
  have hf := fx_f h21 hf
  by_cases h22 : x1 = (13 : Int32)
  · have hf := fx_t h22 hf
    refine a_tableIn C 167 dX12_count_6 (by rw [h22]; decide) (by rw [h22]; decide) (by rw [h22]; rfl) (by decide) ?_
    refine a_aload_n C dX12_count_167 rfl ?_
    refine a_get C eX12_count_133 dX12_count_168 0 rfl rfl ?_
    obtain rfl := fx_some hf
    exact a_iret C hQ dX12_count_171 ⟨rfl, rfl⟩
  have hf := fx_f h22 hf
  refine a_tableOut C 172 dX12_count_6 (by have z0 := lv_neT (a := 0) h1 (by decide); have z1 := lv_neT (a := 1) h2 (by decide); have z2 := lv_neT (a := 2) h3 (by decide); have z3 := lv_neT (a := 3) h5 (by decide); have z4 := lv_neT (a := 4) h7 (by decide); have z5 := lv_neT (a := 5) h9 (by decide); have z6 := lv_neT (a := 6) h11 (by decide); have z7 := lv_neT (a := 7) h13 (by decide); have z8 := lv_neT (a := 8) h15 (by decide); have z9 := lv_neT (a := 9) h17 (by decide); have z10 := lv_neT (a := 10) h19 (by decide); have z11 := lv_neT (a := 11) h20 (by decide); have z12 := lv_neT (a := 12) h21 (by decide); have z13 := lv_neT (a := 13) h22 (by decide); omega) (by decide) ?_
  refine a_bipush C (-100 : Int32) dX12_count_172 (by decide) ?_
  obtain rfl := fx_some hf
  exact a_iret C hQ dX12_count_174 ⟨rfl, rfl⟩
