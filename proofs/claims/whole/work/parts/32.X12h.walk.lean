-- X12_rests
abbrev rmX12_rests : Room := { frames := 2, cells := 0, slots := 0, locals := 48 }
theorem dvX12_rests : yX12_rests.cls = RX12 ∧ yX12_rests.cls ≠ "java/lang/invoke/MethodHandle" ∧ yX12_rests.cls ≠ "java/lang/invoke/VarHandle" ∧ (parseMethodDescriptor yX12_rests.desc).map (fun d => d.parameters.length) = some 2 := by decide +kernel
theorem eX12_rests_inX12 : ∀ w ∈ wsX120, w ∈ wsX12_rests := by decide +kernel
theorem eX12_rests_112 : aF wsX12_rests RX12 112 12 0 := ⟨RX12, TX12, 53, rfl, eX12_rests_inX12, by decide, by decide +kernel⟩
theorem eX12_rests_k369 : Cond.constantLong RX12 369 (99 : Int64) ∈ wsX12_rests := by decide +kernel
theorem eX12_rests_k302 : Cond.constantLong RX12 302 (9 : Int64) ∈ wsX12_rests := by decide +kernel
theorem eX12_rests_119 : aF wsX12_rests RX12 119 12 1 := ⟨RX12, TX12, 53, rfl, eX12_rests_inX12, by decide, by decide +kernel⟩
def fX12_rests_b29 (io_thrown : Int32) (io_rows : Int32) (co_row : Nat → Int64) : Option (Int32 × Int32 × Int32 × (Nat → Int64)) :=
  some ((-1 : Int32), io_thrown, io_rows, co_row)
set_option maxHeartbeats 400000 in
set_option maxRecDepth 100000 in
theorem kX12_rests_b29 {X : cxT} {l : Launch} {D : va_G} {Y : Nat → ClassId} {ao : Nat → Nat} {io_thrown : Int32} {io_rows : Int32} {io_cells : Int32} {io_children : Int32} {io_changes : Int32} {io_taped : Int32} {io_at : Int32} {io_to : Int32} {io_nest : Int32} {io_readMany : Int32} {io_codeLong : Int32} {io_readLong : Int32} {io_undos : Int32} {io_wentHome : Int32} {io_tideLevel : Int32} {io_acts : Int32} {io_firstBreaks : Int32} {io_bestCrew : Int32} {io_sights : Int32} {io_wayMany : Int32} {io_random : Int32} {co_row : Nat → Int64} {res : Int32 × Int32 × Int32 × (Nat → Int64)} (C : axC X l D Y cX12_rests 6 RX12 wsX12_rests rmX12_rests (some .int)) (hQ : axQ X 0 0 (fun r9 w9 => r9 = (some (.int res.1)) ∧ w9 = [oX12 ao res.2.1 res.2.2.1 io_cells io_children io_changes io_taped io_at io_to io_nest io_readMany io_codeLong io_readLong io_undos io_wentHome io_tideLevel io_acts io_firstBreaks io_bestCrew io_sights io_wayMany io_random, rJ Y (ao 1) 24 res.2.2.2])) (hf : fX12_rests_b29 io_thrown io_rows co_row = some res) : ax X 0 0 29 [none, none, none, none, none, none] [oX12 ao io_thrown io_rows io_cells io_children io_changes io_taped io_at io_to io_nest io_readMany io_codeLong io_readLong io_undos io_wentHome io_tideLevel io_acts io_firstBreaks io_bestCrew io_sights io_wayMany io_random, rJ Y (ao 1) 24 co_row] [] := by
  unfold fX12_rests_b29 at hf
  refine a_iconst C (-1 : Int32) dX12_rests_29 (by decide) ?_
  obtain rfl := fx_some hf
  exact a_iret C hQ dX12_rests_30 ⟨rfl, rfl⟩
def fX12_rests_b115 (io_thrown : Int32) (io_rows : Int32) (co_row : Nat → Int64) (x3 : Int32) : Option (Int32 × Int32 × Int32 × (Nat → Int64)) :=
  some (x3, io_thrown, io_rows, co_row)
set_option maxHeartbeats 400000 in
set_option maxRecDepth 100000 in
theorem kX12_rests_b115 {X : cxT} {l : Launch} {D : va_G} {Y : Nat → ClassId} {ao : Nat → Nat} {io_thrown : Int32} {io_rows : Int32} {io_cells : Int32} {io_children : Int32} {io_changes : Int32} {io_taped : Int32} {io_at : Int32} {io_to : Int32} {io_nest : Int32} {io_readMany : Int32} {io_codeLong : Int32} {io_readLong : Int32} {io_undos : Int32} {io_wentHome : Int32} {io_tideLevel : Int32} {io_acts : Int32} {io_firstBreaks : Int32} {io_bestCrew : Int32} {io_sights : Int32} {io_wayMany : Int32} {io_random : Int32} {co_row : Nat → Int64} {x3 : Int32} {res : Int32 × Int32 × Int32 × (Nat → Int64)} (C : axC X l D Y cX12_rests 6 RX12 wsX12_rests rmX12_rests (some .int)) (hQ : axQ X 0 0 (fun r9 w9 => r9 = (some (.int res.1)) ∧ w9 = [oX12 ao res.2.1 res.2.2.1 io_cells io_children io_changes io_taped io_at io_to io_nest io_readMany io_codeLong io_readLong io_undos io_wentHome io_tideLevel io_acts io_firstBreaks io_bestCrew io_sights io_wayMany io_random, rJ Y (ao 1) 24 res.2.2.2])) (hf : fX12_rests_b115 io_thrown io_rows co_row x3 = some res) : ax X 0 0 115 [none, none, none, some (.int x3), none, none] [oX12 ao io_thrown io_rows io_cells io_children io_changes io_taped io_at io_to io_nest io_readMany io_codeLong io_readLong io_undos io_wentHome io_tideLevel io_acts io_firstBreaks io_bestCrew io_sights io_wayMany io_random, rJ Y (ao 1) 24 co_row] [] := by
  unfold fX12_rests_b115 at hf
  refine a_iload_n C dX12_rests_115 rfl ?_
  obtain rfl := fx_some hf
  exact a_iret C hQ dX12_rests_116 ⟨rfl, rfl⟩
def fX12_rests_b109 (io_thrown : Int32) (io_rows : Int32) (co_row : Nat → Int64) (x1 : Int32) (x2 : Int32) (x3 : Int32) (x4 : Int32) (k41 : Int32 × (Nat → Int64) × Int32 × Int32 → Option (Int32 × Int32 × Int32 × (Nat → Int64))) : Option (Int32 × Int32 × Int32 × (Nat → Int64)) :=
  k41 (io_rows, co_row, x3, (x4 + (1 : Int32)))
set_option maxHeartbeats 400000 in
set_option maxRecDepth 100000 in
theorem kX12_rests_b109 {X : cxT} {l : Launch} {D : va_G} {Y : Nat → ClassId} {ao : Nat → Nat} {io_thrown : Int32} {io_rows : Int32} {io_cells : Int32} {io_children : Int32} {io_changes : Int32} {io_taped : Int32} {io_at : Int32} {io_to : Int32} {io_nest : Int32} {io_readMany : Int32} {io_codeLong : Int32} {io_readLong : Int32} {io_undos : Int32} {io_wentHome : Int32} {io_tideLevel : Int32} {io_acts : Int32} {io_firstBreaks : Int32} {io_bestCrew : Int32} {io_sights : Int32} {io_wayMany : Int32} {io_random : Int32} {co_row : Nat → Int64} {x1 : Int32} {x2 : Int32} {x3 : Int32} {x4 : Int32} {res : Int32 × Int32 × Int32 × (Nat → Int64)} (C : axC X l D Y cX12_rests 6 RX12 wsX12_rests rmX12_rests (some .int)) (hQ : axQ X 0 0 (fun r9 w9 => r9 = (some (.int res.1)) ∧ w9 = [oX12 ao res.2.1 res.2.2.1 io_cells io_children io_changes io_taped io_at io_to io_nest io_readMany io_codeLong io_readLong io_undos io_wentHome io_tideLevel io_acts io_firstBreaks io_bestCrew io_sights io_wayMany io_random, rJ Y (ao 1) 24 res.2.2.2])) {k41 : Int32 × (Nat → Int64) × Int32 × Int32 → Option (Int32 × Int32 × Int32 × (Nat → Int64))} (hk41 : ∀ s : Int32 × (Nat → Int64) × Int32 × Int32, k41 s = some res → ax X 0 0 41 [some (.ref (ao 0)), some (.int x1), some (.int x2), some (.int s.2.2.1), some (.int s.2.2.2), none] [oX12 ao io_thrown s.1 io_cells io_children io_changes io_taped io_at io_to io_nest io_readMany io_codeLong io_readLong io_undos io_wentHome io_tideLevel io_acts io_firstBreaks io_bestCrew io_sights io_wayMany io_random, rJ Y (ao 1) 24 s.2.1] []) (hf : fX12_rests_b109 io_thrown io_rows co_row x1 x2 x3 x4 k41 = some res) : ax X 0 0 109 [some (.ref (ao 0)), some (.int x1), some (.int x2), some (.int x3), some (.int x4), none] [oX12 ao io_thrown io_rows io_cells io_children io_changes io_taped io_at io_to io_nest io_readMany io_codeLong io_readLong io_undos io_wentHome io_tideLevel io_acts io_firstBreaks io_bestCrew io_sights io_wayMany io_random, rJ Y (ao 1) 24 co_row] [] := by
  unfold fX12_rests_b109 at hf
  refine a_iinc C (1 : Int32) dX12_rests_109 (by decide) rfl (by decide) rfl ?_
  refine a_goto C 41 dX12_rests_112 (by decide) ?_
  exact hk41 (io_rows, co_row, x3, (x4 + (1 : Int32))) hf
def fX12_rests_b103 (io_thrown : Int32) (io_rows : Int32) (co_row : Nat → Int64) (x1 : Int32) (x2 : Int32) (x3 : Int32) (x4 : Int32) (x5 : Int32) (k41 : Int32 × (Nat → Int64) × Int32 × Int32 → Option (Int32 × Int32 × Int32 × (Nat → Int64))) (k51 : Int32 × (Nat → Int64) × Int32 × Int32 → Option (Int32 × Int32 × Int32 × (Nat → Int64))) : Option (Int32 × Int32 × Int32 × (Nat → Int64)) :=
  k51 (io_rows, co_row, x3, (x5 + (1 : Int32)))
set_option maxHeartbeats 400000 in
set_option maxRecDepth 100000 in
theorem kX12_rests_b103 {X : cxT} {l : Launch} {D : va_G} {Y : Nat → ClassId} {ao : Nat → Nat} {io_thrown : Int32} {io_rows : Int32} {io_cells : Int32} {io_children : Int32} {io_changes : Int32} {io_taped : Int32} {io_at : Int32} {io_to : Int32} {io_nest : Int32} {io_readMany : Int32} {io_codeLong : Int32} {io_readLong : Int32} {io_undos : Int32} {io_wentHome : Int32} {io_tideLevel : Int32} {io_acts : Int32} {io_firstBreaks : Int32} {io_bestCrew : Int32} {io_sights : Int32} {io_wayMany : Int32} {io_random : Int32} {co_row : Nat → Int64} {x1 : Int32} {x2 : Int32} {x3 : Int32} {x4 : Int32} {x5 : Int32} {res : Int32 × Int32 × Int32 × (Nat → Int64)} (C : axC X l D Y cX12_rests 6 RX12 wsX12_rests rmX12_rests (some .int)) (hQ : axQ X 0 0 (fun r9 w9 => r9 = (some (.int res.1)) ∧ w9 = [oX12 ao res.2.1 res.2.2.1 io_cells io_children io_changes io_taped io_at io_to io_nest io_readMany io_codeLong io_readLong io_undos io_wentHome io_tideLevel io_acts io_firstBreaks io_bestCrew io_sights io_wayMany io_random, rJ Y (ao 1) 24 res.2.2.2])) {k41 : Int32 × (Nat → Int64) × Int32 × Int32 → Option (Int32 × Int32 × Int32 × (Nat → Int64))} (hk41 : ∀ s : Int32 × (Nat → Int64) × Int32 × Int32, k41 s = some res → ax X 0 0 41 [some (.ref (ao 0)), some (.int x1), some (.int x2), some (.int s.2.2.1), some (.int s.2.2.2), none] [oX12 ao io_thrown s.1 io_cells io_children io_changes io_taped io_at io_to io_nest io_readMany io_codeLong io_readLong io_undos io_wentHome io_tideLevel io_acts io_firstBreaks io_bestCrew io_sights io_wayMany io_random, rJ Y (ao 1) 24 s.2.1] []) {k51 : Int32 × (Nat → Int64) × Int32 × Int32 → Option (Int32 × Int32 × Int32 × (Nat → Int64))} (hk51 : ∀ s : Int32 × (Nat → Int64) × Int32 × Int32, k51 s = some res → ax X 0 0 51 [some (.ref (ao 0)), some (.int x1), some (.int x2), some (.int s.2.2.1), some (.int x4), some (.int s.2.2.2)] [oX12 ao io_thrown s.1 io_cells io_children io_changes io_taped io_at io_to io_nest io_readMany io_codeLong io_readLong io_undos io_wentHome io_tideLevel io_acts io_firstBreaks io_bestCrew io_sights io_wayMany io_random, rJ Y (ao 1) 24 s.2.1] []) (hf : fX12_rests_b103 io_thrown io_rows co_row x1 x2 x3 x4 x5 k41 k51 = some res) : ax X 0 0 103 [some (.ref (ao 0)), some (.int x1), some (.int x2), some (.int x3), some (.int x4), some (.int x5)] [oX12 ao io_thrown io_rows io_cells io_children io_changes io_taped io_at io_to io_nest io_readMany io_codeLong io_readLong io_undos io_wentHome io_tideLevel io_acts io_firstBreaks io_bestCrew io_sights io_wayMany io_random, rJ Y (ao 1) 24 co_row] [] := by
  unfold fX12_rests_b103 at hf
  refine a_iinc C (1 : Int32) dX12_rests_103 (by decide) rfl (by decide) rfl ?_
  refine a_goto C 51 dX12_rests_106 (by decide) ?_
  exact hk51 (io_rows, co_row, x3, (x5 + (1 : Int32))) hf
def fX12_rests_b100 (io_thrown : Int32) (io_rows : Int32) (co_row : Nat → Int64) (x1 : Int32) (x2 : Int32) (x3 : Int32) (x4 : Int32) (x5 : Int32) (k41 : Int32 × (Nat → Int64) × Int32 × Int32 → Option (Int32 × Int32 × Int32 × (Nat → Int64))) (k51 : Int32 × (Nat → Int64) × Int32 × Int32 → Option (Int32 × Int32 × Int32 × (Nat → Int64))) : Option (Int32 × Int32 × Int32 × (Nat → Int64)) :=
  fX12_rests_b103 io_thrown io_rows co_row x1 x2 (x3 + (1 : Int32)) x4 x5 k41 k51
set_option maxHeartbeats 400000 in
set_option maxRecDepth 100000 in
theorem kX12_rests_b100 {X : cxT} {l : Launch} {D : va_G} {Y : Nat → ClassId} {ao : Nat → Nat} {io_thrown : Int32} {io_rows : Int32} {io_cells : Int32} {io_children : Int32} {io_changes : Int32} {io_taped : Int32} {io_at : Int32} {io_to : Int32} {io_nest : Int32} {io_readMany : Int32} {io_codeLong : Int32} {io_readLong : Int32} {io_undos : Int32} {io_wentHome : Int32} {io_tideLevel : Int32} {io_acts : Int32} {io_firstBreaks : Int32} {io_bestCrew : Int32} {io_sights : Int32} {io_wayMany : Int32} {io_random : Int32} {co_row : Nat → Int64} {x1 : Int32} {x2 : Int32} {x3 : Int32} {x4 : Int32} {x5 : Int32} {res : Int32 × Int32 × Int32 × (Nat → Int64)} (C : axC X l D Y cX12_rests 6 RX12 wsX12_rests rmX12_rests (some .int)) (hQ : axQ X 0 0 (fun r9 w9 => r9 = (some (.int res.1)) ∧ w9 = [oX12 ao res.2.1 res.2.2.1 io_cells io_children io_changes io_taped io_at io_to io_nest io_readMany io_codeLong io_readLong io_undos io_wentHome io_tideLevel io_acts io_firstBreaks io_bestCrew io_sights io_wayMany io_random, rJ Y (ao 1) 24 res.2.2.2])) {k41 : Int32 × (Nat → Int64) × Int32 × Int32 → Option (Int32 × Int32 × Int32 × (Nat → Int64))} (hk41 : ∀ s : Int32 × (Nat → Int64) × Int32 × Int32, k41 s = some res → ax X 0 0 41 [some (.ref (ao 0)), some (.int x1), some (.int x2), some (.int s.2.2.1), some (.int s.2.2.2), none] [oX12 ao io_thrown s.1 io_cells io_children io_changes io_taped io_at io_to io_nest io_readMany io_codeLong io_readLong io_undos io_wentHome io_tideLevel io_acts io_firstBreaks io_bestCrew io_sights io_wayMany io_random, rJ Y (ao 1) 24 s.2.1] []) {k51 : Int32 × (Nat → Int64) × Int32 × Int32 → Option (Int32 × Int32 × Int32 × (Nat → Int64))} (hk51 : ∀ s : Int32 × (Nat → Int64) × Int32 × Int32, k51 s = some res → ax X 0 0 51 [some (.ref (ao 0)), some (.int x1), some (.int x2), some (.int s.2.2.1), some (.int x4), some (.int s.2.2.2)] [oX12 ao io_thrown s.1 io_cells io_children io_changes io_taped io_at io_to io_nest io_readMany io_codeLong io_readLong io_undos io_wentHome io_tideLevel io_acts io_firstBreaks io_bestCrew io_sights io_wayMany io_random, rJ Y (ao 1) 24 s.2.1] []) (hf : fX12_rests_b100 io_thrown io_rows co_row x1 x2 x3 x4 x5 k41 k51 = some res) : ax X 0 0 100 [some (.ref (ao 0)), some (.int x1), some (.int x2), some (.int x3), some (.int x4), some (.int x5)] [oX12 ao io_thrown io_rows io_cells io_children io_changes io_taped io_at io_to io_nest io_readMany io_codeLong io_readLong io_undos io_wentHome io_tideLevel io_acts io_firstBreaks io_bestCrew io_sights io_wayMany io_random, rJ Y (ao 1) 24 co_row] [] := by
  unfold fX12_rests_b100 at hf
  refine a_iinc C (1 : Int32) dX12_rests_100 (by decide) rfl (by decide) rfl ?_
  exact kX12_rests_b103 C hQ hk41 hk51 hf
def fX12_rests_l51 (io_thrown : Int32) (x1 : Int32) (x2 : Int32) (x4 : Int32) (k41 : Int32 × (Nat → Int64) × Int32 × Int32 → Option (Int32 × Int32 × Int32 × (Nat → Int64))) (k51 : Int32 × (Nat → Int64) × Int32 × Int32 → Option (Int32 × Int32 × Int32 × (Nat → Int64))) (io_rows : Int32) (co_row : Nat → Int64) (x3 : Int32) (x5 : Int32) : Option (Int32 × Int32 × Int32 × (Nat → Int64)) :=
  if (9 : Int32) < x5 then (fX12_rests_b109 io_thrown io_rows co_row x1 x2 x3 x4 k41) else ((fX12_isRest x4 x5 x1 x2).bind (fun r2 => if r2 = (0 : Int32) then (fX12_rests_b103 io_thrown io_rows co_row x1 x2 x3 x4 x5 k41 k51) else ((fX12_isRest x5 x4 x1 x2).bind (fun r4 => if r4 = (0 : Int32) then (fX12_rests_b103 io_thrown io_rows co_row x1 x2 x3 x4 x5 k41 k51) else (if x3 = (0 : Int32) then ((fX12_enters io_rows co_row (x4.toInt64)).bind (fun r7 => (fX12_enters r7.1 r7.2 (x5.toInt64)).bind (fun r8 => fX12_rests_b100 io_thrown r8.1 r8.2 x1 x2 x3 x4 x5 k41 k51))) else (fX12_rests_b100 io_thrown io_rows co_row x1 x2 x3 x4 x5 k41 k51))))))
def fX12_rests_b51 (io_thrown : Int32) (io_rows : Int32) (co_row : Nat → Int64) (x1 : Int32) (x2 : Int32) (x3 : Int32) (x4 : Int32) (x5 : Int32) (k41 : Int32 × (Nat → Int64) × Int32 × Int32 → Option (Int32 × Int32 × Int32 × (Nat → Int64))) : Option (Int32 × Int32 × Int32 × (Nat → Int64)) :=
  loopN (fun (s : Int32 × (Nat → Int64) × Int32 × Int32) k51 => fX12_rests_l51 io_thrown x1 x2 x4 k41 k51 s.1 s.2.1 s.2.2.1 s.2.2.2) FUEL (io_rows, co_row, x3, x5)
set_option maxHeartbeats 400000 in
set_option maxRecDepth 100000 in
theorem kX12_rests_l51 {X : cxT} {l : Launch} {D : va_G} {Y : Nat → ClassId} {ao : Nat → Nat} {io_thrown : Int32} {io_rows : Int32} {io_cells : Int32} {io_children : Int32} {io_changes : Int32} {io_taped : Int32} {io_at : Int32} {io_to : Int32} {io_nest : Int32} {io_readMany : Int32} {io_codeLong : Int32} {io_readLong : Int32} {io_undos : Int32} {io_wentHome : Int32} {io_tideLevel : Int32} {io_acts : Int32} {io_firstBreaks : Int32} {io_bestCrew : Int32} {io_sights : Int32} {io_wayMany : Int32} {io_random : Int32} {co_row : Nat → Int64} {x1 : Int32} {x2 : Int32} {x3 : Int32} {x4 : Int32} {x5 : Int32} {res : Int32 × Int32 × Int32 × (Nat → Int64)} (C : axC X l D Y cX12_rests 6 RX12 wsX12_rests rmX12_rests (some .int)) (hQ : axQ X 0 0 (fun r9 w9 => r9 = (some (.int res.1)) ∧ w9 = [oX12 ao res.2.1 res.2.2.1 io_cells io_children io_changes io_taped io_at io_to io_nest io_readMany io_codeLong io_readLong io_undos io_wentHome io_tideLevel io_acts io_firstBreaks io_bestCrew io_sights io_wayMany io_random, rJ Y (ao 1) 24 res.2.2.2])) {k41 : Int32 × (Nat → Int64) × Int32 × Int32 → Option (Int32 × Int32 × Int32 × (Nat → Int64))} (hk41 : ∀ s : Int32 × (Nat → Int64) × Int32 × Int32, k41 s = some res → ax X 0 0 41 [some (.ref (ao 0)), some (.int x1), some (.int x2), some (.int s.2.2.1), some (.int s.2.2.2), none] [oX12 ao io_thrown s.1 io_cells io_children io_changes io_taped io_at io_to io_nest io_readMany io_codeLong io_readLong io_undos io_wentHome io_tideLevel io_acts io_firstBreaks io_bestCrew io_sights io_wayMany io_random, rJ Y (ao 1) 24 s.2.1] []) {k51 : Int32 × (Nat → Int64) × Int32 × Int32 → Option (Int32 × Int32 × Int32 × (Nat → Int64))} (hk51 : ∀ s : Int32 × (Nat → Int64) × Int32 × Int32, k51 s = some res → ax X 0 0 51 [some (.ref (ao 0)), some (.int x1), some (.int x2), some (.int s.2.2.1), some (.int x4), some (.int s.2.2.2)] [oX12 ao io_thrown s.1 io_cells io_children io_changes io_taped io_at io_to io_nest io_readMany io_codeLong io_readLong io_undos io_wentHome io_tideLevel io_acts io_firstBreaks io_bestCrew io_sights io_wayMany io_random, rJ Y (ao 1) 24 s.2.1] []) (hf : fX12_rests_l51 io_thrown x1 x2 x4 k41 k51 io_rows co_row x3 x5 = some res) : ax X 0 0 51 [some (.ref (ao 0)), some (.int x1), some (.int x2), some (.int x3), some (.int x4), some (.int x5)] [oX12 ao io_thrown io_rows io_cells io_children io_changes io_taped io_at io_to io_nest io_readMany io_codeLong io_readLong io_undos io_wentHome io_tideLevel io_acts io_firstBreaks io_bestCrew io_sights io_wayMany io_random, rJ Y (ao 1) 24 co_row] [] := by
  unfold fX12_rests_l51 at hf
  refine a_iload C dX12_rests_51 rfl ?_
  refine a_bipush C (9 : Int32) dX12_rests_53 (by decide) ?_
  refine a_icmp_gt C 109 dX12_rests_55 (by decide) (fun h1 => ?_) (fun h1 => ?_)
  · have hf := fx_t h1 hf
    refine a_kill [5] ?_
    exact kX12_rests_b109 C hQ hk41 hf
  · have hf := fx_f h1 hf
    refine a_iload C dX12_rests_58 rfl ?_
    refine a_iload C dX12_rests_60 rfl ?_
    refine a_iload_n C dX12_rests_62 rfl ?_
    refine a_iload_n C dX12_rests_63 rfl ?_
    obtain ⟨r2, h2, hf⟩ := fx_bind hf
    refine a_fS C (kX12_isRest l D Y x4 x5 x1 x2 r2 h2) gX12_rests_X12_isRest rfl dvX12_isRest ⟨⟨rfl, rfl⟩, ⟨Nat.le_of_ble_eq_true rfl, Nat.le_of_ble_eq_true rfl⟩, ⟨Nat.le_of_ble_eq_true rfl, Nat.le_of_ble_eq_true rfl⟩⟩ rfl (Nat.le_of_ble_eq_true rfl) dX12_rests_64 [] [0, 1] trivial rfl rfl [oX12 ao io_thrown io_rows io_cells io_children io_changes io_taped io_at io_to io_nest io_readMany io_codeLong io_readLong io_undos io_wentHome io_tideLevel io_acts io_firstBreaks io_bestCrew io_sights io_wayMany io_random, rJ Y (ao 1) 24 co_row] trivial ⟨rfl, rfl, trivial⟩ rfl ?_
    refine a_if_eq C 103 dX12_rests_67 (by decide) (fun h3 => ?_) (fun h3 => ?_)
    · have hf := fx_t h3 hf
      exact kX12_rests_b103 C hQ hk41 hk51 hf
    · have hf := fx_f h3 hf
      refine a_iload C dX12_rests_70 rfl ?_
      refine a_iload C dX12_rests_72 rfl ?_
      refine a_iload_n C dX12_rests_74 rfl ?_
      refine a_iload_n C dX12_rests_75 rfl ?_
      obtain ⟨r4, h4, hf⟩ := fx_bind hf
      refine a_fS C (kX12_isRest l D Y x5 x4 x1 x2 r4 h4) gX12_rests_X12_isRest rfl dvX12_isRest ⟨⟨rfl, rfl⟩, ⟨Nat.le_of_ble_eq_true rfl, Nat.le_of_ble_eq_true rfl⟩, ⟨Nat.le_of_ble_eq_true rfl, Nat.le_of_ble_eq_true rfl⟩⟩ rfl (Nat.le_of_ble_eq_true rfl) dX12_rests_76 [] [0, 1] trivial rfl rfl [oX12 ao io_thrown io_rows io_cells io_children io_changes io_taped io_at io_to io_nest io_readMany io_codeLong io_readLong io_undos io_wentHome io_tideLevel io_acts io_firstBreaks io_bestCrew io_sights io_wayMany io_random, rJ Y (ao 1) 24 co_row] trivial ⟨rfl, rfl, trivial⟩ rfl ?_
      refine a_if_eq C 103 dX12_rests_79 (by decide) (fun h5 => ?_) (fun h5 => ?_)
      · have hf := fx_t h5 hf
        exact kX12_rests_b103 C hQ hk41 hk51 hf
      · have hf := fx_f h5 hf
        refine a_iload_n C dX12_rests_82 rfl ?_
        refine a_if_ne C 100 dX12_rests_83 (by decide) (fun h6 => ?_) (fun h6 => ?_)
        · have hf := fx_f h6 hf
          exact kX12_rests_b100 C hQ hk41 hk51 hf
        · have hf := fx_t h6 hf
          refine a_aload_n C dX12_rests_86 rfl ?_
          refine a_iload C dX12_rests_87 rfl ?_
          refine a_i2l C dX12_rests_89 ?_
          obtain ⟨r7, h7, hf⟩ := fx_bind hf
          refine a_fV C (kX12_enters l D Y ao io_thrown io_rows io_cells io_children io_changes io_taped io_at io_to io_nest io_readMany io_codeLong io_readLong io_undos io_wentHome io_tideLevel io_acts io_firstBreaks io_bestCrew io_sights io_wayMany io_random co_row (x4.toInt64) r7 h7) gX12_rests_X12_enters rfl dvX12_enters ⟨⟨rfl, rfl⟩, ⟨Nat.le_of_ble_eq_true rfl, Nat.le_of_ble_eq_true rfl⟩, ⟨Nat.le_of_ble_eq_true rfl, Nat.le_of_ble_eq_true rfl⟩⟩ rfl (Nat.le_of_ble_eq_true rfl) dX12_rests_90 rfl rfl [0, 1] [] ⟨rfl, rfl, trivial⟩ rfl rfl [oX12 ao io_thrown r7.1 io_cells io_children io_changes io_taped io_at io_to io_nest io_readMany io_codeLong io_readLong io_undos io_wentHome io_tideLevel io_acts io_firstBreaks io_bestCrew io_sights io_wayMany io_random, rJ Y (ao 1) 24 r7.2] ⟨rfl, rfl, trivial⟩ trivial rfl ?_
          refine a_aload_n C dX12_rests_93 rfl ?_
          refine a_iload C dX12_rests_94 rfl ?_
          refine a_i2l C dX12_rests_96 ?_
          obtain ⟨r8, h8, hf⟩ := fx_bind hf
          refine a_fV C (kX12_enters l D Y ao io_thrown r7.1 io_cells io_children io_changes io_taped io_at io_to io_nest io_readMany io_codeLong io_readLong io_undos io_wentHome io_tideLevel io_acts io_firstBreaks io_bestCrew io_sights io_wayMany io_random r7.2 (x5.toInt64) r8 h8) gX12_rests_X12_enters rfl dvX12_enters ⟨⟨rfl, rfl⟩, ⟨Nat.le_of_ble_eq_true rfl, Nat.le_of_ble_eq_true rfl⟩, ⟨Nat.le_of_ble_eq_true rfl, Nat.le_of_ble_eq_true rfl⟩⟩ rfl (Nat.le_of_ble_eq_true rfl) dX12_rests_97 rfl rfl [0, 1] [] ⟨rfl, rfl, trivial⟩ rfl rfl [oX12 ao io_thrown r8.1 io_cells io_children io_changes io_taped io_at io_to io_nest io_readMany io_codeLong io_readLong io_undos io_wentHome io_tideLevel io_acts io_firstBreaks io_bestCrew io_sights io_wayMany io_random, rJ Y (ao 1) 24 r8.2] ⟨rfl, rfl, trivial⟩ trivial rfl ?_
          exact kX12_rests_b100 C hQ hk41 hk51 hf
set_option maxHeartbeats 400000 in
set_option maxRecDepth 100000 in
theorem kX12_rests_b51 {X : cxT} {l : Launch} {D : va_G} {Y : Nat → ClassId} {ao : Nat → Nat} {io_thrown : Int32} {io_rows : Int32} {io_cells : Int32} {io_children : Int32} {io_changes : Int32} {io_taped : Int32} {io_at : Int32} {io_to : Int32} {io_nest : Int32} {io_readMany : Int32} {io_codeLong : Int32} {io_readLong : Int32} {io_undos : Int32} {io_wentHome : Int32} {io_tideLevel : Int32} {io_acts : Int32} {io_firstBreaks : Int32} {io_bestCrew : Int32} {io_sights : Int32} {io_wayMany : Int32} {io_random : Int32} {co_row : Nat → Int64} {x1 : Int32} {x2 : Int32} {x3 : Int32} {x4 : Int32} {x5 : Int32} {res : Int32 × Int32 × Int32 × (Nat → Int64)} (C : axC X l D Y cX12_rests 6 RX12 wsX12_rests rmX12_rests (some .int)) (hQ : axQ X 0 0 (fun r9 w9 => r9 = (some (.int res.1)) ∧ w9 = [oX12 ao res.2.1 res.2.2.1 io_cells io_children io_changes io_taped io_at io_to io_nest io_readMany io_codeLong io_readLong io_undos io_wentHome io_tideLevel io_acts io_firstBreaks io_bestCrew io_sights io_wayMany io_random, rJ Y (ao 1) 24 res.2.2.2])) {k41 : Int32 × (Nat → Int64) × Int32 × Int32 → Option (Int32 × Int32 × Int32 × (Nat → Int64))} (hk41 : ∀ s : Int32 × (Nat → Int64) × Int32 × Int32, k41 s = some res → ax X 0 0 41 [some (.ref (ao 0)), some (.int x1), some (.int x2), some (.int s.2.2.1), some (.int s.2.2.2), none] [oX12 ao io_thrown s.1 io_cells io_children io_changes io_taped io_at io_to io_nest io_readMany io_codeLong io_readLong io_undos io_wentHome io_tideLevel io_acts io_firstBreaks io_bestCrew io_sights io_wayMany io_random, rJ Y (ao 1) 24 s.2.1] []) (hf : fX12_rests_b51 io_thrown io_rows co_row x1 x2 x3 x4 x5 k41 = some res) : ax X 0 0 51 [some (.ref (ao 0)), some (.int x1), some (.int x2), some (.int x3), some (.int x4), some (.int x5)] [oX12 ao io_thrown io_rows io_cells io_children io_changes io_taped io_at io_to io_nest io_readMany io_codeLong io_readLong io_undos io_wentHome io_tideLevel io_acts io_firstBreaks io_bestCrew io_sights io_wayMany io_random, rJ Y (ao 1) 24 co_row] [] := by
  unfold fX12_rests_b51 at hf
  exact fx_loop (P := fun s : Int32 × (Nat → Int64) × Int32 × Int32 => ax X 0 0 51 [some (.ref (ao 0)), some (.int x1), some (.int x2), some (.int s.2.2.1), some (.int x4), some (.int s.2.2.2)] [oX12 ao io_thrown s.1 io_cells io_children io_changes io_taped io_at io_to io_nest io_readMany io_codeLong io_readLong io_undos io_wentHome io_tideLevel io_acts io_firstBreaks io_bestCrew io_sights io_wayMany io_random, rJ Y (ao 1) 24 s.2.1] []) (fun s k51 hk51 h => kX12_rests_l51 C hQ hk41 hk51 h) FUEL (io_rows, co_row, x3, x5) hf
def fX12_rests_l41 (io_thrown : Int32) (x1 : Int32) (x2 : Int32) (k41 : Int32 × (Nat → Int64) × Int32 × Int32 → Option (Int32 × Int32 × Int32 × (Nat → Int64))) (io_rows : Int32) (co_row : Nat → Int64) (x3 : Int32) (x4 : Int32) : Option (Int32 × Int32 × Int32 × (Nat → Int64)) :=
  if (9 : Int32) < x4 then (fX12_rests_b115 io_thrown io_rows co_row x3) else (fX12_rests_b51 io_thrown io_rows co_row x1 x2 x3 x4 (0 : Int32) k41)
def fX12_rests_b41 (io_thrown : Int32) (io_rows : Int32) (co_row : Nat → Int64) (x1 : Int32) (x2 : Int32) (x3 : Int32) (x4 : Int32) : Option (Int32 × Int32 × Int32 × (Nat → Int64)) :=
  loopN (fun (s : Int32 × (Nat → Int64) × Int32 × Int32) k41 => fX12_rests_l41 io_thrown x1 x2 k41 s.1 s.2.1 s.2.2.1 s.2.2.2) FUEL (io_rows, co_row, x3, x4)
set_option maxHeartbeats 400000 in
set_option maxRecDepth 100000 in
theorem kX12_rests_l41 {X : cxT} {l : Launch} {D : va_G} {Y : Nat → ClassId} {ao : Nat → Nat} {io_thrown : Int32} {io_rows : Int32} {io_cells : Int32} {io_children : Int32} {io_changes : Int32} {io_taped : Int32} {io_at : Int32} {io_to : Int32} {io_nest : Int32} {io_readMany : Int32} {io_codeLong : Int32} {io_readLong : Int32} {io_undos : Int32} {io_wentHome : Int32} {io_tideLevel : Int32} {io_acts : Int32} {io_firstBreaks : Int32} {io_bestCrew : Int32} {io_sights : Int32} {io_wayMany : Int32} {io_random : Int32} {co_row : Nat → Int64} {x1 : Int32} {x2 : Int32} {x3 : Int32} {x4 : Int32} {res : Int32 × Int32 × Int32 × (Nat → Int64)} (C : axC X l D Y cX12_rests 6 RX12 wsX12_rests rmX12_rests (some .int)) (hQ : axQ X 0 0 (fun r9 w9 => r9 = (some (.int res.1)) ∧ w9 = [oX12 ao res.2.1 res.2.2.1 io_cells io_children io_changes io_taped io_at io_to io_nest io_readMany io_codeLong io_readLong io_undos io_wentHome io_tideLevel io_acts io_firstBreaks io_bestCrew io_sights io_wayMany io_random, rJ Y (ao 1) 24 res.2.2.2])) {k41 : Int32 × (Nat → Int64) × Int32 × Int32 → Option (Int32 × Int32 × Int32 × (Nat → Int64))} (hk41 : ∀ s : Int32 × (Nat → Int64) × Int32 × Int32, k41 s = some res → ax X 0 0 41 [some (.ref (ao 0)), some (.int x1), some (.int x2), some (.int s.2.2.1), some (.int s.2.2.2), none] [oX12 ao io_thrown s.1 io_cells io_children io_changes io_taped io_at io_to io_nest io_readMany io_codeLong io_readLong io_undos io_wentHome io_tideLevel io_acts io_firstBreaks io_bestCrew io_sights io_wayMany io_random, rJ Y (ao 1) 24 s.2.1] []) (hf : fX12_rests_l41 io_thrown x1 x2 k41 io_rows co_row x3 x4 = some res) : ax X 0 0 41 [some (.ref (ao 0)), some (.int x1), some (.int x2), some (.int x3), some (.int x4), none] [oX12 ao io_thrown io_rows io_cells io_children io_changes io_taped io_at io_to io_nest io_readMany io_codeLong io_readLong io_undos io_wentHome io_tideLevel io_acts io_firstBreaks io_bestCrew io_sights io_wayMany io_random, rJ Y (ao 1) 24 co_row] [] := by
  unfold fX12_rests_l41 at hf
  refine a_iload C dX12_rests_41 rfl ?_
  refine a_bipush C (9 : Int32) dX12_rests_43 (by decide) ?_
  refine a_icmp_gt C 115 dX12_rests_45 (by decide) (fun h9 => ?_) (fun h9 => ?_)
  · have hf := fx_t h9 hf
    refine a_kill [0, 1, 2, 4] ?_
    exact kX12_rests_b115 C hQ hf
  · have hf := fx_f h9 hf
    refine a_iconst C (0 : Int32) dX12_rests_48 (by decide) ?_
    refine a_istore C dX12_rests_49 (by decide) rfl ?_
    exact kX12_rests_b51 C hQ hk41 hf
set_option maxHeartbeats 400000 in
set_option maxRecDepth 100000 in
theorem kX12_rests_b41 {X : cxT} {l : Launch} {D : va_G} {Y : Nat → ClassId} {ao : Nat → Nat} {io_thrown : Int32} {io_rows : Int32} {io_cells : Int32} {io_children : Int32} {io_changes : Int32} {io_taped : Int32} {io_at : Int32} {io_to : Int32} {io_nest : Int32} {io_readMany : Int32} {io_codeLong : Int32} {io_readLong : Int32} {io_undos : Int32} {io_wentHome : Int32} {io_tideLevel : Int32} {io_acts : Int32} {io_firstBreaks : Int32} {io_bestCrew : Int32} {io_sights : Int32} {io_wayMany : Int32} {io_random : Int32} {co_row : Nat → Int64} {x1 : Int32} {x2 : Int32} {x3 : Int32} {x4 : Int32} {res : Int32 × Int32 × Int32 × (Nat → Int64)} (C : axC X l D Y cX12_rests 6 RX12 wsX12_rests rmX12_rests (some .int)) (hQ : axQ X 0 0 (fun r9 w9 => r9 = (some (.int res.1)) ∧ w9 = [oX12 ao res.2.1 res.2.2.1 io_cells io_children io_changes io_taped io_at io_to io_nest io_readMany io_codeLong io_readLong io_undos io_wentHome io_tideLevel io_acts io_firstBreaks io_bestCrew io_sights io_wayMany io_random, rJ Y (ao 1) 24 res.2.2.2])) (hf : fX12_rests_b41 io_thrown io_rows co_row x1 x2 x3 x4 = some res) : ax X 0 0 41 [some (.ref (ao 0)), some (.int x1), some (.int x2), some (.int x3), some (.int x4), none] [oX12 ao io_thrown io_rows io_cells io_children io_changes io_taped io_at io_to io_nest io_readMany io_codeLong io_readLong io_undos io_wentHome io_tideLevel io_acts io_firstBreaks io_bestCrew io_sights io_wayMany io_random, rJ Y (ao 1) 24 co_row] [] := by
  unfold fX12_rests_b41 at hf
  exact fx_loop (P := fun s : Int32 × (Nat → Int64) × Int32 × Int32 => ax X 0 0 41 [some (.ref (ao 0)), some (.int x1), some (.int x2), some (.int s.2.2.1), some (.int s.2.2.2), none] [oX12 ao io_thrown s.1 io_cells io_children io_changes io_taped io_at io_to io_nest io_readMany io_codeLong io_readLong io_undos io_wentHome io_tideLevel io_acts io_firstBreaks io_bestCrew io_sights io_wayMany io_random, rJ Y (ao 1) 24 s.2.1] []) (fun s k41 hk41 h => kX12_rests_l41 C hQ hk41 h) FUEL (io_rows, co_row, x3, x4) hf
def fX12_rests (io_thrown : Int32) (io_rows : Int32) (co_row : Nat → Int64) (x1 : Int32) (x2 : Int32) : Option (Int32 × Int32 × Int32 × (Nat → Int64)) :=
  (fX12_in (x1.toInt64) (1 : Int64) (99 : Int64)).bind (fun r10 => if r10 = (0 : Int32) then (fX12_rests_b29 (0 : Int32) io_rows co_row) else ((fX12_in (x2.toInt64) (0 : Int64) (9 : Int64)).bind (fun r12 => if r12 = (0 : Int32) then (fX12_rests_b29 (0 : Int32) io_rows co_row) else (fX12_rests_b41 (0 : Int32) (0 : Int32) co_row x1 x2 (0 : Int32) (0 : Int32)))))
set_option maxHeartbeats 400000 in
set_option maxRecDepth 100000 in
theorem kX12_rests (l : Launch) (D : va_G) (Y : Nat → ClassId) (ao : Nat → Nat) (io_thrown : Int32) (io_rows : Int32) (io_cells : Int32) (io_children : Int32) (io_changes : Int32) (io_taped : Int32) (io_at : Int32) (io_to : Int32) (io_nest : Int32) (io_readMany : Int32) (io_codeLong : Int32) (io_readLong : Int32) (io_undos : Int32) (io_wentHome : Int32) (io_tideLevel : Int32) (io_acts : Int32) (io_firstBreaks : Int32) (io_bestCrew : Int32) (io_sights : Int32) (io_wayMany : Int32) (io_random : Int32) (co_row : Nat → Int64) (x1 : Int32) (x2 : Int32) (res : Int32 × Int32 × Int32 × (Nat → Int64)) (hf : fX12_rests io_thrown io_rows co_row x1 x2 = some res) : amf l D Y yX12_rests wsX12_rests rmX12_rests [.ref (ao 0), .int x1, .int x2] [oX12 ao io_thrown io_rows io_cells io_children io_changes io_taped io_at io_to io_nest io_readMany io_codeLong io_readLong io_undos io_wentHome io_tideLevel io_acts io_firstBreaks io_bestCrew io_sights io_wayMany io_random, rJ Y (ao 1) 24 co_row] (some (.int res.1)) [oX12 ao res.2.1 res.2.2.1 io_cells io_children io_changes io_taped io_at io_to io_nest io_readMany io_codeLong io_readLong io_undos io_wentHome io_tideLevel io_acts io_firstBreaks io_bestCrew io_sights io_wayMany io_random, rJ Y (ao 1) 24 res.2.2.2] := by
  refine amf.of (cc := cX12_rests) (maxL := 6) (rt := (some .int)) (by decide) rfl RX12 rfl (Nat.le_of_ble_eq_true rfl) [some (.ref (ao 0)), some (.int x1), some (.int x2), none, none, none] rfl ?_
  intro X C hQ
  unfold fX12_rests at hf
  refine a_aload_n C dX12_rests_0 rfl ?_
  refine a_iconst C (0 : Int32) dX12_rests_1 (by decide) ?_
  refine a_put C eX12_rests_112 tfX12_0 dX12_rests_2 0 rfl rfl rfl (Nat.le_of_ble_eq_true rfl) ?_
  refine a_iload_n C dX12_rests_5 rfl ?_
  refine a_i2l C dX12_rests_6 ?_
  refine a_lconst C (1 : Int64) dX12_rests_7 (by decide) ?_
  refine a_ldc2 C (99 : Int64) dX12_rests_8 eX12_rests_k369 ?_
  obtain ⟨r10, h10, hf⟩ := fx_bind hf
  refine a_fS C (kX12_in l D Y (x1.toInt64) (1 : Int64) (99 : Int64) r10 h10) gX12_rests_X12_in rfl dvX12_in ⟨⟨rfl, rfl⟩, ⟨Nat.le_of_ble_eq_true rfl, Nat.le_of_ble_eq_true rfl⟩, ⟨Nat.le_of_ble_eq_true rfl, Nat.le_of_ble_eq_true rfl⟩⟩ rfl (Nat.le_of_ble_eq_true rfl) dX12_rests_11 [] [0, 1] trivial rfl rfl [oX12 ao (0 : Int32) io_rows io_cells io_children io_changes io_taped io_at io_to io_nest io_readMany io_codeLong io_readLong io_undos io_wentHome io_tideLevel io_acts io_firstBreaks io_bestCrew io_sights io_wayMany io_random, rJ Y (ao 1) 24 co_row] trivial ⟨rfl, rfl, trivial⟩ rfl ?_
  refine a_if_eq C 29 dX12_rests_14 (by decide) (fun h11 => ?_) (fun h11 => ?_)
  · have hf := fx_t h11 hf
    refine a_kill [0, 1, 2] ?_
    exact kX12_rests_b29 C hQ hf
  · have hf := fx_f h11 hf
    refine a_iload_n C dX12_rests_17 rfl ?_
    refine a_i2l C dX12_rests_18 ?_
    refine a_lconst C (0 : Int64) dX12_rests_19 (by decide) ?_
    refine a_ldc2 C (9 : Int64) dX12_rests_20 eX12_rests_k302 ?_
    obtain ⟨r12, h12, hf⟩ := fx_bind hf
    refine a_fS C (kX12_in l D Y (x2.toInt64) (0 : Int64) (9 : Int64) r12 h12) gX12_rests_X12_in rfl dvX12_in ⟨⟨rfl, rfl⟩, ⟨Nat.le_of_ble_eq_true rfl, Nat.le_of_ble_eq_true rfl⟩, ⟨Nat.le_of_ble_eq_true rfl, Nat.le_of_ble_eq_true rfl⟩⟩ rfl (Nat.le_of_ble_eq_true rfl) dX12_rests_23 [] [0, 1] trivial rfl rfl [oX12 ao (0 : Int32) io_rows io_cells io_children io_changes io_taped io_at io_to io_nest io_readMany io_codeLong io_readLong io_undos io_wentHome io_tideLevel io_acts io_firstBreaks io_bestCrew io_sights io_wayMany io_random, rJ Y (ao 1) 24 co_row] trivial ⟨rfl, rfl, trivial⟩ rfl ?_
    refine a_if_ne C 31 dX12_rests_26 (by decide) (fun h13 => ?_) (fun h13 => ?_)
    · have hf := fx_f h13 hf
      refine a_iconst C (0 : Int32) dX12_rests_31 (by decide) ?_
      refine a_istore_n C dX12_rests_32 (by decide) rfl ?_
      refine a_aload_n C dX12_rests_33 rfl ?_
      refine a_iconst C (0 : Int32) dX12_rests_34 (by decide) ?_
      refine a_put C eX12_rests_119 tfX12_1 dX12_rests_35 0 rfl rfl rfl (Nat.le_of_ble_eq_true rfl) ?_
      refine a_iconst C (0 : Int32) dX12_rests_38 (by decide) ?_
      refine a_istore C dX12_rests_39 (by decide) rfl ?_
      exact kX12_rests_b41 C hQ hf
    · have hf := fx_t h13 hf
      refine a_kill [0, 1, 2] ?_
      exact kX12_rests_b29 C hQ hf
-- X12_draws
abbrev rmX12_draws : Room := { frames := 0, cells := 0, slots := 0, locals := 0 }
theorem dvX12_draws : yX12_draws.cls = RX12 ∧ yX12_draws.cls ≠ "java/lang/invoke/MethodHandle" ∧ yX12_draws.cls ≠ "java/lang/invoke/VarHandle" ∧ (parseMethodDescriptor yX12_draws.desc).map (fun d => d.parameters.length) = some 1 := by decide +kernel
theorem eX12_draws_inX12 : ∀ w ∈ wsX120, w ∈ wsX12_draws := by decide +kernel
theorem eX12_draws_461 : aF wsX12_draws RX12 461 12 49 := ⟨RX12, TX12, 53, rfl, eX12_draws_inX12, by decide, by decide +kernel⟩
theorem eX12_draws_k464 : Cond.constant RX12 464 (1103515245 : Int32) ∈ wsX12_draws := by decide +kernel
def fX12_draws (io_random : Int32) (x1 : Int32) : Option (Int32 × Int32) :=
  if ¬ x1 = 0 then some ((jrem (jushr ((io_random * (1103515245 : Int32)) + (12345 : Int32)) (16 : Int32)) x1), ((io_random * (1103515245 : Int32)) + (12345 : Int32))) else none
set_option maxHeartbeats 400000 in
set_option maxRecDepth 100000 in
theorem kX12_draws (l : Launch) (D : va_G) (Y : Nat → ClassId) (ao : Nat → Nat) (io_thrown : Int32) (io_rows : Int32) (io_cells : Int32) (io_children : Int32) (io_changes : Int32) (io_taped : Int32) (io_at : Int32) (io_to : Int32) (io_nest : Int32) (io_readMany : Int32) (io_codeLong : Int32) (io_readLong : Int32) (io_undos : Int32) (io_wentHome : Int32) (io_tideLevel : Int32) (io_acts : Int32) (io_firstBreaks : Int32) (io_bestCrew : Int32) (io_sights : Int32) (io_wayMany : Int32) (io_random : Int32) (x1 : Int32) (res : Int32 × Int32) (hf : fX12_draws io_random x1 = some res) : amf l D Y yX12_draws wsX12_draws rmX12_draws [.ref (ao 0), .int x1] [oX12 ao io_thrown io_rows io_cells io_children io_changes io_taped io_at io_to io_nest io_readMany io_codeLong io_readLong io_undos io_wentHome io_tideLevel io_acts io_firstBreaks io_bestCrew io_sights io_wayMany io_random] (some (.int res.1)) [oX12 ao io_thrown io_rows io_cells io_children io_changes io_taped io_at io_to io_nest io_readMany io_codeLong io_readLong io_undos io_wentHome io_tideLevel io_acts io_firstBreaks io_bestCrew io_sights io_wayMany res.2] := by
  refine amf.of (cc := cX12_draws) (maxL := 2) (rt := (some .int)) (by decide) rfl RX12 rfl (Nat.le_of_ble_eq_true rfl) [some (.ref (ao 0)), some (.int x1)] rfl ?_
  intro X C hQ
  unfold fX12_draws at hf
  refine a_aload_n C dX12_draws_0 rfl ?_
  refine a_aload_n C dX12_draws_1 rfl ?_
  refine a_get C eX12_draws_461 dX12_draws_2 0 rfl rfl ?_
  refine a_ldcw C (1103515245 : Int32) dX12_draws_5 eX12_draws_k464 ?_
  refine a_imul C dX12_draws_8 ?_
  refine a_sipush C (12345 : Int32) dX12_draws_9 (by decide) ?_
  refine a_iadd C dX12_draws_12 ?_
  refine a_put C eX12_draws_461 tfX12_49 dX12_draws_13 0 rfl rfl rfl (Nat.le_of_ble_eq_true rfl) ?_
  refine a_aload_n C dX12_draws_16 rfl ?_
  refine a_get C eX12_draws_461 dX12_draws_17 0 rfl rfl ?_
  refine a_bipush C (16 : Int32) dX12_draws_20 (by decide) ?_
  refine a_iushr C dX12_draws_22 ?_
  refine a_iload_n C dX12_draws_23 rfl ?_
  obtain ⟨h1, hf⟩ := fx_ite hf
  refine a_irem C dX12_draws_24 h1 ?_
  obtain rfl := fx_some hf
  exact a_iret C hQ dX12_draws_25 ⟨rfl, rfl⟩
-- X12_summers
abbrev rmX12_summers : Room := { frames := 5, cells := 0, slots := 0, locals := 114 }
theorem dvX12_summers : yX12_summers.cls = RX12 ∧ yX12_summers.cls ≠ "java/lang/invoke/MethodHandle" ∧ yX12_summers.cls ≠ "java/lang/invoke/VarHandle" ∧ (parseMethodDescriptor yX12_summers.desc).map (fun d => d.parameters.length) = some 2 := by decide +kernel
theorem eX12_summers_inX12 : ∀ w ∈ wsX120, w ∈ wsX12_summers := by decide +kernel
theorem eX12_summers_119 : aF wsX12_summers RX12 119 12 1 := ⟨RX12, TX12, 53, rfl, eX12_summers_inX12, by decide, by decide +kernel⟩
theorem eX12_summers_39 : aF wsX12_summers RX12 39 12 13 := ⟨RX12, TX12, 53, rfl, eX12_summers_inX12, by decide, by decide +kernel⟩
theorem eX12_summers_126 : aF wsX12_summers RX12 126 12 4 := ⟨RX12, TX12, 53, rfl, eX12_summers_inX12, by decide, by decide +kernel⟩
theorem eX12_summers_13 : aF wsX12_summers RX12 13 12 3 := ⟨RX12, TX12, 53, rfl, eX12_summers_inX12, by decide, by decide +kernel⟩
theorem eX12_summers_112 : aF wsX12_summers RX12 112 12 0 := ⟨RX12, TX12, 53, rfl, eX12_summers_inX12, by decide, by decide +kernel⟩
theorem eX12_summers_k398 : Cond.constantLong RX12 398 (60 : Int64) ∈ wsX12_summers := by decide +kernel
theorem eX12_summers_461 : aF wsX12_summers RX12 461 12 49 := ⟨RX12, TX12, 53, rfl, eX12_summers_inX12, by decide, by decide +kernel⟩
def fX12_summers_b136 (io_thrown : Int32) (io_rows : Int32) (io_cells : Int32) (io_children : Int32) (io_codeLong : Int32) (io_wentHome : Int32) (io_tideLevel : Int32) (io_random : Int32) (co_row : Nat → Int64) (co_base : Nat → Int32) (co_dyke : Nat → Int32) (co_age : Nat → Int32) (co_skill : Nat → Int32) (co_friend : Nat → Int32) (co_fixed : Nat → Int32) (co_now : Nat → Int32) (co_then : Nat → Int32) (co_code : Nat → Int32) (co_stack : Nat → Int32) (co_asked : Nat → Int32) (co_gets : Nat → Int32) (x3 : Int32) : Option (Int32 × Int32 × Int32 × Int32 × Int32 × Int32 × (Nat → Int64) × (Nat → Int32) × (Nat → Int32) × (Nat → Int32) × (Nat → Int32)) :=
  (fX12_wet io_cells co_then).bind (fun r1 => (fJ6_bitCount_0f7a4 r1).bind (fun r2 => (fX12_enters (0 : Int32) co_row (r2.toInt64)).bind (fun r3 => (fX12_childrenAt io_children co_then (-1 : Int32)).bind (fun r4 => (fJ6_bitCount_0f7a4 r4).bind (fun r5 => (fX12_enters r3.1 r3.2 (r5.toInt64)).bind (fun r6 => some (x3, io_thrown, r6.1, io_wentHome, io_tideLevel, io_random, r6.2, co_then, co_stack, co_asked, co_gets)))))))
set_option maxHeartbeats 400000 in
set_option maxRecDepth 100000 in
theorem kX12_summers_b136 {X : cxT} {l : Launch} {D : va_G} {Y : Nat → ClassId} {ao : Nat → Nat} {io_thrown : Int32} {io_rows : Int32} {io_cells : Int32} {io_children : Int32} {io_changes : Int32} {io_taped : Int32} {io_at : Int32} {io_to : Int32} {io_nest : Int32} {io_readMany : Int32} {io_codeLong : Int32} {io_readLong : Int32} {io_undos : Int32} {io_wentHome : Int32} {io_tideLevel : Int32} {io_acts : Int32} {io_firstBreaks : Int32} {io_bestCrew : Int32} {io_sights : Int32} {io_wayMany : Int32} {io_random : Int32} {co_row : Nat → Int64} {co_base : Nat → Int32} {co_dyke : Nat → Int32} {co_age : Nat → Int32} {co_skill : Nat → Int32} {co_friend : Nat → Int32} {co_fixed : Nat → Int32} {co_now : Nat → Int32} {co_then : Nat → Int32} {co_code : Nat → Int32} {co_stack : Nat → Int32} {co_asked : Nat → Int32} {co_gets : Nat → Int32} {x3 : Int32} {res : Int32 × Int32 × Int32 × Int32 × Int32 × Int32 × (Nat → Int64) × (Nat → Int32) × (Nat → Int32) × (Nat → Int32) × (Nat → Int32)} (C : axC X l D Y cX12_summers 7 RX12 wsX12_summers rmX12_summers (some .int)) (hQ : axQ X 0 0 (fun r9 w9 => r9 = (some (.int res.1)) ∧ w9 = [oX12 ao res.2.1 res.2.2.1 io_cells io_children io_changes io_taped io_at io_to io_nest io_readMany io_codeLong io_readLong io_undos res.2.2.2.1 res.2.2.2.2.1 io_acts io_firstBreaks io_bestCrew io_sights io_wayMany res.2.2.2.2.2.1, rJ Y (ao 1) 24 res.2.2.2.2.2.2.1, rI Y (ao 2) 12 co_base, rI Y (ao 3) 12 co_dyke, rI Y (ao 4) 8 co_age, rI Y (ao 5) 8 co_skill, rI Y (ao 6) 8 co_friend, rI Y (ao 7) 2 co_fixed, rI Y (ao 8) 43 co_now, rI Y (ao 9) 43 res.2.2.2.2.2.2.2.1, rI Y (ao 12) 80 co_code, rI Y (ao 14) 80 res.2.2.2.2.2.2.2.2.1, rI Y (ao 15) 4 res.2.2.2.2.2.2.2.2.2.1, rI Y (ao 17) 12 res.2.2.2.2.2.2.2.2.2.2])) (hf : fX12_summers_b136 io_thrown io_rows io_cells io_children io_codeLong io_wentHome io_tideLevel io_random co_row co_base co_dyke co_age co_skill co_friend co_fixed co_now co_then co_code co_stack co_asked co_gets x3 = some res) : ax X 0 0 136 [some (.ref (ao 0)), none, none, some (.int x3), none, none, none] [oX12 ao io_thrown io_rows io_cells io_children io_changes io_taped io_at io_to io_nest io_readMany io_codeLong io_readLong io_undos io_wentHome io_tideLevel io_acts io_firstBreaks io_bestCrew io_sights io_wayMany io_random, rJ Y (ao 1) 24 co_row, rI Y (ao 2) 12 co_base, rI Y (ao 3) 12 co_dyke, rI Y (ao 4) 8 co_age, rI Y (ao 5) 8 co_skill, rI Y (ao 6) 8 co_friend, rI Y (ao 7) 2 co_fixed, rI Y (ao 8) 43 co_now, rI Y (ao 9) 43 co_then, rI Y (ao 12) 80 co_code, rI Y (ao 14) 80 co_stack, rI Y (ao 15) 4 co_asked, rI Y (ao 17) 12 co_gets] [] := by
  unfold fX12_summers_b136 at hf
  refine a_aload_n C dX12_summers_136 rfl ?_
  refine a_iconst C (0 : Int32) dX12_summers_137 (by decide) ?_
  refine a_put C eX12_summers_119 tfX12_1 dX12_summers_138 0 rfl rfl rfl (Nat.le_of_ble_eq_true rfl) ?_
  refine a_aload_n C dX12_summers_141 rfl ?_
  refine a_aload_n C dX12_summers_142 rfl ?_
  refine a_aload_n C dX12_summers_143 rfl ?_
  refine a_get C eX12_summers_39 dX12_summers_144 0 rfl rfl ?_
  obtain ⟨r1, h1, hf⟩ := fx_bind hf
  refine a_fV C (kX12_wet l D Y ao (ao 9) io_thrown (0 : Int32) io_cells io_children io_changes io_taped io_at io_to io_nest io_readMany io_codeLong io_readLong io_undos io_wentHome io_tideLevel io_acts io_firstBreaks io_bestCrew io_sights io_wayMany io_random co_then r1 h1) gX12_summers_X12_wet rfl dvX12_wet ⟨⟨rfl, rfl⟩, ⟨Nat.le_of_ble_eq_true rfl, Nat.le_of_ble_eq_true rfl⟩, ⟨Nat.le_of_ble_eq_true rfl, Nat.le_of_ble_eq_true rfl⟩⟩ rfl (Nat.le_of_ble_eq_true rfl) dX12_summers_147 rfl rfl [0, 9] [1, 2, 3, 4, 5, 6, 7, 8, 10, 11, 12, 13] ⟨rfl, rfl, trivial⟩ rfl rfl [oX12 ao io_thrown (0 : Int32) io_cells io_children io_changes io_taped io_at io_to io_nest io_readMany io_codeLong io_readLong io_undos io_wentHome io_tideLevel io_acts io_firstBreaks io_bestCrew io_sights io_wayMany io_random, rJ Y (ao 1) 24 co_row, rI Y (ao 2) 12 co_base, rI Y (ao 3) 12 co_dyke, rI Y (ao 4) 8 co_age, rI Y (ao 5) 8 co_skill, rI Y (ao 6) 8 co_friend, rI Y (ao 7) 2 co_fixed, rI Y (ao 8) 43 co_now, rI Y (ao 9) 43 co_then, rI Y (ao 12) 80 co_code, rI Y (ao 14) 80 co_stack, rI Y (ao 15) 4 co_asked, rI Y (ao 17) 12 co_gets] ⟨rfl, rfl, trivial⟩ ⟨rfl, rfl, rfl, rfl, rfl, rfl, rfl, rfl, rfl, rfl, rfl, rfl, trivial⟩ rfl ?_
  obtain ⟨r2, h2, hf⟩ := fx_bind hf
  refine a_fS C (kJ6_bitCount_0f7a4 l D Y r1 r2 h2) gX12_summers_J6_bitCount_0f7a4 rfl dvJ6_bitCount_0f7a4 ⟨⟨rfl, rfl⟩, ⟨Nat.le_of_ble_eq_true rfl, Nat.le_of_ble_eq_true rfl⟩, ⟨Nat.le_of_ble_eq_true rfl, Nat.le_of_ble_eq_true rfl⟩⟩ rfl (Nat.le_of_ble_eq_true rfl) dX12_summers_150 [] [0, 1, 2, 3, 4, 5, 6, 7, 8, 9, 10, 11, 12, 13] trivial rfl rfl [oX12 ao io_thrown (0 : Int32) io_cells io_children io_changes io_taped io_at io_to io_nest io_readMany io_codeLong io_readLong io_undos io_wentHome io_tideLevel io_acts io_firstBreaks io_bestCrew io_sights io_wayMany io_random, rJ Y (ao 1) 24 co_row, rI Y (ao 2) 12 co_base, rI Y (ao 3) 12 co_dyke, rI Y (ao 4) 8 co_age, rI Y (ao 5) 8 co_skill, rI Y (ao 6) 8 co_friend, rI Y (ao 7) 2 co_fixed, rI Y (ao 8) 43 co_now, rI Y (ao 9) 43 co_then, rI Y (ao 12) 80 co_code, rI Y (ao 14) 80 co_stack, rI Y (ao 15) 4 co_asked, rI Y (ao 17) 12 co_gets] trivial ⟨rfl, rfl, rfl, rfl, rfl, rfl, rfl, rfl, rfl, rfl, rfl, rfl, rfl, rfl, trivial⟩ rfl ?_
  refine a_i2l C dX12_summers_153 ?_
  obtain ⟨r3, h3, hf⟩ := fx_bind hf
  refine a_fV C (kX12_enters l D Y ao io_thrown (0 : Int32) io_cells io_children io_changes io_taped io_at io_to io_nest io_readMany io_codeLong io_readLong io_undos io_wentHome io_tideLevel io_acts io_firstBreaks io_bestCrew io_sights io_wayMany io_random co_row (r2.toInt64) r3 h3) gX12_summers_X12_enters rfl dvX12_enters ⟨⟨rfl, rfl⟩, ⟨Nat.le_of_ble_eq_true rfl, Nat.le_of_ble_eq_true rfl⟩, ⟨Nat.le_of_ble_eq_true rfl, Nat.le_of_ble_eq_true rfl⟩⟩ rfl (Nat.le_of_ble_eq_true rfl) dX12_summers_154 rfl rfl [0, 1] [2, 3, 4, 5, 6, 7, 8, 9, 10, 11, 12, 13] ⟨rfl, rfl, trivial⟩ rfl rfl [oX12 ao io_thrown r3.1 io_cells io_children io_changes io_taped io_at io_to io_nest io_readMany io_codeLong io_readLong io_undos io_wentHome io_tideLevel io_acts io_firstBreaks io_bestCrew io_sights io_wayMany io_random, rJ Y (ao 1) 24 r3.2, rI Y (ao 2) 12 co_base, rI Y (ao 3) 12 co_dyke, rI Y (ao 4) 8 co_age, rI Y (ao 5) 8 co_skill, rI Y (ao 6) 8 co_friend, rI Y (ao 7) 2 co_fixed, rI Y (ao 8) 43 co_now, rI Y (ao 9) 43 co_then, rI Y (ao 12) 80 co_code, rI Y (ao 14) 80 co_stack, rI Y (ao 15) 4 co_asked, rI Y (ao 17) 12 co_gets] ⟨rfl, rfl, trivial⟩ ⟨rfl, rfl, rfl, rfl, rfl, rfl, rfl, rfl, rfl, rfl, rfl, rfl, trivial⟩ rfl ?_
  refine a_aload_n C dX12_summers_157 rfl ?_
  refine a_aload_n C dX12_summers_158 rfl ?_
  refine a_aload_n C dX12_summers_159 rfl ?_
  refine a_get C eX12_summers_39 dX12_summers_160 0 rfl rfl ?_
  refine a_iconst C (-1 : Int32) dX12_summers_163 (by decide) ?_
  obtain ⟨r4, h4, hf⟩ := fx_bind hf
  refine a_fV C (kX12_childrenAt l D Y ao (ao 9) io_thrown r3.1 io_cells io_children io_changes io_taped io_at io_to io_nest io_readMany io_codeLong io_readLong io_undos io_wentHome io_tideLevel io_acts io_firstBreaks io_bestCrew io_sights io_wayMany io_random co_then (-1 : Int32) r4 h4) gX12_summers_X12_childrenAt rfl dvX12_childrenAt ⟨⟨rfl, rfl⟩, ⟨Nat.le_of_ble_eq_true rfl, Nat.le_of_ble_eq_true rfl⟩, ⟨Nat.le_of_ble_eq_true rfl, Nat.le_of_ble_eq_true rfl⟩⟩ rfl (Nat.le_of_ble_eq_true rfl) dX12_summers_164 rfl rfl [0, 9] [1, 2, 3, 4, 5, 6, 7, 8, 10, 11, 12, 13] ⟨rfl, rfl, trivial⟩ rfl rfl [oX12 ao io_thrown r3.1 io_cells io_children io_changes io_taped io_at io_to io_nest io_readMany io_codeLong io_readLong io_undos io_wentHome io_tideLevel io_acts io_firstBreaks io_bestCrew io_sights io_wayMany io_random, rJ Y (ao 1) 24 r3.2, rI Y (ao 2) 12 co_base, rI Y (ao 3) 12 co_dyke, rI Y (ao 4) 8 co_age, rI Y (ao 5) 8 co_skill, rI Y (ao 6) 8 co_friend, rI Y (ao 7) 2 co_fixed, rI Y (ao 8) 43 co_now, rI Y (ao 9) 43 co_then, rI Y (ao 12) 80 co_code, rI Y (ao 14) 80 co_stack, rI Y (ao 15) 4 co_asked, rI Y (ao 17) 12 co_gets] ⟨rfl, rfl, trivial⟩ ⟨rfl, rfl, rfl, rfl, rfl, rfl, rfl, rfl, rfl, rfl, rfl, rfl, trivial⟩ rfl ?_
  obtain ⟨r5, h5, hf⟩ := fx_bind hf
  refine a_fS C (kJ6_bitCount_0f7a4 l D Y r4 r5 h5) gX12_summers_J6_bitCount_0f7a4 rfl dvJ6_bitCount_0f7a4 ⟨⟨rfl, rfl⟩, ⟨Nat.le_of_ble_eq_true rfl, Nat.le_of_ble_eq_true rfl⟩, ⟨Nat.le_of_ble_eq_true rfl, Nat.le_of_ble_eq_true rfl⟩⟩ rfl (Nat.le_of_ble_eq_true rfl) dX12_summers_167 [] [0, 1, 2, 3, 4, 5, 6, 7, 8, 9, 10, 11, 12, 13] trivial rfl rfl [oX12 ao io_thrown r3.1 io_cells io_children io_changes io_taped io_at io_to io_nest io_readMany io_codeLong io_readLong io_undos io_wentHome io_tideLevel io_acts io_firstBreaks io_bestCrew io_sights io_wayMany io_random, rJ Y (ao 1) 24 r3.2, rI Y (ao 2) 12 co_base, rI Y (ao 3) 12 co_dyke, rI Y (ao 4) 8 co_age, rI Y (ao 5) 8 co_skill, rI Y (ao 6) 8 co_friend, rI Y (ao 7) 2 co_fixed, rI Y (ao 8) 43 co_now, rI Y (ao 9) 43 co_then, rI Y (ao 12) 80 co_code, rI Y (ao 14) 80 co_stack, rI Y (ao 15) 4 co_asked, rI Y (ao 17) 12 co_gets] trivial ⟨rfl, rfl, rfl, rfl, rfl, rfl, rfl, rfl, rfl, rfl, rfl, rfl, rfl, rfl, trivial⟩ rfl ?_
  refine a_i2l C dX12_summers_170 ?_
  obtain ⟨r6, h6, hf⟩ := fx_bind hf
  refine a_fV C (kX12_enters l D Y ao io_thrown r3.1 io_cells io_children io_changes io_taped io_at io_to io_nest io_readMany io_codeLong io_readLong io_undos io_wentHome io_tideLevel io_acts io_firstBreaks io_bestCrew io_sights io_wayMany io_random r3.2 (r5.toInt64) r6 h6) gX12_summers_X12_enters rfl dvX12_enters ⟨⟨rfl, rfl⟩, ⟨Nat.le_of_ble_eq_true rfl, Nat.le_of_ble_eq_true rfl⟩, ⟨Nat.le_of_ble_eq_true rfl, Nat.le_of_ble_eq_true rfl⟩⟩ rfl (Nat.le_of_ble_eq_true rfl) dX12_summers_171 rfl rfl [0, 1] [2, 3, 4, 5, 6, 7, 8, 9, 10, 11, 12, 13] ⟨rfl, rfl, trivial⟩ rfl rfl [oX12 ao io_thrown r6.1 io_cells io_children io_changes io_taped io_at io_to io_nest io_readMany io_codeLong io_readLong io_undos io_wentHome io_tideLevel io_acts io_firstBreaks io_bestCrew io_sights io_wayMany io_random, rJ Y (ao 1) 24 r6.2, rI Y (ao 2) 12 co_base, rI Y (ao 3) 12 co_dyke, rI Y (ao 4) 8 co_age, rI Y (ao 5) 8 co_skill, rI Y (ao 6) 8 co_friend, rI Y (ao 7) 2 co_fixed, rI Y (ao 8) 43 co_now, rI Y (ao 9) 43 co_then, rI Y (ao 12) 80 co_code, rI Y (ao 14) 80 co_stack, rI Y (ao 15) 4 co_asked, rI Y (ao 17) 12 co_gets] ⟨rfl, rfl, trivial⟩ ⟨rfl, rfl, rfl, rfl, rfl, rfl, rfl, rfl, rfl, rfl, rfl, rfl, trivial⟩ rfl ?_
  refine a_iload_n C dX12_summers_174 rfl ?_
  obtain rfl := fx_some hf
  exact a_iret C hQ dX12_summers_175 ⟨rfl, rfl⟩
def fX12_summers_b130 (io_thrown : Int32) (io_rows : Int32) (io_cells : Int32) (io_children : Int32) (io_codeLong : Int32) (io_wentHome : Int32) (io_tideLevel : Int32) (io_random : Int32) (co_row : Nat → Int64) (co_base : Nat → Int32) (co_dyke : Nat → Int32) (co_age : Nat → Int32) (co_skill : Nat → Int32) (co_friend : Nat → Int32) (co_fixed : Nat → Int32) (co_now : Nat → Int32) (co_then : Nat → Int32) (co_code : Nat → Int32) (co_stack : Nat → Int32) (co_asked : Nat → Int32) (co_gets : Nat → Int32) (x2 : Int32) (x3 : Int32) (x4 : Int32) (k33 : Int32 × Int32 × Int32 × (Nat → Int32) × (Nat → Int32) × (Nat → Int32) × (Nat → Int32) × Int32 × Int32 → Option (Int32 × Int32 × Int32 × Int32 × Int32 × Int32 × (Nat → Int64) × (Nat → Int32) × (Nat → Int32) × (Nat → Int32) × (Nat → Int32))) : Option (Int32 × Int32 × Int32 × Int32 × Int32 × Int32 × (Nat → Int64) × (Nat → Int32) × (Nat → Int32) × (Nat → Int32) × (Nat → Int32)) :=
  k33 (io_wentHome, io_tideLevel, io_random, co_then, co_stack, co_asked, co_gets, x3, (x4 + (1 : Int32)))
set_option maxHeartbeats 400000 in
set_option maxRecDepth 100000 in
theorem kX12_summers_b130 {X : cxT} {l : Launch} {D : va_G} {Y : Nat → ClassId} {ao : Nat → Nat} {io_thrown : Int32} {io_rows : Int32} {io_cells : Int32} {io_children : Int32} {io_changes : Int32} {io_taped : Int32} {io_at : Int32} {io_to : Int32} {io_nest : Int32} {io_readMany : Int32} {io_codeLong : Int32} {io_readLong : Int32} {io_undos : Int32} {io_wentHome : Int32} {io_tideLevel : Int32} {io_acts : Int32} {io_firstBreaks : Int32} {io_bestCrew : Int32} {io_sights : Int32} {io_wayMany : Int32} {io_random : Int32} {co_row : Nat → Int64} {co_base : Nat → Int32} {co_dyke : Nat → Int32} {co_age : Nat → Int32} {co_skill : Nat → Int32} {co_friend : Nat → Int32} {co_fixed : Nat → Int32} {co_now : Nat → Int32} {co_then : Nat → Int32} {co_code : Nat → Int32} {co_stack : Nat → Int32} {co_asked : Nat → Int32} {co_gets : Nat → Int32} {x2 : Int32} {x3 : Int32} {x4 : Int32} {res : Int32 × Int32 × Int32 × Int32 × Int32 × Int32 × (Nat → Int64) × (Nat → Int32) × (Nat → Int32) × (Nat → Int32) × (Nat → Int32)} (C : axC X l D Y cX12_summers 7 RX12 wsX12_summers rmX12_summers (some .int)) (hQ : axQ X 0 0 (fun r9 w9 => r9 = (some (.int res.1)) ∧ w9 = [oX12 ao res.2.1 res.2.2.1 io_cells io_children io_changes io_taped io_at io_to io_nest io_readMany io_codeLong io_readLong io_undos res.2.2.2.1 res.2.2.2.2.1 io_acts io_firstBreaks io_bestCrew io_sights io_wayMany res.2.2.2.2.2.1, rJ Y (ao 1) 24 res.2.2.2.2.2.2.1, rI Y (ao 2) 12 co_base, rI Y (ao 3) 12 co_dyke, rI Y (ao 4) 8 co_age, rI Y (ao 5) 8 co_skill, rI Y (ao 6) 8 co_friend, rI Y (ao 7) 2 co_fixed, rI Y (ao 8) 43 co_now, rI Y (ao 9) 43 res.2.2.2.2.2.2.2.1, rI Y (ao 12) 80 co_code, rI Y (ao 14) 80 res.2.2.2.2.2.2.2.2.1, rI Y (ao 15) 4 res.2.2.2.2.2.2.2.2.2.1, rI Y (ao 17) 12 res.2.2.2.2.2.2.2.2.2.2])) {k33 : Int32 × Int32 × Int32 × (Nat → Int32) × (Nat → Int32) × (Nat → Int32) × (Nat → Int32) × Int32 × Int32 → Option (Int32 × Int32 × Int32 × Int32 × Int32 × Int32 × (Nat → Int64) × (Nat → Int32) × (Nat → Int32) × (Nat → Int32) × (Nat → Int32))} (hk33 : ∀ s : Int32 × Int32 × Int32 × (Nat → Int32) × (Nat → Int32) × (Nat → Int32) × (Nat → Int32) × Int32 × Int32, k33 s = some res → ax X 0 0 33 [some (.ref (ao 0)), none, some (.int x2), some (.int s.2.2.2.2.2.2.2.1), some (.int s.2.2.2.2.2.2.2.2), none, none] [oX12 ao io_thrown io_rows io_cells io_children io_changes io_taped io_at io_to io_nest io_readMany io_codeLong io_readLong io_undos s.1 s.2.1 io_acts io_firstBreaks io_bestCrew io_sights io_wayMany s.2.2.1, rJ Y (ao 1) 24 co_row, rI Y (ao 2) 12 co_base, rI Y (ao 3) 12 co_dyke, rI Y (ao 4) 8 co_age, rI Y (ao 5) 8 co_skill, rI Y (ao 6) 8 co_friend, rI Y (ao 7) 2 co_fixed, rI Y (ao 8) 43 co_now, rI Y (ao 9) 43 s.2.2.2.1, rI Y (ao 12) 80 co_code, rI Y (ao 14) 80 s.2.2.2.2.1, rI Y (ao 15) 4 s.2.2.2.2.2.1, rI Y (ao 17) 12 s.2.2.2.2.2.2.1] []) (hf : fX12_summers_b130 io_thrown io_rows io_cells io_children io_codeLong io_wentHome io_tideLevel io_random co_row co_base co_dyke co_age co_skill co_friend co_fixed co_now co_then co_code co_stack co_asked co_gets x2 x3 x4 k33 = some res) : ax X 0 0 130 [some (.ref (ao 0)), none, some (.int x2), some (.int x3), some (.int x4), none, none] [oX12 ao io_thrown io_rows io_cells io_children io_changes io_taped io_at io_to io_nest io_readMany io_codeLong io_readLong io_undos io_wentHome io_tideLevel io_acts io_firstBreaks io_bestCrew io_sights io_wayMany io_random, rJ Y (ao 1) 24 co_row, rI Y (ao 2) 12 co_base, rI Y (ao 3) 12 co_dyke, rI Y (ao 4) 8 co_age, rI Y (ao 5) 8 co_skill, rI Y (ao 6) 8 co_friend, rI Y (ao 7) 2 co_fixed, rI Y (ao 8) 43 co_now, rI Y (ao 9) 43 co_then, rI Y (ao 12) 80 co_code, rI Y (ao 14) 80 co_stack, rI Y (ao 15) 4 co_asked, rI Y (ao 17) 12 co_gets] [] := by
  unfold fX12_summers_b130 at hf
  refine a_iinc C (1 : Int32) dX12_summers_130 (by decide) rfl (by decide) rfl ?_
  refine a_goto C 33 dX12_summers_133 (by decide) ?_
  exact hk33 (io_wentHome, io_tideLevel, io_random, co_then, co_stack, co_asked, co_gets, x3, (x4 + (1 : Int32))) hf
def fX12_summers_b86 (io_thrown : Int32) (io_rows : Int32) (io_cells : Int32) (io_children : Int32) (io_codeLong : Int32) (io_wentHome : Int32) (io_tideLevel : Int32) (io_random : Int32) (co_row : Nat → Int64) (co_base : Nat → Int32) (co_dyke : Nat → Int32) (co_age : Nat → Int32) (co_skill : Nat → Int32) (co_friend : Nat → Int32) (co_fixed : Nat → Int32) (co_now : Nat → Int32) (co_then : Nat → Int32) (co_code : Nat → Int32) (co_stack : Nat → Int32) (co_asked : Nat → Int32) (co_gets : Nat → Int32) (x2 : Int32) (x4 : Int32) (s0 : Int32) (s1 : Int32) (k33 : Int32 × Int32 × Int32 × (Nat → Int32) × (Nat → Int32) × (Nat → Int32) × (Nat → Int32) × Int32 × Int32 → Option (Int32 × Int32 × Int32 × Int32 × Int32 × Int32 × (Nat → Int64) × (Nat → Int32) × (Nat → Int32) × (Nat → Int32) × (Nat → Int32))) : Option (Int32 × Int32 × Int32 × Int32 × Int32 × Int32 × (Nat → Int64) × (Nat → Int32) × (Nat → Int32) × (Nat → Int32) × (Nat → Int32)) :=
  (fX12_flag s1).bind (fun r7 => fX12_summers_b130 io_thrown io_rows io_cells io_children io_codeLong io_wentHome io_tideLevel io_random co_row co_base co_dyke co_age co_skill co_friend co_fixed co_now co_then co_code co_stack co_asked co_gets x2 (s0 + r7) x4 k33)
set_option maxHeartbeats 400000 in
set_option maxRecDepth 100000 in
theorem kX12_summers_b86 {X : cxT} {l : Launch} {D : va_G} {Y : Nat → ClassId} {ao : Nat → Nat} {io_thrown : Int32} {io_rows : Int32} {io_cells : Int32} {io_children : Int32} {io_changes : Int32} {io_taped : Int32} {io_at : Int32} {io_to : Int32} {io_nest : Int32} {io_readMany : Int32} {io_codeLong : Int32} {io_readLong : Int32} {io_undos : Int32} {io_wentHome : Int32} {io_tideLevel : Int32} {io_acts : Int32} {io_firstBreaks : Int32} {io_bestCrew : Int32} {io_sights : Int32} {io_wayMany : Int32} {io_random : Int32} {co_row : Nat → Int64} {co_base : Nat → Int32} {co_dyke : Nat → Int32} {co_age : Nat → Int32} {co_skill : Nat → Int32} {co_friend : Nat → Int32} {co_fixed : Nat → Int32} {co_now : Nat → Int32} {co_then : Nat → Int32} {co_code : Nat → Int32} {co_stack : Nat → Int32} {co_asked : Nat → Int32} {co_gets : Nat → Int32} {x2 : Int32} {x4 : Int32} {s0 : Int32} {s1 : Int32} {res : Int32 × Int32 × Int32 × Int32 × Int32 × Int32 × (Nat → Int64) × (Nat → Int32) × (Nat → Int32) × (Nat → Int32) × (Nat → Int32)} (C : axC X l D Y cX12_summers 7 RX12 wsX12_summers rmX12_summers (some .int)) (hQ : axQ X 0 0 (fun r9 w9 => r9 = (some (.int res.1)) ∧ w9 = [oX12 ao res.2.1 res.2.2.1 io_cells io_children io_changes io_taped io_at io_to io_nest io_readMany io_codeLong io_readLong io_undos res.2.2.2.1 res.2.2.2.2.1 io_acts io_firstBreaks io_bestCrew io_sights io_wayMany res.2.2.2.2.2.1, rJ Y (ao 1) 24 res.2.2.2.2.2.2.1, rI Y (ao 2) 12 co_base, rI Y (ao 3) 12 co_dyke, rI Y (ao 4) 8 co_age, rI Y (ao 5) 8 co_skill, rI Y (ao 6) 8 co_friend, rI Y (ao 7) 2 co_fixed, rI Y (ao 8) 43 co_now, rI Y (ao 9) 43 res.2.2.2.2.2.2.2.1, rI Y (ao 12) 80 co_code, rI Y (ao 14) 80 res.2.2.2.2.2.2.2.2.1, rI Y (ao 15) 4 res.2.2.2.2.2.2.2.2.2.1, rI Y (ao 17) 12 res.2.2.2.2.2.2.2.2.2.2])) {k33 : Int32 × Int32 × Int32 × (Nat → Int32) × (Nat → Int32) × (Nat → Int32) × (Nat → Int32) × Int32 × Int32 → Option (Int32 × Int32 × Int32 × Int32 × Int32 × Int32 × (Nat → Int64) × (Nat → Int32) × (Nat → Int32) × (Nat → Int32) × (Nat → Int32))} (hk33 : ∀ s : Int32 × Int32 × Int32 × (Nat → Int32) × (Nat → Int32) × (Nat → Int32) × (Nat → Int32) × Int32 × Int32, k33 s = some res → ax X 0 0 33 [some (.ref (ao 0)), none, some (.int x2), some (.int s.2.2.2.2.2.2.2.1), some (.int s.2.2.2.2.2.2.2.2), none, none] [oX12 ao io_thrown io_rows io_cells io_children io_changes io_taped io_at io_to io_nest io_readMany io_codeLong io_readLong io_undos s.1 s.2.1 io_acts io_firstBreaks io_bestCrew io_sights io_wayMany s.2.2.1, rJ Y (ao 1) 24 co_row, rI Y (ao 2) 12 co_base, rI Y (ao 3) 12 co_dyke, rI Y (ao 4) 8 co_age, rI Y (ao 5) 8 co_skill, rI Y (ao 6) 8 co_friend, rI Y (ao 7) 2 co_fixed, rI Y (ao 8) 43 co_now, rI Y (ao 9) 43 s.2.2.2.1, rI Y (ao 12) 80 co_code, rI Y (ao 14) 80 s.2.2.2.2.1, rI Y (ao 15) 4 s.2.2.2.2.2.1, rI Y (ao 17) 12 s.2.2.2.2.2.2.1] []) (hf : fX12_summers_b86 io_thrown io_rows io_cells io_children io_codeLong io_wentHome io_tideLevel io_random co_row co_base co_dyke co_age co_skill co_friend co_fixed co_now co_then co_code co_stack co_asked co_gets x2 x4 s0 s1 k33 = some res) : ax X 0 0 86 [some (.ref (ao 0)), none, some (.int x2), none, some (.int x4), none, none] [oX12 ao io_thrown io_rows io_cells io_children io_changes io_taped io_at io_to io_nest io_readMany io_codeLong io_readLong io_undos io_wentHome io_tideLevel io_acts io_firstBreaks io_bestCrew io_sights io_wayMany io_random, rJ Y (ao 1) 24 co_row, rI Y (ao 2) 12 co_base, rI Y (ao 3) 12 co_dyke, rI Y (ao 4) 8 co_age, rI Y (ao 5) 8 co_skill, rI Y (ao 6) 8 co_friend, rI Y (ao 7) 2 co_fixed, rI Y (ao 8) 43 co_now, rI Y (ao 9) 43 co_then, rI Y (ao 12) 80 co_code, rI Y (ao 14) 80 co_stack, rI Y (ao 15) 4 co_asked, rI Y (ao 17) 12 co_gets] [.int s1, .int s0] := by
  unfold fX12_summers_b86 at hf
  obtain ⟨r7, h7, hf⟩ := fx_bind hf
  refine a_fS C (kX12_flag l D Y s1 r7 h7) gX12_summers_X12_flag rfl dvX12_flag ⟨⟨rfl, rfl⟩, ⟨Nat.le_of_ble_eq_true rfl, Nat.le_of_ble_eq_true rfl⟩, ⟨Nat.le_of_ble_eq_true rfl, Nat.le_of_ble_eq_true rfl⟩⟩ rfl (Nat.le_of_ble_eq_true rfl) dX12_summers_86 [] [0, 1, 2, 3, 4, 5, 6, 7, 8, 9, 10, 11, 12, 13] trivial rfl rfl [oX12 ao io_thrown io_rows io_cells io_children io_changes io_taped io_at io_to io_nest io_readMany io_codeLong io_readLong io_undos io_wentHome io_tideLevel io_acts io_firstBreaks io_bestCrew io_sights io_wayMany io_random, rJ Y (ao 1) 24 co_row, rI Y (ao 2) 12 co_base, rI Y (ao 3) 12 co_dyke, rI Y (ao 4) 8 co_age, rI Y (ao 5) 8 co_skill, rI Y (ao 6) 8 co_friend, rI Y (ao 7) 2 co_fixed, rI Y (ao 8) 43 co_now, rI Y (ao 9) 43 co_then, rI Y (ao 12) 80 co_code, rI Y (ao 14) 80 co_stack, rI Y (ao 15) 4 co_asked, rI Y (ao 17) 12 co_gets] trivial ⟨rfl, rfl, rfl, rfl, rfl, rfl, rfl, rfl, rfl, rfl, rfl, rfl, rfl, rfl, trivial⟩ rfl ?_
  refine a_iadd C dX12_summers_89 ?_
  refine a_istore_n C dX12_summers_90 (by decide) rfl ?_
  refine a_goto C 130 dX12_summers_91 (by decide) ?_
  exact kX12_summers_b130 C hQ hk33 hf
def fX12_summers_l33 (io_thrown : Int32) (io_rows : Int32) (io_cells : Int32) (io_children : Int32) (io_codeLong : Int32) (co_row : Nat → Int64) (co_base : Nat → Int32) (co_dyke : Nat → Int32) (co_age : Nat → Int32) (co_skill : Nat → Int32) (co_friend : Nat → Int32) (co_fixed : Nat → Int32) (co_now : Nat → Int32) (co_code : Nat → Int32) (x2 : Int32) (k33 : Int32 × Int32 × Int32 × (Nat → Int32) × (Nat → Int32) × (Nat → Int32) × (Nat → Int32) × Int32 × Int32 → Option (Int32 × Int32 × Int32 × Int32 × Int32 × Int32 × (Nat → Int64) × (Nat → Int32) × (Nat → Int32) × (Nat → Int32) × (Nat → Int32))) (io_wentHome : Int32) (io_tideLevel : Int32) (io_random : Int32) (co_then : Nat → Int32) (co_stack : Nat → Int32) (co_asked : Nat → Int32) (co_gets : Nat → Int32) (x3 : Int32) (x4 : Int32) : Option (Int32 × Int32 × Int32 × Int32 × Int32 × Int32 × (Nat → Int64) × (Nat → Int32) × (Nat → Int32) × (Nat → Int32) × (Nat → Int32)) :=
  if x2 ≤ x4 then (fX12_summers_b136 io_thrown io_rows io_cells io_children io_codeLong io_wentHome io_tideLevel io_random co_row co_base co_dyke co_age co_skill co_friend co_fixed co_now co_then co_code co_stack co_asked co_gets x3) else ((fX12_draws io_random (4 : Int32)).bind (fun r9 => if (2 : Int32) ≤ r9.1 then (if r9.1 = (3 : Int32) then ((fX12_tideComes io_cells io_codeLong io_tideLevel co_base co_dyke co_fixed co_code co_stack co_asked co_then).bind (fun r16 => if r16.1 = (0 : Int32) then (fX12_summers_b86 io_thrown io_rows io_cells io_children io_codeLong io_wentHome r16.2.1 r9.2 co_row co_base co_dyke co_age co_skill co_friend co_fixed co_now r16.2.2.2.2 co_code r16.2.2.1 r16.2.2.2.1 co_gets x2 x4 x3 (0 : Int32) k33) else (fX12_summers_b86 io_thrown io_rows io_cells io_children io_codeLong io_wentHome r16.2.1 r9.2 co_row co_base co_dyke co_age co_skill co_friend co_fixed co_now r16.2.2.2.2 co_code r16.2.2.1 r16.2.2.2.1 co_gets x2 x4 x3 (1 : Int32) k33))) else (if io_children ≤ (0 : Int32) then (fX12_summers_b130 io_thrown io_rows io_cells io_children io_codeLong io_wentHome io_tideLevel r9.2 co_row co_base co_dyke co_age co_skill co_friend co_fixed co_now co_then co_code co_stack co_asked co_gets x2 x3 x4 k33) else ((fX12_draws r9.2 io_children).bind (fun r13 => (fX12_draws r13.2 io_cells).bind (fun r14 => (fX12_goes io_cells io_children co_then r13.1 r14.1).bind (fun r15 => fX12_summers_b130 io_thrown io_rows io_cells io_children io_codeLong io_wentHome io_tideLevel r14.2 co_row co_base co_dyke co_age co_skill co_friend co_fixed co_now r15.2 co_code co_stack co_asked co_gets x2 x3 x4 k33)))))) else ((fX12_spellGoes io_cells io_children io_wentHome co_age co_skill co_friend co_gets co_then).bind (fun r18 => fX12_summers_b130 io_thrown io_rows io_cells io_children io_codeLong r18.1 io_tideLevel r9.2 co_row co_base co_dyke co_age co_skill co_friend co_fixed co_now r18.2.2 co_code co_stack co_asked r18.2.1 x2 x3 x4 k33))))
def fX12_summers_b33 (io_thrown : Int32) (io_rows : Int32) (io_cells : Int32) (io_children : Int32) (io_codeLong : Int32) (io_wentHome : Int32) (io_tideLevel : Int32) (io_random : Int32) (co_row : Nat → Int64) (co_base : Nat → Int32) (co_dyke : Nat → Int32) (co_age : Nat → Int32) (co_skill : Nat → Int32) (co_friend : Nat → Int32) (co_fixed : Nat → Int32) (co_now : Nat → Int32) (co_then : Nat → Int32) (co_code : Nat → Int32) (co_stack : Nat → Int32) (co_asked : Nat → Int32) (co_gets : Nat → Int32) (x2 : Int32) (x3 : Int32) (x4 : Int32) : Option (Int32 × Int32 × Int32 × Int32 × Int32 × Int32 × (Nat → Int64) × (Nat → Int32) × (Nat → Int32) × (Nat → Int32) × (Nat → Int32)) :=
  loopN (fun (s : Int32 × Int32 × Int32 × (Nat → Int32) × (Nat → Int32) × (Nat → Int32) × (Nat → Int32) × Int32 × Int32) k33 => fX12_summers_l33 io_thrown io_rows io_cells io_children io_codeLong co_row co_base co_dyke co_age co_skill co_friend co_fixed co_now co_code x2 k33 s.1 s.2.1 s.2.2.1 s.2.2.2.1 s.2.2.2.2.1 s.2.2.2.2.2.1 s.2.2.2.2.2.2.1 s.2.2.2.2.2.2.2.1 s.2.2.2.2.2.2.2.2) FUEL (io_wentHome, io_tideLevel, io_random, co_then, co_stack, co_asked, co_gets, x3, x4)
set_option maxHeartbeats 400000 in
set_option maxRecDepth 100000 in
theorem kX12_summers_l33 {X : cxT} {l : Launch} {D : va_G} {Y : Nat → ClassId} {ao : Nat → Nat} {io_thrown : Int32} {io_rows : Int32} {io_cells : Int32} {io_children : Int32} {io_changes : Int32} {io_taped : Int32} {io_at : Int32} {io_to : Int32} {io_nest : Int32} {io_readMany : Int32} {io_codeLong : Int32} {io_readLong : Int32} {io_undos : Int32} {io_wentHome : Int32} {io_tideLevel : Int32} {io_acts : Int32} {io_firstBreaks : Int32} {io_bestCrew : Int32} {io_sights : Int32} {io_wayMany : Int32} {io_random : Int32} {co_row : Nat → Int64} {co_base : Nat → Int32} {co_dyke : Nat → Int32} {co_age : Nat → Int32} {co_skill : Nat → Int32} {co_friend : Nat → Int32} {co_fixed : Nat → Int32} {co_now : Nat → Int32} {co_then : Nat → Int32} {co_code : Nat → Int32} {co_stack : Nat → Int32} {co_asked : Nat → Int32} {co_gets : Nat → Int32} {x2 : Int32} {x3 : Int32} {x4 : Int32} {res : Int32 × Int32 × Int32 × Int32 × Int32 × Int32 × (Nat → Int64) × (Nat → Int32) × (Nat → Int32) × (Nat → Int32) × (Nat → Int32)} (C : axC X l D Y cX12_summers 7 RX12 wsX12_summers rmX12_summers (some .int)) (hQ : axQ X 0 0 (fun r9 w9 => r9 = (some (.int res.1)) ∧ w9 = [oX12 ao res.2.1 res.2.2.1 io_cells io_children io_changes io_taped io_at io_to io_nest io_readMany io_codeLong io_readLong io_undos res.2.2.2.1 res.2.2.2.2.1 io_acts io_firstBreaks io_bestCrew io_sights io_wayMany res.2.2.2.2.2.1, rJ Y (ao 1) 24 res.2.2.2.2.2.2.1, rI Y (ao 2) 12 co_base, rI Y (ao 3) 12 co_dyke, rI Y (ao 4) 8 co_age, rI Y (ao 5) 8 co_skill, rI Y (ao 6) 8 co_friend, rI Y (ao 7) 2 co_fixed, rI Y (ao 8) 43 co_now, rI Y (ao 9) 43 res.2.2.2.2.2.2.2.1, rI Y (ao 12) 80 co_code, rI Y (ao 14) 80 res.2.2.2.2.2.2.2.2.1, rI Y (ao 15) 4 res.2.2.2.2.2.2.2.2.2.1, rI Y (ao 17) 12 res.2.2.2.2.2.2.2.2.2.2])) {k33 : Int32 × Int32 × Int32 × (Nat → Int32) × (Nat → Int32) × (Nat → Int32) × (Nat → Int32) × Int32 × Int32 → Option (Int32 × Int32 × Int32 × Int32 × Int32 × Int32 × (Nat → Int64) × (Nat → Int32) × (Nat → Int32) × (Nat → Int32) × (Nat → Int32))} (hk33 : ∀ s : Int32 × Int32 × Int32 × (Nat → Int32) × (Nat → Int32) × (Nat → Int32) × (Nat → Int32) × Int32 × Int32, k33 s = some res → ax X 0 0 33 [some (.ref (ao 0)), none, some (.int x2), some (.int s.2.2.2.2.2.2.2.1), some (.int s.2.2.2.2.2.2.2.2), none, none] [oX12 ao io_thrown io_rows io_cells io_children io_changes io_taped io_at io_to io_nest io_readMany io_codeLong io_readLong io_undos s.1 s.2.1 io_acts io_firstBreaks io_bestCrew io_sights io_wayMany s.2.2.1, rJ Y (ao 1) 24 co_row, rI Y (ao 2) 12 co_base, rI Y (ao 3) 12 co_dyke, rI Y (ao 4) 8 co_age, rI Y (ao 5) 8 co_skill, rI Y (ao 6) 8 co_friend, rI Y (ao 7) 2 co_fixed, rI Y (ao 8) 43 co_now, rI Y (ao 9) 43 s.2.2.2.1, rI Y (ao 12) 80 co_code, rI Y (ao 14) 80 s.2.2.2.2.1, rI Y (ao 15) 4 s.2.2.2.2.2.1, rI Y (ao 17) 12 s.2.2.2.2.2.2.1] []) (hf : fX12_summers_l33 io_thrown io_rows io_cells io_children io_codeLong co_row co_base co_dyke co_age co_skill co_friend co_fixed co_now co_code x2 k33 io_wentHome io_tideLevel io_random co_then co_stack co_asked co_gets x3 x4 = some res) : ax X 0 0 33 [some (.ref (ao 0)), none, some (.int x2), some (.int x3), some (.int x4), none, none] [oX12 ao io_thrown io_rows io_cells io_children io_changes io_taped io_at io_to io_nest io_readMany io_codeLong io_readLong io_undos io_wentHome io_tideLevel io_acts io_firstBreaks io_bestCrew io_sights io_wayMany io_random, rJ Y (ao 1) 24 co_row, rI Y (ao 2) 12 co_base, rI Y (ao 3) 12 co_dyke, rI Y (ao 4) 8 co_age, rI Y (ao 5) 8 co_skill, rI Y (ao 6) 8 co_friend, rI Y (ao 7) 2 co_fixed, rI Y (ao 8) 43 co_now, rI Y (ao 9) 43 co_then, rI Y (ao 12) 80 co_code, rI Y (ao 14) 80 co_stack, rI Y (ao 15) 4 co_asked, rI Y (ao 17) 12 co_gets] [] := by
  unfold fX12_summers_l33 at hf
  refine a_iload C dX12_summers_33 rfl ?_
  refine a_iload_n C dX12_summers_35 rfl ?_
  refine a_icmp_ge C 136 dX12_summers_36 (by decide) (fun h8 => ?_) (fun h8 => ?_)
  · have hf := fx_t h8 hf
    refine a_kill [2, 4] ?_
    exact kX12_summers_b136 C hQ hf
  · have hf := fx_f h8 hf
    refine a_aload_n C dX12_summers_39 rfl ?_
    refine a_iconst C (4 : Int32) dX12_summers_40 (by decide) ?_
    obtain ⟨r9, h9, hf⟩ := fx_bind hf
    refine a_fV C (kX12_draws l D Y ao io_thrown io_rows io_cells io_children io_changes io_taped io_at io_to io_nest io_readMany io_codeLong io_readLong io_undos io_wentHome io_tideLevel io_acts io_firstBreaks io_bestCrew io_sights io_wayMany io_random (4 : Int32) r9 h9) gX12_summers_X12_draws rfl dvX12_draws ⟨⟨rfl, rfl⟩, ⟨Nat.le_of_ble_eq_true rfl, Nat.le_of_ble_eq_true rfl⟩, ⟨Nat.le_of_ble_eq_true rfl, Nat.le_of_ble_eq_true rfl⟩⟩ rfl (Nat.le_of_ble_eq_true rfl) dX12_summers_41 rfl rfl [0] [1, 2, 3, 4, 5, 6, 7, 8, 9, 10, 11, 12, 13] ⟨rfl, trivial⟩ rfl rfl [oX12 ao io_thrown io_rows io_cells io_children io_changes io_taped io_at io_to io_nest io_readMany io_codeLong io_readLong io_undos io_wentHome io_tideLevel io_acts io_firstBreaks io_bestCrew io_sights io_wayMany r9.2, rJ Y (ao 1) 24 co_row, rI Y (ao 2) 12 co_base, rI Y (ao 3) 12 co_dyke, rI Y (ao 4) 8 co_age, rI Y (ao 5) 8 co_skill, rI Y (ao 6) 8 co_friend, rI Y (ao 7) 2 co_fixed, rI Y (ao 8) 43 co_now, rI Y (ao 9) 43 co_then, rI Y (ao 12) 80 co_code, rI Y (ao 14) 80 co_stack, rI Y (ao 15) 4 co_asked, rI Y (ao 17) 12 co_gets] ⟨rfl, trivial⟩ ⟨rfl, rfl, rfl, rfl, rfl, rfl, rfl, rfl, rfl, rfl, rfl, rfl, rfl, trivial⟩ rfl ?_
    refine a_istore C dX12_summers_44 (by decide) rfl ?_
    refine a_iload C dX12_summers_46 rfl ?_
    refine a_iconst C (2 : Int32) dX12_summers_48 (by decide) ?_
    refine a_icmp_ge C 63 dX12_summers_49 (by decide) (fun h10 => ?_) (fun h10 => ?_)
    · have hf := fx_t h10 hf
      refine a_iload C dX12_summers_63 rfl ?_
      refine a_iconst C (3 : Int32) dX12_summers_65 (by decide) ?_
      refine a_icmp_ne C 94 dX12_summers_66 (by decide) (fun h11 => ?_) (fun h11 => ?_)
      · have hf := fx_f h11 hf
        refine a_aload_n C dX12_summers_94 rfl ?_
        refine a_get C eX12_summers_126 dX12_summers_95 0 rfl rfl ?_
        refine a_if_le C 130 dX12_summers_98 (by decide) (fun h12 => ?_) (fun h12 => ?_)
        · have hf := fx_t h12 hf
          refine a_kill [5] ?_
          exact kX12_summers_b130 C hQ hk33 hf
        · have hf := fx_f h12 hf
          refine a_aload_n C dX12_summers_101 rfl ?_
          refine a_aload_n C dX12_summers_102 rfl ?_
          refine a_get C eX12_summers_126 dX12_summers_103 0 rfl rfl ?_
          obtain ⟨r13, h13, hf⟩ := fx_bind hf
          refine a_fV C (kX12_draws l D Y ao io_thrown io_rows io_cells io_children io_changes io_taped io_at io_to io_nest io_readMany io_codeLong io_readLong io_undos io_wentHome io_tideLevel io_acts io_firstBreaks io_bestCrew io_sights io_wayMany r9.2 io_children r13 h13) gX12_summers_X12_draws rfl dvX12_draws ⟨⟨rfl, rfl⟩, ⟨Nat.le_of_ble_eq_true rfl, Nat.le_of_ble_eq_true rfl⟩, ⟨Nat.le_of_ble_eq_true rfl, Nat.le_of_ble_eq_true rfl⟩⟩ rfl (Nat.le_of_ble_eq_true rfl) dX12_summers_106 rfl rfl [0] [1, 2, 3, 4, 5, 6, 7, 8, 9, 10, 11, 12, 13] ⟨rfl, trivial⟩ rfl rfl [oX12 ao io_thrown io_rows io_cells io_children io_changes io_taped io_at io_to io_nest io_readMany io_codeLong io_readLong io_undos io_wentHome io_tideLevel io_acts io_firstBreaks io_bestCrew io_sights io_wayMany r13.2, rJ Y (ao 1) 24 co_row, rI Y (ao 2) 12 co_base, rI Y (ao 3) 12 co_dyke, rI Y (ao 4) 8 co_age, rI Y (ao 5) 8 co_skill, rI Y (ao 6) 8 co_friend, rI Y (ao 7) 2 co_fixed, rI Y (ao 8) 43 co_now, rI Y (ao 9) 43 co_then, rI Y (ao 12) 80 co_code, rI Y (ao 14) 80 co_stack, rI Y (ao 15) 4 co_asked, rI Y (ao 17) 12 co_gets] ⟨rfl, trivial⟩ ⟨rfl, rfl, rfl, rfl, rfl, rfl, rfl, rfl, rfl, rfl, rfl, rfl, rfl, trivial⟩ rfl ?_
          refine a_istore C dX12_summers_109 (by decide) rfl ?_
          refine a_aload_n C dX12_summers_111 rfl ?_
          refine a_aload_n C dX12_summers_112 rfl ?_
          refine a_get C eX12_summers_39 dX12_summers_113 0 rfl rfl ?_
          refine a_iload C dX12_summers_116 rfl ?_
          refine a_aload_n C dX12_summers_118 rfl ?_
          refine a_aload_n C dX12_summers_119 rfl ?_
          refine a_get C eX12_summers_13 dX12_summers_120 0 rfl rfl ?_
          obtain ⟨r14, h14, hf⟩ := fx_bind hf
          refine a_fV C (kX12_draws l D Y ao io_thrown io_rows io_cells io_children io_changes io_taped io_at io_to io_nest io_readMany io_codeLong io_readLong io_undos io_wentHome io_tideLevel io_acts io_firstBreaks io_bestCrew io_sights io_wayMany r13.2 io_cells r14 h14) gX12_summers_X12_draws rfl dvX12_draws ⟨⟨rfl, rfl⟩, ⟨Nat.le_of_ble_eq_true rfl, Nat.le_of_ble_eq_true rfl⟩, ⟨Nat.le_of_ble_eq_true rfl, Nat.le_of_ble_eq_true rfl⟩⟩ rfl (Nat.le_of_ble_eq_true rfl) dX12_summers_123 rfl rfl [0] [1, 2, 3, 4, 5, 6, 7, 8, 9, 10, 11, 12, 13] ⟨rfl, trivial⟩ rfl rfl [oX12 ao io_thrown io_rows io_cells io_children io_changes io_taped io_at io_to io_nest io_readMany io_codeLong io_readLong io_undos io_wentHome io_tideLevel io_acts io_firstBreaks io_bestCrew io_sights io_wayMany r14.2, rJ Y (ao 1) 24 co_row, rI Y (ao 2) 12 co_base, rI Y (ao 3) 12 co_dyke, rI Y (ao 4) 8 co_age, rI Y (ao 5) 8 co_skill, rI Y (ao 6) 8 co_friend, rI Y (ao 7) 2 co_fixed, rI Y (ao 8) 43 co_now, rI Y (ao 9) 43 co_then, rI Y (ao 12) 80 co_code, rI Y (ao 14) 80 co_stack, rI Y (ao 15) 4 co_asked, rI Y (ao 17) 12 co_gets] ⟨rfl, trivial⟩ ⟨rfl, rfl, rfl, rfl, rfl, rfl, rfl, rfl, rfl, rfl, rfl, rfl, rfl, trivial⟩ rfl ?_
          obtain ⟨r15, h15, hf⟩ := fx_bind hf
          refine a_fV C (kX12_goes l D Y ao (ao 9) io_thrown io_rows io_cells io_children io_changes io_taped io_at io_to io_nest io_readMany io_codeLong io_readLong io_undos io_wentHome io_tideLevel io_acts io_firstBreaks io_bestCrew io_sights io_wayMany r14.2 co_then r13.1 r14.1 r15 h15) gX12_summers_X12_goes rfl dvX12_goes ⟨⟨rfl, rfl⟩, ⟨Nat.le_of_ble_eq_true rfl, Nat.le_of_ble_eq_true rfl⟩, ⟨Nat.le_of_ble_eq_true rfl, Nat.le_of_ble_eq_true rfl⟩⟩ rfl (Nat.le_of_ble_eq_true rfl) dX12_summers_126 rfl rfl [0, 9] [1, 2, 3, 4, 5, 6, 7, 8, 10, 11, 12, 13] ⟨rfl, rfl, trivial⟩ rfl rfl [oX12 ao io_thrown io_rows io_cells io_children io_changes io_taped io_at io_to io_nest io_readMany io_codeLong io_readLong io_undos io_wentHome io_tideLevel io_acts io_firstBreaks io_bestCrew io_sights io_wayMany r14.2, rJ Y (ao 1) 24 co_row, rI Y (ao 2) 12 co_base, rI Y (ao 3) 12 co_dyke, rI Y (ao 4) 8 co_age, rI Y (ao 5) 8 co_skill, rI Y (ao 6) 8 co_friend, rI Y (ao 7) 2 co_fixed, rI Y (ao 8) 43 co_now, rI Y (ao 9) 43 r15.2, rI Y (ao 12) 80 co_code, rI Y (ao 14) 80 co_stack, rI Y (ao 15) 4 co_asked, rI Y (ao 17) 12 co_gets] ⟨rfl, rfl, trivial⟩ ⟨rfl, rfl, rfl, rfl, rfl, rfl, rfl, rfl, rfl, rfl, rfl, rfl, trivial⟩ rfl ?_
          refine a_pop C dX12_summers_129 rfl ?_
          refine a_kill [5, 6] ?_
          exact kX12_summers_b130 C hQ hk33 hf
      · have hf := fx_t h11 hf
        refine a_iload_n C dX12_summers_69 rfl ?_
        refine a_aload_n C dX12_summers_70 rfl ?_
        refine a_aload_n C dX12_summers_71 rfl ?_
        refine a_get C eX12_summers_39 dX12_summers_72 0 rfl rfl ?_
        obtain ⟨r16, h16, hf⟩ := fx_bind hf
        refine a_fV C (kX12_tideComes l D Y ao (ao 9) io_thrown io_rows io_cells io_children io_changes io_taped io_at io_to io_nest io_readMany io_codeLong io_readLong io_undos io_wentHome io_tideLevel io_acts io_firstBreaks io_bestCrew io_sights io_wayMany r9.2 co_base co_dyke co_fixed co_code co_stack co_asked co_then r16 h16) gX12_summers_X12_tideComes rfl dvX12_tideComes ⟨⟨rfl, rfl⟩, ⟨Nat.le_of_ble_eq_true rfl, Nat.le_of_ble_eq_true rfl⟩, ⟨Nat.le_of_ble_eq_true rfl, Nat.le_of_ble_eq_true rfl⟩⟩ rfl (Nat.le_of_ble_eq_true rfl) dX12_summers_75 rfl rfl [0, 2, 3, 7, 10, 11, 12, 9] [1, 4, 5, 6, 8, 13] ⟨rfl, rfl, rfl, rfl, rfl, rfl, rfl, rfl, trivial⟩ rfl rfl [oX12 ao io_thrown io_rows io_cells io_children io_changes io_taped io_at io_to io_nest io_readMany io_codeLong io_readLong io_undos io_wentHome r16.2.1 io_acts io_firstBreaks io_bestCrew io_sights io_wayMany r9.2, rJ Y (ao 1) 24 co_row, rI Y (ao 2) 12 co_base, rI Y (ao 3) 12 co_dyke, rI Y (ao 4) 8 co_age, rI Y (ao 5) 8 co_skill, rI Y (ao 6) 8 co_friend, rI Y (ao 7) 2 co_fixed, rI Y (ao 8) 43 co_now, rI Y (ao 9) 43 r16.2.2.2.2, rI Y (ao 12) 80 co_code, rI Y (ao 14) 80 r16.2.2.1, rI Y (ao 15) 4 r16.2.2.2.1, rI Y (ao 17) 12 co_gets] ⟨rfl, rfl, rfl, rfl, rfl, rfl, rfl, rfl, trivial⟩ ⟨rfl, rfl, rfl, rfl, rfl, rfl, trivial⟩ rfl ?_
        refine a_if_eq C 85 dX12_summers_78 (by decide) (fun h17 => ?_) (fun h17 => ?_)
        · have hf := fx_t h17 hf
          refine a_iconst C (0 : Int32) dX12_summers_85 (by decide) ?_
          refine a_kill [3, 5] ?_
          exact kX12_summers_b86 C hQ hk33 hf
        · have hf := fx_f h17 hf
          refine a_iconst C (1 : Int32) dX12_summers_81 (by decide) ?_
          refine a_goto C 86 dX12_summers_82 (by decide) ?_
          refine a_kill [3, 5] ?_
          exact kX12_summers_b86 C hQ hk33 hf
    · have hf := fx_f h10 hf
      refine a_aload_n C dX12_summers_52 rfl ?_
      refine a_aload_n C dX12_summers_53 rfl ?_
      refine a_get C eX12_summers_39 dX12_summers_54 0 rfl rfl ?_
      obtain ⟨r18, h18, hf⟩ := fx_bind hf
      refine a_fV C (kX12_spellGoes l D Y ao (ao 9) io_thrown io_rows io_cells io_children io_changes io_taped io_at io_to io_nest io_readMany io_codeLong io_readLong io_undos io_wentHome io_tideLevel io_acts io_firstBreaks io_bestCrew io_sights io_wayMany r9.2 co_age co_skill co_friend co_gets co_then r18 h18) gX12_summers_X12_spellGoes rfl dvX12_spellGoes ⟨⟨rfl, rfl⟩, ⟨Nat.le_of_ble_eq_true rfl, Nat.le_of_ble_eq_true rfl⟩, ⟨Nat.le_of_ble_eq_true rfl, Nat.le_of_ble_eq_true rfl⟩⟩ rfl (Nat.le_of_ble_eq_true rfl) dX12_summers_57 rfl rfl [0, 4, 5, 6, 13, 9] [1, 2, 3, 7, 8, 10, 11, 12] ⟨rfl, rfl, rfl, rfl, rfl, rfl, trivial⟩ rfl rfl [oX12 ao io_thrown io_rows io_cells io_children io_changes io_taped io_at io_to io_nest io_readMany io_codeLong io_readLong io_undos r18.1 io_tideLevel io_acts io_firstBreaks io_bestCrew io_sights io_wayMany r9.2, rJ Y (ao 1) 24 co_row, rI Y (ao 2) 12 co_base, rI Y (ao 3) 12 co_dyke, rI Y (ao 4) 8 co_age, rI Y (ao 5) 8 co_skill, rI Y (ao 6) 8 co_friend, rI Y (ao 7) 2 co_fixed, rI Y (ao 8) 43 co_now, rI Y (ao 9) 43 r18.2.2, rI Y (ao 12) 80 co_code, rI Y (ao 14) 80 co_stack, rI Y (ao 15) 4 co_asked, rI Y (ao 17) 12 r18.2.1] ⟨rfl, rfl, rfl, rfl, rfl, rfl, trivial⟩ ⟨rfl, rfl, rfl, rfl, rfl, rfl, rfl, rfl, trivial⟩ rfl ?_
      refine a_goto C 130 dX12_summers_60 (by decide) ?_
      refine a_kill [5] ?_
      exact kX12_summers_b130 C hQ hk33 hf
set_option maxHeartbeats 400000 in
set_option maxRecDepth 100000 in
theorem kX12_summers_b33 {X : cxT} {l : Launch} {D : va_G} {Y : Nat → ClassId} {ao : Nat → Nat} {io_thrown : Int32} {io_rows : Int32} {io_cells : Int32} {io_children : Int32} {io_changes : Int32} {io_taped : Int32} {io_at : Int32} {io_to : Int32} {io_nest : Int32} {io_readMany : Int32} {io_codeLong : Int32} {io_readLong : Int32} {io_undos : Int32} {io_wentHome : Int32} {io_tideLevel : Int32} {io_acts : Int32} {io_firstBreaks : Int32} {io_bestCrew : Int32} {io_sights : Int32} {io_wayMany : Int32} {io_random : Int32} {co_row : Nat → Int64} {co_base : Nat → Int32} {co_dyke : Nat → Int32} {co_age : Nat → Int32} {co_skill : Nat → Int32} {co_friend : Nat → Int32} {co_fixed : Nat → Int32} {co_now : Nat → Int32} {co_then : Nat → Int32} {co_code : Nat → Int32} {co_stack : Nat → Int32} {co_asked : Nat → Int32} {co_gets : Nat → Int32} {x2 : Int32} {x3 : Int32} {x4 : Int32} {res : Int32 × Int32 × Int32 × Int32 × Int32 × Int32 × (Nat → Int64) × (Nat → Int32) × (Nat → Int32) × (Nat → Int32) × (Nat → Int32)} (C : axC X l D Y cX12_summers 7 RX12 wsX12_summers rmX12_summers (some .int)) (hQ : axQ X 0 0 (fun r9 w9 => r9 = (some (.int res.1)) ∧ w9 = [oX12 ao res.2.1 res.2.2.1 io_cells io_children io_changes io_taped io_at io_to io_nest io_readMany io_codeLong io_readLong io_undos res.2.2.2.1 res.2.2.2.2.1 io_acts io_firstBreaks io_bestCrew io_sights io_wayMany res.2.2.2.2.2.1, rJ Y (ao 1) 24 res.2.2.2.2.2.2.1, rI Y (ao 2) 12 co_base, rI Y (ao 3) 12 co_dyke, rI Y (ao 4) 8 co_age, rI Y (ao 5) 8 co_skill, rI Y (ao 6) 8 co_friend, rI Y (ao 7) 2 co_fixed, rI Y (ao 8) 43 co_now, rI Y (ao 9) 43 res.2.2.2.2.2.2.2.1, rI Y (ao 12) 80 co_code, rI Y (ao 14) 80 res.2.2.2.2.2.2.2.2.1, rI Y (ao 15) 4 res.2.2.2.2.2.2.2.2.2.1, rI Y (ao 17) 12 res.2.2.2.2.2.2.2.2.2.2])) (hf : fX12_summers_b33 io_thrown io_rows io_cells io_children io_codeLong io_wentHome io_tideLevel io_random co_row co_base co_dyke co_age co_skill co_friend co_fixed co_now co_then co_code co_stack co_asked co_gets x2 x3 x4 = some res) : ax X 0 0 33 [some (.ref (ao 0)), none, some (.int x2), some (.int x3), some (.int x4), none, none] [oX12 ao io_thrown io_rows io_cells io_children io_changes io_taped io_at io_to io_nest io_readMany io_codeLong io_readLong io_undos io_wentHome io_tideLevel io_acts io_firstBreaks io_bestCrew io_sights io_wayMany io_random, rJ Y (ao 1) 24 co_row, rI Y (ao 2) 12 co_base, rI Y (ao 3) 12 co_dyke, rI Y (ao 4) 8 co_age, rI Y (ao 5) 8 co_skill, rI Y (ao 6) 8 co_friend, rI Y (ao 7) 2 co_fixed, rI Y (ao 8) 43 co_now, rI Y (ao 9) 43 co_then, rI Y (ao 12) 80 co_code, rI Y (ao 14) 80 co_stack, rI Y (ao 15) 4 co_asked, rI Y (ao 17) 12 co_gets] [] := by
  unfold fX12_summers_b33 at hf
  exact fx_loop (P := fun s : Int32 × Int32 × Int32 × (Nat → Int32) × (Nat → Int32) × (Nat → Int32) × (Nat → Int32) × Int32 × Int32 => ax X 0 0 33 [some (.ref (ao 0)), none, some (.int x2), some (.int s.2.2.2.2.2.2.2.1), some (.int s.2.2.2.2.2.2.2.2), none, none] [oX12 ao io_thrown io_rows io_cells io_children io_changes io_taped io_at io_to io_nest io_readMany io_codeLong io_readLong io_undos s.1 s.2.1 io_acts io_firstBreaks io_bestCrew io_sights io_wayMany s.2.2.1, rJ Y (ao 1) 24 co_row, rI Y (ao 2) 12 co_base, rI Y (ao 3) 12 co_dyke, rI Y (ao 4) 8 co_age, rI Y (ao 5) 8 co_skill, rI Y (ao 6) 8 co_friend, rI Y (ao 7) 2 co_fixed, rI Y (ao 8) 43 co_now, rI Y (ao 9) 43 s.2.2.2.1, rI Y (ao 12) 80 co_code, rI Y (ao 14) 80 s.2.2.2.2.1, rI Y (ao 15) 4 s.2.2.2.2.2.1, rI Y (ao 17) 12 s.2.2.2.2.2.2.1] []) (fun s k33 hk33 h => kX12_summers_l33 C hQ hk33 h) FUEL (io_wentHome, io_tideLevel, io_random, co_then, co_stack, co_asked, co_gets, x3, x4) hf
def fX12_summers (io_thrown : Int32) (io_rows : Int32) (io_cells : Int32) (io_children : Int32) (io_codeLong : Int32) (io_wentHome : Int32) (io_tideLevel : Int32) (io_random : Int32) (co_row : Nat → Int64) (co_base : Nat → Int32) (co_dyke : Nat → Int32) (co_age : Nat → Int32) (co_skill : Nat → Int32) (co_friend : Nat → Int32) (co_fixed : Nat → Int32) (co_now : Nat → Int32) (co_then : Nat → Int32) (co_code : Nat → Int32) (co_stack : Nat → Int32) (co_asked : Nat → Int32) (co_gets : Nat → Int32) (x1 : Int32) (x2 : Int32) : Option (Int32 × Int32 × Int32 × Int32 × Int32 × Int32 × (Nat → Int64) × (Nat → Int32) × (Nat → Int32) × (Nat → Int32) × (Nat → Int32)) :=
  (fX12_in (x2.toInt64) (1 : Int64) (60 : Int64)).bind (fun r19 => if r19 = (0 : Int32) then (some ((-1 : Int32), (0 : Int32), io_rows, io_wentHome, io_tideLevel, io_random, co_row, co_then, co_stack, co_asked, co_gets)) else ((fX12_puts co_now co_then).bind (fun r21 => fX12_summers_b33 (0 : Int32) io_rows io_cells io_children io_codeLong io_wentHome io_tideLevel x1 co_row co_base co_dyke co_age co_skill co_friend co_fixed co_now r21 co_code co_stack co_asked co_gets x2 (0 : Int32) (0 : Int32))))
set_option maxHeartbeats 400000 in
set_option maxRecDepth 100000 in
theorem kX12_summers (l : Launch) (D : va_G) (Y : Nat → ClassId) (ao : Nat → Nat) (io_thrown : Int32) (io_rows : Int32) (io_cells : Int32) (io_children : Int32) (io_changes : Int32) (io_taped : Int32) (io_at : Int32) (io_to : Int32) (io_nest : Int32) (io_readMany : Int32) (io_codeLong : Int32) (io_readLong : Int32) (io_undos : Int32) (io_wentHome : Int32) (io_tideLevel : Int32) (io_acts : Int32) (io_firstBreaks : Int32) (io_bestCrew : Int32) (io_sights : Int32) (io_wayMany : Int32) (io_random : Int32) (co_row : Nat → Int64) (co_base : Nat → Int32) (co_dyke : Nat → Int32) (co_age : Nat → Int32) (co_skill : Nat → Int32) (co_friend : Nat → Int32) (co_fixed : Nat → Int32) (co_now : Nat → Int32) (co_then : Nat → Int32) (co_code : Nat → Int32) (co_stack : Nat → Int32) (co_asked : Nat → Int32) (co_gets : Nat → Int32) (x1 : Int32) (x2 : Int32) (res : Int32 × Int32 × Int32 × Int32 × Int32 × Int32 × (Nat → Int64) × (Nat → Int32) × (Nat → Int32) × (Nat → Int32) × (Nat → Int32)) (hf : fX12_summers io_thrown io_rows io_cells io_children io_codeLong io_wentHome io_tideLevel io_random co_row co_base co_dyke co_age co_skill co_friend co_fixed co_now co_then co_code co_stack co_asked co_gets x1 x2 = some res) : amf l D Y yX12_summers wsX12_summers rmX12_summers [.ref (ao 0), .int x1, .int x2] [oX12 ao io_thrown io_rows io_cells io_children io_changes io_taped io_at io_to io_nest io_readMany io_codeLong io_readLong io_undos io_wentHome io_tideLevel io_acts io_firstBreaks io_bestCrew io_sights io_wayMany io_random, rJ Y (ao 1) 24 co_row, rI Y (ao 2) 12 co_base, rI Y (ao 3) 12 co_dyke, rI Y (ao 4) 8 co_age, rI Y (ao 5) 8 co_skill, rI Y (ao 6) 8 co_friend, rI Y (ao 7) 2 co_fixed, rI Y (ao 8) 43 co_now, rI Y (ao 9) 43 co_then, rI Y (ao 12) 80 co_code, rI Y (ao 14) 80 co_stack, rI Y (ao 15) 4 co_asked, rI Y (ao 17) 12 co_gets] (some (.int res.1)) [oX12 ao res.2.1 res.2.2.1 io_cells io_children io_changes io_taped io_at io_to io_nest io_readMany io_codeLong io_readLong io_undos res.2.2.2.1 res.2.2.2.2.1 io_acts io_firstBreaks io_bestCrew io_sights io_wayMany res.2.2.2.2.2.1, rJ Y (ao 1) 24 res.2.2.2.2.2.2.1, rI Y (ao 2) 12 co_base, rI Y (ao 3) 12 co_dyke, rI Y (ao 4) 8 co_age, rI Y (ao 5) 8 co_skill, rI Y (ao 6) 8 co_friend, rI Y (ao 7) 2 co_fixed, rI Y (ao 8) 43 co_now, rI Y (ao 9) 43 res.2.2.2.2.2.2.2.1, rI Y (ao 12) 80 co_code, rI Y (ao 14) 80 res.2.2.2.2.2.2.2.2.1, rI Y (ao 15) 4 res.2.2.2.2.2.2.2.2.2.1, rI Y (ao 17) 12 res.2.2.2.2.2.2.2.2.2.2] := by
  refine amf.of (cc := cX12_summers) (maxL := 7) (rt := (some .int)) (by decide) rfl RX12 rfl (Nat.le_of_ble_eq_true rfl) [some (.ref (ao 0)), some (.int x1), some (.int x2), none, none, none, none] rfl ?_
  intro X C hQ
  unfold fX12_summers at hf
  refine a_aload_n C dX12_summers_0 rfl ?_
  refine a_iconst C (0 : Int32) dX12_summers_1 (by decide) ?_
  refine a_put C eX12_summers_112 tfX12_0 dX12_summers_2 0 rfl rfl rfl (Nat.le_of_ble_eq_true rfl) ?_
  refine a_iload_n C dX12_summers_5 rfl ?_
  refine a_i2l C dX12_summers_6 ?_
  refine a_lconst C (1 : Int64) dX12_summers_7 (by decide) ?_
  refine a_ldc2 C (60 : Int64) dX12_summers_8 eX12_summers_k398 ?_
  obtain ⟨r19, h19, hf⟩ := fx_bind hf
  refine a_fS C (kX12_in l D Y (x2.toInt64) (1 : Int64) (60 : Int64) r19 h19) gX12_summers_X12_in rfl dvX12_in ⟨⟨rfl, rfl⟩, ⟨Nat.le_of_ble_eq_true rfl, Nat.le_of_ble_eq_true rfl⟩, ⟨Nat.le_of_ble_eq_true rfl, Nat.le_of_ble_eq_true rfl⟩⟩ rfl (Nat.le_of_ble_eq_true rfl) dX12_summers_11 [] [0, 1, 2, 3, 4, 5, 6, 7, 8, 9, 10, 11, 12, 13] trivial rfl rfl [oX12 ao (0 : Int32) io_rows io_cells io_children io_changes io_taped io_at io_to io_nest io_readMany io_codeLong io_readLong io_undos io_wentHome io_tideLevel io_acts io_firstBreaks io_bestCrew io_sights io_wayMany io_random, rJ Y (ao 1) 24 co_row, rI Y (ao 2) 12 co_base, rI Y (ao 3) 12 co_dyke, rI Y (ao 4) 8 co_age, rI Y (ao 5) 8 co_skill, rI Y (ao 6) 8 co_friend, rI Y (ao 7) 2 co_fixed, rI Y (ao 8) 43 co_now, rI Y (ao 9) 43 co_then, rI Y (ao 12) 80 co_code, rI Y (ao 14) 80 co_stack, rI Y (ao 15) 4 co_asked, rI Y (ao 17) 12 co_gets] trivial ⟨rfl, rfl, rfl, rfl, rfl, rfl, rfl, rfl, rfl, rfl, rfl, rfl, rfl, rfl, trivial⟩ rfl ?_
  refine a_if_ne C 19 dX12_summers_14 (by decide) (fun h20 => ?_) (fun h20 => ?_)
  · have hf := fx_f h20 hf
    refine a_aload_n C dX12_summers_19 rfl ?_
    refine a_iload_n C dX12_summers_20 rfl ?_
    refine a_put C eX12_summers_461 tfX12_49 dX12_summers_21 0 rfl rfl rfl (Nat.le_of_ble_eq_true rfl) ?_
    refine a_iconst C (0 : Int32) dX12_summers_24 (by decide) ?_
    refine a_istore_n C dX12_summers_25 (by decide) rfl ?_
    refine a_aload_n C dX12_summers_26 rfl ?_
    obtain ⟨r21, h21, hf⟩ := fx_bind hf
    refine a_fV C (kX12_puts l D Y ao (0 : Int32) io_rows io_cells io_children io_changes io_taped io_at io_to io_nest io_readMany io_codeLong io_readLong io_undos io_wentHome io_tideLevel io_acts io_firstBreaks io_bestCrew io_sights io_wayMany x1 co_now co_then r21 h21) gX12_summers_X12_puts rfl dvX12_puts ⟨⟨rfl, rfl⟩, ⟨Nat.le_of_ble_eq_true rfl, Nat.le_of_ble_eq_true rfl⟩, ⟨Nat.le_of_ble_eq_true rfl, Nat.le_of_ble_eq_true rfl⟩⟩ rfl (Nat.le_of_ble_eq_true rfl) dX12_summers_27 rfl rfl [0, 8, 9] [1, 2, 3, 4, 5, 6, 7, 10, 11, 12, 13] ⟨rfl, rfl, rfl, trivial⟩ rfl rfl [oX12 ao (0 : Int32) io_rows io_cells io_children io_changes io_taped io_at io_to io_nest io_readMany io_codeLong io_readLong io_undos io_wentHome io_tideLevel io_acts io_firstBreaks io_bestCrew io_sights io_wayMany x1, rJ Y (ao 1) 24 co_row, rI Y (ao 2) 12 co_base, rI Y (ao 3) 12 co_dyke, rI Y (ao 4) 8 co_age, rI Y (ao 5) 8 co_skill, rI Y (ao 6) 8 co_friend, rI Y (ao 7) 2 co_fixed, rI Y (ao 8) 43 co_now, rI Y (ao 9) 43 r21, rI Y (ao 12) 80 co_code, rI Y (ao 14) 80 co_stack, rI Y (ao 15) 4 co_asked, rI Y (ao 17) 12 co_gets] ⟨rfl, rfl, rfl, trivial⟩ ⟨rfl, rfl, rfl, rfl, rfl, rfl, rfl, rfl, rfl, rfl, rfl, trivial⟩ rfl ?_
    refine a_iconst C (0 : Int32) dX12_summers_30 (by decide) ?_
    refine a_istore C dX12_summers_31 (by decide) rfl ?_
    refine a_kill [1] ?_
    exact kX12_summers_b33 C hQ hf
  · have hf := fx_t h20 hf
    refine a_iconst C (-1 : Int32) dX12_summers_17 (by decide) ?_
    obtain rfl := fx_some hf
    exact a_iret C hQ dX12_summers_18 ⟨rfl, rfl⟩
-- X12_keep
abbrev rmX12_keep : Room := { frames := 1, cells := 0, slots := 0, locals := 25 }
theorem dvX12_keep : yX12_keep.cls = RX12 ∧ yX12_keep.cls ≠ "java/lang/invoke/MethodHandle" ∧ yX12_keep.cls ≠ "java/lang/invoke/VarHandle" ∧ (parseMethodDescriptor yX12_keep.desc).map (fun d => d.parameters.length) = some 1 := by decide +kernel
theorem eX12_keep_inX12 : ∀ w ∈ wsX120, w ∈ wsX12_keep := by decide +kernel
theorem eX12_keep_109 : aF wsX12_keep RX12 109 12 52 := ⟨RX12, TX12, 53, rfl, eX12_keep_inX12, by decide, by decide +kernel⟩
theorem eX12_keep_36 : aF wsX12_keep RX12 36 12 12 := ⟨RX12, TX12, 53, rfl, eX12_keep_inX12, by decide, by decide +kernel⟩
theorem eX12_keep_112 : aF wsX12_keep RX12 112 12 0 := ⟨RX12, TX12, 53, rfl, eX12_keep_inX12, by decide, by decide +kernel⟩
theorem eX12_keep_k468 : Cond.constantLong RX12 468 (2 : Int64) ∈ wsX12_keep := by decide +kernel
theorem eX12_keep_102 : aF wsX12_keep RX12 102 12 50 := ⟨RX12, TX12, 53, rfl, eX12_keep_inX12, by decide, by decide +kernel⟩
theorem eX12_keep_106 : aF wsX12_keep RX12 106 12 51 := ⟨RX12, TX12, 53, rfl, eX12_keep_inX12, by decide, by decide +kernel⟩
theorem eX12_keep_194 : aF wsX12_keep RX12 194 12 5 := ⟨RX12, TX12, 53, rfl, eX12_keep_inX12, by decide, by decide +kernel⟩
def fX12_keep_b67 (io_thrown : Int32) (io_changes : Int32) (co_now : Nat → Int32) (co_isKept : Nat → Int32) (co_keptChanges : Nat → Int32) (co_kept : Nat → Int32) : Option (Int32 × Int32 × (Nat → Int32) × (Nat → Int32) × (Nat → Int32)) :=
  some ((1 : Int32), io_thrown, co_isKept, co_keptChanges, co_kept)
set_option maxHeartbeats 400000 in
set_option maxRecDepth 100000 in
theorem kX12_keep_b67 {X : cxT} {l : Launch} {D : va_G} {Y : Nat → ClassId} {ao : Nat → Nat} {io_thrown : Int32} {io_rows : Int32} {io_cells : Int32} {io_children : Int32} {io_changes : Int32} {io_taped : Int32} {io_at : Int32} {io_to : Int32} {io_nest : Int32} {io_readMany : Int32} {io_codeLong : Int32} {io_readLong : Int32} {io_undos : Int32} {io_wentHome : Int32} {io_tideLevel : Int32} {io_acts : Int32} {io_firstBreaks : Int32} {io_bestCrew : Int32} {io_sights : Int32} {io_wayMany : Int32} {io_random : Int32} {co_now : Nat → Int32} {co_isKept : Nat → Int32} {co_keptChanges : Nat → Int32} {co_kept : Nat → Int32} {res : Int32 × Int32 × (Nat → Int32) × (Nat → Int32) × (Nat → Int32)} (C : axC X l D Y cX12_keep 3 RX12 wsX12_keep rmX12_keep (some .boolean)) (hQ : axQ X 0 0 (fun r9 w9 => r9 = (some (.int res.1)) ∧ w9 = [oX12 ao res.2.1 io_rows io_cells io_children io_changes io_taped io_at io_to io_nest io_readMany io_codeLong io_readLong io_undos io_wentHome io_tideLevel io_acts io_firstBreaks io_bestCrew io_sights io_wayMany io_random, rI Y (ao 8) 43 co_now, rZ Y (ao 30) 3 res.2.2.1, rI Y (ao 31) 3 res.2.2.2.1, rI Y (ao 32) 129 res.2.2.2.2])) (hf : fX12_keep_b67 io_thrown io_changes co_now co_isKept co_keptChanges co_kept = some res) : ax X 0 0 67 [none, none, none] [oX12 ao io_thrown io_rows io_cells io_children io_changes io_taped io_at io_to io_nest io_readMany io_codeLong io_readLong io_undos io_wentHome io_tideLevel io_acts io_firstBreaks io_bestCrew io_sights io_wayMany io_random, rI Y (ao 8) 43 co_now, rZ Y (ao 30) 3 co_isKept, rI Y (ao 31) 3 co_keptChanges, rI Y (ao 32) 129 co_kept] [] := by
  unfold fX12_keep_b67 at hf
  refine a_iconst C (1 : Int32) dX12_keep_67 (by decide) ?_
  obtain rfl := fx_some hf
  exact a_zret C hQ (Or.inr rfl) dX12_keep_68 ⟨rfl, rfl⟩
def fX12_keep_l38 (io_thrown : Int32) (io_changes : Int32) (co_now : Nat → Int32) (co_isKept : Nat → Int32) (co_keptChanges : Nat → Int32) (x1 : Int32) (k38 : (Nat → Int32) × Int32 → Option (Int32 × Int32 × (Nat → Int32) × (Nat → Int32) × (Nat → Int32))) (co_kept : Nat → Int32) (x2 : Int32) : Option (Int32 × Int32 × (Nat → Int32) × (Nat → Int32) × (Nat → Int32)) :=
  if (43 : Int32) ≤ x2 then (fX12_keep_b67 io_thrown io_changes co_now co_isKept co_keptChanges co_kept) else (if inb x2 43 then if inb (((43 : Int32) * x1) + x2) 129 then k38 ((upd co_kept (Int32.toNatClampNeg (((43 : Int32) * x1) + x2)) (co_now (Int32.toNatClampNeg x2))), (x2 + (1 : Int32))) else none else none)
def fX12_keep_b38 (io_thrown : Int32) (io_changes : Int32) (co_now : Nat → Int32) (co_isKept : Nat → Int32) (co_keptChanges : Nat → Int32) (co_kept : Nat → Int32) (x1 : Int32) (x2 : Int32) : Option (Int32 × Int32 × (Nat → Int32) × (Nat → Int32) × (Nat → Int32)) :=
  loopN (fun (s : (Nat → Int32) × Int32) k38 => fX12_keep_l38 io_thrown io_changes co_now co_isKept co_keptChanges x1 k38 s.1 s.2) FUEL (co_kept, x2)
set_option maxHeartbeats 400000 in
set_option maxRecDepth 100000 in
theorem kX12_keep_l38 {X : cxT} {l : Launch} {D : va_G} {Y : Nat → ClassId} {ao : Nat → Nat} {io_thrown : Int32} {io_rows : Int32} {io_cells : Int32} {io_children : Int32} {io_changes : Int32} {io_taped : Int32} {io_at : Int32} {io_to : Int32} {io_nest : Int32} {io_readMany : Int32} {io_codeLong : Int32} {io_readLong : Int32} {io_undos : Int32} {io_wentHome : Int32} {io_tideLevel : Int32} {io_acts : Int32} {io_firstBreaks : Int32} {io_bestCrew : Int32} {io_sights : Int32} {io_wayMany : Int32} {io_random : Int32} {co_now : Nat → Int32} {co_isKept : Nat → Int32} {co_keptChanges : Nat → Int32} {co_kept : Nat → Int32} {x1 : Int32} {x2 : Int32} {res : Int32 × Int32 × (Nat → Int32) × (Nat → Int32) × (Nat → Int32)} (C : axC X l D Y cX12_keep 3 RX12 wsX12_keep rmX12_keep (some .boolean)) (hQ : axQ X 0 0 (fun r9 w9 => r9 = (some (.int res.1)) ∧ w9 = [oX12 ao res.2.1 io_rows io_cells io_children io_changes io_taped io_at io_to io_nest io_readMany io_codeLong io_readLong io_undos io_wentHome io_tideLevel io_acts io_firstBreaks io_bestCrew io_sights io_wayMany io_random, rI Y (ao 8) 43 co_now, rZ Y (ao 30) 3 res.2.2.1, rI Y (ao 31) 3 res.2.2.2.1, rI Y (ao 32) 129 res.2.2.2.2])) {k38 : (Nat → Int32) × Int32 → Option (Int32 × Int32 × (Nat → Int32) × (Nat → Int32) × (Nat → Int32))} (hk38 : ∀ s : (Nat → Int32) × Int32, k38 s = some res → ax X 0 0 38 [some (.ref (ao 0)), some (.int x1), some (.int s.2)] [oX12 ao io_thrown io_rows io_cells io_children io_changes io_taped io_at io_to io_nest io_readMany io_codeLong io_readLong io_undos io_wentHome io_tideLevel io_acts io_firstBreaks io_bestCrew io_sights io_wayMany io_random, rI Y (ao 8) 43 co_now, rZ Y (ao 30) 3 co_isKept, rI Y (ao 31) 3 co_keptChanges, rI Y (ao 32) 129 s.1] []) (hf : fX12_keep_l38 io_thrown io_changes co_now co_isKept co_keptChanges x1 k38 co_kept x2 = some res) : ax X 0 0 38 [some (.ref (ao 0)), some (.int x1), some (.int x2)] [oX12 ao io_thrown io_rows io_cells io_children io_changes io_taped io_at io_to io_nest io_readMany io_codeLong io_readLong io_undos io_wentHome io_tideLevel io_acts io_firstBreaks io_bestCrew io_sights io_wayMany io_random, rI Y (ao 8) 43 co_now, rZ Y (ao 30) 3 co_isKept, rI Y (ao 31) 3 co_keptChanges, rI Y (ao 32) 129 co_kept] [] := by
  unfold fX12_keep_l38 at hf
  refine a_iload_n C dX12_keep_38 rfl ?_
  refine a_bipush C (43 : Int32) dX12_keep_39 (by decide) ?_
  refine a_icmp_ge C 67 dX12_keep_41 (by decide) (fun h1 => ?_) (fun h1 => ?_)
  · have hf := fx_t h1 hf
    refine a_kill [0, 1, 2] ?_
    exact kX12_keep_b67 C hQ hf
  · have hf := fx_f h1 hf
    refine a_aload_n C dX12_keep_44 rfl ?_
    refine a_get C eX12_keep_109 dX12_keep_45 0 rfl rfl ?_
    refine a_bipush C (43 : Int32) dX12_keep_48 (by decide) ?_
    refine a_iload_n C dX12_keep_50 rfl ?_
    refine a_imul C dX12_keep_51 ?_
    refine a_iload_n C dX12_keep_52 rfl ?_
    refine a_iadd C dX12_keep_53 ?_
    refine a_aload_n C dX12_keep_54 rfl ?_
    refine a_get C eX12_keep_36 dX12_keep_55 0 rfl rfl ?_
    refine a_iload_n C dX12_keep_58 rfl ?_
    obtain ⟨h2, hf⟩ := fx_ite hf
    refine a_iald C dX12_keep_59 1 rfl h2 ?_
    obtain ⟨h3, hf⟩ := fx_ite hf
    refine a_iast C dX12_keep_60 4 rfl h3 ?_
    refine a_iinc C (1 : Int32) dX12_keep_61 (by decide) rfl (by decide) rfl ?_
    refine a_goto C 38 dX12_keep_64 (by decide) ?_
    exact hk38 ((upd co_kept (Int32.toNatClampNeg (((43 : Int32) * x1) + x2)) (co_now (Int32.toNatClampNeg x2))), (x2 + (1 : Int32))) hf
set_option maxHeartbeats 400000 in
set_option maxRecDepth 100000 in
theorem kX12_keep_b38 {X : cxT} {l : Launch} {D : va_G} {Y : Nat → ClassId} {ao : Nat → Nat} {io_thrown : Int32} {io_rows : Int32} {io_cells : Int32} {io_children : Int32} {io_changes : Int32} {io_taped : Int32} {io_at : Int32} {io_to : Int32} {io_nest : Int32} {io_readMany : Int32} {io_codeLong : Int32} {io_readLong : Int32} {io_undos : Int32} {io_wentHome : Int32} {io_tideLevel : Int32} {io_acts : Int32} {io_firstBreaks : Int32} {io_bestCrew : Int32} {io_sights : Int32} {io_wayMany : Int32} {io_random : Int32} {co_now : Nat → Int32} {co_isKept : Nat → Int32} {co_keptChanges : Nat → Int32} {co_kept : Nat → Int32} {x1 : Int32} {x2 : Int32} {res : Int32 × Int32 × (Nat → Int32) × (Nat → Int32) × (Nat → Int32)} (C : axC X l D Y cX12_keep 3 RX12 wsX12_keep rmX12_keep (some .boolean)) (hQ : axQ X 0 0 (fun r9 w9 => r9 = (some (.int res.1)) ∧ w9 = [oX12 ao res.2.1 io_rows io_cells io_children io_changes io_taped io_at io_to io_nest io_readMany io_codeLong io_readLong io_undos io_wentHome io_tideLevel io_acts io_firstBreaks io_bestCrew io_sights io_wayMany io_random, rI Y (ao 8) 43 co_now, rZ Y (ao 30) 3 res.2.2.1, rI Y (ao 31) 3 res.2.2.2.1, rI Y (ao 32) 129 res.2.2.2.2])) (hf : fX12_keep_b38 io_thrown io_changes co_now co_isKept co_keptChanges co_kept x1 x2 = some res) : ax X 0 0 38 [some (.ref (ao 0)), some (.int x1), some (.int x2)] [oX12 ao io_thrown io_rows io_cells io_children io_changes io_taped io_at io_to io_nest io_readMany io_codeLong io_readLong io_undos io_wentHome io_tideLevel io_acts io_firstBreaks io_bestCrew io_sights io_wayMany io_random, rI Y (ao 8) 43 co_now, rZ Y (ao 30) 3 co_isKept, rI Y (ao 31) 3 co_keptChanges, rI Y (ao 32) 129 co_kept] [] := by
  unfold fX12_keep_b38 at hf
  exact fx_loop (P := fun s : (Nat → Int32) × Int32 => ax X 0 0 38 [some (.ref (ao 0)), some (.int x1), some (.int s.2)] [oX12 ao io_thrown io_rows io_cells io_children io_changes io_taped io_at io_to io_nest io_readMany io_codeLong io_readLong io_undos io_wentHome io_tideLevel io_acts io_firstBreaks io_bestCrew io_sights io_wayMany io_random, rI Y (ao 8) 43 co_now, rZ Y (ao 30) 3 co_isKept, rI Y (ao 31) 3 co_keptChanges, rI Y (ao 32) 129 s.1] []) (fun s k38 hk38 h => kX12_keep_l38 C hQ hk38 h) FUEL (co_kept, x2) hf
def fX12_keep (io_thrown : Int32) (io_changes : Int32) (co_now : Nat → Int32) (co_isKept : Nat → Int32) (co_keptChanges : Nat → Int32) (co_kept : Nat → Int32) (x1 : Int32) : Option (Int32 × Int32 × (Nat → Int32) × (Nat → Int32) × (Nat → Int32)) :=
  (fX12_in (x1.toInt64) (0 : Int64) (2 : Int64)).bind (fun r4 => if r4 = (0 : Int32) then (some ((0 : Int32), (0 : Int32), co_isKept, co_keptChanges, co_kept)) else (if inb x1 3 then fX12_keep_b38 (0 : Int32) io_changes co_now (upd co_isKept (Int32.toNatClampNeg x1) (vp_nar .boolean (1 : Int32))) (upd co_keptChanges (Int32.toNatClampNeg x1) io_changes) co_kept x1 (0 : Int32) else none))
set_option maxHeartbeats 400000 in
set_option maxRecDepth 100000 in
theorem kX12_keep (l : Launch) (D : va_G) (Y : Nat → ClassId) (ao : Nat → Nat) (io_thrown : Int32) (io_rows : Int32) (io_cells : Int32) (io_children : Int32) (io_changes : Int32) (io_taped : Int32) (io_at : Int32) (io_to : Int32) (io_nest : Int32) (io_readMany : Int32) (io_codeLong : Int32) (io_readLong : Int32) (io_undos : Int32) (io_wentHome : Int32) (io_tideLevel : Int32) (io_acts : Int32) (io_firstBreaks : Int32) (io_bestCrew : Int32) (io_sights : Int32) (io_wayMany : Int32) (io_random : Int32) (co_now : Nat → Int32) (co_isKept : Nat → Int32) (co_keptChanges : Nat → Int32) (co_kept : Nat → Int32) (x1 : Int32) (res : Int32 × Int32 × (Nat → Int32) × (Nat → Int32) × (Nat → Int32)) (hf : fX12_keep io_thrown io_changes co_now co_isKept co_keptChanges co_kept x1 = some res) : amf l D Y yX12_keep wsX12_keep rmX12_keep [.ref (ao 0), .int x1] [oX12 ao io_thrown io_rows io_cells io_children io_changes io_taped io_at io_to io_nest io_readMany io_codeLong io_readLong io_undos io_wentHome io_tideLevel io_acts io_firstBreaks io_bestCrew io_sights io_wayMany io_random, rI Y (ao 8) 43 co_now, rZ Y (ao 30) 3 co_isKept, rI Y (ao 31) 3 co_keptChanges, rI Y (ao 32) 129 co_kept] (some (.int res.1)) [oX12 ao res.2.1 io_rows io_cells io_children io_changes io_taped io_at io_to io_nest io_readMany io_codeLong io_readLong io_undos io_wentHome io_tideLevel io_acts io_firstBreaks io_bestCrew io_sights io_wayMany io_random, rI Y (ao 8) 43 co_now, rZ Y (ao 30) 3 res.2.2.1, rI Y (ao 31) 3 res.2.2.2.1, rI Y (ao 32) 129 res.2.2.2.2] := by
  refine amf.of (cc := cX12_keep) (maxL := 3) (rt := (some .boolean)) (by decide) rfl RX12 rfl (Nat.le_of_ble_eq_true rfl) [some (.ref (ao 0)), some (.int x1), none] rfl ?_
  intro X C hQ
  unfold fX12_keep at hf
  refine a_aload_n C dX12_keep_0 rfl ?_
  refine a_iconst C (0 : Int32) dX12_keep_1 (by decide) ?_
  refine a_put C eX12_keep_112 tfX12_0 dX12_keep_2 0 rfl rfl rfl (Nat.le_of_ble_eq_true rfl) ?_
  refine a_iload_n C dX12_keep_5 rfl ?_
  refine a_i2l C dX12_keep_6 ?_
  refine a_lconst C (0 : Int64) dX12_keep_7 (by decide) ?_
  refine a_ldc2 C (2 : Int64) dX12_keep_8 eX12_keep_k468 ?_
  obtain ⟨r4, h4, hf⟩ := fx_bind hf
  refine a_fS C (kX12_in l D Y (x1.toInt64) (0 : Int64) (2 : Int64) r4 h4) gX12_keep_X12_in rfl dvX12_in ⟨⟨rfl, rfl⟩, ⟨Nat.le_of_ble_eq_true rfl, Nat.le_of_ble_eq_true rfl⟩, ⟨Nat.le_of_ble_eq_true rfl, Nat.le_of_ble_eq_true rfl⟩⟩ rfl (Nat.le_of_ble_eq_true rfl) dX12_keep_11 [] [0, 1, 2, 3, 4] trivial rfl rfl [oX12 ao (0 : Int32) io_rows io_cells io_children io_changes io_taped io_at io_to io_nest io_readMany io_codeLong io_readLong io_undos io_wentHome io_tideLevel io_acts io_firstBreaks io_bestCrew io_sights io_wayMany io_random, rI Y (ao 8) 43 co_now, rZ Y (ao 30) 3 co_isKept, rI Y (ao 31) 3 co_keptChanges, rI Y (ao 32) 129 co_kept] trivial ⟨rfl, rfl, rfl, rfl, rfl, trivial⟩ rfl ?_
  refine a_if_ne C 19 dX12_keep_14 (by decide) (fun h5 => ?_) (fun h5 => ?_)
  · have hf := fx_f h5 hf
    refine a_aload_n C dX12_keep_19 rfl ?_
    refine a_get C eX12_keep_102 dX12_keep_20 0 rfl rfl ?_
    refine a_iload_n C dX12_keep_23 rfl ?_
    refine a_iconst C (1 : Int32) dX12_keep_24 (by decide) ?_
    obtain ⟨h6, hf⟩ := fx_ite hf
    refine a_zast C dX12_keep_25 2 rfl h6 ?_
    refine a_aload_n C dX12_keep_26 rfl ?_
    refine a_get C eX12_keep_106 dX12_keep_27 0 rfl rfl ?_
    refine a_iload_n C dX12_keep_30 rfl ?_
    refine a_aload_n C dX12_keep_31 rfl ?_
    refine a_get C eX12_keep_194 dX12_keep_32 0 rfl rfl ?_
    refine a_iast C dX12_keep_35 3 rfl h6 ?_
    refine a_iconst C (0 : Int32) dX12_keep_36 (by decide) ?_
    refine a_istore_n C dX12_keep_37 (by decide) rfl ?_
    exact kX12_keep_b38 C hQ hf
  · have hf := fx_t h5 hf
    refine a_iconst C (0 : Int32) dX12_keep_17 (by decide) ?_
    obtain rfl := fx_some hf
    exact a_zret C hQ (Or.inl rfl) dX12_keep_18 ⟨rfl, rfl⟩
-- X12_again
abbrev rmX12_again : Room := { frames := 1, cells := 0, slots := 0, locals := 25 }
theorem dvX12_again : yX12_again.cls = RX12 ∧ yX12_again.cls ≠ "java/lang/invoke/MethodHandle" ∧ yX12_again.cls ≠ "java/lang/invoke/VarHandle" ∧ (parseMethodDescriptor yX12_again.desc).map (fun d => d.parameters.length) = some 1 := by decide +kernel
theorem eX12_again_inX12 : ∀ w ∈ wsX120, w ∈ wsX12_again := by decide +kernel
theorem eX12_again_191 : aF wsX12_again RX12 191 12 27 := ⟨RX12, TX12, 53, rfl, eX12_again_inX12, by decide, by decide +kernel⟩
theorem eX12_again_36 : aF wsX12_again RX12 36 12 12 := ⟨RX12, TX12, 53, rfl, eX12_again_inX12, by decide, by decide +kernel⟩
theorem eX12_again_109 : aF wsX12_again RX12 109 12 52 := ⟨RX12, TX12, 53, rfl, eX12_again_inX12, by decide, by decide +kernel⟩
theorem eX12_again_112 : aF wsX12_again RX12 112 12 0 := ⟨RX12, TX12, 53, rfl, eX12_again_inX12, by decide, by decide +kernel⟩
theorem eX12_again_k468 : Cond.constantLong RX12 468 (2 : Int64) ∈ wsX12_again := by decide +kernel
theorem eX12_again_102 : aF wsX12_again RX12 102 12 50 := ⟨RX12, TX12, 53, rfl, eX12_again_inX12, by decide, by decide +kernel⟩
theorem eX12_again_106 : aF wsX12_again RX12 106 12 51 := ⟨RX12, TX12, 53, rfl, eX12_again_inX12, by decide, by decide +kernel⟩
theorem eX12_again_194 : aF wsX12_again RX12 194 12 5 := ⟨RX12, TX12, 53, rfl, eX12_again_inX12, by decide, by decide +kernel⟩
def fX12_again_b39 (io_thrown : Int32) (io_changes : Int32) (io_undos : Int32) (co_now : Nat → Int32) (co_isKept : Nat → Int32) (co_keptChanges : Nat → Int32) (co_kept : Nat → Int32) : Option (Int32 × Int32 × Int32 × (Nat → Int32)) :=
  some ((0 : Int32), io_thrown, io_undos, co_now)
set_option maxHeartbeats 400000 in
set_option maxRecDepth 100000 in
theorem kX12_again_b39 {X : cxT} {l : Launch} {D : va_G} {Y : Nat → ClassId} {ao : Nat → Nat} {io_thrown : Int32} {io_rows : Int32} {io_cells : Int32} {io_children : Int32} {io_changes : Int32} {io_taped : Int32} {io_at : Int32} {io_to : Int32} {io_nest : Int32} {io_readMany : Int32} {io_codeLong : Int32} {io_readLong : Int32} {io_undos : Int32} {io_wentHome : Int32} {io_tideLevel : Int32} {io_acts : Int32} {io_firstBreaks : Int32} {io_bestCrew : Int32} {io_sights : Int32} {io_wayMany : Int32} {io_random : Int32} {co_now : Nat → Int32} {co_isKept : Nat → Int32} {co_keptChanges : Nat → Int32} {co_kept : Nat → Int32} {res : Int32 × Int32 × Int32 × (Nat → Int32)} (C : axC X l D Y cX12_again 3 RX12 wsX12_again rmX12_again (some .boolean)) (hQ : axQ X 0 0 (fun r9 w9 => r9 = (some (.int res.1)) ∧ w9 = [oX12 ao res.2.1 io_rows io_cells io_children io_changes io_taped io_at io_to io_nest io_readMany io_codeLong io_readLong res.2.2.1 io_wentHome io_tideLevel io_acts io_firstBreaks io_bestCrew io_sights io_wayMany io_random, rI Y (ao 8) 43 res.2.2.2, rZ Y (ao 30) 3 co_isKept, rI Y (ao 31) 3 co_keptChanges, rI Y (ao 32) 129 co_kept])) (hf : fX12_again_b39 io_thrown io_changes io_undos co_now co_isKept co_keptChanges co_kept = some res) : ax X 0 0 39 [none, none, none] [oX12 ao io_thrown io_rows io_cells io_children io_changes io_taped io_at io_to io_nest io_readMany io_codeLong io_readLong io_undos io_wentHome io_tideLevel io_acts io_firstBreaks io_bestCrew io_sights io_wayMany io_random, rI Y (ao 8) 43 co_now, rZ Y (ao 30) 3 co_isKept, rI Y (ao 31) 3 co_keptChanges, rI Y (ao 32) 129 co_kept] [] := by
  unfold fX12_again_b39 at hf
  refine a_iconst C (0 : Int32) dX12_again_39 (by decide) ?_
  obtain rfl := fx_some hf
  exact a_zret C hQ (Or.inl rfl) dX12_again_40 ⟨rfl, rfl⟩
def fX12_again_b72 (io_thrown : Int32) (io_changes : Int32) (io_undos : Int32) (co_now : Nat → Int32) (co_isKept : Nat → Int32) (co_keptChanges : Nat → Int32) (co_kept : Nat → Int32) : Option (Int32 × Int32 × Int32 × (Nat → Int32)) :=
  some ((1 : Int32), io_thrown, (0 : Int32), co_now)
set_option maxHeartbeats 400000 in
set_option maxRecDepth 100000 in
theorem kX12_again_b72 {X : cxT} {l : Launch} {D : va_G} {Y : Nat → ClassId} {ao : Nat → Nat} {io_thrown : Int32} {io_rows : Int32} {io_cells : Int32} {io_children : Int32} {io_changes : Int32} {io_taped : Int32} {io_at : Int32} {io_to : Int32} {io_nest : Int32} {io_readMany : Int32} {io_codeLong : Int32} {io_readLong : Int32} {io_undos : Int32} {io_wentHome : Int32} {io_tideLevel : Int32} {io_acts : Int32} {io_firstBreaks : Int32} {io_bestCrew : Int32} {io_sights : Int32} {io_wayMany : Int32} {io_random : Int32} {co_now : Nat → Int32} {co_isKept : Nat → Int32} {co_keptChanges : Nat → Int32} {co_kept : Nat → Int32} {res : Int32 × Int32 × Int32 × (Nat → Int32)} (C : axC X l D Y cX12_again 3 RX12 wsX12_again rmX12_again (some .boolean)) (hQ : axQ X 0 0 (fun r9 w9 => r9 = (some (.int res.1)) ∧ w9 = [oX12 ao res.2.1 io_rows io_cells io_children io_changes io_taped io_at io_to io_nest io_readMany io_codeLong io_readLong res.2.2.1 io_wentHome io_tideLevel io_acts io_firstBreaks io_bestCrew io_sights io_wayMany io_random, rI Y (ao 8) 43 res.2.2.2, rZ Y (ao 30) 3 co_isKept, rI Y (ao 31) 3 co_keptChanges, rI Y (ao 32) 129 co_kept])) (hf : fX12_again_b72 io_thrown io_changes io_undos co_now co_isKept co_keptChanges co_kept = some res) : ax X 0 0 72 [some (.ref (ao 0)), none, none] [oX12 ao io_thrown io_rows io_cells io_children io_changes io_taped io_at io_to io_nest io_readMany io_codeLong io_readLong io_undos io_wentHome io_tideLevel io_acts io_firstBreaks io_bestCrew io_sights io_wayMany io_random, rI Y (ao 8) 43 co_now, rZ Y (ao 30) 3 co_isKept, rI Y (ao 31) 3 co_keptChanges, rI Y (ao 32) 129 co_kept] [] := by
  unfold fX12_again_b72 at hf
  refine a_aload_n C dX12_again_72 rfl ?_
  refine a_iconst C (0 : Int32) dX12_again_73 (by decide) ?_
  refine a_put C eX12_again_191 tfX12_27 dX12_again_74 0 rfl rfl rfl (Nat.le_of_ble_eq_true rfl) ?_
  refine a_iconst C (1 : Int32) dX12_again_77 (by decide) ?_
  obtain rfl := fx_some hf
  exact a_zret C hQ (Or.inr rfl) dX12_again_78 ⟨rfl, rfl⟩
def fX12_again_l43 (io_thrown : Int32) (io_changes : Int32) (io_undos : Int32) (co_isKept : Nat → Int32) (co_keptChanges : Nat → Int32) (co_kept : Nat → Int32) (x1 : Int32) (k43 : (Nat → Int32) × Int32 → Option (Int32 × Int32 × Int32 × (Nat → Int32))) (co_now : Nat → Int32) (x2 : Int32) : Option (Int32 × Int32 × Int32 × (Nat → Int32)) :=
  if (43 : Int32) ≤ x2 then (fX12_again_b72 io_thrown io_changes io_undos co_now co_isKept co_keptChanges co_kept) else (if inb (((43 : Int32) * x1) + x2) 129 then if inb x2 43 then k43 ((upd co_now (Int32.toNatClampNeg x2) (co_kept (Int32.toNatClampNeg (((43 : Int32) * x1) + x2)))), (x2 + (1 : Int32))) else none else none)
def fX12_again_b43 (io_thrown : Int32) (io_changes : Int32) (io_undos : Int32) (co_now : Nat → Int32) (co_isKept : Nat → Int32) (co_keptChanges : Nat → Int32) (co_kept : Nat → Int32) (x1 : Int32) (x2 : Int32) : Option (Int32 × Int32 × Int32 × (Nat → Int32)) :=
  loopN (fun (s : (Nat → Int32) × Int32) k43 => fX12_again_l43 io_thrown io_changes io_undos co_isKept co_keptChanges co_kept x1 k43 s.1 s.2) FUEL (co_now, x2)
set_option maxHeartbeats 400000 in
set_option maxRecDepth 100000 in
theorem kX12_again_l43 {X : cxT} {l : Launch} {D : va_G} {Y : Nat → ClassId} {ao : Nat → Nat} {io_thrown : Int32} {io_rows : Int32} {io_cells : Int32} {io_children : Int32} {io_changes : Int32} {io_taped : Int32} {io_at : Int32} {io_to : Int32} {io_nest : Int32} {io_readMany : Int32} {io_codeLong : Int32} {io_readLong : Int32} {io_undos : Int32} {io_wentHome : Int32} {io_tideLevel : Int32} {io_acts : Int32} {io_firstBreaks : Int32} {io_bestCrew : Int32} {io_sights : Int32} {io_wayMany : Int32} {io_random : Int32} {co_now : Nat → Int32} {co_isKept : Nat → Int32} {co_keptChanges : Nat → Int32} {co_kept : Nat → Int32} {x1 : Int32} {x2 : Int32} {res : Int32 × Int32 × Int32 × (Nat → Int32)} (C : axC X l D Y cX12_again 3 RX12 wsX12_again rmX12_again (some .boolean)) (hQ : axQ X 0 0 (fun r9 w9 => r9 = (some (.int res.1)) ∧ w9 = [oX12 ao res.2.1 io_rows io_cells io_children io_changes io_taped io_at io_to io_nest io_readMany io_codeLong io_readLong res.2.2.1 io_wentHome io_tideLevel io_acts io_firstBreaks io_bestCrew io_sights io_wayMany io_random, rI Y (ao 8) 43 res.2.2.2, rZ Y (ao 30) 3 co_isKept, rI Y (ao 31) 3 co_keptChanges, rI Y (ao 32) 129 co_kept])) {k43 : (Nat → Int32) × Int32 → Option (Int32 × Int32 × Int32 × (Nat → Int32))} (hk43 : ∀ s : (Nat → Int32) × Int32, k43 s = some res → ax X 0 0 43 [some (.ref (ao 0)), some (.int x1), some (.int s.2)] [oX12 ao io_thrown io_rows io_cells io_children io_changes io_taped io_at io_to io_nest io_readMany io_codeLong io_readLong io_undos io_wentHome io_tideLevel io_acts io_firstBreaks io_bestCrew io_sights io_wayMany io_random, rI Y (ao 8) 43 s.1, rZ Y (ao 30) 3 co_isKept, rI Y (ao 31) 3 co_keptChanges, rI Y (ao 32) 129 co_kept] []) (hf : fX12_again_l43 io_thrown io_changes io_undos co_isKept co_keptChanges co_kept x1 k43 co_now x2 = some res) : ax X 0 0 43 [some (.ref (ao 0)), some (.int x1), some (.int x2)] [oX12 ao io_thrown io_rows io_cells io_children io_changes io_taped io_at io_to io_nest io_readMany io_codeLong io_readLong io_undos io_wentHome io_tideLevel io_acts io_firstBreaks io_bestCrew io_sights io_wayMany io_random, rI Y (ao 8) 43 co_now, rZ Y (ao 30) 3 co_isKept, rI Y (ao 31) 3 co_keptChanges, rI Y (ao 32) 129 co_kept] [] := by
  unfold fX12_again_l43 at hf
  refine a_iload_n C dX12_again_43 rfl ?_
  refine a_bipush C (43 : Int32) dX12_again_44 (by decide) ?_
  refine a_icmp_ge C 72 dX12_again_46 (by decide) (fun h1 => ?_) (fun h1 => ?_)
  · have hf := fx_t h1 hf
    refine a_kill [1, 2] ?_
    exact kX12_again_b72 C hQ hf
  · have hf := fx_f h1 hf
    refine a_aload_n C dX12_again_49 rfl ?_
    refine a_get C eX12_again_36 dX12_again_50 0 rfl rfl ?_
    refine a_iload_n C dX12_again_53 rfl ?_
    refine a_aload_n C dX12_again_54 rfl ?_
    refine a_get C eX12_again_109 dX12_again_55 0 rfl rfl ?_
    refine a_bipush C (43 : Int32) dX12_again_58 (by decide) ?_
    refine a_iload_n C dX12_again_60 rfl ?_
    refine a_imul C dX12_again_61 ?_
    refine a_iload_n C dX12_again_62 rfl ?_
    refine a_iadd C dX12_again_63 ?_
    obtain ⟨h2, hf⟩ := fx_ite hf
    refine a_iald C dX12_again_64 4 rfl h2 ?_
    obtain ⟨h3, hf⟩ := fx_ite hf
    refine a_iast C dX12_again_65 1 rfl h3 ?_
    refine a_iinc C (1 : Int32) dX12_again_66 (by decide) rfl (by decide) rfl ?_
    refine a_goto C 43 dX12_again_69 (by decide) ?_
    exact hk43 ((upd co_now (Int32.toNatClampNeg x2) (co_kept (Int32.toNatClampNeg (((43 : Int32) * x1) + x2)))), (x2 + (1 : Int32))) hf
set_option maxHeartbeats 400000 in
set_option maxRecDepth 100000 in
theorem kX12_again_b43 {X : cxT} {l : Launch} {D : va_G} {Y : Nat → ClassId} {ao : Nat → Nat} {io_thrown : Int32} {io_rows : Int32} {io_cells : Int32} {io_children : Int32} {io_changes : Int32} {io_taped : Int32} {io_at : Int32} {io_to : Int32} {io_nest : Int32} {io_readMany : Int32} {io_codeLong : Int32} {io_readLong : Int32} {io_undos : Int32} {io_wentHome : Int32} {io_tideLevel : Int32} {io_acts : Int32} {io_firstBreaks : Int32} {io_bestCrew : Int32} {io_sights : Int32} {io_wayMany : Int32} {io_random : Int32} {co_now : Nat → Int32} {co_isKept : Nat → Int32} {co_keptChanges : Nat → Int32} {co_kept : Nat → Int32} {x1 : Int32} {x2 : Int32} {res : Int32 × Int32 × Int32 × (Nat → Int32)} (C : axC X l D Y cX12_again 3 RX12 wsX12_again rmX12_again (some .boolean)) (hQ : axQ X 0 0 (fun r9 w9 => r9 = (some (.int res.1)) ∧ w9 = [oX12 ao res.2.1 io_rows io_cells io_children io_changes io_taped io_at io_to io_nest io_readMany io_codeLong io_readLong res.2.2.1 io_wentHome io_tideLevel io_acts io_firstBreaks io_bestCrew io_sights io_wayMany io_random, rI Y (ao 8) 43 res.2.2.2, rZ Y (ao 30) 3 co_isKept, rI Y (ao 31) 3 co_keptChanges, rI Y (ao 32) 129 co_kept])) (hf : fX12_again_b43 io_thrown io_changes io_undos co_now co_isKept co_keptChanges co_kept x1 x2 = some res) : ax X 0 0 43 [some (.ref (ao 0)), some (.int x1), some (.int x2)] [oX12 ao io_thrown io_rows io_cells io_children io_changes io_taped io_at io_to io_nest io_readMany io_codeLong io_readLong io_undos io_wentHome io_tideLevel io_acts io_firstBreaks io_bestCrew io_sights io_wayMany io_random, rI Y (ao 8) 43 co_now, rZ Y (ao 30) 3 co_isKept, rI Y (ao 31) 3 co_keptChanges, rI Y (ao 32) 129 co_kept] [] := by
  unfold fX12_again_b43 at hf
  exact fx_loop (P := fun s : (Nat → Int32) × Int32 => ax X 0 0 43 [some (.ref (ao 0)), some (.int x1), some (.int s.2)] [oX12 ao io_thrown io_rows io_cells io_children io_changes io_taped io_at io_to io_nest io_readMany io_codeLong io_readLong io_undos io_wentHome io_tideLevel io_acts io_firstBreaks io_bestCrew io_sights io_wayMany io_random, rI Y (ao 8) 43 s.1, rZ Y (ao 30) 3 co_isKept, rI Y (ao 31) 3 co_keptChanges, rI Y (ao 32) 129 co_kept] []) (fun s k43 hk43 h => kX12_again_l43 C hQ hk43 h) FUEL (co_now, x2) hf
def fX12_again (io_thrown : Int32) (io_changes : Int32) (io_undos : Int32) (co_now : Nat → Int32) (co_isKept : Nat → Int32) (co_keptChanges : Nat → Int32) (co_kept : Nat → Int32) (x1 : Int32) : Option (Int32 × Int32 × Int32 × (Nat → Int32)) :=
  (fX12_in (x1.toInt64) (0 : Int64) (2 : Int64)).bind (fun r4 => if r4 = (0 : Int32) then (fX12_again_b39 (0 : Int32) io_changes io_undos co_now co_isKept co_keptChanges co_kept) else (if inb x1 3 then if (co_isKept (Int32.toNatClampNeg x1)) = (0 : Int32) then (fX12_again_b39 (0 : Int32) io_changes io_undos co_now co_isKept co_keptChanges co_kept) else (if (co_keptChanges (Int32.toNatClampNeg x1)) = io_changes then (fX12_again_b43 (0 : Int32) io_changes io_undos co_now co_isKept co_keptChanges co_kept x1 (0 : Int32)) else (fX12_again_b39 (0 : Int32) io_changes io_undos co_now co_isKept co_keptChanges co_kept)) else none))
set_option maxHeartbeats 400000 in
set_option maxRecDepth 100000 in
theorem kX12_again (l : Launch) (D : va_G) (Y : Nat → ClassId) (ao : Nat → Nat) (io_thrown : Int32) (io_rows : Int32) (io_cells : Int32) (io_children : Int32) (io_changes : Int32) (io_taped : Int32) (io_at : Int32) (io_to : Int32) (io_nest : Int32) (io_readMany : Int32) (io_codeLong : Int32) (io_readLong : Int32) (io_undos : Int32) (io_wentHome : Int32) (io_tideLevel : Int32) (io_acts : Int32) (io_firstBreaks : Int32) (io_bestCrew : Int32) (io_sights : Int32) (io_wayMany : Int32) (io_random : Int32) (co_now : Nat → Int32) (co_isKept : Nat → Int32) (co_keptChanges : Nat → Int32) (co_kept : Nat → Int32) (x1 : Int32) (res : Int32 × Int32 × Int32 × (Nat → Int32)) (hf : fX12_again io_thrown io_changes io_undos co_now co_isKept co_keptChanges co_kept x1 = some res) : amf l D Y yX12_again wsX12_again rmX12_again [.ref (ao 0), .int x1] [oX12 ao io_thrown io_rows io_cells io_children io_changes io_taped io_at io_to io_nest io_readMany io_codeLong io_readLong io_undos io_wentHome io_tideLevel io_acts io_firstBreaks io_bestCrew io_sights io_wayMany io_random, rI Y (ao 8) 43 co_now, rZ Y (ao 30) 3 co_isKept, rI Y (ao 31) 3 co_keptChanges, rI Y (ao 32) 129 co_kept] (some (.int res.1)) [oX12 ao res.2.1 io_rows io_cells io_children io_changes io_taped io_at io_to io_nest io_readMany io_codeLong io_readLong res.2.2.1 io_wentHome io_tideLevel io_acts io_firstBreaks io_bestCrew io_sights io_wayMany io_random, rI Y (ao 8) 43 res.2.2.2, rZ Y (ao 30) 3 co_isKept, rI Y (ao 31) 3 co_keptChanges, rI Y (ao 32) 129 co_kept] := by
  refine amf.of (cc := cX12_again) (maxL := 3) (rt := (some .boolean)) (by decide) rfl RX12 rfl (Nat.le_of_ble_eq_true rfl) [some (.ref (ao 0)), some (.int x1), none] rfl ?_
  intro X C hQ
  unfold fX12_again at hf
  refine a_aload_n C dX12_again_0 rfl ?_
  refine a_iconst C (0 : Int32) dX12_again_1 (by decide) ?_
  refine a_put C eX12_again_112 tfX12_0 dX12_again_2 0 rfl rfl rfl (Nat.le_of_ble_eq_true rfl) ?_
  refine a_iload_n C dX12_again_5 rfl ?_
  refine a_i2l C dX12_again_6 ?_
  refine a_lconst C (0 : Int64) dX12_again_7 (by decide) ?_
  refine a_ldc2 C (2 : Int64) dX12_again_8 eX12_again_k468 ?_
  obtain ⟨r4, h4, hf⟩ := fx_bind hf
  refine a_fS C (kX12_in l D Y (x1.toInt64) (0 : Int64) (2 : Int64) r4 h4) gX12_again_X12_in rfl dvX12_in ⟨⟨rfl, rfl⟩, ⟨Nat.le_of_ble_eq_true rfl, Nat.le_of_ble_eq_true rfl⟩, ⟨Nat.le_of_ble_eq_true rfl, Nat.le_of_ble_eq_true rfl⟩⟩ rfl (Nat.le_of_ble_eq_true rfl) dX12_again_11 [] [0, 1, 2, 3, 4] trivial rfl rfl [oX12 ao (0 : Int32) io_rows io_cells io_children io_changes io_taped io_at io_to io_nest io_readMany io_codeLong io_readLong io_undos io_wentHome io_tideLevel io_acts io_firstBreaks io_bestCrew io_sights io_wayMany io_random, rI Y (ao 8) 43 co_now, rZ Y (ao 30) 3 co_isKept, rI Y (ao 31) 3 co_keptChanges, rI Y (ao 32) 129 co_kept] trivial ⟨rfl, rfl, rfl, rfl, rfl, trivial⟩ rfl ?_
  refine a_if_eq C 39 dX12_again_14 (by decide) (fun h5 => ?_) (fun h5 => ?_)
  · have hf := fx_t h5 hf
    refine a_kill [0, 1] ?_
    exact kX12_again_b39 C hQ hf
  · have hf := fx_f h5 hf
    refine a_aload_n C dX12_again_17 rfl ?_
    refine a_get C eX12_again_102 dX12_again_18 0 rfl rfl ?_
    refine a_iload_n C dX12_again_21 rfl ?_
    obtain ⟨h6, hf⟩ := fx_ite hf
    refine a_zald C dX12_again_22 2 rfl h6 ?_
    refine a_if_eq C 39 dX12_again_23 (by decide) (fun h7 => ?_) (fun h7 => ?_)
    · have hf := fx_t h7 hf
      refine a_kill [0, 1] ?_
      exact kX12_again_b39 C hQ hf
    · have hf := fx_f h7 hf
      refine a_aload_n C dX12_again_26 rfl ?_
      refine a_get C eX12_again_106 dX12_again_27 0 rfl rfl ?_
      refine a_iload_n C dX12_again_30 rfl ?_
      refine a_iald C dX12_again_31 3 rfl h6 ?_
      refine a_aload_n C dX12_again_32 rfl ?_
      refine a_get C eX12_again_194 dX12_again_33 0 rfl rfl ?_
      refine a_icmp_eq C 41 dX12_again_36 (by decide) (fun h8 => ?_) (fun h8 => ?_)
      · have hf := fx_t h8 hf
        refine a_iconst C (0 : Int32) dX12_again_41 (by decide) ?_
        refine a_istore_n C dX12_again_42 (by decide) rfl ?_
        exact kX12_again_b43 C hQ hf
      · have hf := fx_f h8 hf
        refine a_kill [0, 1] ?_
        exact kX12_again_b39 C hQ hf
-- X12_count
abbrev rmX12_count : Room := { frames := 2, cells := 0, slots := 0, locals := 45 }
theorem dvX12_count : yX12_count.cls = RX12 ∧ yX12_count.cls ≠ "java/lang/invoke/MethodHandle" ∧ yX12_count.cls ≠ "java/lang/invoke/VarHandle" ∧ (parseMethodDescriptor yX12_count.desc).map (fun d => d.parameters.length) = some 1 := by decide +kernel
theorem eX12_count_inX12 : ∀ w ∈ wsX120, w ∈ wsX12_count := by decide +kernel
theorem eX12_count_112 : aF wsX12_count RX12 112 12 0 := ⟨RX12, TX12, 53, rfl, eX12_count_inX12, by decide, by decide +kernel⟩
theorem eX12_count_13 : aF wsX12_count RX12 13 12 3 := ⟨RX12, TX12, 53, rfl, eX12_count_inX12, by decide, by decide +kernel⟩
theorem eX12_count_126 : aF wsX12_count RX12 126 12 4 := ⟨RX12, TX12, 53, rfl, eX12_count_inX12, by decide, by decide +kernel⟩
theorem eX12_count_36 : aF wsX12_count RX12 36 12 12 := ⟨RX12, TX12, 53, rfl, eX12_count_inX12, by decide, by decide +kernel⟩
theorem eX12_count_33 : aF wsX12_count RX12 33 12 11 := ⟨RX12, TX12, 53, rfl, eX12_count_inX12, by decide, by decide +kernel⟩
theorem eX12_count_188 : aF wsX12_count RX12 188 12 42 := ⟨RX12, TX12, 53, rfl, eX12_count_inX12, by decide, by decide +kernel⟩
theorem eX12_count_191 : aF wsX12_count RX12 191 12 27 := ⟨RX12, TX12, 53, rfl, eX12_count_inX12, by decide, by decide +kernel⟩
theorem eX12_count_119 : aF wsX12_count RX12 119 12 1 := ⟨RX12, TX12, 53, rfl, eX12_count_inX12, by decide, by decide +kernel⟩
theorem eX12_count_133 : aF wsX12_count RX12 133 12 15 := ⟨RX12, TX12, 53, rfl, eX12_count_inX12, by decide, by decide +kernel⟩
def fX12_count (io_thrown : Int32) (io_rows : Int32) (io_cells : Int32) (io_children : Int32) (io_taped : Int32) (io_undos : Int32) (io_sights : Int32) (co_fixed : Nat → Int32) (co_now : Nat → Int32) (x1 : Int32) : Option (Int32 × Int32) :=
  if x1 = (0 : Int32) then (some (io_cells, (0 : Int32))) else if x1 = (1 : Int32) then (some (io_children, (0 : Int32))) else if x1 = (2 : Int32) then (if inb (42 : Int32) 43 then some ((co_now (Int32.toNatClampNeg (42 : Int32))), (0 : Int32)) else none) else if x1 = (3 : Int32) then (if inb (0 : Int32) 2 then some ((co_fixed (Int32.toNatClampNeg (0 : Int32))), (0 : Int32)) else none) else if x1 = (4 : Int32) then (if inb (1 : Int32) 2 then some ((co_fixed (Int32.toNatClampNeg (1 : Int32))), (0 : Int32)) else none) else if x1 = (5 : Int32) then (if inb (41 : Int32) 43 then some ((co_now (Int32.toNatClampNeg (41 : Int32))), (0 : Int32)) else none) else if x1 = (6 : Int32) then (if inb (12 : Int32) 43 then some ((co_now (Int32.toNatClampNeg (12 : Int32))), (0 : Int32)) else none) else if x1 = (7 : Int32) then ((fX12_wet io_cells co_now).bind (fun r14 => some (r14, (0 : Int32)))) else if x1 = (8 : Int32) then ((fX12_childrenAt io_children co_now (-1 : Int32)).bind (fun r16 => some (r16, (0 : Int32)))) else if x1 = (9 : Int32) then ((fX12_wallAll io_cells co_now).bind (fun r18 => some (r18, (0 : Int32)))) else if x1 = (10 : Int32) then (some (io_sights, (0 : Int32))) else if x1 = (11 : Int32) then (some (io_undos, (0 : Int32))) else if x1 = (12 : Int32) then (some (io_rows, (0 : Int32))) else if x1 = (13 : Int32) then (some (io_taped, (0 : Int32))) else (some ((-100 : Int32), (0 : Int32)))
set_option maxHeartbeats 400000 in
set_option maxRecDepth 100000 in
theorem kX12_count (l : Launch) (D : va_G) (Y : Nat → ClassId) (ao : Nat → Nat) (io_thrown : Int32) (io_rows : Int32) (io_cells : Int32) (io_children : Int32) (io_changes : Int32) (io_taped : Int32) (io_at : Int32) (io_to : Int32) (io_nest : Int32) (io_readMany : Int32) (io_codeLong : Int32) (io_readLong : Int32) (io_undos : Int32) (io_wentHome : Int32) (io_tideLevel : Int32) (io_acts : Int32) (io_firstBreaks : Int32) (io_bestCrew : Int32) (io_sights : Int32) (io_wayMany : Int32) (io_random : Int32) (co_fixed : Nat → Int32) (co_now : Nat → Int32) (x1 : Int32) (res : Int32 × Int32) (hf : fX12_count io_thrown io_rows io_cells io_children io_taped io_undos io_sights co_fixed co_now x1 = some res) : amf l D Y yX12_count wsX12_count rmX12_count [.ref (ao 0), .int x1] [oX12 ao io_thrown io_rows io_cells io_children io_changes io_taped io_at io_to io_nest io_readMany io_codeLong io_readLong io_undos io_wentHome io_tideLevel io_acts io_firstBreaks io_bestCrew io_sights io_wayMany io_random, rI Y (ao 7) 2 co_fixed, rI Y (ao 8) 43 co_now] (some (.int res.1)) [oX12 ao res.2 io_rows io_cells io_children io_changes io_taped io_at io_to io_nest io_readMany io_codeLong io_readLong io_undos io_wentHome io_tideLevel io_acts io_firstBreaks io_bestCrew io_sights io_wayMany io_random, rI Y (ao 7) 2 co_fixed, rI Y (ao 8) 43 co_now] := by
  refine amf.of (cc := cX12_count) (maxL := 2) (rt := (some .int)) (by decide) rfl RX12 rfl (Nat.le_of_ble_eq_true rfl) [some (.ref (ao 0)), some (.int x1)] rfl ?_
  intro X C hQ
  unfold fX12_count at hf
  refine a_aload_n C dX12_count_0 rfl ?_
  refine a_iconst C (0 : Int32) dX12_count_1 (by decide) ?_
  refine a_put C eX12_count_112 tfX12_0 dX12_count_2 0 rfl rfl rfl (Nat.le_of_ble_eq_true rfl) ?_
  refine a_iload_n C dX12_count_5 rfl ?_
  by_cases h1 : x1 = (0 : Int32)
  · have hf := fx_t h1 hf
    refine a_tableIn (off := 70) C 76 dX12_count_6 (by rw [h1]; decide) (by rw [h1]; decide) (by rw [h1]; first | done | rfl | decide) (by decide) ?_
    refine a_aload_n C dX12_count_76 rfl ?_
    refine a_get C eX12_count_13 dX12_count_77 0 rfl rfl ?_
    obtain rfl := fx_some hf
    exact a_iret C hQ dX12_count_80 ⟨rfl, rfl⟩
  have hf := fx_f h1 hf
  by_cases h2 : x1 = (1 : Int32)
  · have hf := fx_t h2 hf
    refine a_tableIn (off := 75) C 81 dX12_count_6 (by rw [h2]; decide) (by rw [h2]; decide) (by rw [h2]; first | done | rfl | decide) (by decide) ?_
    refine a_aload_n C dX12_count_81 rfl ?_
    refine a_get C eX12_count_126 dX12_count_82 0 rfl rfl ?_
    obtain rfl := fx_some hf
    exact a_iret C hQ dX12_count_85 ⟨rfl, rfl⟩
  have hf := fx_f h2 hf
  by_cases h3 : x1 = (2 : Int32)
  · have hf := fx_t h3 hf
    refine a_tableIn (off := 80) C 86 dX12_count_6 (by rw [h3]; decide) (by rw [h3]; decide) (by rw [h3]; first | done | rfl | decide) (by decide) ?_
    refine a_aload_n C dX12_count_86 rfl ?_
    refine a_get C eX12_count_36 dX12_count_87 0 rfl rfl ?_
    refine a_bipush C (42 : Int32) dX12_count_90 (by decide) ?_
    obtain ⟨h4, hf⟩ := fx_ite hf
    refine a_iald C dX12_count_92 2 rfl h4 ?_
    obtain rfl := fx_some hf
    exact a_iret C hQ dX12_count_93 ⟨rfl, rfl⟩
  have hf := fx_f h3 hf
  by_cases h5 : x1 = (3 : Int32)
  · have hf := fx_t h5 hf
    refine a_tableIn (off := 88) C 94 dX12_count_6 (by rw [h5]; decide) (by rw [h5]; decide) (by rw [h5]; first | done | rfl | decide) (by decide) ?_
    refine a_aload_n C dX12_count_94 rfl ?_
    refine a_get C eX12_count_33 dX12_count_95 0 rfl rfl ?_
    refine a_iconst C (0 : Int32) dX12_count_98 (by decide) ?_
    obtain ⟨h6, hf⟩ := fx_ite hf
    refine a_iald C dX12_count_99 1 rfl h6 ?_
    obtain rfl := fx_some hf
    exact a_iret C hQ dX12_count_100 ⟨rfl, rfl⟩
  have hf := fx_f h5 hf
  by_cases h7 : x1 = (4 : Int32)
  · have hf := fx_t h7 hf
    refine a_tableIn (off := 95) C 101 dX12_count_6 (by rw [h7]; decide) (by rw [h7]; decide) (by rw [h7]; first | done | rfl | decide) (by decide) ?_
    refine a_aload_n C dX12_count_101 rfl ?_
    refine a_get C eX12_count_33 dX12_count_102 0 rfl rfl ?_
    refine a_iconst C (1 : Int32) dX12_count_105 (by decide) ?_
    obtain ⟨h8, hf⟩ := fx_ite hf
    refine a_iald C dX12_count_106 1 rfl h8 ?_
    obtain rfl := fx_some hf
    exact a_iret C hQ dX12_count_107 ⟨rfl, rfl⟩
  have hf := fx_f h7 hf
  by_cases h9 : x1 = (5 : Int32)
  · have hf := fx_t h9 hf
    refine a_tableIn (off := 102) C 108 dX12_count_6 (by rw [h9]; decide) (by rw [h9]; decide) (by rw [h9]; first | done | rfl | decide) (by decide) ?_
    refine a_aload_n C dX12_count_108 rfl ?_
    refine a_get C eX12_count_36 dX12_count_109 0 rfl rfl ?_
    refine a_bipush C (41 : Int32) dX12_count_112 (by decide) ?_
    obtain ⟨h10, hf⟩ := fx_ite hf
    refine a_iald C dX12_count_114 2 rfl h10 ?_
    obtain rfl := fx_some hf
    exact a_iret C hQ dX12_count_115 ⟨rfl, rfl⟩
  have hf := fx_f h9 hf
  by_cases h11 : x1 = (6 : Int32)
  · have hf := fx_t h11 hf
    refine a_tableIn (off := 110) C 116 dX12_count_6 (by rw [h11]; decide) (by rw [h11]; decide) (by rw [h11]; first | done | rfl | decide) (by decide) ?_
    refine a_aload_n C dX12_count_116 rfl ?_
    refine a_get C eX12_count_36 dX12_count_117 0 rfl rfl ?_
    refine a_bipush C (12 : Int32) dX12_count_120 (by decide) ?_
    obtain ⟨h12, hf⟩ := fx_ite hf
    refine a_iald C dX12_count_122 2 rfl h12 ?_
    obtain rfl := fx_some hf
    exact a_iret C hQ dX12_count_123 ⟨rfl, rfl⟩
  have hf := fx_f h11 hf
  by_cases h13 : x1 = (7 : Int32)
  · have hf := fx_t h13 hf
    refine a_tableIn (off := 118) C 124 dX12_count_6 (by rw [h13]; decide) (by rw [h13]; decide) (by rw [h13]; first | done | rfl | decide) (by decide) ?_
    refine a_aload_n C dX12_count_124 rfl ?_
    refine a_aload_n C dX12_count_125 rfl ?_
    refine a_get C eX12_count_36 dX12_count_126 0 rfl rfl ?_
    obtain ⟨r14, h14, hf⟩ := fx_bind hf
    refine a_fV C (kX12_wet l D Y ao (ao 8) (0 : Int32) io_rows io_cells io_children io_changes io_taped io_at io_to io_nest io_readMany io_codeLong io_readLong io_undos io_wentHome io_tideLevel io_acts io_firstBreaks io_bestCrew io_sights io_wayMany io_random co_now r14 h14) gX12_count_X12_wet rfl dvX12_wet ⟨⟨rfl, rfl⟩, ⟨Nat.le_of_ble_eq_true rfl, Nat.le_of_ble_eq_true rfl⟩, ⟨Nat.le_of_ble_eq_true rfl, Nat.le_of_ble_eq_true rfl⟩⟩ rfl (Nat.le_of_ble_eq_true rfl) dX12_count_129 rfl rfl [0, 2] [1] ⟨rfl, rfl, trivial⟩ rfl rfl [oX12 ao (0 : Int32) io_rows io_cells io_children io_changes io_taped io_at io_to io_nest io_readMany io_codeLong io_readLong io_undos io_wentHome io_tideLevel io_acts io_firstBreaks io_bestCrew io_sights io_wayMany io_random, rI Y (ao 7) 2 co_fixed, rI Y (ao 8) 43 co_now] ⟨rfl, rfl, trivial⟩ ⟨rfl, trivial⟩ rfl ?_
    obtain rfl := fx_some hf
    exact a_iret C hQ dX12_count_132 ⟨rfl, rfl⟩
  have hf := fx_f h13 hf
  by_cases h15 : x1 = (8 : Int32)
  · have hf := fx_t h15 hf
    refine a_tableIn (off := 127) C 133 dX12_count_6 (by rw [h15]; decide) (by rw [h15]; decide) (by rw [h15]; first | done | rfl | decide) (by decide) ?_
    refine a_aload_n C dX12_count_133 rfl ?_
    refine a_aload_n C dX12_count_134 rfl ?_
    refine a_get C eX12_count_36 dX12_count_135 0 rfl rfl ?_
    refine a_iconst C (-1 : Int32) dX12_count_138 (by decide) ?_
    obtain ⟨r16, h16, hf⟩ := fx_bind hf
    refine a_fV C (kX12_childrenAt l D Y ao (ao 8) (0 : Int32) io_rows io_cells io_children io_changes io_taped io_at io_to io_nest io_readMany io_codeLong io_readLong io_undos io_wentHome io_tideLevel io_acts io_firstBreaks io_bestCrew io_sights io_wayMany io_random co_now (-1 : Int32) r16 h16) gX12_count_X12_childrenAt rfl dvX12_childrenAt ⟨⟨rfl, rfl⟩, ⟨Nat.le_of_ble_eq_true rfl, Nat.le_of_ble_eq_true rfl⟩, ⟨Nat.le_of_ble_eq_true rfl, Nat.le_of_ble_eq_true rfl⟩⟩ rfl (Nat.le_of_ble_eq_true rfl) dX12_count_139 rfl rfl [0, 2] [1] ⟨rfl, rfl, trivial⟩ rfl rfl [oX12 ao (0 : Int32) io_rows io_cells io_children io_changes io_taped io_at io_to io_nest io_readMany io_codeLong io_readLong io_undos io_wentHome io_tideLevel io_acts io_firstBreaks io_bestCrew io_sights io_wayMany io_random, rI Y (ao 7) 2 co_fixed, rI Y (ao 8) 43 co_now] ⟨rfl, rfl, trivial⟩ ⟨rfl, trivial⟩ rfl ?_
    obtain rfl := fx_some hf
    exact a_iret C hQ dX12_count_142 ⟨rfl, rfl⟩
  have hf := fx_f h15 hf
  by_cases h17 : x1 = (9 : Int32)
  · have hf := fx_t h17 hf
    refine a_tableIn (off := 137) C 143 dX12_count_6 (by rw [h17]; decide) (by rw [h17]; decide) (by rw [h17]; first | done | rfl | decide) (by decide) ?_
    refine a_aload_n C dX12_count_143 rfl ?_
    refine a_aload_n C dX12_count_144 rfl ?_
    refine a_get C eX12_count_36 dX12_count_145 0 rfl rfl ?_
    obtain ⟨r18, h18, hf⟩ := fx_bind hf
    refine a_fV C (kX12_wallAll l D Y ao (ao 8) (0 : Int32) io_rows io_cells io_children io_changes io_taped io_at io_to io_nest io_readMany io_codeLong io_readLong io_undos io_wentHome io_tideLevel io_acts io_firstBreaks io_bestCrew io_sights io_wayMany io_random co_now r18 h18) gX12_count_X12_wallAll rfl dvX12_wallAll ⟨⟨rfl, rfl⟩, ⟨Nat.le_of_ble_eq_true rfl, Nat.le_of_ble_eq_true rfl⟩, ⟨Nat.le_of_ble_eq_true rfl, Nat.le_of_ble_eq_true rfl⟩⟩ rfl (Nat.le_of_ble_eq_true rfl) dX12_count_148 rfl rfl [0, 2] [1] ⟨rfl, rfl, trivial⟩ rfl rfl [oX12 ao (0 : Int32) io_rows io_cells io_children io_changes io_taped io_at io_to io_nest io_readMany io_codeLong io_readLong io_undos io_wentHome io_tideLevel io_acts io_firstBreaks io_bestCrew io_sights io_wayMany io_random, rI Y (ao 7) 2 co_fixed, rI Y (ao 8) 43 co_now] ⟨rfl, rfl, trivial⟩ ⟨rfl, trivial⟩ rfl ?_
    obtain rfl := fx_some hf
    exact a_iret C hQ dX12_count_151 ⟨rfl, rfl⟩
  have hf := fx_f h17 hf
  by_cases h19 : x1 = (10 : Int32)
  · have hf := fx_t h19 hf
    refine a_tableIn (off := 146) C 152 dX12_count_6 (by rw [h19]; decide) (by rw [h19]; decide) (by rw [h19]; first | done | rfl | decide) (by decide) ?_
    refine a_aload_n C dX12_count_152 rfl ?_
    refine a_get C eX12_count_188 dX12_count_153 0 rfl rfl ?_
    obtain rfl := fx_some hf
    exact a_iret C hQ dX12_count_156 ⟨rfl, rfl⟩
  have hf := fx_f h19 hf
  by_cases h20 : x1 = (11 : Int32)
  · have hf := fx_t h20 hf
    refine a_tableIn (off := 151) C 157 dX12_count_6 (by rw [h20]; decide) (by rw [h20]; decide) (by rw [h20]; first | done | rfl | decide) (by decide) ?_
    refine a_aload_n C dX12_count_157 rfl ?_
    refine a_get C eX12_count_191 dX12_count_158 0 rfl rfl ?_
    obtain rfl := fx_some hf
    exact a_iret C hQ dX12_count_161 ⟨rfl, rfl⟩
  have hf := fx_f h20 hf
  by_cases h21 : x1 = (12 : Int32)
  · have hf := fx_t h21 hf
    refine a_tableIn (off := 156) C 162 dX12_count_6 (by rw [h21]; decide) (by rw [h21]; decide) (by rw [h21]; first | done | rfl | decide) (by decide) ?_
    refine a_aload_n C dX12_count_162 rfl ?_
    refine a_get C eX12_count_119 dX12_count_163 0 rfl rfl ?_
    obtain rfl := fx_some hf
    exact a_iret C hQ dX12_count_166 ⟨rfl, rfl⟩
  have hf := fx_f h21 hf
  by_cases h22 : x1 = (13 : Int32)
  · have hf := fx_t h22 hf
    refine a_tableIn (off := 161) C 167 dX12_count_6 (by rw [h22]; decide) (by rw [h22]; decide) (by rw [h22]; first | done | rfl | decide) (by decide) ?_
    refine a_aload_n C dX12_count_167 rfl ?_
    refine a_get C eX12_count_133 dX12_count_168 0 rfl rfl ?_
    obtain rfl := fx_some hf
    exact a_iret C hQ dX12_count_171 ⟨rfl, rfl⟩
  have hf := fx_f h22 hf
  refine a_tableOut C 172 dX12_count_6 (by have z0 := lv_neT (a := 0) h1 (by decide); have z1 := lv_neT (a := 1) h2 (by decide); have z2 := lv_neT (a := 2) h3 (by decide); have z3 := lv_neT (a := 3) h5 (by decide); have z4 := lv_neT (a := 4) h7 (by decide); have z5 := lv_neT (a := 5) h9 (by decide); have z6 := lv_neT (a := 6) h11 (by decide); have z7 := lv_neT (a := 7) h13 (by decide); have z8 := lv_neT (a := 8) h15 (by decide); have z9 := lv_neT (a := 9) h17 (by decide); have z10 := lv_neT (a := 10) h19 (by decide); have z11 := lv_neT (a := 11) h20 (by decide); have z12 := lv_neT (a := 12) h21 (by decide); have z13 := lv_neT (a := 13) h22 (by decide); omega) (by decide) ?_
  refine a_bipush C (-100 : Int32) dX12_count_172 (by decide) ?_
  obtain rfl := fx_some hf
  exact a_iret C hQ dX12_count_174 ⟨rfl, rfl⟩
-- X12_row
abbrev rmX12_row : Room := { frames := 1, cells := 0, slots := 0, locals := 25 }
theorem dvX12_row : yX12_row.cls = RX12 ∧ yX12_row.cls ≠ "java/lang/invoke/MethodHandle" ∧ yX12_row.cls ≠ "java/lang/invoke/VarHandle" ∧ (parseMethodDescriptor yX12_row.desc).map (fun d => d.parameters.length) = some 1 := by decide +kernel
theorem eX12_row_inX12 : ∀ w ∈ wsX120, w ∈ wsX12_row := by decide +kernel
theorem eX12_row_112 : aF wsX12_row RX12 112 12 0 := ⟨RX12, TX12, 53, rfl, eX12_row_inX12, by decide, by decide +kernel⟩
theorem eX12_row_119 : aF wsX12_row RX12 119 12 1 := ⟨RX12, TX12, 53, rfl, eX12_row_inX12, by decide, by decide +kernel⟩
theorem eX12_row_9 : aF wsX12_row RX12 9 12 2 := ⟨RX12, TX12, 53, rfl, eX12_row_inX12, by decide, by decide +kernel⟩
def fX12_row (io_thrown : Int32) (io_rows : Int32) (co_row : Nat → Int64) (x1 : Int32) : Option (Int64 × Int32) :=
  (fX12_in (x1.toInt64) (0 : Int64) ((io_rows - (1 : Int32)).toInt64)).bind (fun r1 => if r1 = (0 : Int32) then (some ((0 : Int64), (1 : Int32))) else (if inb x1 24 then some ((co_row (Int32.toNatClampNeg x1)), (0 : Int32)) else none))
set_option maxHeartbeats 400000 in
set_option maxRecDepth 100000 in
theorem kX12_row (l : Launch) (D : va_G) (Y : Nat → ClassId) (ao : Nat → Nat) (io_thrown : Int32) (io_rows : Int32) (io_cells : Int32) (io_children : Int32) (io_changes : Int32) (io_taped : Int32) (io_at : Int32) (io_to : Int32) (io_nest : Int32) (io_readMany : Int32) (io_codeLong : Int32) (io_readLong : Int32) (io_undos : Int32) (io_wentHome : Int32) (io_tideLevel : Int32) (io_acts : Int32) (io_firstBreaks : Int32) (io_bestCrew : Int32) (io_sights : Int32) (io_wayMany : Int32) (io_random : Int32) (co_row : Nat → Int64) (x1 : Int32) (res : Int64 × Int32) (hf : fX12_row io_thrown io_rows co_row x1 = some res) : amf l D Y yX12_row wsX12_row rmX12_row [.ref (ao 0), .int x1] [oX12 ao io_thrown io_rows io_cells io_children io_changes io_taped io_at io_to io_nest io_readMany io_codeLong io_readLong io_undos io_wentHome io_tideLevel io_acts io_firstBreaks io_bestCrew io_sights io_wayMany io_random, rJ Y (ao 1) 24 co_row] (some (.long res.1)) [oX12 ao res.2 io_rows io_cells io_children io_changes io_taped io_at io_to io_nest io_readMany io_codeLong io_readLong io_undos io_wentHome io_tideLevel io_acts io_firstBreaks io_bestCrew io_sights io_wayMany io_random, rJ Y (ao 1) 24 co_row] := by
  refine amf.of (cc := cX12_row) (maxL := 2) (rt := (some .long)) (by decide) rfl RX12 rfl (Nat.le_of_ble_eq_true rfl) [some (.ref (ao 0)), some (.int x1)] rfl ?_
  intro X C hQ
  unfold fX12_row at hf
  refine a_aload_n C dX12_row_0 rfl ?_
  refine a_iconst C (0 : Int32) dX12_row_1 (by decide) ?_
  refine a_put C eX12_row_112 tfX12_0 dX12_row_2 0 rfl rfl rfl (Nat.le_of_ble_eq_true rfl) ?_
  refine a_iload_n C dX12_row_5 rfl ?_
  refine a_i2l C dX12_row_6 ?_
  refine a_lconst C (0 : Int64) dX12_row_7 (by decide) ?_
  refine a_aload_n C dX12_row_8 rfl ?_
  refine a_get C eX12_row_119 dX12_row_9 0 rfl rfl ?_
  refine a_iconst C (1 : Int32) dX12_row_12 (by decide) ?_
  refine a_isub C dX12_row_13 ?_
  refine a_i2l C dX12_row_14 ?_
  obtain ⟨r1, h1, hf⟩ := fx_bind hf
  refine a_fS C (kX12_in l D Y (x1.toInt64) (0 : Int64) ((io_rows - (1 : Int32)).toInt64) r1 h1) gX12_row_X12_in rfl dvX12_in ⟨⟨rfl, rfl⟩, ⟨Nat.le_of_ble_eq_true rfl, Nat.le_of_ble_eq_true rfl⟩, ⟨Nat.le_of_ble_eq_true rfl, Nat.le_of_ble_eq_true rfl⟩⟩ rfl (Nat.le_of_ble_eq_true rfl) dX12_row_15 [] [0, 1] trivial rfl rfl [oX12 ao (0 : Int32) io_rows io_cells io_children io_changes io_taped io_at io_to io_nest io_readMany io_codeLong io_readLong io_undos io_wentHome io_tideLevel io_acts io_firstBreaks io_bestCrew io_sights io_wayMany io_random, rJ Y (ao 1) 24 co_row] trivial ⟨rfl, rfl, trivial⟩ rfl ?_
  refine a_if_ne C 28 dX12_row_18 (by decide) (fun h2 => ?_) (fun h2 => ?_)
  · have hf := fx_f h2 hf
    refine a_aload_n C dX12_row_28 rfl ?_
    refine a_get C eX12_row_9 dX12_row_29 0 rfl rfl ?_
    refine a_iload_n C dX12_row_32 rfl ?_
    obtain ⟨h3, hf⟩ := fx_ite hf
    refine a_lald C dX12_row_33 1 rfl h3 ?_
    obtain rfl := fx_some hf
    exact a_lret C hQ dX12_row_34 ⟨rfl, rfl⟩
  · have hf := fx_t h2 hf
    refine a_aload_n C dX12_row_21 rfl ?_
    refine a_iconst C (1 : Int32) dX12_row_22 (by decide) ?_
    refine a_put C eX12_row_112 tfX12_0 dX12_row_23 0 rfl rfl rfl (Nat.le_of_ble_eq_true rfl) ?_
    refine a_lconst C (0 : Int64) dX12_row_26 (by decide) ?_
    obtain rfl := fx_some hf
    exact a_lret C hQ dX12_row_27 ⟨rfl, rfl⟩
