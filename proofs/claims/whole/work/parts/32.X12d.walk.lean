-- X12_builds
abbrev rmX12_builds : Room := { frames := 5, cells := 0, slots := 0, locals := 114 }
theorem dvX12_builds : yX12_builds.cls = RX12 ∧ yX12_builds.cls ≠ "java/lang/invoke/MethodHandle" ∧ yX12_builds.cls ≠ "java/lang/invoke/VarHandle" ∧ (parseMethodDescriptor yX12_builds.desc).map (fun d => d.parameters.length) = some 2 := by decide +kernel
def fX12_builds_b18 (io_cells : Int32) (io_children : Int32) (io_wentHome : Int32) (co_age : Nat → Int32) (co_skill : Nat → Int32) (co_friend : Nat → Int32) (co_gets : Nat → Int32) (cp1 : Nat → Int32) : Option (Int32 × (Nat → Int32) × (Nat → Int32)) :=
  some (io_wentHome, co_gets, cp1)
set_option maxHeartbeats 400000 in
set_option maxRecDepth 100000 in
theorem kX12_builds_b18 {X : cxT} {l : Launch} {D : va_G} {Y : Nat → ClassId} {ao : Nat → Nat} {qp1 : Nat} {io_thrown : Int32} {io_rows : Int32} {io_cells : Int32} {io_children : Int32} {io_changes : Int32} {io_taped : Int32} {io_at : Int32} {io_to : Int32} {io_nest : Int32} {io_readMany : Int32} {io_codeLong : Int32} {io_readLong : Int32} {io_undos : Int32} {io_wentHome : Int32} {io_tideLevel : Int32} {io_acts : Int32} {io_firstBreaks : Int32} {io_bestCrew : Int32} {io_sights : Int32} {io_wayMany : Int32} {io_random : Int32} {co_age : Nat → Int32} {co_skill : Nat → Int32} {co_friend : Nat → Int32} {co_gets : Nat → Int32} {cp1 : Nat → Int32} {res : Int32 × (Nat → Int32) × (Nat → Int32)} (C : axC X l D Y cX12_builds 4 RX12 wsX12_builds rmX12_builds none) (hQ : axQ X 0 0 (fun r9 w9 => r9 = none ∧ w9 = [oX12 ao io_thrown io_rows io_cells io_children io_changes io_taped io_at io_to io_nest io_readMany io_codeLong io_readLong io_undos res.1 io_tideLevel io_acts io_firstBreaks io_bestCrew io_sights io_wayMany io_random, rI Y (ao 4) 8 co_age, rI Y (ao 5) 8 co_skill, rI Y (ao 6) 8 co_friend, rI Y (ao 17) 12 res.2.1, rI Y qp1 43 res.2.2])) (hf : fX12_builds_b18 io_cells io_children io_wentHome co_age co_skill co_friend co_gets cp1 = some res) : ax X 0 0 18 [none, none, none, none] [oX12 ao io_thrown io_rows io_cells io_children io_changes io_taped io_at io_to io_nest io_readMany io_codeLong io_readLong io_undos io_wentHome io_tideLevel io_acts io_firstBreaks io_bestCrew io_sights io_wayMany io_random, rI Y (ao 4) 8 co_age, rI Y (ao 5) 8 co_skill, rI Y (ao 6) 8 co_friend, rI Y (ao 17) 12 co_gets, rI Y qp1 43 cp1] [] := by
  unfold fX12_builds_b18 at hf
  obtain rfl := fx_some hf
  exact a_vret C hQ dX12_builds_18 ⟨rfl, rfl⟩
def fX12_builds_l2 (io_cells : Int32) (io_children : Int32) (co_age : Nat → Int32) (co_skill : Nat → Int32) (co_friend : Nat → Int32) (x2 : Int32) (k2 : Int32 × (Nat → Int32) × (Nat → Int32) × Int32 → Option (Int32 × (Nat → Int32) × (Nat → Int32))) (io_wentHome : Int32) (co_gets : Nat → Int32) (cp1 : Nat → Int32) (x3 : Int32) : Option (Int32 × (Nat → Int32) × (Nat → Int32)) :=
  if x2 ≤ x3 then (fX12_builds_b18 io_cells io_children io_wentHome co_age co_skill co_friend co_gets cp1) else ((fX12_spellGoes io_cells io_children io_wentHome co_age co_skill co_friend co_gets cp1).bind (fun r2 => k2 (r2.1, r2.2.1, r2.2.2, (x3 + (1 : Int32)))))
def fX12_builds_b2 (io_cells : Int32) (io_children : Int32) (io_wentHome : Int32) (co_age : Nat → Int32) (co_skill : Nat → Int32) (co_friend : Nat → Int32) (co_gets : Nat → Int32) (cp1 : Nat → Int32) (x2 : Int32) (x3 : Int32) : Option (Int32 × (Nat → Int32) × (Nat → Int32)) :=
  loopN (fun (s : Int32 × (Nat → Int32) × (Nat → Int32) × Int32) k2 => fX12_builds_l2 io_cells io_children co_age co_skill co_friend x2 k2 s.1 s.2.1 s.2.2.1 s.2.2.2) FUEL (io_wentHome, co_gets, cp1, x3)
set_option maxHeartbeats 400000 in
set_option maxRecDepth 100000 in
theorem kX12_builds_l2 {X : cxT} {l : Launch} {D : va_G} {Y : Nat → ClassId} {ao : Nat → Nat} {qp1 : Nat} {io_thrown : Int32} {io_rows : Int32} {io_cells : Int32} {io_children : Int32} {io_changes : Int32} {io_taped : Int32} {io_at : Int32} {io_to : Int32} {io_nest : Int32} {io_readMany : Int32} {io_codeLong : Int32} {io_readLong : Int32} {io_undos : Int32} {io_wentHome : Int32} {io_tideLevel : Int32} {io_acts : Int32} {io_firstBreaks : Int32} {io_bestCrew : Int32} {io_sights : Int32} {io_wayMany : Int32} {io_random : Int32} {co_age : Nat → Int32} {co_skill : Nat → Int32} {co_friend : Nat → Int32} {co_gets : Nat → Int32} {cp1 : Nat → Int32} {x2 : Int32} {x3 : Int32} {res : Int32 × (Nat → Int32) × (Nat → Int32)} (C : axC X l D Y cX12_builds 4 RX12 wsX12_builds rmX12_builds none) (hQ : axQ X 0 0 (fun r9 w9 => r9 = none ∧ w9 = [oX12 ao io_thrown io_rows io_cells io_children io_changes io_taped io_at io_to io_nest io_readMany io_codeLong io_readLong io_undos res.1 io_tideLevel io_acts io_firstBreaks io_bestCrew io_sights io_wayMany io_random, rI Y (ao 4) 8 co_age, rI Y (ao 5) 8 co_skill, rI Y (ao 6) 8 co_friend, rI Y (ao 17) 12 res.2.1, rI Y qp1 43 res.2.2])) {k2 : Int32 × (Nat → Int32) × (Nat → Int32) × Int32 → Option (Int32 × (Nat → Int32) × (Nat → Int32))} (hk2 : ∀ s : Int32 × (Nat → Int32) × (Nat → Int32) × Int32, k2 s = some res → ax X 0 0 2 [some (.ref (ao 0)), some (.ref qp1), some (.int x2), some (.int s.2.2.2)] [oX12 ao io_thrown io_rows io_cells io_children io_changes io_taped io_at io_to io_nest io_readMany io_codeLong io_readLong io_undos s.1 io_tideLevel io_acts io_firstBreaks io_bestCrew io_sights io_wayMany io_random, rI Y (ao 4) 8 co_age, rI Y (ao 5) 8 co_skill, rI Y (ao 6) 8 co_friend, rI Y (ao 17) 12 s.2.1, rI Y qp1 43 s.2.2.1] []) (hf : fX12_builds_l2 io_cells io_children co_age co_skill co_friend x2 k2 io_wentHome co_gets cp1 x3 = some res) : ax X 0 0 2 [some (.ref (ao 0)), some (.ref qp1), some (.int x2), some (.int x3)] [oX12 ao io_thrown io_rows io_cells io_children io_changes io_taped io_at io_to io_nest io_readMany io_codeLong io_readLong io_undos io_wentHome io_tideLevel io_acts io_firstBreaks io_bestCrew io_sights io_wayMany io_random, rI Y (ao 4) 8 co_age, rI Y (ao 5) 8 co_skill, rI Y (ao 6) 8 co_friend, rI Y (ao 17) 12 co_gets, rI Y qp1 43 cp1] [] := by
  unfold fX12_builds_l2 at hf
  refine a_iload_n C dX12_builds_2 rfl ?_
  refine a_iload_n C dX12_builds_3 rfl ?_
  refine a_icmp_ge C 18 dX12_builds_4 (by decide) (fun h1 => ?_) (fun h1 => ?_)
  · have hf := fx_t h1 hf
    refine a_kill [0, 1, 2, 3] ?_
    exact kX12_builds_b18 C hQ hf
  · have hf := fx_f h1 hf
    refine a_aload_n C dX12_builds_7 rfl ?_
    refine a_aload_n C dX12_builds_8 rfl ?_
    obtain ⟨r2, h2, hf⟩ := fx_bind hf
    refine a_fV C (kX12_spellGoes l D Y ao qp1 io_thrown io_rows io_cells io_children io_changes io_taped io_at io_to io_nest io_readMany io_codeLong io_readLong io_undos io_wentHome io_tideLevel io_acts io_firstBreaks io_bestCrew io_sights io_wayMany io_random co_age co_skill co_friend co_gets cp1 r2 h2) (gB_X12_312 _) rfl dvX12_spellGoes ⟨⟨rfl, rfl⟩, ⟨Nat.le_of_ble_eq_true rfl, Nat.le_of_ble_eq_true rfl⟩, ⟨Nat.le_of_ble_eq_true rfl, Nat.le_of_ble_eq_true rfl⟩⟩ rfl (Nat.le_of_ble_eq_true rfl) dX12_builds_9 rfl rfl [0, 1, 2, 3, 4, 5] [] ⟨rfl, rfl, rfl, rfl, rfl, rfl, trivial⟩ (by decide +kernel) rfl [oX12 ao io_thrown io_rows io_cells io_children io_changes io_taped io_at io_to io_nest io_readMany io_codeLong io_readLong io_undos r2.1 io_tideLevel io_acts io_firstBreaks io_bestCrew io_sights io_wayMany io_random, rI Y (ao 4) 8 co_age, rI Y (ao 5) 8 co_skill, rI Y (ao 6) 8 co_friend, rI Y (ao 17) 12 r2.2.1, rI Y qp1 43 r2.2.2] ⟨rfl, rfl, rfl, rfl, rfl, rfl, trivial⟩ trivial 6 rfl (by decide +kernel) ?_
    refine a_iinc C (1 : Int32) dX12_builds_12 (by decide) rfl (by decide) rfl ?_
    refine a_goto C 2 dX12_builds_15 (by decide) ?_
    exact hk2 (r2.1, r2.2.1, r2.2.2, (x3 + (1 : Int32))) hf
set_option maxHeartbeats 400000 in
set_option maxRecDepth 100000 in
theorem kX12_builds_b2 {X : cxT} {l : Launch} {D : va_G} {Y : Nat → ClassId} {ao : Nat → Nat} {qp1 : Nat} {io_thrown : Int32} {io_rows : Int32} {io_cells : Int32} {io_children : Int32} {io_changes : Int32} {io_taped : Int32} {io_at : Int32} {io_to : Int32} {io_nest : Int32} {io_readMany : Int32} {io_codeLong : Int32} {io_readLong : Int32} {io_undos : Int32} {io_wentHome : Int32} {io_tideLevel : Int32} {io_acts : Int32} {io_firstBreaks : Int32} {io_bestCrew : Int32} {io_sights : Int32} {io_wayMany : Int32} {io_random : Int32} {co_age : Nat → Int32} {co_skill : Nat → Int32} {co_friend : Nat → Int32} {co_gets : Nat → Int32} {cp1 : Nat → Int32} {x2 : Int32} {x3 : Int32} {res : Int32 × (Nat → Int32) × (Nat → Int32)} (C : axC X l D Y cX12_builds 4 RX12 wsX12_builds rmX12_builds none) (hQ : axQ X 0 0 (fun r9 w9 => r9 = none ∧ w9 = [oX12 ao io_thrown io_rows io_cells io_children io_changes io_taped io_at io_to io_nest io_readMany io_codeLong io_readLong io_undos res.1 io_tideLevel io_acts io_firstBreaks io_bestCrew io_sights io_wayMany io_random, rI Y (ao 4) 8 co_age, rI Y (ao 5) 8 co_skill, rI Y (ao 6) 8 co_friend, rI Y (ao 17) 12 res.2.1, rI Y qp1 43 res.2.2])) (hf : fX12_builds_b2 io_cells io_children io_wentHome co_age co_skill co_friend co_gets cp1 x2 x3 = some res) : ax X 0 0 2 [some (.ref (ao 0)), some (.ref qp1), some (.int x2), some (.int x3)] [oX12 ao io_thrown io_rows io_cells io_children io_changes io_taped io_at io_to io_nest io_readMany io_codeLong io_readLong io_undos io_wentHome io_tideLevel io_acts io_firstBreaks io_bestCrew io_sights io_wayMany io_random, rI Y (ao 4) 8 co_age, rI Y (ao 5) 8 co_skill, rI Y (ao 6) 8 co_friend, rI Y (ao 17) 12 co_gets, rI Y qp1 43 cp1] [] := by
  unfold fX12_builds_b2 at hf
  exact fx_loop (P := fun s : Int32 × (Nat → Int32) × (Nat → Int32) × Int32 => ax X 0 0 2 [some (.ref (ao 0)), some (.ref qp1), some (.int x2), some (.int s.2.2.2)] [oX12 ao io_thrown io_rows io_cells io_children io_changes io_taped io_at io_to io_nest io_readMany io_codeLong io_readLong io_undos s.1 io_tideLevel io_acts io_firstBreaks io_bestCrew io_sights io_wayMany io_random, rI Y (ao 4) 8 co_age, rI Y (ao 5) 8 co_skill, rI Y (ao 6) 8 co_friend, rI Y (ao 17) 12 s.2.1, rI Y qp1 43 s.2.2.1] []) (fun s k2 hk2 h => kX12_builds_l2 C hQ hk2 h) FUEL (io_wentHome, co_gets, cp1, x3) hf
def fX12_builds (io_cells : Int32) (io_children : Int32) (io_wentHome : Int32) (co_age : Nat → Int32) (co_skill : Nat → Int32) (co_friend : Nat → Int32) (co_gets : Nat → Int32) (cp1 : Nat → Int32) (x2 : Int32) : Option (Int32 × (Nat → Int32) × (Nat → Int32)) :=
  fX12_builds_b2 io_cells io_children io_wentHome co_age co_skill co_friend co_gets cp1 x2 (0 : Int32)
set_option maxHeartbeats 400000 in
set_option maxRecDepth 100000 in
theorem kX12_builds (l : Launch) (D : va_G) (Y : Nat → ClassId) (ao : Nat → Nat) (qp1 : Nat) (io_thrown : Int32) (io_rows : Int32) (io_cells : Int32) (io_children : Int32) (io_changes : Int32) (io_taped : Int32) (io_at : Int32) (io_to : Int32) (io_nest : Int32) (io_readMany : Int32) (io_codeLong : Int32) (io_readLong : Int32) (io_undos : Int32) (io_wentHome : Int32) (io_tideLevel : Int32) (io_acts : Int32) (io_firstBreaks : Int32) (io_bestCrew : Int32) (io_sights : Int32) (io_wayMany : Int32) (io_random : Int32) (co_age : Nat → Int32) (co_skill : Nat → Int32) (co_friend : Nat → Int32) (co_gets : Nat → Int32) (cp1 : Nat → Int32) (x2 : Int32) (res : Int32 × (Nat → Int32) × (Nat → Int32)) (hf : fX12_builds io_cells io_children io_wentHome co_age co_skill co_friend co_gets cp1 x2 = some res) : amf l D Y yX12_builds wsX12_builds rmX12_builds [.ref (ao 0), .ref qp1, .int x2] [oX12 ao io_thrown io_rows io_cells io_children io_changes io_taped io_at io_to io_nest io_readMany io_codeLong io_readLong io_undos io_wentHome io_tideLevel io_acts io_firstBreaks io_bestCrew io_sights io_wayMany io_random, rI Y (ao 4) 8 co_age, rI Y (ao 5) 8 co_skill, rI Y (ao 6) 8 co_friend, rI Y (ao 17) 12 co_gets, rI Y qp1 43 cp1] none [oX12 ao io_thrown io_rows io_cells io_children io_changes io_taped io_at io_to io_nest io_readMany io_codeLong io_readLong io_undos res.1 io_tideLevel io_acts io_firstBreaks io_bestCrew io_sights io_wayMany io_random, rI Y (ao 4) 8 co_age, rI Y (ao 5) 8 co_skill, rI Y (ao 6) 8 co_friend, rI Y (ao 17) 12 res.2.1, rI Y qp1 43 res.2.2] := by
  refine amf.of (cc := cX12_builds) (maxL := 4) (rt := none) (by decide) rfl RX12 rfl (Nat.le_of_ble_eq_true rfl) [some (.ref (ao 0)), some (.ref qp1), some (.int x2), none] rfl ?_
  intro X C hQ
  unfold fX12_builds at hf
  refine a_iconst C (0 : Int32) dX12_builds_0 (by decide) ?_
  refine a_istore_n C dX12_builds_1 (by decide) rfl ?_
  exact kX12_builds_b2 C hQ hf
-- X12_lowBy
abbrev rmX12_lowBy : Room := { frames := 1, cells := 0, slots := 0, locals := 22 }
theorem dvX12_lowBy : yX12_lowBy.cls = RX12 ∧ yX12_lowBy.cls ≠ "java/lang/invoke/MethodHandle" ∧ yX12_lowBy.cls ≠ "java/lang/invoke/VarHandle" ∧ (parseMethodDescriptor yX12_lowBy.desc).map (fun d => d.parameters.length) = some 2 := by decide +kernel
def fX12_lowBy_b42 (io_cells : Int32) (co_base : Nat → Int32) (cp1 : Nat → Int32) (x3 : Int32) : Option (Int32) :=
  some x3
set_option maxHeartbeats 400000 in
set_option maxRecDepth 100000 in
theorem kX12_lowBy_b42 {X : cxT} {l : Launch} {D : va_G} {Y : Nat → ClassId} {ao : Nat → Nat} {qp1 : Nat} {io_thrown : Int32} {io_rows : Int32} {io_cells : Int32} {io_children : Int32} {io_changes : Int32} {io_taped : Int32} {io_at : Int32} {io_to : Int32} {io_nest : Int32} {io_readMany : Int32} {io_codeLong : Int32} {io_readLong : Int32} {io_undos : Int32} {io_wentHome : Int32} {io_tideLevel : Int32} {io_acts : Int32} {io_firstBreaks : Int32} {io_bestCrew : Int32} {io_sights : Int32} {io_wayMany : Int32} {io_random : Int32} {co_base : Nat → Int32} {cp1 : Nat → Int32} {x3 : Int32} {res : Int32} (C : axC X l D Y cX12_lowBy 5 RX12 wsX12_lowBy rmX12_lowBy (some .int)) (hQ : axQ X 0 0 (fun r9 w9 => r9 = (some (.int res)) ∧ w9 = [oX12 ao io_thrown io_rows io_cells io_children io_changes io_taped io_at io_to io_nest io_readMany io_codeLong io_readLong io_undos io_wentHome io_tideLevel io_acts io_firstBreaks io_bestCrew io_sights io_wayMany io_random, rI Y (ao 2) 12 co_base, rI Y qp1 43 cp1])) (hf : fX12_lowBy_b42 io_cells co_base cp1 x3 = some res) : ax X 0 0 42 [none, none, none, some (.int x3), none] [oX12 ao io_thrown io_rows io_cells io_children io_changes io_taped io_at io_to io_nest io_readMany io_codeLong io_readLong io_undos io_wentHome io_tideLevel io_acts io_firstBreaks io_bestCrew io_sights io_wayMany io_random, rI Y (ao 2) 12 co_base, rI Y qp1 43 cp1] [] := by
  unfold fX12_lowBy_b42 at hf
  refine a_iload_n C dX12_lowBy_42 rfl ?_
  obtain rfl := fx_some hf
  exact a_iret C hQ dX12_lowBy_43 ⟨rfl, rfl⟩
def fX12_lowBy_b34 (io_cells : Int32) (co_base : Nat → Int32) (cp1 : Nat → Int32) (x2 : Int32) (x4 : Int32) (s0 : Int32) (s1 : Int32) (k5 : Int32 × Int32 → Option (Int32)) : Option (Int32) :=
  k5 ((s0 ||| s1), (x4 + (1 : Int32)))
set_option maxHeartbeats 400000 in
set_option maxRecDepth 100000 in
theorem kX12_lowBy_b34 {X : cxT} {l : Launch} {D : va_G} {Y : Nat → ClassId} {ao : Nat → Nat} {qp1 : Nat} {io_thrown : Int32} {io_rows : Int32} {io_cells : Int32} {io_children : Int32} {io_changes : Int32} {io_taped : Int32} {io_at : Int32} {io_to : Int32} {io_nest : Int32} {io_readMany : Int32} {io_codeLong : Int32} {io_readLong : Int32} {io_undos : Int32} {io_wentHome : Int32} {io_tideLevel : Int32} {io_acts : Int32} {io_firstBreaks : Int32} {io_bestCrew : Int32} {io_sights : Int32} {io_wayMany : Int32} {io_random : Int32} {co_base : Nat → Int32} {cp1 : Nat → Int32} {x2 : Int32} {x4 : Int32} {s0 : Int32} {s1 : Int32} {res : Int32} (C : axC X l D Y cX12_lowBy 5 RX12 wsX12_lowBy rmX12_lowBy (some .int)) (hQ : axQ X 0 0 (fun r9 w9 => r9 = (some (.int res)) ∧ w9 = [oX12 ao io_thrown io_rows io_cells io_children io_changes io_taped io_at io_to io_nest io_readMany io_codeLong io_readLong io_undos io_wentHome io_tideLevel io_acts io_firstBreaks io_bestCrew io_sights io_wayMany io_random, rI Y (ao 2) 12 co_base, rI Y qp1 43 cp1])) {k5 : Int32 × Int32 → Option (Int32)} (hk5 : ∀ s : Int32 × Int32, k5 s = some res → ax X 0 0 5 [some (.ref (ao 0)), some (.ref qp1), some (.int x2), some (.int s.1), some (.int s.2)] [oX12 ao io_thrown io_rows io_cells io_children io_changes io_taped io_at io_to io_nest io_readMany io_codeLong io_readLong io_undos io_wentHome io_tideLevel io_acts io_firstBreaks io_bestCrew io_sights io_wayMany io_random, rI Y (ao 2) 12 co_base, rI Y qp1 43 cp1] []) (hf : fX12_lowBy_b34 io_cells co_base cp1 x2 x4 s0 s1 k5 = some res) : ax X 0 0 34 [some (.ref (ao 0)), some (.ref qp1), some (.int x2), none, some (.int x4)] [oX12 ao io_thrown io_rows io_cells io_children io_changes io_taped io_at io_to io_nest io_readMany io_codeLong io_readLong io_undos io_wentHome io_tideLevel io_acts io_firstBreaks io_bestCrew io_sights io_wayMany io_random, rI Y (ao 2) 12 co_base, rI Y qp1 43 cp1] [.int s1, .int s0] := by
  unfold fX12_lowBy_b34 at hf
  refine a_ior C dX12_lowBy_34 ?_
  refine a_istore_n C dX12_lowBy_35 (by decide) rfl ?_
  refine a_iinc C (1 : Int32) dX12_lowBy_36 (by decide) rfl (by decide) rfl ?_
  refine a_goto C 5 dX12_lowBy_39 (by decide) ?_
  exact hk5 ((s0 ||| s1), (x4 + (1 : Int32))) hf
def fX12_lowBy_l5 (io_cells : Int32) (co_base : Nat → Int32) (cp1 : Nat → Int32) (x2 : Int32) (k5 : Int32 × Int32 → Option (Int32)) (x3 : Int32) (x4 : Int32) : Option (Int32) :=
  if io_cells ≤ x4 then (fX12_lowBy_b42 io_cells co_base cp1 x3) else ((fX12_topOf co_base cp1 x4).bind (fun r2 => if x2 ≤ r2 then (fX12_lowBy_b34 io_cells co_base cp1 x2 x4 x3 (0 : Int32) k5) else (fX12_lowBy_b34 io_cells co_base cp1 x2 x4 x3 (jshl (1 : Int32) x4) k5)))
def fX12_lowBy_b5 (io_cells : Int32) (co_base : Nat → Int32) (cp1 : Nat → Int32) (x2 : Int32) (x3 : Int32) (x4 : Int32) : Option (Int32) :=
  loopN (fun (s : Int32 × Int32) k5 => fX12_lowBy_l5 io_cells co_base cp1 x2 k5 s.1 s.2) FUEL (x3, x4)
set_option maxHeartbeats 400000 in
set_option maxRecDepth 100000 in
theorem kX12_lowBy_l5 {X : cxT} {l : Launch} {D : va_G} {Y : Nat → ClassId} {ao : Nat → Nat} {qp1 : Nat} {io_thrown : Int32} {io_rows : Int32} {io_cells : Int32} {io_children : Int32} {io_changes : Int32} {io_taped : Int32} {io_at : Int32} {io_to : Int32} {io_nest : Int32} {io_readMany : Int32} {io_codeLong : Int32} {io_readLong : Int32} {io_undos : Int32} {io_wentHome : Int32} {io_tideLevel : Int32} {io_acts : Int32} {io_firstBreaks : Int32} {io_bestCrew : Int32} {io_sights : Int32} {io_wayMany : Int32} {io_random : Int32} {co_base : Nat → Int32} {cp1 : Nat → Int32} {x2 : Int32} {x3 : Int32} {x4 : Int32} {res : Int32} (C : axC X l D Y cX12_lowBy 5 RX12 wsX12_lowBy rmX12_lowBy (some .int)) (hQ : axQ X 0 0 (fun r9 w9 => r9 = (some (.int res)) ∧ w9 = [oX12 ao io_thrown io_rows io_cells io_children io_changes io_taped io_at io_to io_nest io_readMany io_codeLong io_readLong io_undos io_wentHome io_tideLevel io_acts io_firstBreaks io_bestCrew io_sights io_wayMany io_random, rI Y (ao 2) 12 co_base, rI Y qp1 43 cp1])) {k5 : Int32 × Int32 → Option (Int32)} (hk5 : ∀ s : Int32 × Int32, k5 s = some res → ax X 0 0 5 [some (.ref (ao 0)), some (.ref qp1), some (.int x2), some (.int s.1), some (.int s.2)] [oX12 ao io_thrown io_rows io_cells io_children io_changes io_taped io_at io_to io_nest io_readMany io_codeLong io_readLong io_undos io_wentHome io_tideLevel io_acts io_firstBreaks io_bestCrew io_sights io_wayMany io_random, rI Y (ao 2) 12 co_base, rI Y qp1 43 cp1] []) (hf : fX12_lowBy_l5 io_cells co_base cp1 x2 k5 x3 x4 = some res) : ax X 0 0 5 [some (.ref (ao 0)), some (.ref qp1), some (.int x2), some (.int x3), some (.int x4)] [oX12 ao io_thrown io_rows io_cells io_children io_changes io_taped io_at io_to io_nest io_readMany io_codeLong io_readLong io_undos io_wentHome io_tideLevel io_acts io_firstBreaks io_bestCrew io_sights io_wayMany io_random, rI Y (ao 2) 12 co_base, rI Y qp1 43 cp1] [] := by
  unfold fX12_lowBy_l5 at hf
  refine a_iload C dX12_lowBy_5 rfl ?_
  refine a_aload_n C dX12_lowBy_7 rfl ?_
  refine a_get C (eB_X12_13 _) dX12_lowBy_8 0 rfl rfl ?_
  refine a_icmp_ge C 42 dX12_lowBy_11 (by decide) (fun h1 => ?_) (fun h1 => ?_)
  · have hf := fx_t h1 hf
    refine a_kill [0, 1, 2, 4] ?_
    exact kX12_lowBy_b42 C hQ hf
  · have hf := fx_f h1 hf
    refine a_iload_n C dX12_lowBy_14 rfl ?_
    refine a_aload_n C dX12_lowBy_15 rfl ?_
    refine a_aload_n C dX12_lowBy_16 rfl ?_
    refine a_iload C dX12_lowBy_17 rfl ?_
    obtain ⟨r2, h2, hf⟩ := fx_bind hf
    refine a_fV C (kX12_topOf l D Y ao qp1 io_thrown io_rows io_cells io_children io_changes io_taped io_at io_to io_nest io_readMany io_codeLong io_readLong io_undos io_wentHome io_tideLevel io_acts io_firstBreaks io_bestCrew io_sights io_wayMany io_random co_base cp1 x4 r2 h2) (gB_X12_291 _) rfl dvX12_topOf ⟨⟨rfl, rfl⟩, ⟨Nat.le_of_ble_eq_true rfl, Nat.le_of_ble_eq_true rfl⟩, ⟨Nat.le_of_ble_eq_true rfl, Nat.le_of_ble_eq_true rfl⟩⟩ rfl (Nat.le_of_ble_eq_true rfl) dX12_lowBy_19 rfl rfl [0, 1, 2] [] ⟨rfl, rfl, rfl, trivial⟩ (by decide +kernel) rfl [oX12 ao io_thrown io_rows io_cells io_children io_changes io_taped io_at io_to io_nest io_readMany io_codeLong io_readLong io_undos io_wentHome io_tideLevel io_acts io_firstBreaks io_bestCrew io_sights io_wayMany io_random, rI Y (ao 2) 12 co_base, rI Y qp1 43 cp1] ⟨rfl, rfl, rfl, trivial⟩ trivial 3 rfl (by decide +kernel) ?_
    refine a_iload_n C dX12_lowBy_22 rfl ?_
    refine a_icmp_ge C 33 dX12_lowBy_23 (by decide) (fun h3 => ?_) (fun h3 => ?_)
    · have hf := fx_t h3 hf
      refine a_iconst C (0 : Int32) dX12_lowBy_33 (by decide) ?_
      refine a_kill [3] ?_
      exact kX12_lowBy_b34 C hQ hk5 hf
    · have hf := fx_f h3 hf
      refine a_iconst C (1 : Int32) dX12_lowBy_26 (by decide) ?_
      refine a_iload C dX12_lowBy_27 rfl ?_
      refine a_ishl C dX12_lowBy_29 ?_
      refine a_goto C 34 dX12_lowBy_30 (by decide) ?_
      refine a_kill [3] ?_
      exact kX12_lowBy_b34 C hQ hk5 hf
set_option maxHeartbeats 400000 in
set_option maxRecDepth 100000 in
theorem kX12_lowBy_b5 {X : cxT} {l : Launch} {D : va_G} {Y : Nat → ClassId} {ao : Nat → Nat} {qp1 : Nat} {io_thrown : Int32} {io_rows : Int32} {io_cells : Int32} {io_children : Int32} {io_changes : Int32} {io_taped : Int32} {io_at : Int32} {io_to : Int32} {io_nest : Int32} {io_readMany : Int32} {io_codeLong : Int32} {io_readLong : Int32} {io_undos : Int32} {io_wentHome : Int32} {io_tideLevel : Int32} {io_acts : Int32} {io_firstBreaks : Int32} {io_bestCrew : Int32} {io_sights : Int32} {io_wayMany : Int32} {io_random : Int32} {co_base : Nat → Int32} {cp1 : Nat → Int32} {x2 : Int32} {x3 : Int32} {x4 : Int32} {res : Int32} (C : axC X l D Y cX12_lowBy 5 RX12 wsX12_lowBy rmX12_lowBy (some .int)) (hQ : axQ X 0 0 (fun r9 w9 => r9 = (some (.int res)) ∧ w9 = [oX12 ao io_thrown io_rows io_cells io_children io_changes io_taped io_at io_to io_nest io_readMany io_codeLong io_readLong io_undos io_wentHome io_tideLevel io_acts io_firstBreaks io_bestCrew io_sights io_wayMany io_random, rI Y (ao 2) 12 co_base, rI Y qp1 43 cp1])) (hf : fX12_lowBy_b5 io_cells co_base cp1 x2 x3 x4 = some res) : ax X 0 0 5 [some (.ref (ao 0)), some (.ref qp1), some (.int x2), some (.int x3), some (.int x4)] [oX12 ao io_thrown io_rows io_cells io_children io_changes io_taped io_at io_to io_nest io_readMany io_codeLong io_readLong io_undos io_wentHome io_tideLevel io_acts io_firstBreaks io_bestCrew io_sights io_wayMany io_random, rI Y (ao 2) 12 co_base, rI Y qp1 43 cp1] [] := by
  unfold fX12_lowBy_b5 at hf
  exact fx_loop (P := fun s : Int32 × Int32 => ax X 0 0 5 [some (.ref (ao 0)), some (.ref qp1), some (.int x2), some (.int s.1), some (.int s.2)] [oX12 ao io_thrown io_rows io_cells io_children io_changes io_taped io_at io_to io_nest io_readMany io_codeLong io_readLong io_undos io_wentHome io_tideLevel io_acts io_firstBreaks io_bestCrew io_sights io_wayMany io_random, rI Y (ao 2) 12 co_base, rI Y qp1 43 cp1] []) (fun s k5 hk5 h => kX12_lowBy_l5 C hQ hk5 h) FUEL (x3, x4) hf
def fX12_lowBy (io_cells : Int32) (co_base : Nat → Int32) (cp1 : Nat → Int32) (x2 : Int32) : Option (Int32) :=
  fX12_lowBy_b5 io_cells co_base cp1 x2 (0 : Int32) (0 : Int32)
set_option maxHeartbeats 400000 in
set_option maxRecDepth 100000 in
theorem kX12_lowBy (l : Launch) (D : va_G) (Y : Nat → ClassId) (ao : Nat → Nat) (qp1 : Nat) (io_thrown : Int32) (io_rows : Int32) (io_cells : Int32) (io_children : Int32) (io_changes : Int32) (io_taped : Int32) (io_at : Int32) (io_to : Int32) (io_nest : Int32) (io_readMany : Int32) (io_codeLong : Int32) (io_readLong : Int32) (io_undos : Int32) (io_wentHome : Int32) (io_tideLevel : Int32) (io_acts : Int32) (io_firstBreaks : Int32) (io_bestCrew : Int32) (io_sights : Int32) (io_wayMany : Int32) (io_random : Int32) (co_base : Nat → Int32) (cp1 : Nat → Int32) (x2 : Int32) (res : Int32) (hf : fX12_lowBy io_cells co_base cp1 x2 = some res) : amf l D Y yX12_lowBy wsX12_lowBy rmX12_lowBy [.ref (ao 0), .ref qp1, .int x2] [oX12 ao io_thrown io_rows io_cells io_children io_changes io_taped io_at io_to io_nest io_readMany io_codeLong io_readLong io_undos io_wentHome io_tideLevel io_acts io_firstBreaks io_bestCrew io_sights io_wayMany io_random, rI Y (ao 2) 12 co_base, rI Y qp1 43 cp1] (some (.int res)) [oX12 ao io_thrown io_rows io_cells io_children io_changes io_taped io_at io_to io_nest io_readMany io_codeLong io_readLong io_undos io_wentHome io_tideLevel io_acts io_firstBreaks io_bestCrew io_sights io_wayMany io_random, rI Y (ao 2) 12 co_base, rI Y qp1 43 cp1] := by
  refine amf.of (cc := cX12_lowBy) (maxL := 5) (rt := (some .int)) (by decide) rfl RX12 rfl (Nat.le_of_ble_eq_true rfl) [some (.ref (ao 0)), some (.ref qp1), some (.int x2), none, none] rfl ?_
  intro X C hQ
  unfold fX12_lowBy at hf
  refine a_iconst C (0 : Int32) dX12_lowBy_0 (by decide) ?_
  refine a_istore_n C dX12_lowBy_1 (by decide) rfl ?_
  refine a_iconst C (0 : Int32) dX12_lowBy_2 (by decide) ?_
  refine a_istore C dX12_lowBy_3 (by decide) rfl ?_
  exact kX12_lowBy_b5 C hQ hf
-- X12_waterGoes
abbrev rmX12_waterGoes : Room := { frames := 1, cells := 0, slots := 0, locals := 21 }
theorem dvX12_waterGoes : yX12_waterGoes.cls = RX12 ∧ yX12_waterGoes.cls ≠ "java/lang/invoke/MethodHandle" ∧ yX12_waterGoes.cls ≠ "java/lang/invoke/VarHandle" ∧ (parseMethodDescriptor yX12_waterGoes.desc).map (fun d => d.parameters.length) = some 1 := by decide +kernel
def fX12_waterGoes_b100 (io_cells : Int32) (co_dyke : Nat → Int32) (cp1 : Nat → Int32) : Option ((Nat → Int32)) :=
  some cp1
set_option maxHeartbeats 400000 in
set_option maxRecDepth 100000 in
theorem kX12_waterGoes_b100 {X : cxT} {l : Launch} {D : va_G} {Y : Nat → ClassId} {ao : Nat → Nat} {qp1 : Nat} {io_thrown : Int32} {io_rows : Int32} {io_cells : Int32} {io_children : Int32} {io_changes : Int32} {io_taped : Int32} {io_at : Int32} {io_to : Int32} {io_nest : Int32} {io_readMany : Int32} {io_codeLong : Int32} {io_readLong : Int32} {io_undos : Int32} {io_wentHome : Int32} {io_tideLevel : Int32} {io_acts : Int32} {io_firstBreaks : Int32} {io_bestCrew : Int32} {io_sights : Int32} {io_wayMany : Int32} {io_random : Int32} {co_dyke : Nat → Int32} {cp1 : Nat → Int32} {res : (Nat → Int32)} (C : axC X l D Y cX12_waterGoes 7 RX12 wsX12_waterGoes rmX12_waterGoes none) (hQ : axQ X 0 0 (fun r9 w9 => r9 = none ∧ w9 = [oX12 ao io_thrown io_rows io_cells io_children io_changes io_taped io_at io_to io_nest io_readMany io_codeLong io_readLong io_undos io_wentHome io_tideLevel io_acts io_firstBreaks io_bestCrew io_sights io_wayMany io_random, rI Y (ao 3) 12 co_dyke, rI Y qp1 43 res])) (hf : fX12_waterGoes_b100 io_cells co_dyke cp1 = some res) : ax X 0 0 100 [none, none, none, none, none, none, none] [oX12 ao io_thrown io_rows io_cells io_children io_changes io_taped io_at io_to io_nest io_readMany io_codeLong io_readLong io_undos io_wentHome io_tideLevel io_acts io_firstBreaks io_bestCrew io_sights io_wayMany io_random, rI Y (ao 3) 12 co_dyke, rI Y qp1 43 cp1] [] := by
  unfold fX12_waterGoes_b100 at hf
  obtain rfl := fx_some hf
  exact a_vret C hQ dX12_waterGoes_100 ⟨rfl, rfl⟩
def fX12_waterGoes_b97 (io_cells : Int32) (co_dyke : Nat → Int32) (cp1 : Nat → Int32) (x2 : Int32) (k2 : (Nat → Int32) × Int32 → Option ((Nat → Int32))) : Option ((Nat → Int32)) :=
  k2 (cp1, x2)
set_option maxHeartbeats 400000 in
set_option maxRecDepth 100000 in
theorem kX12_waterGoes_b97 {X : cxT} {l : Launch} {D : va_G} {Y : Nat → ClassId} {ao : Nat → Nat} {qp1 : Nat} {io_thrown : Int32} {io_rows : Int32} {io_cells : Int32} {io_children : Int32} {io_changes : Int32} {io_taped : Int32} {io_at : Int32} {io_to : Int32} {io_nest : Int32} {io_readMany : Int32} {io_codeLong : Int32} {io_readLong : Int32} {io_undos : Int32} {io_wentHome : Int32} {io_tideLevel : Int32} {io_acts : Int32} {io_firstBreaks : Int32} {io_bestCrew : Int32} {io_sights : Int32} {io_wayMany : Int32} {io_random : Int32} {co_dyke : Nat → Int32} {cp1 : Nat → Int32} {x2 : Int32} {res : (Nat → Int32)} (C : axC X l D Y cX12_waterGoes 7 RX12 wsX12_waterGoes rmX12_waterGoes none) (hQ : axQ X 0 0 (fun r9 w9 => r9 = none ∧ w9 = [oX12 ao io_thrown io_rows io_cells io_children io_changes io_taped io_at io_to io_nest io_readMany io_codeLong io_readLong io_undos io_wentHome io_tideLevel io_acts io_firstBreaks io_bestCrew io_sights io_wayMany io_random, rI Y (ao 3) 12 co_dyke, rI Y qp1 43 res])) {k2 : (Nat → Int32) × Int32 → Option ((Nat → Int32))} (hk2 : ∀ s : (Nat → Int32) × Int32, k2 s = some res → ax X 0 0 2 [some (.ref (ao 0)), some (.ref qp1), some (.int s.2), none, none, none, none] [oX12 ao io_thrown io_rows io_cells io_children io_changes io_taped io_at io_to io_nest io_readMany io_codeLong io_readLong io_undos io_wentHome io_tideLevel io_acts io_firstBreaks io_bestCrew io_sights io_wayMany io_random, rI Y (ao 3) 12 co_dyke, rI Y qp1 43 s.1] []) (hf : fX12_waterGoes_b97 io_cells co_dyke cp1 x2 k2 = some res) : ax X 0 0 97 [some (.ref (ao 0)), some (.ref qp1), some (.int x2), none, none, none, none] [oX12 ao io_thrown io_rows io_cells io_children io_changes io_taped io_at io_to io_nest io_readMany io_codeLong io_readLong io_undos io_wentHome io_tideLevel io_acts io_firstBreaks io_bestCrew io_sights io_wayMany io_random, rI Y (ao 3) 12 co_dyke, rI Y qp1 43 cp1] [] := by
  unfold fX12_waterGoes_b97 at hf
  refine a_goto C 2 dX12_waterGoes_97 (by decide) ?_
  exact hk2 (cp1, x2) hf
def fX12_waterGoes_b91 (io_cells : Int32) (co_dyke : Nat → Int32) (cp1 : Nat → Int32) (x2 : Int32) (x3 : Int32) (k2 : (Nat → Int32) × Int32 → Option ((Nat → Int32))) (k10 : (Nat → Int32) × Int32 × Int32 → Option ((Nat → Int32))) : Option ((Nat → Int32)) :=
  k10 (cp1, x2, (x3 + (1 : Int32)))
set_option maxHeartbeats 400000 in
set_option maxRecDepth 100000 in
theorem kX12_waterGoes_b91 {X : cxT} {l : Launch} {D : va_G} {Y : Nat → ClassId} {ao : Nat → Nat} {qp1 : Nat} {io_thrown : Int32} {io_rows : Int32} {io_cells : Int32} {io_children : Int32} {io_changes : Int32} {io_taped : Int32} {io_at : Int32} {io_to : Int32} {io_nest : Int32} {io_readMany : Int32} {io_codeLong : Int32} {io_readLong : Int32} {io_undos : Int32} {io_wentHome : Int32} {io_tideLevel : Int32} {io_acts : Int32} {io_firstBreaks : Int32} {io_bestCrew : Int32} {io_sights : Int32} {io_wayMany : Int32} {io_random : Int32} {co_dyke : Nat → Int32} {cp1 : Nat → Int32} {x2 : Int32} {x3 : Int32} {res : (Nat → Int32)} (C : axC X l D Y cX12_waterGoes 7 RX12 wsX12_waterGoes rmX12_waterGoes none) (hQ : axQ X 0 0 (fun r9 w9 => r9 = none ∧ w9 = [oX12 ao io_thrown io_rows io_cells io_children io_changes io_taped io_at io_to io_nest io_readMany io_codeLong io_readLong io_undos io_wentHome io_tideLevel io_acts io_firstBreaks io_bestCrew io_sights io_wayMany io_random, rI Y (ao 3) 12 co_dyke, rI Y qp1 43 res])) {k2 : (Nat → Int32) × Int32 → Option ((Nat → Int32))} (hk2 : ∀ s : (Nat → Int32) × Int32, k2 s = some res → ax X 0 0 2 [some (.ref (ao 0)), some (.ref qp1), some (.int s.2), none, none, none, none] [oX12 ao io_thrown io_rows io_cells io_children io_changes io_taped io_at io_to io_nest io_readMany io_codeLong io_readLong io_undos io_wentHome io_tideLevel io_acts io_firstBreaks io_bestCrew io_sights io_wayMany io_random, rI Y (ao 3) 12 co_dyke, rI Y qp1 43 s.1] []) {k10 : (Nat → Int32) × Int32 × Int32 → Option ((Nat → Int32))} (hk10 : ∀ s : (Nat → Int32) × Int32 × Int32, k10 s = some res → ax X 0 0 10 [some (.ref (ao 0)), some (.ref qp1), some (.int s.2.1), some (.int s.2.2), none, none, none] [oX12 ao io_thrown io_rows io_cells io_children io_changes io_taped io_at io_to io_nest io_readMany io_codeLong io_readLong io_undos io_wentHome io_tideLevel io_acts io_firstBreaks io_bestCrew io_sights io_wayMany io_random, rI Y (ao 3) 12 co_dyke, rI Y qp1 43 s.1] []) (hf : fX12_waterGoes_b91 io_cells co_dyke cp1 x2 x3 k2 k10 = some res) : ax X 0 0 91 [some (.ref (ao 0)), some (.ref qp1), some (.int x2), some (.int x3), none, none, none] [oX12 ao io_thrown io_rows io_cells io_children io_changes io_taped io_at io_to io_nest io_readMany io_codeLong io_readLong io_undos io_wentHome io_tideLevel io_acts io_firstBreaks io_bestCrew io_sights io_wayMany io_random, rI Y (ao 3) 12 co_dyke, rI Y qp1 43 cp1] [] := by
  unfold fX12_waterGoes_b91 at hf
  refine a_iinc C (1 : Int32) dX12_waterGoes_91 (by decide) rfl (by decide) rfl ?_
  refine a_goto C 10 dX12_waterGoes_94 (by decide) ?_
  exact hk10 (cp1, x2, (x3 + (1 : Int32))) hf
def fX12_waterGoes_b72 (io_cells : Int32) (co_dyke : Nat → Int32) (cp1 : Nat → Int32) (x2 : Int32) (x3 : Int32) (x5 : Int32) (s0 : Int32) (k2 : (Nat → Int32) × Int32 → Option ((Nat → Int32))) (k10 : (Nat → Int32) × Int32 × Int32 → Option ((Nat → Int32))) : Option ((Nat → Int32)) :=
  if inb s0 43 then if x5 ≤ (cp1 (Int32.toNatClampNeg s0)) then (fX12_waterGoes_b91 io_cells co_dyke cp1 x2 x3 k2 k10) else (fX12_waterGoes_b91 io_cells co_dyke (upd cp1 (Int32.toNatClampNeg s0) x5) (1 : Int32) x3 k2 k10) else none
set_option maxHeartbeats 400000 in
set_option maxRecDepth 100000 in
theorem kX12_waterGoes_b72 {X : cxT} {l : Launch} {D : va_G} {Y : Nat → ClassId} {ao : Nat → Nat} {qp1 : Nat} {io_thrown : Int32} {io_rows : Int32} {io_cells : Int32} {io_children : Int32} {io_changes : Int32} {io_taped : Int32} {io_at : Int32} {io_to : Int32} {io_nest : Int32} {io_readMany : Int32} {io_codeLong : Int32} {io_readLong : Int32} {io_undos : Int32} {io_wentHome : Int32} {io_tideLevel : Int32} {io_acts : Int32} {io_firstBreaks : Int32} {io_bestCrew : Int32} {io_sights : Int32} {io_wayMany : Int32} {io_random : Int32} {co_dyke : Nat → Int32} {cp1 : Nat → Int32} {x2 : Int32} {x3 : Int32} {x5 : Int32} {s0 : Int32} {res : (Nat → Int32)} (C : axC X l D Y cX12_waterGoes 7 RX12 wsX12_waterGoes rmX12_waterGoes none) (hQ : axQ X 0 0 (fun r9 w9 => r9 = none ∧ w9 = [oX12 ao io_thrown io_rows io_cells io_children io_changes io_taped io_at io_to io_nest io_readMany io_codeLong io_readLong io_undos io_wentHome io_tideLevel io_acts io_firstBreaks io_bestCrew io_sights io_wayMany io_random, rI Y (ao 3) 12 co_dyke, rI Y qp1 43 res])) {k2 : (Nat → Int32) × Int32 → Option ((Nat → Int32))} (hk2 : ∀ s : (Nat → Int32) × Int32, k2 s = some res → ax X 0 0 2 [some (.ref (ao 0)), some (.ref qp1), some (.int s.2), none, none, none, none] [oX12 ao io_thrown io_rows io_cells io_children io_changes io_taped io_at io_to io_nest io_readMany io_codeLong io_readLong io_undos io_wentHome io_tideLevel io_acts io_firstBreaks io_bestCrew io_sights io_wayMany io_random, rI Y (ao 3) 12 co_dyke, rI Y qp1 43 s.1] []) {k10 : (Nat → Int32) × Int32 × Int32 → Option ((Nat → Int32))} (hk10 : ∀ s : (Nat → Int32) × Int32 × Int32, k10 s = some res → ax X 0 0 10 [some (.ref (ao 0)), some (.ref qp1), some (.int s.2.1), some (.int s.2.2), none, none, none] [oX12 ao io_thrown io_rows io_cells io_children io_changes io_taped io_at io_to io_nest io_readMany io_codeLong io_readLong io_undos io_wentHome io_tideLevel io_acts io_firstBreaks io_bestCrew io_sights io_wayMany io_random, rI Y (ao 3) 12 co_dyke, rI Y qp1 43 s.1] []) (hf : fX12_waterGoes_b72 io_cells co_dyke cp1 x2 x3 x5 s0 k2 k10 = some res) : ax X 0 0 72 [some (.ref (ao 0)), some (.ref qp1), some (.int x2), some (.int x3), none, some (.int x5), none] [oX12 ao io_thrown io_rows io_cells io_children io_changes io_taped io_at io_to io_nest io_readMany io_codeLong io_readLong io_undos io_wentHome io_tideLevel io_acts io_firstBreaks io_bestCrew io_sights io_wayMany io_random, rI Y (ao 3) 12 co_dyke, rI Y qp1 43 cp1] [.int s0] := by
  unfold fX12_waterGoes_b72 at hf
  refine a_istore C dX12_waterGoes_72 (by decide) rfl ?_
  refine a_iload C dX12_waterGoes_74 rfl ?_
  refine a_aload_n C dX12_waterGoes_76 rfl ?_
  refine a_iload C dX12_waterGoes_77 rfl ?_
  obtain ⟨h1, hf⟩ := fx_ite hf
  refine a_iald C dX12_waterGoes_79 2 rfl h1 ?_
  refine a_icmp_le C 91 dX12_waterGoes_80 (by decide) (fun h2 => ?_) (fun h2 => ?_)
  · have hf := fx_t h2 hf
    refine a_kill [5, 6] ?_
    exact kX12_waterGoes_b91 C hQ hk2 hk10 hf
  · have hf := fx_f h2 hf
    refine a_aload_n C dX12_waterGoes_83 rfl ?_
    refine a_iload C dX12_waterGoes_84 rfl ?_
    refine a_iload C dX12_waterGoes_86 rfl ?_
    refine a_iast C dX12_waterGoes_88 2 rfl h1 ?_
    refine a_iconst C (1 : Int32) dX12_waterGoes_89 (by decide) ?_
    refine a_istore_n C dX12_waterGoes_90 (by decide) rfl ?_
    refine a_kill [5, 6] ?_
    exact kX12_waterGoes_b91 C hQ hk2 hk10 hf
def fX12_waterGoes_l10 (io_cells : Int32) (co_dyke : Nat → Int32) (k2 : (Nat → Int32) × Int32 → Option ((Nat → Int32))) (k10 : (Nat → Int32) × Int32 × Int32 → Option ((Nat → Int32))) (cp1 : Nat → Int32) (x2 : Int32) (x3 : Int32) : Option ((Nat → Int32)) :=
  if io_cells ≤ (x3 + (1 : Int32)) then (fX12_waterGoes_b97 io_cells co_dyke cp1 x2 k2) else (if inb ((13 : Int32) + x3) 43 then if inb (((13 : Int32) + x3) + (1 : Int32)) 43 then if inb x3 12 then if (cp1 (Int32.toNatClampNeg (((13 : Int32) + x3) + (1 : Int32)))) ≤ (cp1 (Int32.toNatClampNeg ((13 : Int32) + x3))) then (fX12_waterGoes_b72 io_cells co_dyke cp1 x2 x3 (((jmax (cp1 (Int32.toNatClampNeg ((13 : Int32) + x3))) (cp1 (Int32.toNatClampNeg (((13 : Int32) + x3) + (1 : Int32))))) - (co_dyke (Int32.toNatClampNeg x3))) - (1 : Int32)) (((13 : Int32) + x3) + (1 : Int32)) k2 k10) else (fX12_waterGoes_b72 io_cells co_dyke cp1 x2 x3 (((jmax (cp1 (Int32.toNatClampNeg ((13 : Int32) + x3))) (cp1 (Int32.toNatClampNeg (((13 : Int32) + x3) + (1 : Int32))))) - (co_dyke (Int32.toNatClampNeg x3))) - (1 : Int32)) ((13 : Int32) + x3) k2 k10) else none else none else none)
def fX12_waterGoes_b10 (io_cells : Int32) (co_dyke : Nat → Int32) (cp1 : Nat → Int32) (x2 : Int32) (x3 : Int32) (k2 : (Nat → Int32) × Int32 → Option ((Nat → Int32))) : Option ((Nat → Int32)) :=
  loopN (fun (s : (Nat → Int32) × Int32 × Int32) k10 => fX12_waterGoes_l10 io_cells co_dyke k2 k10 s.1 s.2.1 s.2.2) FUEL (cp1, x2, x3)
set_option maxHeartbeats 400000 in
set_option maxRecDepth 100000 in
theorem kX12_waterGoes_l10 {X : cxT} {l : Launch} {D : va_G} {Y : Nat → ClassId} {ao : Nat → Nat} {qp1 : Nat} {io_thrown : Int32} {io_rows : Int32} {io_cells : Int32} {io_children : Int32} {io_changes : Int32} {io_taped : Int32} {io_at : Int32} {io_to : Int32} {io_nest : Int32} {io_readMany : Int32} {io_codeLong : Int32} {io_readLong : Int32} {io_undos : Int32} {io_wentHome : Int32} {io_tideLevel : Int32} {io_acts : Int32} {io_firstBreaks : Int32} {io_bestCrew : Int32} {io_sights : Int32} {io_wayMany : Int32} {io_random : Int32} {co_dyke : Nat → Int32} {cp1 : Nat → Int32} {x2 : Int32} {x3 : Int32} {res : (Nat → Int32)} (C : axC X l D Y cX12_waterGoes 7 RX12 wsX12_waterGoes rmX12_waterGoes none) (hQ : axQ X 0 0 (fun r9 w9 => r9 = none ∧ w9 = [oX12 ao io_thrown io_rows io_cells io_children io_changes io_taped io_at io_to io_nest io_readMany io_codeLong io_readLong io_undos io_wentHome io_tideLevel io_acts io_firstBreaks io_bestCrew io_sights io_wayMany io_random, rI Y (ao 3) 12 co_dyke, rI Y qp1 43 res])) {k2 : (Nat → Int32) × Int32 → Option ((Nat → Int32))} (hk2 : ∀ s : (Nat → Int32) × Int32, k2 s = some res → ax X 0 0 2 [some (.ref (ao 0)), some (.ref qp1), some (.int s.2), none, none, none, none] [oX12 ao io_thrown io_rows io_cells io_children io_changes io_taped io_at io_to io_nest io_readMany io_codeLong io_readLong io_undos io_wentHome io_tideLevel io_acts io_firstBreaks io_bestCrew io_sights io_wayMany io_random, rI Y (ao 3) 12 co_dyke, rI Y qp1 43 s.1] []) {k10 : (Nat → Int32) × Int32 × Int32 → Option ((Nat → Int32))} (hk10 : ∀ s : (Nat → Int32) × Int32 × Int32, k10 s = some res → ax X 0 0 10 [some (.ref (ao 0)), some (.ref qp1), some (.int s.2.1), some (.int s.2.2), none, none, none] [oX12 ao io_thrown io_rows io_cells io_children io_changes io_taped io_at io_to io_nest io_readMany io_codeLong io_readLong io_undos io_wentHome io_tideLevel io_acts io_firstBreaks io_bestCrew io_sights io_wayMany io_random, rI Y (ao 3) 12 co_dyke, rI Y qp1 43 s.1] []) (hf : fX12_waterGoes_l10 io_cells co_dyke k2 k10 cp1 x2 x3 = some res) : ax X 0 0 10 [some (.ref (ao 0)), some (.ref qp1), some (.int x2), some (.int x3), none, none, none] [oX12 ao io_thrown io_rows io_cells io_children io_changes io_taped io_at io_to io_nest io_readMany io_codeLong io_readLong io_undos io_wentHome io_tideLevel io_acts io_firstBreaks io_bestCrew io_sights io_wayMany io_random, rI Y (ao 3) 12 co_dyke, rI Y qp1 43 cp1] [] := by
  unfold fX12_waterGoes_l10 at hf
  refine a_iload_n C dX12_waterGoes_10 rfl ?_
  refine a_iconst C (1 : Int32) dX12_waterGoes_11 (by decide) ?_
  refine a_iadd C dX12_waterGoes_12 ?_
  refine a_aload_n C dX12_waterGoes_13 rfl ?_
  refine a_get C (eB_X12_13 _) dX12_waterGoes_14 0 rfl rfl ?_
  refine a_icmp_ge C 97 dX12_waterGoes_17 (by decide) (fun h3 => ?_) (fun h3 => ?_)
  · have hf := fx_t h3 hf
    refine a_kill [3] ?_
    exact kX12_waterGoes_b97 C hQ hk2 hf
  · have hf := fx_f h3 hf
    refine a_bipush C (13 : Int32) dX12_waterGoes_20 (by decide) ?_
    refine a_iload_n C dX12_waterGoes_22 rfl ?_
    refine a_iadd C dX12_waterGoes_23 ?_
    refine a_istore C dX12_waterGoes_24 (by decide) rfl ?_
    refine a_aload_n C dX12_waterGoes_26 rfl ?_
    refine a_iload C dX12_waterGoes_27 rfl ?_
    obtain ⟨h4, hf⟩ := fx_ite hf
    refine a_iald C dX12_waterGoes_29 2 rfl h4 ?_
    refine a_aload_n C dX12_waterGoes_30 rfl ?_
    refine a_iload C dX12_waterGoes_31 rfl ?_
    refine a_iconst C (1 : Int32) dX12_waterGoes_33 (by decide) ?_
    refine a_iadd C dX12_waterGoes_34 ?_
    obtain ⟨h5, hf⟩ := fx_ite hf
    refine a_iald C dX12_waterGoes_35 2 rfl h5 ?_
    refine a_mmax C dX12_waterGoes_36 (mB_X12_259 _) ⟨⟨Nat.le_of_ble_eq_true rfl, Nat.le_of_ble_eq_true rfl⟩, ⟨Nat.le_of_ble_eq_true rfl, Nat.le_of_ble_eq_true rfl⟩⟩ (Nat.le_of_ble_eq_true rfl) ?_
    refine a_aload_n C dX12_waterGoes_39 rfl ?_
    refine a_get C (eB_X12_21 _) dX12_waterGoes_40 0 rfl rfl ?_
    refine a_iload_n C dX12_waterGoes_43 rfl ?_
    obtain ⟨h6, hf⟩ := fx_ite hf
    refine a_iald C dX12_waterGoes_44 1 rfl h6 ?_
    refine a_isub C dX12_waterGoes_45 ?_
    refine a_iconst C (1 : Int32) dX12_waterGoes_46 (by decide) ?_
    refine a_isub C dX12_waterGoes_47 ?_
    refine a_istore C dX12_waterGoes_48 (by decide) rfl ?_
    refine a_aload_n C dX12_waterGoes_50 rfl ?_
    refine a_iload C dX12_waterGoes_51 rfl ?_
    refine a_iald C dX12_waterGoes_53 2 rfl h4 ?_
    refine a_aload_n C dX12_waterGoes_54 rfl ?_
    refine a_iload C dX12_waterGoes_55 rfl ?_
    refine a_iconst C (1 : Int32) dX12_waterGoes_57 (by decide) ?_
    refine a_iadd C dX12_waterGoes_58 ?_
    refine a_iald C dX12_waterGoes_59 2 rfl h5 ?_
    refine a_icmp_ge C 68 dX12_waterGoes_60 (by decide) (fun h7 => ?_) (fun h7 => ?_)
    · have hf := fx_t h7 hf
      refine a_iload C dX12_waterGoes_68 rfl ?_
      refine a_iconst C (1 : Int32) dX12_waterGoes_70 (by decide) ?_
      refine a_iadd C dX12_waterGoes_71 ?_
      refine a_kill [4] ?_
      exact kX12_waterGoes_b72 C hQ hk2 hk10 hf
    · have hf := fx_f h7 hf
      refine a_iload C dX12_waterGoes_63 rfl ?_
      refine a_goto C 72 dX12_waterGoes_65 (by decide) ?_
      refine a_kill [4] ?_
      exact kX12_waterGoes_b72 C hQ hk2 hk10 hf
set_option maxHeartbeats 400000 in
set_option maxRecDepth 100000 in
theorem kX12_waterGoes_b10 {X : cxT} {l : Launch} {D : va_G} {Y : Nat → ClassId} {ao : Nat → Nat} {qp1 : Nat} {io_thrown : Int32} {io_rows : Int32} {io_cells : Int32} {io_children : Int32} {io_changes : Int32} {io_taped : Int32} {io_at : Int32} {io_to : Int32} {io_nest : Int32} {io_readMany : Int32} {io_codeLong : Int32} {io_readLong : Int32} {io_undos : Int32} {io_wentHome : Int32} {io_tideLevel : Int32} {io_acts : Int32} {io_firstBreaks : Int32} {io_bestCrew : Int32} {io_sights : Int32} {io_wayMany : Int32} {io_random : Int32} {co_dyke : Nat → Int32} {cp1 : Nat → Int32} {x2 : Int32} {x3 : Int32} {res : (Nat → Int32)} (C : axC X l D Y cX12_waterGoes 7 RX12 wsX12_waterGoes rmX12_waterGoes none) (hQ : axQ X 0 0 (fun r9 w9 => r9 = none ∧ w9 = [oX12 ao io_thrown io_rows io_cells io_children io_changes io_taped io_at io_to io_nest io_readMany io_codeLong io_readLong io_undos io_wentHome io_tideLevel io_acts io_firstBreaks io_bestCrew io_sights io_wayMany io_random, rI Y (ao 3) 12 co_dyke, rI Y qp1 43 res])) {k2 : (Nat → Int32) × Int32 → Option ((Nat → Int32))} (hk2 : ∀ s : (Nat → Int32) × Int32, k2 s = some res → ax X 0 0 2 [some (.ref (ao 0)), some (.ref qp1), some (.int s.2), none, none, none, none] [oX12 ao io_thrown io_rows io_cells io_children io_changes io_taped io_at io_to io_nest io_readMany io_codeLong io_readLong io_undos io_wentHome io_tideLevel io_acts io_firstBreaks io_bestCrew io_sights io_wayMany io_random, rI Y (ao 3) 12 co_dyke, rI Y qp1 43 s.1] []) (hf : fX12_waterGoes_b10 io_cells co_dyke cp1 x2 x3 k2 = some res) : ax X 0 0 10 [some (.ref (ao 0)), some (.ref qp1), some (.int x2), some (.int x3), none, none, none] [oX12 ao io_thrown io_rows io_cells io_children io_changes io_taped io_at io_to io_nest io_readMany io_codeLong io_readLong io_undos io_wentHome io_tideLevel io_acts io_firstBreaks io_bestCrew io_sights io_wayMany io_random, rI Y (ao 3) 12 co_dyke, rI Y qp1 43 cp1] [] := by
  unfold fX12_waterGoes_b10 at hf
  exact fx_loop (P := fun s : (Nat → Int32) × Int32 × Int32 => ax X 0 0 10 [some (.ref (ao 0)), some (.ref qp1), some (.int s.2.1), some (.int s.2.2), none, none, none] [oX12 ao io_thrown io_rows io_cells io_children io_changes io_taped io_at io_to io_nest io_readMany io_codeLong io_readLong io_undos io_wentHome io_tideLevel io_acts io_firstBreaks io_bestCrew io_sights io_wayMany io_random, rI Y (ao 3) 12 co_dyke, rI Y qp1 43 s.1] []) (fun s k10 hk10 h => kX12_waterGoes_l10 C hQ hk2 hk10 h) FUEL (cp1, x2, x3) hf
def fX12_waterGoes_l2 (io_cells : Int32) (co_dyke : Nat → Int32) (k2 : (Nat → Int32) × Int32 → Option ((Nat → Int32))) (cp1 : Nat → Int32) (x2 : Int32) : Option ((Nat → Int32)) :=
  if x2 = (0 : Int32) then (fX12_waterGoes_b100 io_cells co_dyke cp1) else (fX12_waterGoes_b10 io_cells co_dyke cp1 (0 : Int32) (0 : Int32) k2)
def fX12_waterGoes_b2 (io_cells : Int32) (co_dyke : Nat → Int32) (cp1 : Nat → Int32) (x2 : Int32) : Option ((Nat → Int32)) :=
  loopN (fun (s : (Nat → Int32) × Int32) k2 => fX12_waterGoes_l2 io_cells co_dyke k2 s.1 s.2) FUEL (cp1, x2)
set_option maxHeartbeats 400000 in
set_option maxRecDepth 100000 in
theorem kX12_waterGoes_l2 {X : cxT} {l : Launch} {D : va_G} {Y : Nat → ClassId} {ao : Nat → Nat} {qp1 : Nat} {io_thrown : Int32} {io_rows : Int32} {io_cells : Int32} {io_children : Int32} {io_changes : Int32} {io_taped : Int32} {io_at : Int32} {io_to : Int32} {io_nest : Int32} {io_readMany : Int32} {io_codeLong : Int32} {io_readLong : Int32} {io_undos : Int32} {io_wentHome : Int32} {io_tideLevel : Int32} {io_acts : Int32} {io_firstBreaks : Int32} {io_bestCrew : Int32} {io_sights : Int32} {io_wayMany : Int32} {io_random : Int32} {co_dyke : Nat → Int32} {cp1 : Nat → Int32} {x2 : Int32} {res : (Nat → Int32)} (C : axC X l D Y cX12_waterGoes 7 RX12 wsX12_waterGoes rmX12_waterGoes none) (hQ : axQ X 0 0 (fun r9 w9 => r9 = none ∧ w9 = [oX12 ao io_thrown io_rows io_cells io_children io_changes io_taped io_at io_to io_nest io_readMany io_codeLong io_readLong io_undos io_wentHome io_tideLevel io_acts io_firstBreaks io_bestCrew io_sights io_wayMany io_random, rI Y (ao 3) 12 co_dyke, rI Y qp1 43 res])) {k2 : (Nat → Int32) × Int32 → Option ((Nat → Int32))} (hk2 : ∀ s : (Nat → Int32) × Int32, k2 s = some res → ax X 0 0 2 [some (.ref (ao 0)), some (.ref qp1), some (.int s.2), none, none, none, none] [oX12 ao io_thrown io_rows io_cells io_children io_changes io_taped io_at io_to io_nest io_readMany io_codeLong io_readLong io_undos io_wentHome io_tideLevel io_acts io_firstBreaks io_bestCrew io_sights io_wayMany io_random, rI Y (ao 3) 12 co_dyke, rI Y qp1 43 s.1] []) (hf : fX12_waterGoes_l2 io_cells co_dyke k2 cp1 x2 = some res) : ax X 0 0 2 [some (.ref (ao 0)), some (.ref qp1), some (.int x2), none, none, none, none] [oX12 ao io_thrown io_rows io_cells io_children io_changes io_taped io_at io_to io_nest io_readMany io_codeLong io_readLong io_undos io_wentHome io_tideLevel io_acts io_firstBreaks io_bestCrew io_sights io_wayMany io_random, rI Y (ao 3) 12 co_dyke, rI Y qp1 43 cp1] [] := by
  unfold fX12_waterGoes_l2 at hf
  refine a_iload_n C dX12_waterGoes_2 rfl ?_
  refine a_if_eq C 100 dX12_waterGoes_3 (by decide) (fun h8 => ?_) (fun h8 => ?_)
  · have hf := fx_t h8 hf
    refine a_kill [0, 1, 2] ?_
    exact kX12_waterGoes_b100 C hQ hf
  · have hf := fx_f h8 hf
    refine a_iconst C (0 : Int32) dX12_waterGoes_6 (by decide) ?_
    refine a_istore_n C dX12_waterGoes_7 (by decide) rfl ?_
    refine a_iconst C (0 : Int32) dX12_waterGoes_8 (by decide) ?_
    refine a_istore_n C dX12_waterGoes_9 (by decide) rfl ?_
    exact kX12_waterGoes_b10 C hQ hk2 hf
set_option maxHeartbeats 400000 in
set_option maxRecDepth 100000 in
theorem kX12_waterGoes_b2 {X : cxT} {l : Launch} {D : va_G} {Y : Nat → ClassId} {ao : Nat → Nat} {qp1 : Nat} {io_thrown : Int32} {io_rows : Int32} {io_cells : Int32} {io_children : Int32} {io_changes : Int32} {io_taped : Int32} {io_at : Int32} {io_to : Int32} {io_nest : Int32} {io_readMany : Int32} {io_codeLong : Int32} {io_readLong : Int32} {io_undos : Int32} {io_wentHome : Int32} {io_tideLevel : Int32} {io_acts : Int32} {io_firstBreaks : Int32} {io_bestCrew : Int32} {io_sights : Int32} {io_wayMany : Int32} {io_random : Int32} {co_dyke : Nat → Int32} {cp1 : Nat → Int32} {x2 : Int32} {res : (Nat → Int32)} (C : axC X l D Y cX12_waterGoes 7 RX12 wsX12_waterGoes rmX12_waterGoes none) (hQ : axQ X 0 0 (fun r9 w9 => r9 = none ∧ w9 = [oX12 ao io_thrown io_rows io_cells io_children io_changes io_taped io_at io_to io_nest io_readMany io_codeLong io_readLong io_undos io_wentHome io_tideLevel io_acts io_firstBreaks io_bestCrew io_sights io_wayMany io_random, rI Y (ao 3) 12 co_dyke, rI Y qp1 43 res])) (hf : fX12_waterGoes_b2 io_cells co_dyke cp1 x2 = some res) : ax X 0 0 2 [some (.ref (ao 0)), some (.ref qp1), some (.int x2), none, none, none, none] [oX12 ao io_thrown io_rows io_cells io_children io_changes io_taped io_at io_to io_nest io_readMany io_codeLong io_readLong io_undos io_wentHome io_tideLevel io_acts io_firstBreaks io_bestCrew io_sights io_wayMany io_random, rI Y (ao 3) 12 co_dyke, rI Y qp1 43 cp1] [] := by
  unfold fX12_waterGoes_b2 at hf
  exact fx_loop (P := fun s : (Nat → Int32) × Int32 => ax X 0 0 2 [some (.ref (ao 0)), some (.ref qp1), some (.int s.2), none, none, none, none] [oX12 ao io_thrown io_rows io_cells io_children io_changes io_taped io_at io_to io_nest io_readMany io_codeLong io_readLong io_undos io_wentHome io_tideLevel io_acts io_firstBreaks io_bestCrew io_sights io_wayMany io_random, rI Y (ao 3) 12 co_dyke, rI Y qp1 43 s.1] []) (fun s k2 hk2 h => kX12_waterGoes_l2 C hQ hk2 h) FUEL (cp1, x2) hf
def fX12_waterGoes (io_cells : Int32) (co_dyke : Nat → Int32) (cp1 : Nat → Int32) : Option ((Nat → Int32)) :=
  fX12_waterGoes_b2 io_cells co_dyke cp1 (1 : Int32)
set_option maxHeartbeats 400000 in
set_option maxRecDepth 100000 in
theorem kX12_waterGoes (l : Launch) (D : va_G) (Y : Nat → ClassId) (ao : Nat → Nat) (qp1 : Nat) (io_thrown : Int32) (io_rows : Int32) (io_cells : Int32) (io_children : Int32) (io_changes : Int32) (io_taped : Int32) (io_at : Int32) (io_to : Int32) (io_nest : Int32) (io_readMany : Int32) (io_codeLong : Int32) (io_readLong : Int32) (io_undos : Int32) (io_wentHome : Int32) (io_tideLevel : Int32) (io_acts : Int32) (io_firstBreaks : Int32) (io_bestCrew : Int32) (io_sights : Int32) (io_wayMany : Int32) (io_random : Int32) (co_dyke : Nat → Int32) (cp1 : Nat → Int32) (res : (Nat → Int32)) (hf : fX12_waterGoes io_cells co_dyke cp1 = some res) : amf l D Y yX12_waterGoes wsX12_waterGoes rmX12_waterGoes [.ref (ao 0), .ref qp1] [oX12 ao io_thrown io_rows io_cells io_children io_changes io_taped io_at io_to io_nest io_readMany io_codeLong io_readLong io_undos io_wentHome io_tideLevel io_acts io_firstBreaks io_bestCrew io_sights io_wayMany io_random, rI Y (ao 3) 12 co_dyke, rI Y qp1 43 cp1] none [oX12 ao io_thrown io_rows io_cells io_children io_changes io_taped io_at io_to io_nest io_readMany io_codeLong io_readLong io_undos io_wentHome io_tideLevel io_acts io_firstBreaks io_bestCrew io_sights io_wayMany io_random, rI Y (ao 3) 12 co_dyke, rI Y qp1 43 res] := by
  refine amf.of (cc := cX12_waterGoes) (maxL := 7) (rt := none) (by decide) rfl RX12 rfl (Nat.le_of_ble_eq_true rfl) [some (.ref (ao 0)), some (.ref qp1), none, none, none, none, none] rfl ?_
  intro X C hQ
  unfold fX12_waterGoes at hf
  refine a_iconst C (1 : Int32) dX12_waterGoes_0 (by decide) ?_
  refine a_istore_n C dX12_waterGoes_1 (by decide) rfl ?_
  exact kX12_waterGoes_b2 C hQ hf
-- X12_tideComes
abbrev rmX12_tideComes : Room := { frames := 4, cells := 0, slots := 0, locals := 87 }
theorem dvX12_tideComes : yX12_tideComes.cls = RX12 ∧ yX12_tideComes.cls ≠ "java/lang/invoke/MethodHandle" ∧ yX12_tideComes.cls ≠ "java/lang/invoke/VarHandle" ∧ (parseMethodDescriptor yX12_tideComes.desc).map (fun d => d.parameters.length) = some 1 := by decide +kernel
def fX12_tideComes_b138 (io_cells : Int32) (io_codeLong : Int32) (io_tideLevel : Int32) (co_base : Nat → Int32) (co_dyke : Nat → Int32) (co_fixed : Nat → Int32) (co_code : Nat → Int32) (co_stack : Nat → Int32) (co_asked : Nat → Int32) (cp1 : Nat → Int32) (x2 : Int32) : Option (Int32 × Int32 × (Nat → Int32) × (Nat → Int32) × (Nat → Int32)) :=
  if inb (12 : Int32) 43 then (fX12_waterGoes io_cells co_dyke (upd cp1 (Int32.toNatClampNeg (12 : Int32)) ((cp1 (Int32.toNatClampNeg (12 : Int32))) &&& (x2 ^^^ (-1 : Int32))))).bind (fun r2 => if inb (42 : Int32) 43 then some (x2, io_tideLevel, co_stack, co_asked, (upd r2 (Int32.toNatClampNeg (42 : Int32)) ((r2 (Int32.toNatClampNeg (42 : Int32))) + (1 : Int32)))) else none) else none
set_option maxHeartbeats 400000 in
set_option maxRecDepth 100000 in
theorem kX12_tideComes_b138 {X : cxT} {l : Launch} {D : va_G} {Y : Nat → ClassId} {ao : Nat → Nat} {qp1 : Nat} {io_thrown : Int32} {io_rows : Int32} {io_cells : Int32} {io_children : Int32} {io_changes : Int32} {io_taped : Int32} {io_at : Int32} {io_to : Int32} {io_nest : Int32} {io_readMany : Int32} {io_codeLong : Int32} {io_readLong : Int32} {io_undos : Int32} {io_wentHome : Int32} {io_tideLevel : Int32} {io_acts : Int32} {io_firstBreaks : Int32} {io_bestCrew : Int32} {io_sights : Int32} {io_wayMany : Int32} {io_random : Int32} {co_base : Nat → Int32} {co_dyke : Nat → Int32} {co_fixed : Nat → Int32} {co_code : Nat → Int32} {co_stack : Nat → Int32} {co_asked : Nat → Int32} {cp1 : Nat → Int32} {x2 : Int32} {res : Int32 × Int32 × (Nat → Int32) × (Nat → Int32) × (Nat → Int32)} (C : axC X l D Y cX12_tideComes 5 RX12 wsX12_tideComes rmX12_tideComes (some .int)) (hQ : axQ X 0 0 (fun r9 w9 => r9 = (some (.int res.1)) ∧ w9 = [oX12 ao io_thrown io_rows io_cells io_children io_changes io_taped io_at io_to io_nest io_readMany io_codeLong io_readLong io_undos io_wentHome res.2.1 io_acts io_firstBreaks io_bestCrew io_sights io_wayMany io_random, rI Y (ao 2) 12 co_base, rI Y (ao 3) 12 co_dyke, rI Y (ao 7) 2 co_fixed, rI Y (ao 12) 80 co_code, rI Y (ao 14) 80 res.2.2.1, rI Y (ao 15) 4 res.2.2.2.1, rI Y qp1 43 res.2.2.2.2])) (hf : fX12_tideComes_b138 io_cells io_codeLong io_tideLevel co_base co_dyke co_fixed co_code co_stack co_asked cp1 x2 = some res) : ax X 0 0 138 [some (.ref (ao 0)), some (.ref qp1), some (.int x2), none, none] [oX12 ao io_thrown io_rows io_cells io_children io_changes io_taped io_at io_to io_nest io_readMany io_codeLong io_readLong io_undos io_wentHome io_tideLevel io_acts io_firstBreaks io_bestCrew io_sights io_wayMany io_random, rI Y (ao 2) 12 co_base, rI Y (ao 3) 12 co_dyke, rI Y (ao 7) 2 co_fixed, rI Y (ao 12) 80 co_code, rI Y (ao 14) 80 co_stack, rI Y (ao 15) 4 co_asked, rI Y qp1 43 cp1] [] := by
  unfold fX12_tideComes_b138 at hf
  refine a_aload_n C dX12_tideComes_138 rfl ?_
  refine a_bipush C (12 : Int32) dX12_tideComes_139 (by decide) ?_
  refine a_dup2 C dX12_tideComes_141 rfl rfl ?_
  obtain ⟨h1, hf⟩ := fx_ite hf
  refine a_iald C dX12_tideComes_142 7 rfl h1 ?_
  refine a_iload_n C dX12_tideComes_143 rfl ?_
  refine a_iconst C (-1 : Int32) dX12_tideComes_144 (by decide) ?_
  refine a_ixor C dX12_tideComes_145 ?_
  refine a_iand C dX12_tideComes_146 ?_
  refine a_iast C dX12_tideComes_147 7 rfl h1 ?_
  refine a_aload_n C dX12_tideComes_148 rfl ?_
  refine a_aload_n C dX12_tideComes_149 rfl ?_
  obtain ⟨r2, h2, hf⟩ := fx_bind hf
  refine a_fV C (kX12_waterGoes l D Y ao qp1 io_thrown io_rows io_cells io_children io_changes io_taped io_at io_to io_nest io_readMany io_codeLong io_readLong io_undos io_wentHome io_tideLevel io_acts io_firstBreaks io_bestCrew io_sights io_wayMany io_random co_dyke (upd cp1 (Int32.toNatClampNeg (12 : Int32)) ((cp1 (Int32.toNatClampNeg (12 : Int32))) &&& (x2 ^^^ (-1 : Int32)))) r2 h2) (gB_X12_325 _) rfl dvX12_waterGoes ⟨⟨rfl, rfl⟩, ⟨Nat.le_of_ble_eq_true rfl, Nat.le_of_ble_eq_true rfl⟩, ⟨Nat.le_of_ble_eq_true rfl, Nat.le_of_ble_eq_true rfl⟩⟩ rfl (Nat.le_of_ble_eq_true rfl) dX12_tideComes_150 rfl rfl [0, 2, 7] [1, 3, 4, 5, 6] ⟨rfl, rfl, rfl, trivial⟩ (by decide +kernel) rfl [oX12 ao io_thrown io_rows io_cells io_children io_changes io_taped io_at io_to io_nest io_readMany io_codeLong io_readLong io_undos io_wentHome io_tideLevel io_acts io_firstBreaks io_bestCrew io_sights io_wayMany io_random, rI Y (ao 2) 12 co_base, rI Y (ao 3) 12 co_dyke, rI Y (ao 7) 2 co_fixed, rI Y (ao 12) 80 co_code, rI Y (ao 14) 80 co_stack, rI Y (ao 15) 4 co_asked, rI Y qp1 43 r2] ⟨rfl, rfl, rfl, trivial⟩ ⟨rfl, rfl, rfl, rfl, rfl, trivial⟩ 8 rfl (by decide +kernel) ?_
  refine a_aload_n C dX12_tideComes_153 rfl ?_
  refine a_bipush C (42 : Int32) dX12_tideComes_154 (by decide) ?_
  refine a_dup2 C dX12_tideComes_156 rfl rfl ?_
  obtain ⟨h3, hf⟩ := fx_ite hf
  refine a_iald C dX12_tideComes_157 7 rfl h3 ?_
  refine a_iconst C (1 : Int32) dX12_tideComes_158 (by decide) ?_
  refine a_iadd C dX12_tideComes_159 ?_
  refine a_iast C dX12_tideComes_160 7 rfl h3 ?_
  refine a_iload_n C dX12_tideComes_161 rfl ?_
  obtain rfl := fx_some hf
  exact a_iret C hQ dX12_tideComes_162 ⟨rfl, rfl⟩
def fX12_tideComes_b132 (io_cells : Int32) (io_codeLong : Int32) (io_tideLevel : Int32) (co_base : Nat → Int32) (co_dyke : Nat → Int32) (co_fixed : Nat → Int32) (co_code : Nat → Int32) (co_stack : Nat → Int32) (co_asked : Nat → Int32) (cp1 : Nat → Int32) (x2 : Int32) (x3 : Int32) (k25 : (Nat → Int32) × Int32 → Option (Int32 × Int32 × (Nat → Int32) × (Nat → Int32) × (Nat → Int32))) : Option (Int32 × Int32 × (Nat → Int32) × (Nat → Int32) × (Nat → Int32)) :=
  k25 (cp1, (x3 + (1 : Int32)))
set_option maxHeartbeats 400000 in
set_option maxRecDepth 100000 in
theorem kX12_tideComes_b132 {X : cxT} {l : Launch} {D : va_G} {Y : Nat → ClassId} {ao : Nat → Nat} {qp1 : Nat} {io_thrown : Int32} {io_rows : Int32} {io_cells : Int32} {io_children : Int32} {io_changes : Int32} {io_taped : Int32} {io_at : Int32} {io_to : Int32} {io_nest : Int32} {io_readMany : Int32} {io_codeLong : Int32} {io_readLong : Int32} {io_undos : Int32} {io_wentHome : Int32} {io_tideLevel : Int32} {io_acts : Int32} {io_firstBreaks : Int32} {io_bestCrew : Int32} {io_sights : Int32} {io_wayMany : Int32} {io_random : Int32} {co_base : Nat → Int32} {co_dyke : Nat → Int32} {co_fixed : Nat → Int32} {co_code : Nat → Int32} {co_stack : Nat → Int32} {co_asked : Nat → Int32} {cp1 : Nat → Int32} {x2 : Int32} {x3 : Int32} {res : Int32 × Int32 × (Nat → Int32) × (Nat → Int32) × (Nat → Int32)} (C : axC X l D Y cX12_tideComes 5 RX12 wsX12_tideComes rmX12_tideComes (some .int)) (hQ : axQ X 0 0 (fun r9 w9 => r9 = (some (.int res.1)) ∧ w9 = [oX12 ao io_thrown io_rows io_cells io_children io_changes io_taped io_at io_to io_nest io_readMany io_codeLong io_readLong io_undos io_wentHome res.2.1 io_acts io_firstBreaks io_bestCrew io_sights io_wayMany io_random, rI Y (ao 2) 12 co_base, rI Y (ao 3) 12 co_dyke, rI Y (ao 7) 2 co_fixed, rI Y (ao 12) 80 co_code, rI Y (ao 14) 80 res.2.2.1, rI Y (ao 15) 4 res.2.2.2.1, rI Y qp1 43 res.2.2.2.2])) {k25 : (Nat → Int32) × Int32 → Option (Int32 × Int32 × (Nat → Int32) × (Nat → Int32) × (Nat → Int32))} (hk25 : ∀ s : (Nat → Int32) × Int32, k25 s = some res → ax X 0 0 25 [some (.ref (ao 0)), some (.ref qp1), some (.int x2), some (.int s.2), none] [oX12 ao io_thrown io_rows io_cells io_children io_changes io_taped io_at io_to io_nest io_readMany io_codeLong io_readLong io_undos io_wentHome io_tideLevel io_acts io_firstBreaks io_bestCrew io_sights io_wayMany io_random, rI Y (ao 2) 12 co_base, rI Y (ao 3) 12 co_dyke, rI Y (ao 7) 2 co_fixed, rI Y (ao 12) 80 co_code, rI Y (ao 14) 80 co_stack, rI Y (ao 15) 4 co_asked, rI Y qp1 43 s.1] []) (hf : fX12_tideComes_b132 io_cells io_codeLong io_tideLevel co_base co_dyke co_fixed co_code co_stack co_asked cp1 x2 x3 k25 = some res) : ax X 0 0 132 [some (.ref (ao 0)), some (.ref qp1), some (.int x2), some (.int x3), none] [oX12 ao io_thrown io_rows io_cells io_children io_changes io_taped io_at io_to io_nest io_readMany io_codeLong io_readLong io_undos io_wentHome io_tideLevel io_acts io_firstBreaks io_bestCrew io_sights io_wayMany io_random, rI Y (ao 2) 12 co_base, rI Y (ao 3) 12 co_dyke, rI Y (ao 7) 2 co_fixed, rI Y (ao 12) 80 co_code, rI Y (ao 14) 80 co_stack, rI Y (ao 15) 4 co_asked, rI Y qp1 43 cp1] [] := by
  unfold fX12_tideComes_b132 at hf
  refine a_iinc C (1 : Int32) dX12_tideComes_132 (by decide) rfl (by decide) rfl ?_
  refine a_goto C 25 dX12_tideComes_135 (by decide) ?_
  exact hk25 (cp1, (x3 + (1 : Int32))) hf
def fX12_tideComes_b116 (io_cells : Int32) (io_codeLong : Int32) (io_tideLevel : Int32) (co_base : Nat → Int32) (co_dyke : Nat → Int32) (co_fixed : Nat → Int32) (co_code : Nat → Int32) (co_stack : Nat → Int32) (co_asked : Nat → Int32) (cp1 : Nat → Int32) (x2 : Int32) (x3 : Int32) (s0 : Int32) (s1 : Int32) (k25 : (Nat → Int32) × Int32 → Option (Int32 × Int32 × (Nat → Int32) × (Nat → Int32) × (Nat → Int32))) : Option (Int32 × Int32 × (Nat → Int32) × (Nat → Int32) × (Nat → Int32)) :=
  if ¬ s1 = 0 then if inb x3 43 then fX12_tideComes_b132 io_cells io_codeLong io_tideLevel co_base co_dyke co_fixed co_code co_stack co_asked (upd cp1 (Int32.toNatClampNeg x3) (jmax (0 : Int32) ((cp1 (Int32.toNatClampNeg x3)) - (s0 / s1)))) x2 x3 k25 else none else none
set_option maxHeartbeats 400000 in
set_option maxRecDepth 100000 in
theorem kX12_tideComes_b116 {X : cxT} {l : Launch} {D : va_G} {Y : Nat → ClassId} {ao : Nat → Nat} {qp1 : Nat} {io_thrown : Int32} {io_rows : Int32} {io_cells : Int32} {io_children : Int32} {io_changes : Int32} {io_taped : Int32} {io_at : Int32} {io_to : Int32} {io_nest : Int32} {io_readMany : Int32} {io_codeLong : Int32} {io_readLong : Int32} {io_undos : Int32} {io_wentHome : Int32} {io_tideLevel : Int32} {io_acts : Int32} {io_firstBreaks : Int32} {io_bestCrew : Int32} {io_sights : Int32} {io_wayMany : Int32} {io_random : Int32} {co_base : Nat → Int32} {co_dyke : Nat → Int32} {co_fixed : Nat → Int32} {co_code : Nat → Int32} {co_stack : Nat → Int32} {co_asked : Nat → Int32} {cp1 : Nat → Int32} {x2 : Int32} {x3 : Int32} {s0 : Int32} {s1 : Int32} {res : Int32 × Int32 × (Nat → Int32) × (Nat → Int32) × (Nat → Int32)} (C : axC X l D Y cX12_tideComes 5 RX12 wsX12_tideComes rmX12_tideComes (some .int)) (hQ : axQ X 0 0 (fun r9 w9 => r9 = (some (.int res.1)) ∧ w9 = [oX12 ao io_thrown io_rows io_cells io_children io_changes io_taped io_at io_to io_nest io_readMany io_codeLong io_readLong io_undos io_wentHome res.2.1 io_acts io_firstBreaks io_bestCrew io_sights io_wayMany io_random, rI Y (ao 2) 12 co_base, rI Y (ao 3) 12 co_dyke, rI Y (ao 7) 2 co_fixed, rI Y (ao 12) 80 co_code, rI Y (ao 14) 80 res.2.2.1, rI Y (ao 15) 4 res.2.2.2.1, rI Y qp1 43 res.2.2.2.2])) {k25 : (Nat → Int32) × Int32 → Option (Int32 × Int32 × (Nat → Int32) × (Nat → Int32) × (Nat → Int32))} (hk25 : ∀ s : (Nat → Int32) × Int32, k25 s = some res → ax X 0 0 25 [some (.ref (ao 0)), some (.ref qp1), some (.int x2), some (.int s.2), none] [oX12 ao io_thrown io_rows io_cells io_children io_changes io_taped io_at io_to io_nest io_readMany io_codeLong io_readLong io_undos io_wentHome io_tideLevel io_acts io_firstBreaks io_bestCrew io_sights io_wayMany io_random, rI Y (ao 2) 12 co_base, rI Y (ao 3) 12 co_dyke, rI Y (ao 7) 2 co_fixed, rI Y (ao 12) 80 co_code, rI Y (ao 14) 80 co_stack, rI Y (ao 15) 4 co_asked, rI Y qp1 43 s.1] []) (hf : fX12_tideComes_b116 io_cells io_codeLong io_tideLevel co_base co_dyke co_fixed co_code co_stack co_asked cp1 x2 x3 s0 s1 k25 = some res) : ax X 0 0 116 [some (.ref (ao 0)), some (.ref qp1), some (.int x2), some (.int x3), none] [oX12 ao io_thrown io_rows io_cells io_children io_changes io_taped io_at io_to io_nest io_readMany io_codeLong io_readLong io_undos io_wentHome io_tideLevel io_acts io_firstBreaks io_bestCrew io_sights io_wayMany io_random, rI Y (ao 2) 12 co_base, rI Y (ao 3) 12 co_dyke, rI Y (ao 7) 2 co_fixed, rI Y (ao 12) 80 co_code, rI Y (ao 14) 80 co_stack, rI Y (ao 15) 4 co_asked, rI Y qp1 43 cp1] [.int s1, .int s0] := by
  unfold fX12_tideComes_b116 at hf
  obtain ⟨h4, hf⟩ := fx_ite hf
  refine a_idiv C dX12_tideComes_116 h4 ?_
  refine a_istore C dX12_tideComes_117 (by decide) rfl ?_
  refine a_aload_n C dX12_tideComes_119 rfl ?_
  refine a_iload_n C dX12_tideComes_120 rfl ?_
  refine a_iconst C (0 : Int32) dX12_tideComes_121 (by decide) ?_
  refine a_aload_n C dX12_tideComes_122 rfl ?_
  refine a_iload_n C dX12_tideComes_123 rfl ?_
  obtain ⟨h5, hf⟩ := fx_ite hf
  refine a_iald C dX12_tideComes_124 7 rfl h5 ?_
  refine a_iload C dX12_tideComes_125 rfl ?_
  refine a_isub C dX12_tideComes_127 ?_
  refine a_mmax C dX12_tideComes_128 (mB_X12_259 _) ⟨⟨Nat.le_of_ble_eq_true rfl, Nat.le_of_ble_eq_true rfl⟩, ⟨Nat.le_of_ble_eq_true rfl, Nat.le_of_ble_eq_true rfl⟩⟩ (Nat.le_of_ble_eq_true rfl) ?_
  refine a_iast C dX12_tideComes_131 7 rfl h5 ?_
  refine a_kill [4] ?_
  exact kX12_tideComes_b132 C hQ hk25 hf
def fX12_tideComes_l25 (io_cells : Int32) (io_codeLong : Int32) (io_tideLevel : Int32) (co_base : Nat → Int32) (co_dyke : Nat → Int32) (co_fixed : Nat → Int32) (co_code : Nat → Int32) (co_stack : Nat → Int32) (co_asked : Nat → Int32) (x2 : Int32) (k25 : (Nat → Int32) × Int32 → Option (Int32 × Int32 × (Nat → Int32) × (Nat → Int32) × (Nat → Int32))) (cp1 : Nat → Int32) (x3 : Int32) : Option (Int32 × Int32 × (Nat → Int32) × (Nat → Int32) × (Nat → Int32)) :=
  if io_cells ≤ x3 then (fX12_tideComes_b138 io_cells io_codeLong io_tideLevel co_base co_dyke co_fixed co_code co_stack co_asked cp1 x2) else ((fX12_has x2 x3).bind (fun r7 => if r7 = (0 : Int32) then (if inb x3 12 then if inb (12 : Int32) 43 then (fX12_has (cp1 (Int32.toNatClampNeg (12 : Int32))) x3).bind (fun r11 => if r11 = (0 : Int32) then (fX12_tideComes_b116 io_cells io_codeLong io_tideLevel co_base co_dyke co_fixed co_code co_stack co_asked cp1 x2 x3 (jmax (0 : Int32) (io_tideLevel - ((10 : Int32) * (co_base (Int32.toNatClampNeg x3))))) (4 : Int32) k25) else (fX12_tideComes_b116 io_cells io_codeLong io_tideLevel co_base co_dyke co_fixed co_code co_stack co_asked cp1 x2 x3 (jmax (0 : Int32) (io_tideLevel - ((10 : Int32) * (co_base (Int32.toNatClampNeg x3))))) (8 : Int32) k25)) else none else none) else (if inb ((13 : Int32) + x3) 43 then (fX12_topOf co_base cp1 x3).bind (fun r14 => if inb x3 43 then fX12_tideComes_b132 io_cells io_codeLong io_tideLevel co_base co_dyke co_fixed co_code co_stack co_asked (upd (upd cp1 (Int32.toNatClampNeg ((13 : Int32) + x3)) (jmin (999 : Int32) (((cp1 (Int32.toNatClampNeg ((13 : Int32) + x3))) + io_tideLevel) - r14))) (Int32.toNatClampNeg x3) (((upd cp1 (Int32.toNatClampNeg ((13 : Int32) + x3)) (jmin (999 : Int32) (((cp1 (Int32.toNatClampNeg ((13 : Int32) + x3))) + io_tideLevel) - r14))) (Int32.toNatClampNeg x3)) / (2 : Int32))) x2 x3 k25 else none) else none)))
def fX12_tideComes_b25 (io_cells : Int32) (io_codeLong : Int32) (io_tideLevel : Int32) (co_base : Nat → Int32) (co_dyke : Nat → Int32) (co_fixed : Nat → Int32) (co_code : Nat → Int32) (co_stack : Nat → Int32) (co_asked : Nat → Int32) (cp1 : Nat → Int32) (x2 : Int32) (x3 : Int32) : Option (Int32 × Int32 × (Nat → Int32) × (Nat → Int32) × (Nat → Int32)) :=
  loopN (fun (s : (Nat → Int32) × Int32) k25 => fX12_tideComes_l25 io_cells io_codeLong io_tideLevel co_base co_dyke co_fixed co_code co_stack co_asked x2 k25 s.1 s.2) FUEL (cp1, x3)
set_option maxHeartbeats 400000 in
set_option maxRecDepth 100000 in
theorem kX12_tideComes_l25 {X : cxT} {l : Launch} {D : va_G} {Y : Nat → ClassId} {ao : Nat → Nat} {qp1 : Nat} {io_thrown : Int32} {io_rows : Int32} {io_cells : Int32} {io_children : Int32} {io_changes : Int32} {io_taped : Int32} {io_at : Int32} {io_to : Int32} {io_nest : Int32} {io_readMany : Int32} {io_codeLong : Int32} {io_readLong : Int32} {io_undos : Int32} {io_wentHome : Int32} {io_tideLevel : Int32} {io_acts : Int32} {io_firstBreaks : Int32} {io_bestCrew : Int32} {io_sights : Int32} {io_wayMany : Int32} {io_random : Int32} {co_base : Nat → Int32} {co_dyke : Nat → Int32} {co_fixed : Nat → Int32} {co_code : Nat → Int32} {co_stack : Nat → Int32} {co_asked : Nat → Int32} {cp1 : Nat → Int32} {x2 : Int32} {x3 : Int32} {res : Int32 × Int32 × (Nat → Int32) × (Nat → Int32) × (Nat → Int32)} (C : axC X l D Y cX12_tideComes 5 RX12 wsX12_tideComes rmX12_tideComes (some .int)) (hQ : axQ X 0 0 (fun r9 w9 => r9 = (some (.int res.1)) ∧ w9 = [oX12 ao io_thrown io_rows io_cells io_children io_changes io_taped io_at io_to io_nest io_readMany io_codeLong io_readLong io_undos io_wentHome res.2.1 io_acts io_firstBreaks io_bestCrew io_sights io_wayMany io_random, rI Y (ao 2) 12 co_base, rI Y (ao 3) 12 co_dyke, rI Y (ao 7) 2 co_fixed, rI Y (ao 12) 80 co_code, rI Y (ao 14) 80 res.2.2.1, rI Y (ao 15) 4 res.2.2.2.1, rI Y qp1 43 res.2.2.2.2])) {k25 : (Nat → Int32) × Int32 → Option (Int32 × Int32 × (Nat → Int32) × (Nat → Int32) × (Nat → Int32))} (hk25 : ∀ s : (Nat → Int32) × Int32, k25 s = some res → ax X 0 0 25 [some (.ref (ao 0)), some (.ref qp1), some (.int x2), some (.int s.2), none] [oX12 ao io_thrown io_rows io_cells io_children io_changes io_taped io_at io_to io_nest io_readMany io_codeLong io_readLong io_undos io_wentHome io_tideLevel io_acts io_firstBreaks io_bestCrew io_sights io_wayMany io_random, rI Y (ao 2) 12 co_base, rI Y (ao 3) 12 co_dyke, rI Y (ao 7) 2 co_fixed, rI Y (ao 12) 80 co_code, rI Y (ao 14) 80 co_stack, rI Y (ao 15) 4 co_asked, rI Y qp1 43 s.1] []) (hf : fX12_tideComes_l25 io_cells io_codeLong io_tideLevel co_base co_dyke co_fixed co_code co_stack co_asked x2 k25 cp1 x3 = some res) : ax X 0 0 25 [some (.ref (ao 0)), some (.ref qp1), some (.int x2), some (.int x3), none] [oX12 ao io_thrown io_rows io_cells io_children io_changes io_taped io_at io_to io_nest io_readMany io_codeLong io_readLong io_undos io_wentHome io_tideLevel io_acts io_firstBreaks io_bestCrew io_sights io_wayMany io_random, rI Y (ao 2) 12 co_base, rI Y (ao 3) 12 co_dyke, rI Y (ao 7) 2 co_fixed, rI Y (ao 12) 80 co_code, rI Y (ao 14) 80 co_stack, rI Y (ao 15) 4 co_asked, rI Y qp1 43 cp1] [] := by
  unfold fX12_tideComes_l25 at hf
  refine a_iload_n C dX12_tideComes_25 rfl ?_
  refine a_aload_n C dX12_tideComes_26 rfl ?_
  refine a_get C (eB_X12_13 _) dX12_tideComes_27 0 rfl rfl ?_
  refine a_icmp_ge C 138 dX12_tideComes_30 (by decide) (fun h6 => ?_) (fun h6 => ?_)
  · have hf := fx_t h6 hf
    refine a_kill [3] ?_
    exact kX12_tideComes_b138 C hQ hf
  · have hf := fx_f h6 hf
    refine a_iload_n C dX12_tideComes_33 rfl ?_
    refine a_iload_n C dX12_tideComes_34 rfl ?_
    obtain ⟨r7, h7, hf⟩ := fx_bind hf
    refine a_fS C (kX12_has l D Y x2 x3 r7 h7) (gB_X12_269 _) rfl dvX12_has ⟨⟨rfl, rfl⟩, ⟨Nat.le_of_ble_eq_true rfl, Nat.le_of_ble_eq_true rfl⟩, ⟨Nat.le_of_ble_eq_true rfl, Nat.le_of_ble_eq_true rfl⟩⟩ rfl (Nat.le_of_ble_eq_true rfl) dX12_tideComes_35 [] [0, 1, 2, 3, 4, 5, 6, 7] trivial (by decide +kernel) rfl [oX12 ao io_thrown io_rows io_cells io_children io_changes io_taped io_at io_to io_nest io_readMany io_codeLong io_readLong io_undos io_wentHome io_tideLevel io_acts io_firstBreaks io_bestCrew io_sights io_wayMany io_random, rI Y (ao 2) 12 co_base, rI Y (ao 3) 12 co_dyke, rI Y (ao 7) 2 co_fixed, rI Y (ao 12) 80 co_code, rI Y (ao 14) 80 co_stack, rI Y (ao 15) 4 co_asked, rI Y qp1 43 cp1] trivial ⟨rfl, rfl, rfl, rfl, rfl, rfl, rfl, rfl, trivial⟩ 8 rfl (by decide +kernel) ?_
    refine a_if_eq C 81 dX12_tideComes_38 (by decide) (fun h8 => ?_) (fun h8 => ?_)
    · have hf := fx_t h8 hf
      refine a_iconst C (0 : Int32) dX12_tideComes_81 (by decide) ?_
      refine a_aload_n C dX12_tideComes_82 rfl ?_
      refine a_get C (eB_X12_319 _) dX12_tideComes_83 0 rfl rfl ?_
      refine a_bipush C (10 : Int32) dX12_tideComes_86 (by decide) ?_
      refine a_aload_n C dX12_tideComes_88 rfl ?_
      refine a_get C (eB_X12_17 _) dX12_tideComes_89 0 rfl rfl ?_
      refine a_iload_n C dX12_tideComes_92 rfl ?_
      obtain ⟨h9, hf⟩ := fx_ite hf
      refine a_iald C dX12_tideComes_93 1 rfl h9 ?_
      refine a_imul C dX12_tideComes_94 ?_
      refine a_isub C dX12_tideComes_95 ?_
      refine a_mmax C dX12_tideComes_96 (mB_X12_259 _) ⟨⟨Nat.le_of_ble_eq_true rfl, Nat.le_of_ble_eq_true rfl⟩, ⟨Nat.le_of_ble_eq_true rfl, Nat.le_of_ble_eq_true rfl⟩⟩ (Nat.le_of_ble_eq_true rfl) ?_
      refine a_aload_n C dX12_tideComes_99 rfl ?_
      refine a_bipush C (12 : Int32) dX12_tideComes_100 (by decide) ?_
      obtain ⟨h10, hf⟩ := fx_ite hf
      refine a_iald C dX12_tideComes_102 7 rfl h10 ?_
      refine a_iload_n C dX12_tideComes_103 rfl ?_
      obtain ⟨r11, h11, hf⟩ := fx_bind hf
      refine a_fS C (kX12_has l D Y (cp1 (Int32.toNatClampNeg (12 : Int32))) x3 r11 h11) (gB_X12_269 _) rfl dvX12_has ⟨⟨rfl, rfl⟩, ⟨Nat.le_of_ble_eq_true rfl, Nat.le_of_ble_eq_true rfl⟩, ⟨Nat.le_of_ble_eq_true rfl, Nat.le_of_ble_eq_true rfl⟩⟩ rfl (Nat.le_of_ble_eq_true rfl) dX12_tideComes_104 [] [0, 1, 2, 3, 4, 5, 6, 7] trivial (by decide +kernel) rfl [oX12 ao io_thrown io_rows io_cells io_children io_changes io_taped io_at io_to io_nest io_readMany io_codeLong io_readLong io_undos io_wentHome io_tideLevel io_acts io_firstBreaks io_bestCrew io_sights io_wayMany io_random, rI Y (ao 2) 12 co_base, rI Y (ao 3) 12 co_dyke, rI Y (ao 7) 2 co_fixed, rI Y (ao 12) 80 co_code, rI Y (ao 14) 80 co_stack, rI Y (ao 15) 4 co_asked, rI Y qp1 43 cp1] trivial ⟨rfl, rfl, rfl, rfl, rfl, rfl, rfl, rfl, trivial⟩ 8 rfl (by decide +kernel) ?_
      refine a_if_eq C 115 dX12_tideComes_107 (by decide) (fun h12 => ?_) (fun h12 => ?_)
      · have hf := fx_t h12 hf
        refine a_iconst C (4 : Int32) dX12_tideComes_115 (by decide) ?_
        exact kX12_tideComes_b116 C hQ hk25 hf
      · have hf := fx_f h12 hf
        refine a_bipush C (8 : Int32) dX12_tideComes_110 (by decide) ?_
        refine a_goto C 116 dX12_tideComes_112 (by decide) ?_
        exact kX12_tideComes_b116 C hQ hk25 hf
    · have hf := fx_f h8 hf
      refine a_aload_n C dX12_tideComes_41 rfl ?_
      refine a_bipush C (13 : Int32) dX12_tideComes_42 (by decide) ?_
      refine a_iload_n C dX12_tideComes_44 rfl ?_
      refine a_iadd C dX12_tideComes_45 ?_
      refine a_sipush C (999 : Int32) dX12_tideComes_46 (by decide) ?_
      refine a_aload_n C dX12_tideComes_49 rfl ?_
      refine a_bipush C (13 : Int32) dX12_tideComes_50 (by decide) ?_
      refine a_iload_n C dX12_tideComes_52 rfl ?_
      refine a_iadd C dX12_tideComes_53 ?_
      obtain ⟨h13, hf⟩ := fx_ite hf
      refine a_iald C dX12_tideComes_54 7 rfl h13 ?_
      refine a_aload_n C dX12_tideComes_55 rfl ?_
      refine a_get C (eB_X12_319 _) dX12_tideComes_56 0 rfl rfl ?_
      refine a_iadd C dX12_tideComes_59 ?_
      refine a_aload_n C dX12_tideComes_60 rfl ?_
      refine a_aload_n C dX12_tideComes_61 rfl ?_
      refine a_iload_n C dX12_tideComes_62 rfl ?_
      obtain ⟨r14, h14, hf⟩ := fx_bind hf
      refine a_fV C (kX12_topOf l D Y ao qp1 io_thrown io_rows io_cells io_children io_changes io_taped io_at io_to io_nest io_readMany io_codeLong io_readLong io_undos io_wentHome io_tideLevel io_acts io_firstBreaks io_bestCrew io_sights io_wayMany io_random co_base cp1 x3 r14 h14) (gB_X12_291 _) rfl dvX12_topOf ⟨⟨rfl, rfl⟩, ⟨Nat.le_of_ble_eq_true rfl, Nat.le_of_ble_eq_true rfl⟩, ⟨Nat.le_of_ble_eq_true rfl, Nat.le_of_ble_eq_true rfl⟩⟩ rfl (Nat.le_of_ble_eq_true rfl) dX12_tideComes_63 rfl rfl [0, 1, 7] [2, 3, 4, 5, 6] ⟨rfl, rfl, rfl, trivial⟩ (by decide +kernel) rfl [oX12 ao io_thrown io_rows io_cells io_children io_changes io_taped io_at io_to io_nest io_readMany io_codeLong io_readLong io_undos io_wentHome io_tideLevel io_acts io_firstBreaks io_bestCrew io_sights io_wayMany io_random, rI Y (ao 2) 12 co_base, rI Y (ao 3) 12 co_dyke, rI Y (ao 7) 2 co_fixed, rI Y (ao 12) 80 co_code, rI Y (ao 14) 80 co_stack, rI Y (ao 15) 4 co_asked, rI Y qp1 43 cp1] ⟨rfl, rfl, rfl, trivial⟩ ⟨rfl, rfl, rfl, rfl, rfl, trivial⟩ 8 rfl (by decide +kernel) ?_
      refine a_isub C dX12_tideComes_66 ?_
      refine a_mmin C dX12_tideComes_67 (mB_X12_142 _) ⟨⟨Nat.le_of_ble_eq_true rfl, Nat.le_of_ble_eq_true rfl⟩, ⟨Nat.le_of_ble_eq_true rfl, Nat.le_of_ble_eq_true rfl⟩⟩ (Nat.le_of_ble_eq_true rfl) ?_
      refine a_iast C dX12_tideComes_70 7 rfl h13 ?_
      refine a_aload_n C dX12_tideComes_71 rfl ?_
      refine a_iload_n C dX12_tideComes_72 rfl ?_
      refine a_dup2 C dX12_tideComes_73 rfl rfl ?_
      obtain ⟨h15, hf⟩ := fx_ite hf
      refine a_iald C dX12_tideComes_74 7 rfl h15 ?_
      refine a_iconst C (2 : Int32) dX12_tideComes_75 (by decide) ?_
      refine a_idiv C dX12_tideComes_76 (by decide) ?_
      refine a_iast C dX12_tideComes_77 7 rfl h15 ?_
      refine a_goto C 132 dX12_tideComes_78 (by decide) ?_
      exact kX12_tideComes_b132 C hQ hk25 hf
set_option maxHeartbeats 400000 in
set_option maxRecDepth 100000 in
theorem kX12_tideComes_b25 {X : cxT} {l : Launch} {D : va_G} {Y : Nat → ClassId} {ao : Nat → Nat} {qp1 : Nat} {io_thrown : Int32} {io_rows : Int32} {io_cells : Int32} {io_children : Int32} {io_changes : Int32} {io_taped : Int32} {io_at : Int32} {io_to : Int32} {io_nest : Int32} {io_readMany : Int32} {io_codeLong : Int32} {io_readLong : Int32} {io_undos : Int32} {io_wentHome : Int32} {io_tideLevel : Int32} {io_acts : Int32} {io_firstBreaks : Int32} {io_bestCrew : Int32} {io_sights : Int32} {io_wayMany : Int32} {io_random : Int32} {co_base : Nat → Int32} {co_dyke : Nat → Int32} {co_fixed : Nat → Int32} {co_code : Nat → Int32} {co_stack : Nat → Int32} {co_asked : Nat → Int32} {cp1 : Nat → Int32} {x2 : Int32} {x3 : Int32} {res : Int32 × Int32 × (Nat → Int32) × (Nat → Int32) × (Nat → Int32)} (C : axC X l D Y cX12_tideComes 5 RX12 wsX12_tideComes rmX12_tideComes (some .int)) (hQ : axQ X 0 0 (fun r9 w9 => r9 = (some (.int res.1)) ∧ w9 = [oX12 ao io_thrown io_rows io_cells io_children io_changes io_taped io_at io_to io_nest io_readMany io_codeLong io_readLong io_undos io_wentHome res.2.1 io_acts io_firstBreaks io_bestCrew io_sights io_wayMany io_random, rI Y (ao 2) 12 co_base, rI Y (ao 3) 12 co_dyke, rI Y (ao 7) 2 co_fixed, rI Y (ao 12) 80 co_code, rI Y (ao 14) 80 res.2.2.1, rI Y (ao 15) 4 res.2.2.2.1, rI Y qp1 43 res.2.2.2.2])) (hf : fX12_tideComes_b25 io_cells io_codeLong io_tideLevel co_base co_dyke co_fixed co_code co_stack co_asked cp1 x2 x3 = some res) : ax X 0 0 25 [some (.ref (ao 0)), some (.ref qp1), some (.int x2), some (.int x3), none] [oX12 ao io_thrown io_rows io_cells io_children io_changes io_taped io_at io_to io_nest io_readMany io_codeLong io_readLong io_undos io_wentHome io_tideLevel io_acts io_firstBreaks io_bestCrew io_sights io_wayMany io_random, rI Y (ao 2) 12 co_base, rI Y (ao 3) 12 co_dyke, rI Y (ao 7) 2 co_fixed, rI Y (ao 12) 80 co_code, rI Y (ao 14) 80 co_stack, rI Y (ao 15) 4 co_asked, rI Y qp1 43 cp1] [] := by
  unfold fX12_tideComes_b25 at hf
  exact fx_loop (P := fun s : (Nat → Int32) × Int32 => ax X 0 0 25 [some (.ref (ao 0)), some (.ref qp1), some (.int x2), some (.int s.2), none] [oX12 ao io_thrown io_rows io_cells io_children io_changes io_taped io_at io_to io_nest io_readMany io_codeLong io_readLong io_undos io_wentHome io_tideLevel io_acts io_firstBreaks io_bestCrew io_sights io_wayMany io_random, rI Y (ao 2) 12 co_base, rI Y (ao 3) 12 co_dyke, rI Y (ao 7) 2 co_fixed, rI Y (ao 12) 80 co_code, rI Y (ao 14) 80 co_stack, rI Y (ao 15) 4 co_asked, rI Y qp1 43 s.1] []) (fun s k25 hk25 h => kX12_tideComes_l25 C hQ hk25 h) FUEL (cp1, x3) hf
def fX12_tideComes (io_cells : Int32) (io_codeLong : Int32) (io_tideLevel : Int32) (co_base : Nat → Int32) (co_dyke : Nat → Int32) (co_fixed : Nat → Int32) (co_code : Nat → Int32) (co_stack : Nat → Int32) (co_asked : Nat → Int32) (cp1 : Nat → Int32) : Option (Int32 × Int32 × (Nat → Int32) × (Nat → Int32) × (Nat → Int32)) :=
  if inb (42 : Int32) 43 then (fX12_levelOf io_cells io_codeLong co_fixed co_code co_stack co_asked cp1 (cp1 (Int32.toNatClampNeg (42 : Int32)))).bind (fun r17 => (fX12_lowBy io_cells co_base cp1 r17.1).bind (fun r18 => fX12_tideComes_b25 io_cells io_codeLong r17.1 co_base co_dyke co_fixed co_code r17.2.1 r17.2.2 cp1 r18 (0 : Int32))) else none
set_option maxHeartbeats 400000 in
set_option maxRecDepth 100000 in
theorem kX12_tideComes (l : Launch) (D : va_G) (Y : Nat → ClassId) (ao : Nat → Nat) (qp1 : Nat) (io_thrown : Int32) (io_rows : Int32) (io_cells : Int32) (io_children : Int32) (io_changes : Int32) (io_taped : Int32) (io_at : Int32) (io_to : Int32) (io_nest : Int32) (io_readMany : Int32) (io_codeLong : Int32) (io_readLong : Int32) (io_undos : Int32) (io_wentHome : Int32) (io_tideLevel : Int32) (io_acts : Int32) (io_firstBreaks : Int32) (io_bestCrew : Int32) (io_sights : Int32) (io_wayMany : Int32) (io_random : Int32) (co_base : Nat → Int32) (co_dyke : Nat → Int32) (co_fixed : Nat → Int32) (co_code : Nat → Int32) (co_stack : Nat → Int32) (co_asked : Nat → Int32) (cp1 : Nat → Int32) (res : Int32 × Int32 × (Nat → Int32) × (Nat → Int32) × (Nat → Int32)) (hf : fX12_tideComes io_cells io_codeLong io_tideLevel co_base co_dyke co_fixed co_code co_stack co_asked cp1 = some res) : amf l D Y yX12_tideComes wsX12_tideComes rmX12_tideComes [.ref (ao 0), .ref qp1] [oX12 ao io_thrown io_rows io_cells io_children io_changes io_taped io_at io_to io_nest io_readMany io_codeLong io_readLong io_undos io_wentHome io_tideLevel io_acts io_firstBreaks io_bestCrew io_sights io_wayMany io_random, rI Y (ao 2) 12 co_base, rI Y (ao 3) 12 co_dyke, rI Y (ao 7) 2 co_fixed, rI Y (ao 12) 80 co_code, rI Y (ao 14) 80 co_stack, rI Y (ao 15) 4 co_asked, rI Y qp1 43 cp1] (some (.int res.1)) [oX12 ao io_thrown io_rows io_cells io_children io_changes io_taped io_at io_to io_nest io_readMany io_codeLong io_readLong io_undos io_wentHome res.2.1 io_acts io_firstBreaks io_bestCrew io_sights io_wayMany io_random, rI Y (ao 2) 12 co_base, rI Y (ao 3) 12 co_dyke, rI Y (ao 7) 2 co_fixed, rI Y (ao 12) 80 co_code, rI Y (ao 14) 80 res.2.2.1, rI Y (ao 15) 4 res.2.2.2.1, rI Y qp1 43 res.2.2.2.2] := by
  refine amf.of (cc := cX12_tideComes) (maxL := 5) (rt := (some .int)) (by decide) rfl RX12 rfl (Nat.le_of_ble_eq_true rfl) [some (.ref (ao 0)), some (.ref qp1), none, none, none] rfl ?_
  intro X C hQ
  unfold fX12_tideComes at hf
  refine a_aload_n C dX12_tideComes_0 rfl ?_
  refine a_aload_n C dX12_tideComes_1 rfl ?_
  refine a_aload_n C dX12_tideComes_2 rfl ?_
  refine a_aload_n C dX12_tideComes_3 rfl ?_
  refine a_bipush C (42 : Int32) dX12_tideComes_4 (by decide) ?_
  obtain ⟨h16, hf⟩ := fx_ite hf
  refine a_iald C dX12_tideComes_6 7 rfl h16 ?_
  obtain ⟨r17, h17, hf⟩ := fx_bind hf
  refine a_fV C (kX12_levelOf l D Y ao qp1 io_thrown io_rows io_cells io_children io_changes io_taped io_at io_to io_nest io_readMany io_codeLong io_readLong io_undos io_wentHome io_tideLevel io_acts io_firstBreaks io_bestCrew io_sights io_wayMany io_random co_fixed co_code co_stack co_asked cp1 (cp1 (Int32.toNatClampNeg (42 : Int32))) r17 h17) (gB_X12_316 _) rfl dvX12_levelOf ⟨⟨rfl, rfl⟩, ⟨Nat.le_of_ble_eq_true rfl, Nat.le_of_ble_eq_true rfl⟩, ⟨Nat.le_of_ble_eq_true rfl, Nat.le_of_ble_eq_true rfl⟩⟩ rfl (Nat.le_of_ble_eq_true rfl) dX12_tideComes_7 rfl rfl [0, 3, 4, 5, 6, 7] [1, 2] ⟨rfl, rfl, rfl, rfl, rfl, rfl, trivial⟩ (by decide +kernel) rfl [oX12 ao io_thrown io_rows io_cells io_children io_changes io_taped io_at io_to io_nest io_readMany io_codeLong io_readLong io_undos io_wentHome io_tideLevel io_acts io_firstBreaks io_bestCrew io_sights io_wayMany io_random, rI Y (ao 2) 12 co_base, rI Y (ao 3) 12 co_dyke, rI Y (ao 7) 2 co_fixed, rI Y (ao 12) 80 co_code, rI Y (ao 14) 80 r17.2.1, rI Y (ao 15) 4 r17.2.2, rI Y qp1 43 cp1] ⟨rfl, rfl, rfl, rfl, rfl, rfl, trivial⟩ ⟨rfl, rfl, trivial⟩ 8 rfl (by decide +kernel) ?_
  refine a_put C (eB_X12_319 _) tfX12_31 dX12_tideComes_10 0 rfl rfl rfl (Nat.le_of_ble_eq_true rfl) ?_
  refine a_aload_n C dX12_tideComes_13 rfl ?_
  refine a_aload_n C dX12_tideComes_14 rfl ?_
  refine a_aload_n C dX12_tideComes_15 rfl ?_
  refine a_get C (eB_X12_319 _) dX12_tideComes_16 0 rfl rfl ?_
  obtain ⟨r18, h18, hf⟩ := fx_bind hf
  refine a_fV C (kX12_lowBy l D Y ao qp1 io_thrown io_rows io_cells io_children io_changes io_taped io_at io_to io_nest io_readMany io_codeLong io_readLong io_undos io_wentHome r17.1 io_acts io_firstBreaks io_bestCrew io_sights io_wayMany io_random co_base cp1 r17.1 r18 h18) (gB_X12_322 _) rfl dvX12_lowBy ⟨⟨rfl, rfl⟩, ⟨Nat.le_of_ble_eq_true rfl, Nat.le_of_ble_eq_true rfl⟩, ⟨Nat.le_of_ble_eq_true rfl, Nat.le_of_ble_eq_true rfl⟩⟩ rfl (Nat.le_of_ble_eq_true rfl) dX12_tideComes_19 rfl rfl [0, 1, 7] [2, 3, 4, 5, 6] ⟨rfl, rfl, rfl, trivial⟩ (by decide +kernel) rfl [oX12 ao io_thrown io_rows io_cells io_children io_changes io_taped io_at io_to io_nest io_readMany io_codeLong io_readLong io_undos io_wentHome r17.1 io_acts io_firstBreaks io_bestCrew io_sights io_wayMany io_random, rI Y (ao 2) 12 co_base, rI Y (ao 3) 12 co_dyke, rI Y (ao 7) 2 co_fixed, rI Y (ao 12) 80 co_code, rI Y (ao 14) 80 r17.2.1, rI Y (ao 15) 4 r17.2.2, rI Y qp1 43 cp1] ⟨rfl, rfl, rfl, trivial⟩ ⟨rfl, rfl, rfl, rfl, rfl, trivial⟩ 8 rfl (by decide +kernel) ?_
  refine a_istore_n C dX12_tideComes_22 (by decide) rfl ?_
  refine a_iconst C (0 : Int32) dX12_tideComes_23 (by decide) ?_
  refine a_istore_n C dX12_tideComes_24 (by decide) rfl ?_
  exact kX12_tideComes_b25 C hQ hf
-- X12_goes
abbrev rmX12_goes : Room := { frames := 2, cells := 0, slots := 0, locals := 46 }
theorem dvX12_goes : yX12_goes.cls = RX12 ∧ yX12_goes.cls ≠ "java/lang/invoke/MethodHandle" ∧ yX12_goes.cls ≠ "java/lang/invoke/VarHandle" ∧ (parseMethodDescriptor yX12_goes.desc).map (fun d => d.parameters.length) = some 3 := by decide +kernel
def fX12_goes_b16 (io_cells : Int32) (io_children : Int32) (cp1 : Nat → Int32) : Option (Int32 × (Nat → Int32)) :=
  some ((-1 : Int32), cp1)
set_option maxHeartbeats 400000 in
set_option maxRecDepth 100000 in
theorem kX12_goes_b16 {X : cxT} {l : Launch} {D : va_G} {Y : Nat → ClassId} {ao : Nat → Nat} {qp1 : Nat} {io_thrown : Int32} {io_rows : Int32} {io_cells : Int32} {io_children : Int32} {io_changes : Int32} {io_taped : Int32} {io_at : Int32} {io_to : Int32} {io_nest : Int32} {io_readMany : Int32} {io_codeLong : Int32} {io_readLong : Int32} {io_undos : Int32} {io_wentHome : Int32} {io_tideLevel : Int32} {io_acts : Int32} {io_firstBreaks : Int32} {io_bestCrew : Int32} {io_sights : Int32} {io_wayMany : Int32} {io_random : Int32} {cp1 : Nat → Int32} {res : Int32 × (Nat → Int32)} (C : axC X l D Y cX12_goes 5 RX12 wsX12_goes rmX12_goes (some .int)) (hQ : axQ X 0 0 (fun r9 w9 => r9 = (some (.int res.1)) ∧ w9 = [oX12 ao io_thrown io_rows io_cells io_children io_changes io_taped io_at io_to io_nest io_readMany io_codeLong io_readLong io_undos io_wentHome io_tideLevel io_acts io_firstBreaks io_bestCrew io_sights io_wayMany io_random, rI Y qp1 43 res.2])) (hf : fX12_goes_b16 io_cells io_children cp1 = some res) : ax X 0 0 16 [none, none, none, none, none] [oX12 ao io_thrown io_rows io_cells io_children io_changes io_taped io_at io_to io_nest io_readMany io_codeLong io_readLong io_undos io_wentHome io_tideLevel io_acts io_firstBreaks io_bestCrew io_sights io_wayMany io_random, rI Y qp1 43 cp1] [] := by
  unfold fX12_goes_b16 at hf
  refine a_iconst C (-1 : Int32) dX12_goes_16 (by decide) ?_
  obtain rfl := fx_some hf
  exact a_iret C hQ dX12_goes_17 ⟨rfl, rfl⟩
def fX12_goes (io_cells : Int32) (io_children : Int32) (cp1 : Nat → Int32) (x2 : Int32) (x3 : Int32) : Option (Int32 × (Nat → Int32)) :=
  (fX12_isChild io_children x2).bind (fun r1 => if r1 = (0 : Int32) then (fX12_goes_b16 io_cells io_children cp1) else ((fX12_isCell io_cells x3).bind (fun r3 => if r3 = (0 : Int32) then (fX12_goes_b16 io_cells io_children cp1) else ((fX12_atOf cp1 x2).bind (fun r5 => (fX12_moodOf cp1 x2).bind (fun r6 => if r6 = (0 : Int32) then (some ((-2 : Int32), cp1)) else (if r5 = x3 then (some ((-3 : Int32), cp1)) else (if inb (((25 : Int32) + ((2 : Int32) * x2)) + (0 : Int32)) 43 then some ((r5 + (1 : Int32)), (upd cp1 (Int32.toNatClampNeg (((25 : Int32) + ((2 : Int32) * x2)) + (0 : Int32))) x3)) else none))))))))
set_option maxHeartbeats 400000 in
set_option maxRecDepth 100000 in
theorem kX12_goes (l : Launch) (D : va_G) (Y : Nat → ClassId) (ao : Nat → Nat) (qp1 : Nat) (io_thrown : Int32) (io_rows : Int32) (io_cells : Int32) (io_children : Int32) (io_changes : Int32) (io_taped : Int32) (io_at : Int32) (io_to : Int32) (io_nest : Int32) (io_readMany : Int32) (io_codeLong : Int32) (io_readLong : Int32) (io_undos : Int32) (io_wentHome : Int32) (io_tideLevel : Int32) (io_acts : Int32) (io_firstBreaks : Int32) (io_bestCrew : Int32) (io_sights : Int32) (io_wayMany : Int32) (io_random : Int32) (cp1 : Nat → Int32) (x2 : Int32) (x3 : Int32) (res : Int32 × (Nat → Int32)) (hf : fX12_goes io_cells io_children cp1 x2 x3 = some res) : amf l D Y yX12_goes wsX12_goes rmX12_goes [.ref (ao 0), .ref qp1, .int x2, .int x3] [oX12 ao io_thrown io_rows io_cells io_children io_changes io_taped io_at io_to io_nest io_readMany io_codeLong io_readLong io_undos io_wentHome io_tideLevel io_acts io_firstBreaks io_bestCrew io_sights io_wayMany io_random, rI Y qp1 43 cp1] (some (.int res.1)) [oX12 ao io_thrown io_rows io_cells io_children io_changes io_taped io_at io_to io_nest io_readMany io_codeLong io_readLong io_undos io_wentHome io_tideLevel io_acts io_firstBreaks io_bestCrew io_sights io_wayMany io_random, rI Y qp1 43 res.2] := by
  refine amf.of (cc := cX12_goes) (maxL := 5) (rt := (some .int)) (by decide) rfl RX12 rfl (Nat.le_of_ble_eq_true rfl) [some (.ref (ao 0)), some (.ref qp1), some (.int x2), some (.int x3), none] rfl ?_
  intro X C hQ
  unfold fX12_goes at hf
  refine a_aload_n C dX12_goes_0 rfl ?_
  refine a_iload_n C dX12_goes_1 rfl ?_
  obtain ⟨r1, h1, hf⟩ := fx_bind hf
  refine a_fV C (kX12_isChild l D Y ao io_thrown io_rows io_cells io_children io_changes io_taped io_at io_to io_nest io_readMany io_codeLong io_readLong io_undos io_wentHome io_tideLevel io_acts io_firstBreaks io_bestCrew io_sights io_wayMany io_random x2 r1 h1) (gB_X12_294 _) rfl dvX12_isChild ⟨⟨rfl, rfl⟩, ⟨Nat.le_of_ble_eq_true rfl, Nat.le_of_ble_eq_true rfl⟩, ⟨Nat.le_of_ble_eq_true rfl, Nat.le_of_ble_eq_true rfl⟩⟩ rfl (Nat.le_of_ble_eq_true rfl) dX12_goes_2 rfl rfl [0] [1] ⟨rfl, trivial⟩ (by decide +kernel) rfl [oX12 ao io_thrown io_rows io_cells io_children io_changes io_taped io_at io_to io_nest io_readMany io_codeLong io_readLong io_undos io_wentHome io_tideLevel io_acts io_firstBreaks io_bestCrew io_sights io_wayMany io_random, rI Y qp1 43 cp1] ⟨rfl, trivial⟩ ⟨rfl, trivial⟩ 2 rfl (by decide +kernel) ?_
  refine a_if_eq C 16 dX12_goes_5 (by decide) (fun h2 => ?_) (fun h2 => ?_)
  · have hf := fx_t h2 hf
    refine a_kill [0, 1, 2, 3] ?_
    exact kX12_goes_b16 C hQ hf
  · have hf := fx_f h2 hf
    refine a_aload_n C dX12_goes_8 rfl ?_
    refine a_iload_n C dX12_goes_9 rfl ?_
    obtain ⟨r3, h3, hf⟩ := fx_bind hf
    refine a_fV C (kX12_isCell l D Y ao io_thrown io_rows io_cells io_children io_changes io_taped io_at io_to io_nest io_readMany io_codeLong io_readLong io_undos io_wentHome io_tideLevel io_acts io_firstBreaks io_bestCrew io_sights io_wayMany io_random x3 r3 h3) (gB_X12_280 _) rfl dvX12_isCell ⟨⟨rfl, rfl⟩, ⟨Nat.le_of_ble_eq_true rfl, Nat.le_of_ble_eq_true rfl⟩, ⟨Nat.le_of_ble_eq_true rfl, Nat.le_of_ble_eq_true rfl⟩⟩ rfl (Nat.le_of_ble_eq_true rfl) dX12_goes_10 rfl rfl [0] [1] ⟨rfl, trivial⟩ (by decide +kernel) rfl [oX12 ao io_thrown io_rows io_cells io_children io_changes io_taped io_at io_to io_nest io_readMany io_codeLong io_readLong io_undos io_wentHome io_tideLevel io_acts io_firstBreaks io_bestCrew io_sights io_wayMany io_random, rI Y qp1 43 cp1] ⟨rfl, trivial⟩ ⟨rfl, trivial⟩ 2 rfl (by decide +kernel) ?_
    refine a_if_ne C 18 dX12_goes_13 (by decide) (fun h4 => ?_) (fun h4 => ?_)
    · have hf := fx_f h4 hf
      refine a_aload_n C dX12_goes_18 rfl ?_
      refine a_iload_n C dX12_goes_19 rfl ?_
      obtain ⟨r5, h5, hf⟩ := fx_bind hf
      refine a_fS C (kX12_atOf l D Y qp1 cp1 x2 r5 h5) (gB_X12_129 _) rfl dvX12_atOf ⟨⟨rfl, rfl⟩, ⟨Nat.le_of_ble_eq_true rfl, Nat.le_of_ble_eq_true rfl⟩, ⟨Nat.le_of_ble_eq_true rfl, Nat.le_of_ble_eq_true rfl⟩⟩ rfl (Nat.le_of_ble_eq_true rfl) dX12_goes_20 [1] [0] ⟨rfl, trivial⟩ (by decide +kernel) rfl [oX12 ao io_thrown io_rows io_cells io_children io_changes io_taped io_at io_to io_nest io_readMany io_codeLong io_readLong io_undos io_wentHome io_tideLevel io_acts io_firstBreaks io_bestCrew io_sights io_wayMany io_random, rI Y qp1 43 cp1] ⟨rfl, trivial⟩ ⟨rfl, trivial⟩ 2 rfl (by decide +kernel) ?_
      refine a_istore C dX12_goes_23 (by decide) rfl ?_
      refine a_aload_n C dX12_goes_25 rfl ?_
      refine a_iload_n C dX12_goes_26 rfl ?_
      obtain ⟨r6, h6, hf⟩ := fx_bind hf
      refine a_fS C (kX12_moodOf l D Y qp1 cp1 x2 r6 h6) (gB_X12_277 _) rfl dvX12_moodOf ⟨⟨rfl, rfl⟩, ⟨Nat.le_of_ble_eq_true rfl, Nat.le_of_ble_eq_true rfl⟩, ⟨Nat.le_of_ble_eq_true rfl, Nat.le_of_ble_eq_true rfl⟩⟩ rfl (Nat.le_of_ble_eq_true rfl) dX12_goes_27 [1] [0] ⟨rfl, trivial⟩ (by decide +kernel) rfl [oX12 ao io_thrown io_rows io_cells io_children io_changes io_taped io_at io_to io_nest io_readMany io_codeLong io_readLong io_undos io_wentHome io_tideLevel io_acts io_firstBreaks io_bestCrew io_sights io_wayMany io_random, rI Y qp1 43 cp1] ⟨rfl, trivial⟩ ⟨rfl, trivial⟩ 2 rfl (by decide +kernel) ?_
      refine a_if_ne C 36 dX12_goes_30 (by decide) (fun h7 => ?_) (fun h7 => ?_)
      · have hf := fx_f h7 hf
        refine a_iload C dX12_goes_36 rfl ?_
        refine a_iload_n C dX12_goes_38 rfl ?_
        refine a_icmp_ne C 45 dX12_goes_39 (by decide) (fun h8 => ?_) (fun h8 => ?_)
        · have hf := fx_f h8 hf
          refine a_aload_n C dX12_goes_45 rfl ?_
          refine a_bipush C (25 : Int32) dX12_goes_46 (by decide) ?_
          refine a_iconst C (2 : Int32) dX12_goes_48 (by decide) ?_
          refine a_iload_n C dX12_goes_49 rfl ?_
          refine a_imul C dX12_goes_50 ?_
          refine a_iadd C dX12_goes_51 ?_
          refine a_iconst C (0 : Int32) dX12_goes_52 (by decide) ?_
          refine a_iadd C dX12_goes_53 ?_
          refine a_iload_n C dX12_goes_54 rfl ?_
          obtain ⟨h9, hf⟩ := fx_ite hf
          refine a_iast C dX12_goes_55 1 rfl h9 ?_
          refine a_iload C dX12_goes_56 rfl ?_
          refine a_iconst C (1 : Int32) dX12_goes_58 (by decide) ?_
          refine a_iadd C dX12_goes_59 ?_
          obtain rfl := fx_some hf
          exact a_iret C hQ dX12_goes_60 ⟨rfl, rfl⟩
        · have hf := fx_t h8 hf
          refine a_bipush C (-3 : Int32) dX12_goes_42 (by decide) ?_
          obtain rfl := fx_some hf
          exact a_iret C hQ dX12_goes_44 ⟨rfl, rfl⟩
      · have hf := fx_t h7 hf
        refine a_bipush C (-2 : Int32) dX12_goes_33 (by decide) ?_
        obtain rfl := fx_some hf
        exact a_iret C hQ dX12_goes_35 ⟨rfl, rfl⟩
    · have hf := fx_t h4 hf
      refine a_kill [0, 1, 2, 3] ?_
      exact kX12_goes_b16 C hQ hf
-- X12_goesHome
abbrev rmX12_goesHome : Room := { frames := 2, cells := 0, slots := 0, locals := 46 }
theorem dvX12_goesHome : yX12_goesHome.cls = RX12 ∧ yX12_goesHome.cls ≠ "java/lang/invoke/MethodHandle" ∧ yX12_goesHome.cls ≠ "java/lang/invoke/VarHandle" ∧ (parseMethodDescriptor yX12_goesHome.desc).map (fun d => d.parameters.length) = some 1 := by decide +kernel
def fX12_goesHome_b43 (io_children : Int32) (co_now : Nat → Int32) (s0 : Int32) : Option (Int32 × (Nat → Int32)) :=
  some (s0, co_now)
set_option maxHeartbeats 400000 in
set_option maxRecDepth 100000 in
theorem kX12_goesHome_b43 {X : cxT} {l : Launch} {D : va_G} {Y : Nat → ClassId} {ao : Nat → Nat} {io_thrown : Int32} {io_rows : Int32} {io_cells : Int32} {io_children : Int32} {io_changes : Int32} {io_taped : Int32} {io_at : Int32} {io_to : Int32} {io_nest : Int32} {io_readMany : Int32} {io_codeLong : Int32} {io_readLong : Int32} {io_undos : Int32} {io_wentHome : Int32} {io_tideLevel : Int32} {io_acts : Int32} {io_firstBreaks : Int32} {io_bestCrew : Int32} {io_sights : Int32} {io_wayMany : Int32} {io_random : Int32} {co_now : Nat → Int32} {s0 : Int32} {res : Int32 × (Nat → Int32)} (C : axC X l D Y cX12_goesHome 3 RX12 wsX12_goesHome rmX12_goesHome (some .int)) (hQ : axQ X 0 0 (fun r9 w9 => r9 = (some (.int res.1)) ∧ w9 = [oX12 ao io_thrown io_rows io_cells io_children io_changes io_taped io_at io_to io_nest io_readMany io_codeLong io_readLong io_undos io_wentHome io_tideLevel io_acts io_firstBreaks io_bestCrew io_sights io_wayMany io_random, rI Y (ao 8) 43 res.2])) (hf : fX12_goesHome_b43 io_children co_now s0 = some res) : ax X 0 0 43 [none, none, none] [oX12 ao io_thrown io_rows io_cells io_children io_changes io_taped io_at io_to io_nest io_readMany io_codeLong io_readLong io_undos io_wentHome io_tideLevel io_acts io_firstBreaks io_bestCrew io_sights io_wayMany io_random, rI Y (ao 8) 43 co_now] [.int s0] := by
  unfold fX12_goesHome_b43 at hf
  obtain rfl := fx_some hf
  exact a_iret C hQ dX12_goesHome_43 ⟨rfl, rfl⟩
def fX12_goesHome (io_children : Int32) (co_now : Nat → Int32) (x1 : Int32) : Option (Int32 × (Nat → Int32)) :=
  (fX12_isChild io_children x1).bind (fun r1 => if r1 = (0 : Int32) then (some ((-1 : Int32), co_now)) else ((fX12_atOf co_now x1).bind (fun r3 => if inb (((25 : Int32) + ((2 : Int32) * x1)) + (0 : Int32)) 43 then if (0 : Int32) ≤ r3 then (fX12_goesHome_b43 io_children (upd co_now (Int32.toNatClampNeg (((25 : Int32) + ((2 : Int32) * x1)) + (0 : Int32))) (-1 : Int32)) r3) else (fX12_goesHome_b43 io_children (upd co_now (Int32.toNatClampNeg (((25 : Int32) + ((2 : Int32) * x1)) + (0 : Int32))) (-1 : Int32)) (-2 : Int32)) else none)))
set_option maxHeartbeats 400000 in
set_option maxRecDepth 100000 in
theorem kX12_goesHome (l : Launch) (D : va_G) (Y : Nat → ClassId) (ao : Nat → Nat) (io_thrown : Int32) (io_rows : Int32) (io_cells : Int32) (io_children : Int32) (io_changes : Int32) (io_taped : Int32) (io_at : Int32) (io_to : Int32) (io_nest : Int32) (io_readMany : Int32) (io_codeLong : Int32) (io_readLong : Int32) (io_undos : Int32) (io_wentHome : Int32) (io_tideLevel : Int32) (io_acts : Int32) (io_firstBreaks : Int32) (io_bestCrew : Int32) (io_sights : Int32) (io_wayMany : Int32) (io_random : Int32) (co_now : Nat → Int32) (x1 : Int32) (res : Int32 × (Nat → Int32)) (hf : fX12_goesHome io_children co_now x1 = some res) : amf l D Y yX12_goesHome wsX12_goesHome rmX12_goesHome [.ref (ao 0), .int x1] [oX12 ao io_thrown io_rows io_cells io_children io_changes io_taped io_at io_to io_nest io_readMany io_codeLong io_readLong io_undos io_wentHome io_tideLevel io_acts io_firstBreaks io_bestCrew io_sights io_wayMany io_random, rI Y (ao 8) 43 co_now] (some (.int res.1)) [oX12 ao io_thrown io_rows io_cells io_children io_changes io_taped io_at io_to io_nest io_readMany io_codeLong io_readLong io_undos io_wentHome io_tideLevel io_acts io_firstBreaks io_bestCrew io_sights io_wayMany io_random, rI Y (ao 8) 43 res.2] := by
  refine amf.of (cc := cX12_goesHome) (maxL := 3) (rt := (some .int)) (by decide) rfl RX12 rfl (Nat.le_of_ble_eq_true rfl) [some (.ref (ao 0)), some (.int x1), none] rfl ?_
  intro X C hQ
  unfold fX12_goesHome at hf
  refine a_aload_n C dX12_goesHome_0 rfl ?_
  refine a_iload_n C dX12_goesHome_1 rfl ?_
  obtain ⟨r1, h1, hf⟩ := fx_bind hf
  refine a_fV C (kX12_isChild l D Y ao io_thrown io_rows io_cells io_children io_changes io_taped io_at io_to io_nest io_readMany io_codeLong io_readLong io_undos io_wentHome io_tideLevel io_acts io_firstBreaks io_bestCrew io_sights io_wayMany io_random x1 r1 h1) (gB_X12_294 _) rfl dvX12_isChild ⟨⟨rfl, rfl⟩, ⟨Nat.le_of_ble_eq_true rfl, Nat.le_of_ble_eq_true rfl⟩, ⟨Nat.le_of_ble_eq_true rfl, Nat.le_of_ble_eq_true rfl⟩⟩ rfl (Nat.le_of_ble_eq_true rfl) dX12_goesHome_2 rfl rfl [0] [1] ⟨rfl, trivial⟩ (by decide +kernel) rfl [oX12 ao io_thrown io_rows io_cells io_children io_changes io_taped io_at io_to io_nest io_readMany io_codeLong io_readLong io_undos io_wentHome io_tideLevel io_acts io_firstBreaks io_bestCrew io_sights io_wayMany io_random, rI Y (ao 8) 43 co_now] ⟨rfl, trivial⟩ ⟨rfl, trivial⟩ 2 rfl (by decide +kernel) ?_
  refine a_if_ne C 10 dX12_goesHome_5 (by decide) (fun h2 => ?_) (fun h2 => ?_)
  · have hf := fx_f h2 hf
    refine a_aload_n C dX12_goesHome_10 rfl ?_
    refine a_get C (eB_X12_36 _) dX12_goesHome_11 0 rfl rfl ?_
    refine a_iload_n C dX12_goesHome_14 rfl ?_
    obtain ⟨r3, h3, hf⟩ := fx_bind hf
    refine a_fS C (kX12_atOf l D Y (ao 8) co_now x1 r3 h3) (gB_X12_129 _) rfl dvX12_atOf ⟨⟨rfl, rfl⟩, ⟨Nat.le_of_ble_eq_true rfl, Nat.le_of_ble_eq_true rfl⟩, ⟨Nat.le_of_ble_eq_true rfl, Nat.le_of_ble_eq_true rfl⟩⟩ rfl (Nat.le_of_ble_eq_true rfl) dX12_goesHome_15 [1] [0] ⟨rfl, trivial⟩ (by decide +kernel) rfl [oX12 ao io_thrown io_rows io_cells io_children io_changes io_taped io_at io_to io_nest io_readMany io_codeLong io_readLong io_undos io_wentHome io_tideLevel io_acts io_firstBreaks io_bestCrew io_sights io_wayMany io_random, rI Y (ao 8) 43 co_now] ⟨rfl, trivial⟩ ⟨rfl, trivial⟩ 2 rfl (by decide +kernel) ?_
    refine a_istore_n C dX12_goesHome_18 (by decide) rfl ?_
    refine a_aload_n C dX12_goesHome_19 rfl ?_
    refine a_get C (eB_X12_36 _) dX12_goesHome_20 0 rfl rfl ?_
    refine a_bipush C (25 : Int32) dX12_goesHome_23 (by decide) ?_
    refine a_iconst C (2 : Int32) dX12_goesHome_25 (by decide) ?_
    refine a_iload_n C dX12_goesHome_26 rfl ?_
    refine a_imul C dX12_goesHome_27 ?_
    refine a_iadd C dX12_goesHome_28 ?_
    refine a_iconst C (0 : Int32) dX12_goesHome_29 (by decide) ?_
    refine a_iadd C dX12_goesHome_30 ?_
    refine a_iconst C (-1 : Int32) dX12_goesHome_31 (by decide) ?_
    obtain ⟨h4, hf⟩ := fx_ite hf
    refine a_iast C dX12_goesHome_32 1 rfl h4 ?_
    refine a_iload_n C dX12_goesHome_33 rfl ?_
    refine a_if_ge C 42 dX12_goesHome_34 (by decide) (fun h5 => ?_) (fun h5 => ?_)
    · have hf := fx_t h5 hf
      refine a_iload_n C dX12_goesHome_42 rfl ?_
      refine a_kill [0, 1, 2] ?_
      exact kX12_goesHome_b43 C hQ hf
    · have hf := fx_f h5 hf
      refine a_bipush C (-2 : Int32) dX12_goesHome_37 (by decide) ?_
      refine a_goto C 43 dX12_goesHome_39 (by decide) ?_
      refine a_kill [0, 1, 2] ?_
      exact kX12_goesHome_b43 C hQ hf
  · have hf := fx_t h2 hf
    refine a_iconst C (-1 : Int32) dX12_goesHome_8 (by decide) ?_
    obtain rfl := fx_some hf
    exact a_iret C hQ dX12_goesHome_9 ⟨rfl, rfl⟩
-- X12_spadeFor
abbrev rmX12_spadeFor : Room := { frames := 2, cells := 0, slots := 0, locals := 46 }
theorem dvX12_spadeFor : yX12_spadeFor.cls = RX12 ∧ yX12_spadeFor.cls ≠ "java/lang/invoke/MethodHandle" ∧ yX12_spadeFor.cls ≠ "java/lang/invoke/VarHandle" ∧ (parseMethodDescriptor yX12_spadeFor.desc).map (fun d => d.parameters.length) = some 1 := by decide +kernel
def fX12_spadeFor_b46 (io_children : Int32) (co_fixed : Nat → Int32) (co_now : Nat → Int32) (x1 : Int32) : Option (Int32 × (Nat → Int32)) :=
  if inb (41 : Int32) 43 then (fJ6_bitCount_0f7a4 ((upd co_now (Int32.toNatClampNeg (41 : Int32)) ((co_now (Int32.toNatClampNeg (41 : Int32))) ^^^ (jshl (1 : Int32) x1))) (Int32.toNatClampNeg (41 : Int32)))).bind (fun r2 => some (r2, (upd co_now (Int32.toNatClampNeg (41 : Int32)) ((co_now (Int32.toNatClampNeg (41 : Int32))) ^^^ (jshl (1 : Int32) x1))))) else none
set_option maxHeartbeats 400000 in
set_option maxRecDepth 100000 in
theorem kX12_spadeFor_b46 {X : cxT} {l : Launch} {D : va_G} {Y : Nat → ClassId} {ao : Nat → Nat} {io_thrown : Int32} {io_rows : Int32} {io_cells : Int32} {io_children : Int32} {io_changes : Int32} {io_taped : Int32} {io_at : Int32} {io_to : Int32} {io_nest : Int32} {io_readMany : Int32} {io_codeLong : Int32} {io_readLong : Int32} {io_undos : Int32} {io_wentHome : Int32} {io_tideLevel : Int32} {io_acts : Int32} {io_firstBreaks : Int32} {io_bestCrew : Int32} {io_sights : Int32} {io_wayMany : Int32} {io_random : Int32} {co_fixed : Nat → Int32} {co_now : Nat → Int32} {x1 : Int32} {res : Int32 × (Nat → Int32)} (C : axC X l D Y cX12_spadeFor 2 RX12 wsX12_spadeFor rmX12_spadeFor (some .int)) (hQ : axQ X 0 0 (fun r9 w9 => r9 = (some (.int res.1)) ∧ w9 = [oX12 ao io_thrown io_rows io_cells io_children io_changes io_taped io_at io_to io_nest io_readMany io_codeLong io_readLong io_undos io_wentHome io_tideLevel io_acts io_firstBreaks io_bestCrew io_sights io_wayMany io_random, rI Y (ao 7) 2 co_fixed, rI Y (ao 8) 43 res.2])) (hf : fX12_spadeFor_b46 io_children co_fixed co_now x1 = some res) : ax X 0 0 46 [some (.ref (ao 0)), some (.int x1)] [oX12 ao io_thrown io_rows io_cells io_children io_changes io_taped io_at io_to io_nest io_readMany io_codeLong io_readLong io_undos io_wentHome io_tideLevel io_acts io_firstBreaks io_bestCrew io_sights io_wayMany io_random, rI Y (ao 7) 2 co_fixed, rI Y (ao 8) 43 co_now] [] := by
  unfold fX12_spadeFor_b46 at hf
  refine a_aload_n C dX12_spadeFor_46 rfl ?_
  refine a_get C (eB_X12_36 _) dX12_spadeFor_47 0 rfl rfl ?_
  refine a_bipush C (41 : Int32) dX12_spadeFor_50 (by decide) ?_
  refine a_dup2 C dX12_spadeFor_52 rfl rfl ?_
  obtain ⟨h1, hf⟩ := fx_ite hf
  refine a_iald C dX12_spadeFor_53 2 rfl h1 ?_
  refine a_iconst C (1 : Int32) dX12_spadeFor_54 (by decide) ?_
  refine a_iload_n C dX12_spadeFor_55 rfl ?_
  refine a_ishl C dX12_spadeFor_56 ?_
  refine a_ixor C dX12_spadeFor_57 ?_
  refine a_iast C dX12_spadeFor_58 2 rfl h1 ?_
  refine a_aload_n C dX12_spadeFor_59 rfl ?_
  refine a_get C (eB_X12_36 _) dX12_spadeFor_60 0 rfl rfl ?_
  refine a_bipush C (41 : Int32) dX12_spadeFor_63 (by decide) ?_
  refine a_iald C dX12_spadeFor_65 2 rfl h1 ?_
  obtain ⟨r2, h2, hf⟩ := fx_bind hf
  refine a_fS C (kJ6_bitCount_0f7a4 l D Y ((upd co_now (Int32.toNatClampNeg (41 : Int32)) ((co_now (Int32.toNatClampNeg (41 : Int32))) ^^^ (jshl (1 : Int32) x1))) (Int32.toNatClampNeg (41 : Int32))) r2 h2) (gB_X12_251 _) rfl dvJ6_bitCount_0f7a4 ⟨⟨rfl, rfl⟩, ⟨Nat.le_of_ble_eq_true rfl, Nat.le_of_ble_eq_true rfl⟩, ⟨Nat.le_of_ble_eq_true rfl, Nat.le_of_ble_eq_true rfl⟩⟩ rfl (Nat.le_of_ble_eq_true rfl) dX12_spadeFor_66 [] [0, 1, 2] trivial (by decide +kernel) rfl [oX12 ao io_thrown io_rows io_cells io_children io_changes io_taped io_at io_to io_nest io_readMany io_codeLong io_readLong io_undos io_wentHome io_tideLevel io_acts io_firstBreaks io_bestCrew io_sights io_wayMany io_random, rI Y (ao 7) 2 co_fixed, rI Y (ao 8) 43 (upd co_now (Int32.toNatClampNeg (41 : Int32)) ((co_now (Int32.toNatClampNeg (41 : Int32))) ^^^ (jshl (1 : Int32) x1)))] trivial ⟨rfl, rfl, rfl, trivial⟩ 3 rfl (by decide +kernel) ?_
  obtain rfl := fx_some hf
  exact a_iret C hQ dX12_spadeFor_69 ⟨rfl, rfl⟩
def fX12_spadeFor (io_children : Int32) (co_fixed : Nat → Int32) (co_now : Nat → Int32) (x1 : Int32) : Option (Int32 × (Nat → Int32)) :=
  (fX12_isChild io_children x1).bind (fun r3 => if r3 = (0 : Int32) then (some ((-1 : Int32), co_now)) else (if inb (41 : Int32) 43 then (fX12_has (co_now (Int32.toNatClampNeg (41 : Int32))) x1).bind (fun r6 => if r6 = (0 : Int32) then ((fJ6_bitCount_0f7a4 (co_now (Int32.toNatClampNeg (41 : Int32)))).bind (fun r8 => if inb (1 : Int32) 2 then if r8 < (co_fixed (Int32.toNatClampNeg (1 : Int32))) then (fX12_spadeFor_b46 io_children co_fixed co_now x1) else (some ((-2 : Int32), co_now)) else none)) else (fX12_spadeFor_b46 io_children co_fixed co_now x1)) else none))
set_option maxHeartbeats 400000 in
set_option maxRecDepth 100000 in
theorem kX12_spadeFor (l : Launch) (D : va_G) (Y : Nat → ClassId) (ao : Nat → Nat) (io_thrown : Int32) (io_rows : Int32) (io_cells : Int32) (io_children : Int32) (io_changes : Int32) (io_taped : Int32) (io_at : Int32) (io_to : Int32) (io_nest : Int32) (io_readMany : Int32) (io_codeLong : Int32) (io_readLong : Int32) (io_undos : Int32) (io_wentHome : Int32) (io_tideLevel : Int32) (io_acts : Int32) (io_firstBreaks : Int32) (io_bestCrew : Int32) (io_sights : Int32) (io_wayMany : Int32) (io_random : Int32) (co_fixed : Nat → Int32) (co_now : Nat → Int32) (x1 : Int32) (res : Int32 × (Nat → Int32)) (hf : fX12_spadeFor io_children co_fixed co_now x1 = some res) : amf l D Y yX12_spadeFor wsX12_spadeFor rmX12_spadeFor [.ref (ao 0), .int x1] [oX12 ao io_thrown io_rows io_cells io_children io_changes io_taped io_at io_to io_nest io_readMany io_codeLong io_readLong io_undos io_wentHome io_tideLevel io_acts io_firstBreaks io_bestCrew io_sights io_wayMany io_random, rI Y (ao 7) 2 co_fixed, rI Y (ao 8) 43 co_now] (some (.int res.1)) [oX12 ao io_thrown io_rows io_cells io_children io_changes io_taped io_at io_to io_nest io_readMany io_codeLong io_readLong io_undos io_wentHome io_tideLevel io_acts io_firstBreaks io_bestCrew io_sights io_wayMany io_random, rI Y (ao 7) 2 co_fixed, rI Y (ao 8) 43 res.2] := by
  refine amf.of (cc := cX12_spadeFor) (maxL := 2) (rt := (some .int)) (by decide) rfl RX12 rfl (Nat.le_of_ble_eq_true rfl) [some (.ref (ao 0)), some (.int x1)] rfl ?_
  intro X C hQ
  unfold fX12_spadeFor at hf
  refine a_aload_n C dX12_spadeFor_0 rfl ?_
  refine a_iload_n C dX12_spadeFor_1 rfl ?_
  obtain ⟨r3, h3, hf⟩ := fx_bind hf
  refine a_fV C (kX12_isChild l D Y ao io_thrown io_rows io_cells io_children io_changes io_taped io_at io_to io_nest io_readMany io_codeLong io_readLong io_undos io_wentHome io_tideLevel io_acts io_firstBreaks io_bestCrew io_sights io_wayMany io_random x1 r3 h3) (gB_X12_294 _) rfl dvX12_isChild ⟨⟨rfl, rfl⟩, ⟨Nat.le_of_ble_eq_true rfl, Nat.le_of_ble_eq_true rfl⟩, ⟨Nat.le_of_ble_eq_true rfl, Nat.le_of_ble_eq_true rfl⟩⟩ rfl (Nat.le_of_ble_eq_true rfl) dX12_spadeFor_2 rfl rfl [0] [1, 2] ⟨rfl, trivial⟩ (by decide +kernel) rfl [oX12 ao io_thrown io_rows io_cells io_children io_changes io_taped io_at io_to io_nest io_readMany io_codeLong io_readLong io_undos io_wentHome io_tideLevel io_acts io_firstBreaks io_bestCrew io_sights io_wayMany io_random, rI Y (ao 7) 2 co_fixed, rI Y (ao 8) 43 co_now] ⟨rfl, trivial⟩ ⟨rfl, rfl, trivial⟩ 3 rfl (by decide +kernel) ?_
  refine a_if_ne C 10 dX12_spadeFor_5 (by decide) (fun h4 => ?_) (fun h4 => ?_)
  · have hf := fx_f h4 hf
    refine a_aload_n C dX12_spadeFor_10 rfl ?_
    refine a_get C (eB_X12_36 _) dX12_spadeFor_11 0 rfl rfl ?_
    refine a_bipush C (41 : Int32) dX12_spadeFor_14 (by decide) ?_
    obtain ⟨h5, hf⟩ := fx_ite hf
    refine a_iald C dX12_spadeFor_16 2 rfl h5 ?_
    refine a_iload_n C dX12_spadeFor_17 rfl ?_
    obtain ⟨r6, h6, hf⟩ := fx_bind hf
    refine a_fS C (kX12_has l D Y (co_now (Int32.toNatClampNeg (41 : Int32))) x1 r6 h6) (gB_X12_269 _) rfl dvX12_has ⟨⟨rfl, rfl⟩, ⟨Nat.le_of_ble_eq_true rfl, Nat.le_of_ble_eq_true rfl⟩, ⟨Nat.le_of_ble_eq_true rfl, Nat.le_of_ble_eq_true rfl⟩⟩ rfl (Nat.le_of_ble_eq_true rfl) dX12_spadeFor_18 [] [0, 1, 2] trivial (by decide +kernel) rfl [oX12 ao io_thrown io_rows io_cells io_children io_changes io_taped io_at io_to io_nest io_readMany io_codeLong io_readLong io_undos io_wentHome io_tideLevel io_acts io_firstBreaks io_bestCrew io_sights io_wayMany io_random, rI Y (ao 7) 2 co_fixed, rI Y (ao 8) 43 co_now] trivial ⟨rfl, rfl, rfl, trivial⟩ 3 rfl (by decide +kernel) ?_
    refine a_if_ne C 46 dX12_spadeFor_21 (by decide) (fun h7 => ?_) (fun h7 => ?_)
    · have hf := fx_f h7 hf
      exact kX12_spadeFor_b46 C hQ hf
    · have hf := fx_t h7 hf
      refine a_aload_n C dX12_spadeFor_24 rfl ?_
      refine a_get C (eB_X12_36 _) dX12_spadeFor_25 0 rfl rfl ?_
      refine a_bipush C (41 : Int32) dX12_spadeFor_28 (by decide) ?_
      refine a_iald C dX12_spadeFor_30 2 rfl h5 ?_
      obtain ⟨r8, h8, hf⟩ := fx_bind hf
      refine a_fS C (kJ6_bitCount_0f7a4 l D Y (co_now (Int32.toNatClampNeg (41 : Int32))) r8 h8) (gB_X12_251 _) rfl dvJ6_bitCount_0f7a4 ⟨⟨rfl, rfl⟩, ⟨Nat.le_of_ble_eq_true rfl, Nat.le_of_ble_eq_true rfl⟩, ⟨Nat.le_of_ble_eq_true rfl, Nat.le_of_ble_eq_true rfl⟩⟩ rfl (Nat.le_of_ble_eq_true rfl) dX12_spadeFor_31 [] [0, 1, 2] trivial (by decide +kernel) rfl [oX12 ao io_thrown io_rows io_cells io_children io_changes io_taped io_at io_to io_nest io_readMany io_codeLong io_readLong io_undos io_wentHome io_tideLevel io_acts io_firstBreaks io_bestCrew io_sights io_wayMany io_random, rI Y (ao 7) 2 co_fixed, rI Y (ao 8) 43 co_now] trivial ⟨rfl, rfl, rfl, trivial⟩ 3 rfl (by decide +kernel) ?_
      refine a_aload_n C dX12_spadeFor_34 rfl ?_
      refine a_get C (eB_X12_33 _) dX12_spadeFor_35 0 rfl rfl ?_
      refine a_iconst C (1 : Int32) dX12_spadeFor_38 (by decide) ?_
      obtain ⟨h9, hf⟩ := fx_ite hf
      refine a_iald C dX12_spadeFor_39 1 rfl h9 ?_
      refine a_icmp_lt C 46 dX12_spadeFor_40 (by decide) (fun h10 => ?_) (fun h10 => ?_)
      · have hf := fx_t h10 hf
        exact kX12_spadeFor_b46 C hQ hf
      · have hf := fx_f h10 hf
        refine a_bipush C (-2 : Int32) dX12_spadeFor_43 (by decide) ?_
        obtain rfl := fx_some hf
        exact a_iret C hQ dX12_spadeFor_45 ⟨rfl, rfl⟩
  · have hf := fx_t h4 hf
    refine a_iconst C (-1 : Int32) dX12_spadeFor_8 (by decide) ?_
    obtain rfl := fx_some hf
    exact a_iret C hQ dX12_spadeFor_9 ⟨rfl, rfl⟩
-- X12_treatsOne
abbrev rmX12_treatsOne : Room := { frames := 2, cells := 0, slots := 0, locals := 46 }
theorem dvX12_treatsOne : yX12_treatsOne.cls = RX12 ∧ yX12_treatsOne.cls ≠ "java/lang/invoke/MethodHandle" ∧ yX12_treatsOne.cls ≠ "java/lang/invoke/VarHandle" ∧ (parseMethodDescriptor yX12_treatsOne.desc).map (fun d => d.parameters.length) = some 1 := by decide +kernel
def fX12_treatsOne (io_children : Int32) (co_now : Nat → Int32) (x1 : Int32) : Option (Int32 × (Nat → Int32)) :=
  (fX12_isChild io_children x1).bind (fun r1 => if r1 = (0 : Int32) then (some ((-1 : Int32), co_now)) else ((fX12_moodOf co_now x1).bind (fun r3 => if inb (((25 : Int32) + ((2 : Int32) * x1)) + (1 : Int32)) 43 then (fX12_moodOf (upd co_now (Int32.toNatClampNeg (((25 : Int32) + ((2 : Int32) * x1)) + (1 : Int32))) (jmin (9 : Int32) (r3 + (3 : Int32)))) x1).bind (fun r5 => some (r5, (upd co_now (Int32.toNatClampNeg (((25 : Int32) + ((2 : Int32) * x1)) + (1 : Int32))) (jmin (9 : Int32) (r3 + (3 : Int32)))))) else none)))
set_option maxHeartbeats 400000 in
set_option maxRecDepth 100000 in
theorem kX12_treatsOne (l : Launch) (D : va_G) (Y : Nat → ClassId) (ao : Nat → Nat) (io_thrown : Int32) (io_rows : Int32) (io_cells : Int32) (io_children : Int32) (io_changes : Int32) (io_taped : Int32) (io_at : Int32) (io_to : Int32) (io_nest : Int32) (io_readMany : Int32) (io_codeLong : Int32) (io_readLong : Int32) (io_undos : Int32) (io_wentHome : Int32) (io_tideLevel : Int32) (io_acts : Int32) (io_firstBreaks : Int32) (io_bestCrew : Int32) (io_sights : Int32) (io_wayMany : Int32) (io_random : Int32) (co_now : Nat → Int32) (x1 : Int32) (res : Int32 × (Nat → Int32)) (hf : fX12_treatsOne io_children co_now x1 = some res) : amf l D Y yX12_treatsOne wsX12_treatsOne rmX12_treatsOne [.ref (ao 0), .int x1] [oX12 ao io_thrown io_rows io_cells io_children io_changes io_taped io_at io_to io_nest io_readMany io_codeLong io_readLong io_undos io_wentHome io_tideLevel io_acts io_firstBreaks io_bestCrew io_sights io_wayMany io_random, rI Y (ao 8) 43 co_now] (some (.int res.1)) [oX12 ao io_thrown io_rows io_cells io_children io_changes io_taped io_at io_to io_nest io_readMany io_codeLong io_readLong io_undos io_wentHome io_tideLevel io_acts io_firstBreaks io_bestCrew io_sights io_wayMany io_random, rI Y (ao 8) 43 res.2] := by
  refine amf.of (cc := cX12_treatsOne) (maxL := 2) (rt := (some .int)) (by decide) rfl RX12 rfl (Nat.le_of_ble_eq_true rfl) [some (.ref (ao 0)), some (.int x1)] rfl ?_
  intro X C hQ
  unfold fX12_treatsOne at hf
  refine a_aload_n C dX12_treatsOne_0 rfl ?_
  refine a_iload_n C dX12_treatsOne_1 rfl ?_
  obtain ⟨r1, h1, hf⟩ := fx_bind hf
  refine a_fV C (kX12_isChild l D Y ao io_thrown io_rows io_cells io_children io_changes io_taped io_at io_to io_nest io_readMany io_codeLong io_readLong io_undos io_wentHome io_tideLevel io_acts io_firstBreaks io_bestCrew io_sights io_wayMany io_random x1 r1 h1) (gB_X12_294 _) rfl dvX12_isChild ⟨⟨rfl, rfl⟩, ⟨Nat.le_of_ble_eq_true rfl, Nat.le_of_ble_eq_true rfl⟩, ⟨Nat.le_of_ble_eq_true rfl, Nat.le_of_ble_eq_true rfl⟩⟩ rfl (Nat.le_of_ble_eq_true rfl) dX12_treatsOne_2 rfl rfl [0] [1] ⟨rfl, trivial⟩ (by decide +kernel) rfl [oX12 ao io_thrown io_rows io_cells io_children io_changes io_taped io_at io_to io_nest io_readMany io_codeLong io_readLong io_undos io_wentHome io_tideLevel io_acts io_firstBreaks io_bestCrew io_sights io_wayMany io_random, rI Y (ao 8) 43 co_now] ⟨rfl, trivial⟩ ⟨rfl, trivial⟩ 2 rfl (by decide +kernel) ?_
  refine a_if_ne C 10 dX12_treatsOne_5 (by decide) (fun h2 => ?_) (fun h2 => ?_)
  · have hf := fx_f h2 hf
    refine a_aload_n C dX12_treatsOne_10 rfl ?_
    refine a_get C (eB_X12_36 _) dX12_treatsOne_11 0 rfl rfl ?_
    refine a_bipush C (25 : Int32) dX12_treatsOne_14 (by decide) ?_
    refine a_iconst C (2 : Int32) dX12_treatsOne_16 (by decide) ?_
    refine a_iload_n C dX12_treatsOne_17 rfl ?_
    refine a_imul C dX12_treatsOne_18 ?_
    refine a_iadd C dX12_treatsOne_19 ?_
    refine a_iconst C (1 : Int32) dX12_treatsOne_20 (by decide) ?_
    refine a_iadd C dX12_treatsOne_21 ?_
    refine a_bipush C (9 : Int32) dX12_treatsOne_22 (by decide) ?_
    refine a_aload_n C dX12_treatsOne_24 rfl ?_
    refine a_get C (eB_X12_36 _) dX12_treatsOne_25 0 rfl rfl ?_
    refine a_iload_n C dX12_treatsOne_28 rfl ?_
    obtain ⟨r3, h3, hf⟩ := fx_bind hf
    refine a_fS C (kX12_moodOf l D Y (ao 8) co_now x1 r3 h3) (gB_X12_277 _) rfl dvX12_moodOf ⟨⟨rfl, rfl⟩, ⟨Nat.le_of_ble_eq_true rfl, Nat.le_of_ble_eq_true rfl⟩, ⟨Nat.le_of_ble_eq_true rfl, Nat.le_of_ble_eq_true rfl⟩⟩ rfl (Nat.le_of_ble_eq_true rfl) dX12_treatsOne_29 [1] [0] ⟨rfl, trivial⟩ (by decide +kernel) rfl [oX12 ao io_thrown io_rows io_cells io_children io_changes io_taped io_at io_to io_nest io_readMany io_codeLong io_readLong io_undos io_wentHome io_tideLevel io_acts io_firstBreaks io_bestCrew io_sights io_wayMany io_random, rI Y (ao 8) 43 co_now] ⟨rfl, trivial⟩ ⟨rfl, trivial⟩ 2 rfl (by decide +kernel) ?_
    refine a_iconst C (3 : Int32) dX12_treatsOne_32 (by decide) ?_
    refine a_iadd C dX12_treatsOne_33 ?_
    refine a_mmin C dX12_treatsOne_34 (mB_X12_142 _) ⟨⟨Nat.le_of_ble_eq_true rfl, Nat.le_of_ble_eq_true rfl⟩, ⟨Nat.le_of_ble_eq_true rfl, Nat.le_of_ble_eq_true rfl⟩⟩ (Nat.le_of_ble_eq_true rfl) ?_
    obtain ⟨h4, hf⟩ := fx_ite hf
    refine a_iast C dX12_treatsOne_37 1 rfl h4 ?_
    refine a_aload_n C dX12_treatsOne_38 rfl ?_
    refine a_get C (eB_X12_36 _) dX12_treatsOne_39 0 rfl rfl ?_
    refine a_iload_n C dX12_treatsOne_42 rfl ?_
    obtain ⟨r5, h5, hf⟩ := fx_bind hf
    refine a_fS C (kX12_moodOf l D Y (ao 8) (upd co_now (Int32.toNatClampNeg (((25 : Int32) + ((2 : Int32) * x1)) + (1 : Int32))) (jmin (9 : Int32) (r3 + (3 : Int32)))) x1 r5 h5) (gB_X12_277 _) rfl dvX12_moodOf ⟨⟨rfl, rfl⟩, ⟨Nat.le_of_ble_eq_true rfl, Nat.le_of_ble_eq_true rfl⟩, ⟨Nat.le_of_ble_eq_true rfl, Nat.le_of_ble_eq_true rfl⟩⟩ rfl (Nat.le_of_ble_eq_true rfl) dX12_treatsOne_43 [1] [0] ⟨rfl, trivial⟩ (by decide +kernel) rfl [oX12 ao io_thrown io_rows io_cells io_children io_changes io_taped io_at io_to io_nest io_readMany io_codeLong io_readLong io_undos io_wentHome io_tideLevel io_acts io_firstBreaks io_bestCrew io_sights io_wayMany io_random, rI Y (ao 8) 43 (upd co_now (Int32.toNatClampNeg (((25 : Int32) + ((2 : Int32) * x1)) + (1 : Int32))) (jmin (9 : Int32) (r3 + (3 : Int32))))] ⟨rfl, trivial⟩ ⟨rfl, trivial⟩ 2 rfl (by decide +kernel) ?_
    obtain rfl := fx_some hf
    exact a_iret C hQ dX12_treatsOne_46 ⟨rfl, rfl⟩
  · have hf := fx_t h2 hf
    refine a_iconst C (-1 : Int32) dX12_treatsOne_8 (by decide) ?_
    obtain rfl := fx_some hf
    exact a_iret C hQ dX12_treatsOne_9 ⟨rfl, rfl⟩
-- X12_digs
abbrev rmX12_digs : Room := { frames := 2, cells := 0, slots := 0, locals := 46 }
theorem dvX12_digs : yX12_digs.cls = RX12 ∧ yX12_digs.cls ≠ "java/lang/invoke/MethodHandle" ∧ yX12_digs.cls ≠ "java/lang/invoke/VarHandle" ∧ (parseMethodDescriptor yX12_digs.desc).map (fun d => d.parameters.length) = some 1 := by decide +kernel
def fX12_digs (io_cells : Int32) (co_now : Nat → Int32) (x1 : Int32) : Option (Int32 × (Nat → Int32)) :=
  (fX12_isCell io_cells x1).bind (fun r1 => if r1 = (0 : Int32) then (some ((-1 : Int32), co_now)) else (if inb (12 : Int32) 43 then (fJ6_bitCount_0f7a4 ((upd co_now (Int32.toNatClampNeg (12 : Int32)) ((co_now (Int32.toNatClampNeg (12 : Int32))) ^^^ (jshl (1 : Int32) x1))) (Int32.toNatClampNeg (12 : Int32)))).bind (fun r4 => some (r4, (upd co_now (Int32.toNatClampNeg (12 : Int32)) ((co_now (Int32.toNatClampNeg (12 : Int32))) ^^^ (jshl (1 : Int32) x1))))) else none))
set_option maxHeartbeats 400000 in
set_option maxRecDepth 100000 in
theorem kX12_digs (l : Launch) (D : va_G) (Y : Nat → ClassId) (ao : Nat → Nat) (io_thrown : Int32) (io_rows : Int32) (io_cells : Int32) (io_children : Int32) (io_changes : Int32) (io_taped : Int32) (io_at : Int32) (io_to : Int32) (io_nest : Int32) (io_readMany : Int32) (io_codeLong : Int32) (io_readLong : Int32) (io_undos : Int32) (io_wentHome : Int32) (io_tideLevel : Int32) (io_acts : Int32) (io_firstBreaks : Int32) (io_bestCrew : Int32) (io_sights : Int32) (io_wayMany : Int32) (io_random : Int32) (co_now : Nat → Int32) (x1 : Int32) (res : Int32 × (Nat → Int32)) (hf : fX12_digs io_cells co_now x1 = some res) : amf l D Y yX12_digs wsX12_digs rmX12_digs [.ref (ao 0), .int x1] [oX12 ao io_thrown io_rows io_cells io_children io_changes io_taped io_at io_to io_nest io_readMany io_codeLong io_readLong io_undos io_wentHome io_tideLevel io_acts io_firstBreaks io_bestCrew io_sights io_wayMany io_random, rI Y (ao 8) 43 co_now] (some (.int res.1)) [oX12 ao io_thrown io_rows io_cells io_children io_changes io_taped io_at io_to io_nest io_readMany io_codeLong io_readLong io_undos io_wentHome io_tideLevel io_acts io_firstBreaks io_bestCrew io_sights io_wayMany io_random, rI Y (ao 8) 43 res.2] := by
  refine amf.of (cc := cX12_digs) (maxL := 2) (rt := (some .int)) (by decide) rfl RX12 rfl (Nat.le_of_ble_eq_true rfl) [some (.ref (ao 0)), some (.int x1)] rfl ?_
  intro X C hQ
  unfold fX12_digs at hf
  refine a_aload_n C dX12_digs_0 rfl ?_
  refine a_iload_n C dX12_digs_1 rfl ?_
  obtain ⟨r1, h1, hf⟩ := fx_bind hf
  refine a_fV C (kX12_isCell l D Y ao io_thrown io_rows io_cells io_children io_changes io_taped io_at io_to io_nest io_readMany io_codeLong io_readLong io_undos io_wentHome io_tideLevel io_acts io_firstBreaks io_bestCrew io_sights io_wayMany io_random x1 r1 h1) (gB_X12_280 _) rfl dvX12_isCell ⟨⟨rfl, rfl⟩, ⟨Nat.le_of_ble_eq_true rfl, Nat.le_of_ble_eq_true rfl⟩, ⟨Nat.le_of_ble_eq_true rfl, Nat.le_of_ble_eq_true rfl⟩⟩ rfl (Nat.le_of_ble_eq_true rfl) dX12_digs_2 rfl rfl [0] [1] ⟨rfl, trivial⟩ (by decide +kernel) rfl [oX12 ao io_thrown io_rows io_cells io_children io_changes io_taped io_at io_to io_nest io_readMany io_codeLong io_readLong io_undos io_wentHome io_tideLevel io_acts io_firstBreaks io_bestCrew io_sights io_wayMany io_random, rI Y (ao 8) 43 co_now] ⟨rfl, trivial⟩ ⟨rfl, trivial⟩ 2 rfl (by decide +kernel) ?_
  refine a_if_ne C 10 dX12_digs_5 (by decide) (fun h2 => ?_) (fun h2 => ?_)
  · have hf := fx_f h2 hf
    refine a_aload_n C dX12_digs_10 rfl ?_
    refine a_get C (eB_X12_36 _) dX12_digs_11 0 rfl rfl ?_
    refine a_bipush C (12 : Int32) dX12_digs_14 (by decide) ?_
    refine a_dup2 C dX12_digs_16 rfl rfl ?_
    obtain ⟨h3, hf⟩ := fx_ite hf
    refine a_iald C dX12_digs_17 1 rfl h3 ?_
    refine a_iconst C (1 : Int32) dX12_digs_18 (by decide) ?_
    refine a_iload_n C dX12_digs_19 rfl ?_
    refine a_ishl C dX12_digs_20 ?_
    refine a_ixor C dX12_digs_21 ?_
    refine a_iast C dX12_digs_22 1 rfl h3 ?_
    refine a_aload_n C dX12_digs_23 rfl ?_
    refine a_get C (eB_X12_36 _) dX12_digs_24 0 rfl rfl ?_
    refine a_bipush C (12 : Int32) dX12_digs_27 (by decide) ?_
    refine a_iald C dX12_digs_29 1 rfl h3 ?_
    obtain ⟨r4, h4, hf⟩ := fx_bind hf
    refine a_fS C (kJ6_bitCount_0f7a4 l D Y ((upd co_now (Int32.toNatClampNeg (12 : Int32)) ((co_now (Int32.toNatClampNeg (12 : Int32))) ^^^ (jshl (1 : Int32) x1))) (Int32.toNatClampNeg (12 : Int32))) r4 h4) (gB_X12_251 _) rfl dvJ6_bitCount_0f7a4 ⟨⟨rfl, rfl⟩, ⟨Nat.le_of_ble_eq_true rfl, Nat.le_of_ble_eq_true rfl⟩, ⟨Nat.le_of_ble_eq_true rfl, Nat.le_of_ble_eq_true rfl⟩⟩ rfl (Nat.le_of_ble_eq_true rfl) dX12_digs_30 [] [0, 1] trivial (by decide +kernel) rfl [oX12 ao io_thrown io_rows io_cells io_children io_changes io_taped io_at io_to io_nest io_readMany io_codeLong io_readLong io_undos io_wentHome io_tideLevel io_acts io_firstBreaks io_bestCrew io_sights io_wayMany io_random, rI Y (ao 8) 43 (upd co_now (Int32.toNatClampNeg (12 : Int32)) ((co_now (Int32.toNatClampNeg (12 : Int32))) ^^^ (jshl (1 : Int32) x1)))] trivial ⟨rfl, rfl, trivial⟩ 2 rfl (by decide +kernel) ?_
    obtain rfl := fx_some hf
    exact a_iret C hQ dX12_digs_33 ⟨rfl, rfl⟩
  · have hf := fx_t h2 hf
    refine a_iconst C (-1 : Int32) dX12_digs_8 (by decide) ?_
    obtain rfl := fx_some hf
    exact a_iret C hQ dX12_digs_9 ⟨rfl, rfl⟩
-- X12_go
abbrev rmX12_go : Room := { frames := 3, cells := 0, slots := 0, locals := 70 }
theorem dvX12_go : yX12_go.cls = RX12 ∧ yX12_go.cls ≠ "java/lang/invoke/MethodHandle" ∧ yX12_go.cls ≠ "java/lang/invoke/VarHandle" ∧ (parseMethodDescriptor yX12_go.desc).map (fun d => d.parameters.length) = some 2 := by decide +kernel
def fX12_go (io_thrown : Int32) (io_cells : Int32) (io_children : Int32) (io_undos : Int32) (co_now : Nat → Int32) (co_undone : Nat → Int32) (x1 : Int32) (x2 : Int32) : Option (Int32 × Int32 × Int32 × (Nat → Int32) × (Nat → Int32)) :=
  (fX12_putsBy io_undos co_now co_undone).bind (fun r1 => (fX12_goes io_cells io_children co_now x1 x2).bind (fun r2 => (fX12_counts io_undos r1 r2.1).bind (fun r3 => some (r3.1, (0 : Int32), r3.2.1, r2.2, r3.2.2))))
set_option maxHeartbeats 400000 in
set_option maxRecDepth 100000 in
theorem kX12_go (l : Launch) (D : va_G) (Y : Nat → ClassId) (ao : Nat → Nat) (io_thrown : Int32) (io_rows : Int32) (io_cells : Int32) (io_children : Int32) (io_changes : Int32) (io_taped : Int32) (io_at : Int32) (io_to : Int32) (io_nest : Int32) (io_readMany : Int32) (io_codeLong : Int32) (io_readLong : Int32) (io_undos : Int32) (io_wentHome : Int32) (io_tideLevel : Int32) (io_acts : Int32) (io_firstBreaks : Int32) (io_bestCrew : Int32) (io_sights : Int32) (io_wayMany : Int32) (io_random : Int32) (co_now : Nat → Int32) (co_undone : Nat → Int32) (x1 : Int32) (x2 : Int32) (res : Int32 × Int32 × Int32 × (Nat → Int32) × (Nat → Int32)) (hf : fX12_go io_thrown io_cells io_children io_undos co_now co_undone x1 x2 = some res) : amf l D Y yX12_go wsX12_go rmX12_go [.ref (ao 0), .int x1, .int x2] [oX12 ao io_thrown io_rows io_cells io_children io_changes io_taped io_at io_to io_nest io_readMany io_codeLong io_readLong io_undos io_wentHome io_tideLevel io_acts io_firstBreaks io_bestCrew io_sights io_wayMany io_random, rI Y (ao 8) 43 co_now, rI Y (ao 16) 688 co_undone] (some (.int res.1)) [oX12 ao res.2.1 io_rows io_cells io_children io_changes io_taped io_at io_to io_nest io_readMany io_codeLong io_readLong res.2.2.1 io_wentHome io_tideLevel io_acts io_firstBreaks io_bestCrew io_sights io_wayMany io_random, rI Y (ao 8) 43 res.2.2.2.1, rI Y (ao 16) 688 res.2.2.2.2] := by
  refine amf.of (cc := cX12_go) (maxL := 3) (rt := (some .int)) (by decide) rfl RX12 rfl (Nat.le_of_ble_eq_true rfl) [some (.ref (ao 0)), some (.int x1), some (.int x2)] rfl ?_
  intro X C hQ
  unfold fX12_go at hf
  refine a_aload_n C dX12_go_0 rfl ?_
  refine a_iconst C (0 : Int32) dX12_go_1 (by decide) ?_
  refine a_put C (eB_X12_112 _) tfX12_0 dX12_go_2 0 rfl rfl rfl (Nat.le_of_ble_eq_true rfl) ?_
  refine a_aload_n C dX12_go_5 rfl ?_
  obtain ⟨r1, h1, hf⟩ := fx_bind hf
  refine a_fV C (kX12_putsBy l D Y ao (0 : Int32) io_rows io_cells io_children io_changes io_taped io_at io_to io_nest io_readMany io_codeLong io_readLong io_undos io_wentHome io_tideLevel io_acts io_firstBreaks io_bestCrew io_sights io_wayMany io_random co_now co_undone r1 h1) (gB_X12_328 _) rfl dvX12_putsBy ⟨⟨rfl, rfl⟩, ⟨Nat.le_of_ble_eq_true rfl, Nat.le_of_ble_eq_true rfl⟩, ⟨Nat.le_of_ble_eq_true rfl, Nat.le_of_ble_eq_true rfl⟩⟩ rfl (Nat.le_of_ble_eq_true rfl) dX12_go_6 rfl rfl [0, 1, 2] [] ⟨rfl, rfl, rfl, trivial⟩ (by decide +kernel) rfl [oX12 ao (0 : Int32) io_rows io_cells io_children io_changes io_taped io_at io_to io_nest io_readMany io_codeLong io_readLong io_undos io_wentHome io_tideLevel io_acts io_firstBreaks io_bestCrew io_sights io_wayMany io_random, rI Y (ao 8) 43 co_now, rI Y (ao 16) 688 r1] ⟨rfl, rfl, rfl, trivial⟩ trivial 3 rfl (by decide +kernel) ?_
  refine a_aload_n C dX12_go_9 rfl ?_
  refine a_aload_n C dX12_go_10 rfl ?_
  refine a_aload_n C dX12_go_11 rfl ?_
  refine a_get C (eB_X12_36 _) dX12_go_12 0 rfl rfl ?_
  refine a_iload_n C dX12_go_15 rfl ?_
  refine a_iload_n C dX12_go_16 rfl ?_
  obtain ⟨r2, h2, hf⟩ := fx_bind hf
  refine a_fV C (kX12_goes l D Y ao (ao 8) (0 : Int32) io_rows io_cells io_children io_changes io_taped io_at io_to io_nest io_readMany io_codeLong io_readLong io_undos io_wentHome io_tideLevel io_acts io_firstBreaks io_bestCrew io_sights io_wayMany io_random co_now x1 x2 r2 h2) (gB_X12_331 _) rfl dvX12_goes ⟨⟨rfl, rfl⟩, ⟨Nat.le_of_ble_eq_true rfl, Nat.le_of_ble_eq_true rfl⟩, ⟨Nat.le_of_ble_eq_true rfl, Nat.le_of_ble_eq_true rfl⟩⟩ rfl (Nat.le_of_ble_eq_true rfl) dX12_go_17 rfl rfl [0, 1] [2] ⟨rfl, rfl, trivial⟩ (by decide +kernel) rfl [oX12 ao (0 : Int32) io_rows io_cells io_children io_changes io_taped io_at io_to io_nest io_readMany io_codeLong io_readLong io_undos io_wentHome io_tideLevel io_acts io_firstBreaks io_bestCrew io_sights io_wayMany io_random, rI Y (ao 8) 43 r2.2, rI Y (ao 16) 688 r1] ⟨rfl, rfl, trivial⟩ ⟨rfl, trivial⟩ 3 rfl (by decide +kernel) ?_
  obtain ⟨r3, h3, hf⟩ := fx_bind hf
  refine a_fV C (kX12_counts l D Y ao (0 : Int32) io_rows io_cells io_children io_changes io_taped io_at io_to io_nest io_readMany io_codeLong io_readLong io_undos io_wentHome io_tideLevel io_acts io_firstBreaks io_bestCrew io_sights io_wayMany io_random r1 r2.1 r3 h3) (gB_X12_335 _) rfl dvX12_counts ⟨⟨rfl, rfl⟩, ⟨Nat.le_of_ble_eq_true rfl, Nat.le_of_ble_eq_true rfl⟩, ⟨Nat.le_of_ble_eq_true rfl, Nat.le_of_ble_eq_true rfl⟩⟩ rfl (Nat.le_of_ble_eq_true rfl) dX12_go_20 rfl rfl [0, 2] [1] ⟨rfl, rfl, trivial⟩ (by decide +kernel) rfl [oX12 ao (0 : Int32) io_rows io_cells io_children io_changes io_taped io_at io_to io_nest io_readMany io_codeLong io_readLong r3.2.1 io_wentHome io_tideLevel io_acts io_firstBreaks io_bestCrew io_sights io_wayMany io_random, rI Y (ao 8) 43 r2.2, rI Y (ao 16) 688 r3.2.2] ⟨rfl, rfl, trivial⟩ ⟨rfl, trivial⟩ 3 rfl (by decide +kernel) ?_
  obtain rfl := fx_some hf
  exact a_iret C hQ dX12_go_23 ⟨rfl, rfl⟩
-- X12_home
abbrev rmX12_home : Room := { frames := 3, cells := 0, slots := 0, locals := 68 }
theorem dvX12_home : yX12_home.cls = RX12 ∧ yX12_home.cls ≠ "java/lang/invoke/MethodHandle" ∧ yX12_home.cls ≠ "java/lang/invoke/VarHandle" ∧ (parseMethodDescriptor yX12_home.desc).map (fun d => d.parameters.length) = some 1 := by decide +kernel
def fX12_home (io_thrown : Int32) (io_children : Int32) (io_undos : Int32) (co_now : Nat → Int32) (co_undone : Nat → Int32) (x1 : Int32) : Option (Int32 × Int32 × Int32 × (Nat → Int32) × (Nat → Int32)) :=
  (fX12_putsBy io_undos co_now co_undone).bind (fun r1 => (fX12_goesHome io_children co_now x1).bind (fun r2 => (fX12_counts io_undos r1 r2.1).bind (fun r3 => some (r3.1, (0 : Int32), r3.2.1, r2.2, r3.2.2))))
set_option maxHeartbeats 400000 in
set_option maxRecDepth 100000 in
theorem kX12_home (l : Launch) (D : va_G) (Y : Nat → ClassId) (ao : Nat → Nat) (io_thrown : Int32) (io_rows : Int32) (io_cells : Int32) (io_children : Int32) (io_changes : Int32) (io_taped : Int32) (io_at : Int32) (io_to : Int32) (io_nest : Int32) (io_readMany : Int32) (io_codeLong : Int32) (io_readLong : Int32) (io_undos : Int32) (io_wentHome : Int32) (io_tideLevel : Int32) (io_acts : Int32) (io_firstBreaks : Int32) (io_bestCrew : Int32) (io_sights : Int32) (io_wayMany : Int32) (io_random : Int32) (co_now : Nat → Int32) (co_undone : Nat → Int32) (x1 : Int32) (res : Int32 × Int32 × Int32 × (Nat → Int32) × (Nat → Int32)) (hf : fX12_home io_thrown io_children io_undos co_now co_undone x1 = some res) : amf l D Y yX12_home wsX12_home rmX12_home [.ref (ao 0), .int x1] [oX12 ao io_thrown io_rows io_cells io_children io_changes io_taped io_at io_to io_nest io_readMany io_codeLong io_readLong io_undos io_wentHome io_tideLevel io_acts io_firstBreaks io_bestCrew io_sights io_wayMany io_random, rI Y (ao 8) 43 co_now, rI Y (ao 16) 688 co_undone] (some (.int res.1)) [oX12 ao res.2.1 io_rows io_cells io_children io_changes io_taped io_at io_to io_nest io_readMany io_codeLong io_readLong res.2.2.1 io_wentHome io_tideLevel io_acts io_firstBreaks io_bestCrew io_sights io_wayMany io_random, rI Y (ao 8) 43 res.2.2.2.1, rI Y (ao 16) 688 res.2.2.2.2] := by
  refine amf.of (cc := cX12_home) (maxL := 2) (rt := (some .int)) (by decide) rfl RX12 rfl (Nat.le_of_ble_eq_true rfl) [some (.ref (ao 0)), some (.int x1)] rfl ?_
  intro X C hQ
  unfold fX12_home at hf
  refine a_aload_n C dX12_home_0 rfl ?_
  refine a_iconst C (0 : Int32) dX12_home_1 (by decide) ?_
  refine a_put C (eB_X12_112 _) tfX12_0 dX12_home_2 0 rfl rfl rfl (Nat.le_of_ble_eq_true rfl) ?_
  refine a_aload_n C dX12_home_5 rfl ?_
  obtain ⟨r1, h1, hf⟩ := fx_bind hf
  refine a_fV C (kX12_putsBy l D Y ao (0 : Int32) io_rows io_cells io_children io_changes io_taped io_at io_to io_nest io_readMany io_codeLong io_readLong io_undos io_wentHome io_tideLevel io_acts io_firstBreaks io_bestCrew io_sights io_wayMany io_random co_now co_undone r1 h1) (gB_X12_328 _) rfl dvX12_putsBy ⟨⟨rfl, rfl⟩, ⟨Nat.le_of_ble_eq_true rfl, Nat.le_of_ble_eq_true rfl⟩, ⟨Nat.le_of_ble_eq_true rfl, Nat.le_of_ble_eq_true rfl⟩⟩ rfl (Nat.le_of_ble_eq_true rfl) dX12_home_6 rfl rfl [0, 1, 2] [] ⟨rfl, rfl, rfl, trivial⟩ (by decide +kernel) rfl [oX12 ao (0 : Int32) io_rows io_cells io_children io_changes io_taped io_at io_to io_nest io_readMany io_codeLong io_readLong io_undos io_wentHome io_tideLevel io_acts io_firstBreaks io_bestCrew io_sights io_wayMany io_random, rI Y (ao 8) 43 co_now, rI Y (ao 16) 688 r1] ⟨rfl, rfl, rfl, trivial⟩ trivial 3 rfl (by decide +kernel) ?_
  refine a_aload_n C dX12_home_9 rfl ?_
  refine a_aload_n C dX12_home_10 rfl ?_
  refine a_iload_n C dX12_home_11 rfl ?_
  obtain ⟨r2, h2, hf⟩ := fx_bind hf
  refine a_fV C (kX12_goesHome l D Y ao (0 : Int32) io_rows io_cells io_children io_changes io_taped io_at io_to io_nest io_readMany io_codeLong io_readLong io_undos io_wentHome io_tideLevel io_acts io_firstBreaks io_bestCrew io_sights io_wayMany io_random co_now x1 r2 h2) (gB_X12_338 _) rfl dvX12_goesHome ⟨⟨rfl, rfl⟩, ⟨Nat.le_of_ble_eq_true rfl, Nat.le_of_ble_eq_true rfl⟩, ⟨Nat.le_of_ble_eq_true rfl, Nat.le_of_ble_eq_true rfl⟩⟩ rfl (Nat.le_of_ble_eq_true rfl) dX12_home_12 rfl rfl [0, 1] [2] ⟨rfl, rfl, trivial⟩ (by decide +kernel) rfl [oX12 ao (0 : Int32) io_rows io_cells io_children io_changes io_taped io_at io_to io_nest io_readMany io_codeLong io_readLong io_undos io_wentHome io_tideLevel io_acts io_firstBreaks io_bestCrew io_sights io_wayMany io_random, rI Y (ao 8) 43 r2.2, rI Y (ao 16) 688 r1] ⟨rfl, rfl, trivial⟩ ⟨rfl, trivial⟩ 3 rfl (by decide +kernel) ?_
  obtain ⟨r3, h3, hf⟩ := fx_bind hf
  refine a_fV C (kX12_counts l D Y ao (0 : Int32) io_rows io_cells io_children io_changes io_taped io_at io_to io_nest io_readMany io_codeLong io_readLong io_undos io_wentHome io_tideLevel io_acts io_firstBreaks io_bestCrew io_sights io_wayMany io_random r1 r2.1 r3 h3) (gB_X12_335 _) rfl dvX12_counts ⟨⟨rfl, rfl⟩, ⟨Nat.le_of_ble_eq_true rfl, Nat.le_of_ble_eq_true rfl⟩, ⟨Nat.le_of_ble_eq_true rfl, Nat.le_of_ble_eq_true rfl⟩⟩ rfl (Nat.le_of_ble_eq_true rfl) dX12_home_15 rfl rfl [0, 2] [1] ⟨rfl, rfl, trivial⟩ (by decide +kernel) rfl [oX12 ao (0 : Int32) io_rows io_cells io_children io_changes io_taped io_at io_to io_nest io_readMany io_codeLong io_readLong r3.2.1 io_wentHome io_tideLevel io_acts io_firstBreaks io_bestCrew io_sights io_wayMany io_random, rI Y (ao 8) 43 r2.2, rI Y (ao 16) 688 r3.2.2] ⟨rfl, rfl, trivial⟩ ⟨rfl, trivial⟩ 3 rfl (by decide +kernel) ?_
  obtain rfl := fx_some hf
  exact a_iret C hQ dX12_home_18 ⟨rfl, rfl⟩
-- X12_spade
abbrev rmX12_spade : Room := { frames := 3, cells := 0, slots := 0, locals := 67 }
theorem dvX12_spade : yX12_spade.cls = RX12 ∧ yX12_spade.cls ≠ "java/lang/invoke/MethodHandle" ∧ yX12_spade.cls ≠ "java/lang/invoke/VarHandle" ∧ (parseMethodDescriptor yX12_spade.desc).map (fun d => d.parameters.length) = some 1 := by decide +kernel
def fX12_spade (io_thrown : Int32) (io_children : Int32) (io_undos : Int32) (co_fixed : Nat → Int32) (co_now : Nat → Int32) (co_undone : Nat → Int32) (x1 : Int32) : Option (Int32 × Int32 × Int32 × (Nat → Int32) × (Nat → Int32)) :=
  (fX12_putsBy io_undos co_now co_undone).bind (fun r1 => (fX12_spadeFor io_children co_fixed co_now x1).bind (fun r2 => (fX12_counts io_undos r1 r2.1).bind (fun r3 => some (r3.1, (0 : Int32), r3.2.1, r2.2, r3.2.2))))
set_option maxHeartbeats 400000 in
set_option maxRecDepth 100000 in
theorem kX12_spade (l : Launch) (D : va_G) (Y : Nat → ClassId) (ao : Nat → Nat) (io_thrown : Int32) (io_rows : Int32) (io_cells : Int32) (io_children : Int32) (io_changes : Int32) (io_taped : Int32) (io_at : Int32) (io_to : Int32) (io_nest : Int32) (io_readMany : Int32) (io_codeLong : Int32) (io_readLong : Int32) (io_undos : Int32) (io_wentHome : Int32) (io_tideLevel : Int32) (io_acts : Int32) (io_firstBreaks : Int32) (io_bestCrew : Int32) (io_sights : Int32) (io_wayMany : Int32) (io_random : Int32) (co_fixed : Nat → Int32) (co_now : Nat → Int32) (co_undone : Nat → Int32) (x1 : Int32) (res : Int32 × Int32 × Int32 × (Nat → Int32) × (Nat → Int32)) (hf : fX12_spade io_thrown io_children io_undos co_fixed co_now co_undone x1 = some res) : amf l D Y yX12_spade wsX12_spade rmX12_spade [.ref (ao 0), .int x1] [oX12 ao io_thrown io_rows io_cells io_children io_changes io_taped io_at io_to io_nest io_readMany io_codeLong io_readLong io_undos io_wentHome io_tideLevel io_acts io_firstBreaks io_bestCrew io_sights io_wayMany io_random, rI Y (ao 7) 2 co_fixed, rI Y (ao 8) 43 co_now, rI Y (ao 16) 688 co_undone] (some (.int res.1)) [oX12 ao res.2.1 io_rows io_cells io_children io_changes io_taped io_at io_to io_nest io_readMany io_codeLong io_readLong res.2.2.1 io_wentHome io_tideLevel io_acts io_firstBreaks io_bestCrew io_sights io_wayMany io_random, rI Y (ao 7) 2 co_fixed, rI Y (ao 8) 43 res.2.2.2.1, rI Y (ao 16) 688 res.2.2.2.2] := by
  refine amf.of (cc := cX12_spade) (maxL := 2) (rt := (some .int)) (by decide) rfl RX12 rfl (Nat.le_of_ble_eq_true rfl) [some (.ref (ao 0)), some (.int x1)] rfl ?_
  intro X C hQ
  unfold fX12_spade at hf
  refine a_aload_n C dX12_spade_0 rfl ?_
  refine a_iconst C (0 : Int32) dX12_spade_1 (by decide) ?_
  refine a_put C (eB_X12_112 _) tfX12_0 dX12_spade_2 0 rfl rfl rfl (Nat.le_of_ble_eq_true rfl) ?_
  refine a_aload_n C dX12_spade_5 rfl ?_
  obtain ⟨r1, h1, hf⟩ := fx_bind hf
  refine a_fV C (kX12_putsBy l D Y ao (0 : Int32) io_rows io_cells io_children io_changes io_taped io_at io_to io_nest io_readMany io_codeLong io_readLong io_undos io_wentHome io_tideLevel io_acts io_firstBreaks io_bestCrew io_sights io_wayMany io_random co_now co_undone r1 h1) (gB_X12_328 _) rfl dvX12_putsBy ⟨⟨rfl, rfl⟩, ⟨Nat.le_of_ble_eq_true rfl, Nat.le_of_ble_eq_true rfl⟩, ⟨Nat.le_of_ble_eq_true rfl, Nat.le_of_ble_eq_true rfl⟩⟩ rfl (Nat.le_of_ble_eq_true rfl) dX12_spade_6 rfl rfl [0, 2, 3] [1] ⟨rfl, rfl, rfl, trivial⟩ (by decide +kernel) rfl [oX12 ao (0 : Int32) io_rows io_cells io_children io_changes io_taped io_at io_to io_nest io_readMany io_codeLong io_readLong io_undos io_wentHome io_tideLevel io_acts io_firstBreaks io_bestCrew io_sights io_wayMany io_random, rI Y (ao 7) 2 co_fixed, rI Y (ao 8) 43 co_now, rI Y (ao 16) 688 r1] ⟨rfl, rfl, rfl, trivial⟩ ⟨rfl, trivial⟩ 4 rfl (by decide +kernel) ?_
  refine a_aload_n C dX12_spade_9 rfl ?_
  refine a_aload_n C dX12_spade_10 rfl ?_
  refine a_iload_n C dX12_spade_11 rfl ?_
  obtain ⟨r2, h2, hf⟩ := fx_bind hf
  refine a_fV C (kX12_spadeFor l D Y ao (0 : Int32) io_rows io_cells io_children io_changes io_taped io_at io_to io_nest io_readMany io_codeLong io_readLong io_undos io_wentHome io_tideLevel io_acts io_firstBreaks io_bestCrew io_sights io_wayMany io_random co_fixed co_now x1 r2 h2) (gB_X12_341 _) rfl dvX12_spadeFor ⟨⟨rfl, rfl⟩, ⟨Nat.le_of_ble_eq_true rfl, Nat.le_of_ble_eq_true rfl⟩, ⟨Nat.le_of_ble_eq_true rfl, Nat.le_of_ble_eq_true rfl⟩⟩ rfl (Nat.le_of_ble_eq_true rfl) dX12_spade_12 rfl rfl [0, 1, 2] [3] ⟨rfl, rfl, rfl, trivial⟩ (by decide +kernel) rfl [oX12 ao (0 : Int32) io_rows io_cells io_children io_changes io_taped io_at io_to io_nest io_readMany io_codeLong io_readLong io_undos io_wentHome io_tideLevel io_acts io_firstBreaks io_bestCrew io_sights io_wayMany io_random, rI Y (ao 7) 2 co_fixed, rI Y (ao 8) 43 r2.2, rI Y (ao 16) 688 r1] ⟨rfl, rfl, rfl, trivial⟩ ⟨rfl, trivial⟩ 4 rfl (by decide +kernel) ?_
  obtain ⟨r3, h3, hf⟩ := fx_bind hf
  refine a_fV C (kX12_counts l D Y ao (0 : Int32) io_rows io_cells io_children io_changes io_taped io_at io_to io_nest io_readMany io_codeLong io_readLong io_undos io_wentHome io_tideLevel io_acts io_firstBreaks io_bestCrew io_sights io_wayMany io_random r1 r2.1 r3 h3) (gB_X12_335 _) rfl dvX12_counts ⟨⟨rfl, rfl⟩, ⟨Nat.le_of_ble_eq_true rfl, Nat.le_of_ble_eq_true rfl⟩, ⟨Nat.le_of_ble_eq_true rfl, Nat.le_of_ble_eq_true rfl⟩⟩ rfl (Nat.le_of_ble_eq_true rfl) dX12_spade_15 rfl rfl [0, 3] [1, 2] ⟨rfl, rfl, trivial⟩ (by decide +kernel) rfl [oX12 ao (0 : Int32) io_rows io_cells io_children io_changes io_taped io_at io_to io_nest io_readMany io_codeLong io_readLong r3.2.1 io_wentHome io_tideLevel io_acts io_firstBreaks io_bestCrew io_sights io_wayMany io_random, rI Y (ao 7) 2 co_fixed, rI Y (ao 8) 43 r2.2, rI Y (ao 16) 688 r3.2.2] ⟨rfl, rfl, trivial⟩ ⟨rfl, rfl, trivial⟩ 4 rfl (by decide +kernel) ?_
  obtain rfl := fx_some hf
  exact a_iret C hQ dX12_spade_18 ⟨rfl, rfl⟩
-- X12_treat
abbrev rmX12_treat : Room := { frames := 3, cells := 0, slots := 0, locals := 67 }
theorem dvX12_treat : yX12_treat.cls = RX12 ∧ yX12_treat.cls ≠ "java/lang/invoke/MethodHandle" ∧ yX12_treat.cls ≠ "java/lang/invoke/VarHandle" ∧ (parseMethodDescriptor yX12_treat.desc).map (fun d => d.parameters.length) = some 1 := by decide +kernel
def fX12_treat (io_thrown : Int32) (io_children : Int32) (io_undos : Int32) (co_now : Nat → Int32) (co_undone : Nat → Int32) (x1 : Int32) : Option (Int32 × Int32 × Int32 × (Nat → Int32) × (Nat → Int32)) :=
  (fX12_putsBy io_undos co_now co_undone).bind (fun r1 => (fX12_treatsOne io_children co_now x1).bind (fun r2 => (fX12_counts io_undos r1 r2.1).bind (fun r3 => some (r3.1, (0 : Int32), r3.2.1, r2.2, r3.2.2))))
set_option maxHeartbeats 400000 in
set_option maxRecDepth 100000 in
theorem kX12_treat (l : Launch) (D : va_G) (Y : Nat → ClassId) (ao : Nat → Nat) (io_thrown : Int32) (io_rows : Int32) (io_cells : Int32) (io_children : Int32) (io_changes : Int32) (io_taped : Int32) (io_at : Int32) (io_to : Int32) (io_nest : Int32) (io_readMany : Int32) (io_codeLong : Int32) (io_readLong : Int32) (io_undos : Int32) (io_wentHome : Int32) (io_tideLevel : Int32) (io_acts : Int32) (io_firstBreaks : Int32) (io_bestCrew : Int32) (io_sights : Int32) (io_wayMany : Int32) (io_random : Int32) (co_now : Nat → Int32) (co_undone : Nat → Int32) (x1 : Int32) (res : Int32 × Int32 × Int32 × (Nat → Int32) × (Nat → Int32)) (hf : fX12_treat io_thrown io_children io_undos co_now co_undone x1 = some res) : amf l D Y yX12_treat wsX12_treat rmX12_treat [.ref (ao 0), .int x1] [oX12 ao io_thrown io_rows io_cells io_children io_changes io_taped io_at io_to io_nest io_readMany io_codeLong io_readLong io_undos io_wentHome io_tideLevel io_acts io_firstBreaks io_bestCrew io_sights io_wayMany io_random, rI Y (ao 8) 43 co_now, rI Y (ao 16) 688 co_undone] (some (.int res.1)) [oX12 ao res.2.1 io_rows io_cells io_children io_changes io_taped io_at io_to io_nest io_readMany io_codeLong io_readLong res.2.2.1 io_wentHome io_tideLevel io_acts io_firstBreaks io_bestCrew io_sights io_wayMany io_random, rI Y (ao 8) 43 res.2.2.2.1, rI Y (ao 16) 688 res.2.2.2.2] := by
  refine amf.of (cc := cX12_treat) (maxL := 2) (rt := (some .int)) (by decide) rfl RX12 rfl (Nat.le_of_ble_eq_true rfl) [some (.ref (ao 0)), some (.int x1)] rfl ?_
  intro X C hQ
  unfold fX12_treat at hf
  refine a_aload_n C dX12_treat_0 rfl ?_
  refine a_iconst C (0 : Int32) dX12_treat_1 (by decide) ?_
  refine a_put C (eB_X12_112 _) tfX12_0 dX12_treat_2 0 rfl rfl rfl (Nat.le_of_ble_eq_true rfl) ?_
  refine a_aload_n C dX12_treat_5 rfl ?_
  obtain ⟨r1, h1, hf⟩ := fx_bind hf
  refine a_fV C (kX12_putsBy l D Y ao (0 : Int32) io_rows io_cells io_children io_changes io_taped io_at io_to io_nest io_readMany io_codeLong io_readLong io_undos io_wentHome io_tideLevel io_acts io_firstBreaks io_bestCrew io_sights io_wayMany io_random co_now co_undone r1 h1) (gB_X12_328 _) rfl dvX12_putsBy ⟨⟨rfl, rfl⟩, ⟨Nat.le_of_ble_eq_true rfl, Nat.le_of_ble_eq_true rfl⟩, ⟨Nat.le_of_ble_eq_true rfl, Nat.le_of_ble_eq_true rfl⟩⟩ rfl (Nat.le_of_ble_eq_true rfl) dX12_treat_6 rfl rfl [0, 1, 2] [] ⟨rfl, rfl, rfl, trivial⟩ (by decide +kernel) rfl [oX12 ao (0 : Int32) io_rows io_cells io_children io_changes io_taped io_at io_to io_nest io_readMany io_codeLong io_readLong io_undos io_wentHome io_tideLevel io_acts io_firstBreaks io_bestCrew io_sights io_wayMany io_random, rI Y (ao 8) 43 co_now, rI Y (ao 16) 688 r1] ⟨rfl, rfl, rfl, trivial⟩ trivial 3 rfl (by decide +kernel) ?_
  refine a_aload_n C dX12_treat_9 rfl ?_
  refine a_aload_n C dX12_treat_10 rfl ?_
  refine a_iload_n C dX12_treat_11 rfl ?_
  obtain ⟨r2, h2, hf⟩ := fx_bind hf
  refine a_fV C (kX12_treatsOne l D Y ao (0 : Int32) io_rows io_cells io_children io_changes io_taped io_at io_to io_nest io_readMany io_codeLong io_readLong io_undos io_wentHome io_tideLevel io_acts io_firstBreaks io_bestCrew io_sights io_wayMany io_random co_now x1 r2 h2) (gB_X12_344 _) rfl dvX12_treatsOne ⟨⟨rfl, rfl⟩, ⟨Nat.le_of_ble_eq_true rfl, Nat.le_of_ble_eq_true rfl⟩, ⟨Nat.le_of_ble_eq_true rfl, Nat.le_of_ble_eq_true rfl⟩⟩ rfl (Nat.le_of_ble_eq_true rfl) dX12_treat_12 rfl rfl [0, 1] [2] ⟨rfl, rfl, trivial⟩ (by decide +kernel) rfl [oX12 ao (0 : Int32) io_rows io_cells io_children io_changes io_taped io_at io_to io_nest io_readMany io_codeLong io_readLong io_undos io_wentHome io_tideLevel io_acts io_firstBreaks io_bestCrew io_sights io_wayMany io_random, rI Y (ao 8) 43 r2.2, rI Y (ao 16) 688 r1] ⟨rfl, rfl, trivial⟩ ⟨rfl, trivial⟩ 3 rfl (by decide +kernel) ?_
  obtain ⟨r3, h3, hf⟩ := fx_bind hf
  refine a_fV C (kX12_counts l D Y ao (0 : Int32) io_rows io_cells io_children io_changes io_taped io_at io_to io_nest io_readMany io_codeLong io_readLong io_undos io_wentHome io_tideLevel io_acts io_firstBreaks io_bestCrew io_sights io_wayMany io_random r1 r2.1 r3 h3) (gB_X12_335 _) rfl dvX12_counts ⟨⟨rfl, rfl⟩, ⟨Nat.le_of_ble_eq_true rfl, Nat.le_of_ble_eq_true rfl⟩, ⟨Nat.le_of_ble_eq_true rfl, Nat.le_of_ble_eq_true rfl⟩⟩ rfl (Nat.le_of_ble_eq_true rfl) dX12_treat_15 rfl rfl [0, 2] [1] ⟨rfl, rfl, trivial⟩ (by decide +kernel) rfl [oX12 ao (0 : Int32) io_rows io_cells io_children io_changes io_taped io_at io_to io_nest io_readMany io_codeLong io_readLong r3.2.1 io_wentHome io_tideLevel io_acts io_firstBreaks io_bestCrew io_sights io_wayMany io_random, rI Y (ao 8) 43 r2.2, rI Y (ao 16) 688 r3.2.2] ⟨rfl, rfl, trivial⟩ ⟨rfl, trivial⟩ 3 rfl (by decide +kernel) ?_
  obtain rfl := fx_some hf
  exact a_iret C hQ dX12_treat_18 ⟨rfl, rfl⟩
-- X12_moat
abbrev rmX12_moat : Room := { frames := 3, cells := 0, slots := 0, locals := 67 }
theorem dvX12_moat : yX12_moat.cls = RX12 ∧ yX12_moat.cls ≠ "java/lang/invoke/MethodHandle" ∧ yX12_moat.cls ≠ "java/lang/invoke/VarHandle" ∧ (parseMethodDescriptor yX12_moat.desc).map (fun d => d.parameters.length) = some 1 := by decide +kernel
def fX12_moat (io_thrown : Int32) (io_cells : Int32) (io_undos : Int32) (co_now : Nat → Int32) (co_undone : Nat → Int32) (x1 : Int32) : Option (Int32 × Int32 × Int32 × (Nat → Int32) × (Nat → Int32)) :=
  (fX12_putsBy io_undos co_now co_undone).bind (fun r1 => (fX12_digs io_cells co_now x1).bind (fun r2 => (fX12_counts io_undos r1 r2.1).bind (fun r3 => some (r3.1, (0 : Int32), r3.2.1, r2.2, r3.2.2))))
set_option maxHeartbeats 400000 in
set_option maxRecDepth 100000 in
theorem kX12_moat (l : Launch) (D : va_G) (Y : Nat → ClassId) (ao : Nat → Nat) (io_thrown : Int32) (io_rows : Int32) (io_cells : Int32) (io_children : Int32) (io_changes : Int32) (io_taped : Int32) (io_at : Int32) (io_to : Int32) (io_nest : Int32) (io_readMany : Int32) (io_codeLong : Int32) (io_readLong : Int32) (io_undos : Int32) (io_wentHome : Int32) (io_tideLevel : Int32) (io_acts : Int32) (io_firstBreaks : Int32) (io_bestCrew : Int32) (io_sights : Int32) (io_wayMany : Int32) (io_random : Int32) (co_now : Nat → Int32) (co_undone : Nat → Int32) (x1 : Int32) (res : Int32 × Int32 × Int32 × (Nat → Int32) × (Nat → Int32)) (hf : fX12_moat io_thrown io_cells io_undos co_now co_undone x1 = some res) : amf l D Y yX12_moat wsX12_moat rmX12_moat [.ref (ao 0), .int x1] [oX12 ao io_thrown io_rows io_cells io_children io_changes io_taped io_at io_to io_nest io_readMany io_codeLong io_readLong io_undos io_wentHome io_tideLevel io_acts io_firstBreaks io_bestCrew io_sights io_wayMany io_random, rI Y (ao 8) 43 co_now, rI Y (ao 16) 688 co_undone] (some (.int res.1)) [oX12 ao res.2.1 io_rows io_cells io_children io_changes io_taped io_at io_to io_nest io_readMany io_codeLong io_readLong res.2.2.1 io_wentHome io_tideLevel io_acts io_firstBreaks io_bestCrew io_sights io_wayMany io_random, rI Y (ao 8) 43 res.2.2.2.1, rI Y (ao 16) 688 res.2.2.2.2] := by
  refine amf.of (cc := cX12_moat) (maxL := 2) (rt := (some .int)) (by decide) rfl RX12 rfl (Nat.le_of_ble_eq_true rfl) [some (.ref (ao 0)), some (.int x1)] rfl ?_
  intro X C hQ
  unfold fX12_moat at hf
  refine a_aload_n C dX12_moat_0 rfl ?_
  refine a_iconst C (0 : Int32) dX12_moat_1 (by decide) ?_
  refine a_put C (eB_X12_112 _) tfX12_0 dX12_moat_2 0 rfl rfl rfl (Nat.le_of_ble_eq_true rfl) ?_
  refine a_aload_n C dX12_moat_5 rfl ?_
  obtain ⟨r1, h1, hf⟩ := fx_bind hf
  refine a_fV C (kX12_putsBy l D Y ao (0 : Int32) io_rows io_cells io_children io_changes io_taped io_at io_to io_nest io_readMany io_codeLong io_readLong io_undos io_wentHome io_tideLevel io_acts io_firstBreaks io_bestCrew io_sights io_wayMany io_random co_now co_undone r1 h1) (gB_X12_328 _) rfl dvX12_putsBy ⟨⟨rfl, rfl⟩, ⟨Nat.le_of_ble_eq_true rfl, Nat.le_of_ble_eq_true rfl⟩, ⟨Nat.le_of_ble_eq_true rfl, Nat.le_of_ble_eq_true rfl⟩⟩ rfl (Nat.le_of_ble_eq_true rfl) dX12_moat_6 rfl rfl [0, 1, 2] [] ⟨rfl, rfl, rfl, trivial⟩ (by decide +kernel) rfl [oX12 ao (0 : Int32) io_rows io_cells io_children io_changes io_taped io_at io_to io_nest io_readMany io_codeLong io_readLong io_undos io_wentHome io_tideLevel io_acts io_firstBreaks io_bestCrew io_sights io_wayMany io_random, rI Y (ao 8) 43 co_now, rI Y (ao 16) 688 r1] ⟨rfl, rfl, rfl, trivial⟩ trivial 3 rfl (by decide +kernel) ?_
  refine a_aload_n C dX12_moat_9 rfl ?_
  refine a_aload_n C dX12_moat_10 rfl ?_
  refine a_iload_n C dX12_moat_11 rfl ?_
  obtain ⟨r2, h2, hf⟩ := fx_bind hf
  refine a_fV C (kX12_digs l D Y ao (0 : Int32) io_rows io_cells io_children io_changes io_taped io_at io_to io_nest io_readMany io_codeLong io_readLong io_undos io_wentHome io_tideLevel io_acts io_firstBreaks io_bestCrew io_sights io_wayMany io_random co_now x1 r2 h2) (gB_X12_347 _) rfl dvX12_digs ⟨⟨rfl, rfl⟩, ⟨Nat.le_of_ble_eq_true rfl, Nat.le_of_ble_eq_true rfl⟩, ⟨Nat.le_of_ble_eq_true rfl, Nat.le_of_ble_eq_true rfl⟩⟩ rfl (Nat.le_of_ble_eq_true rfl) dX12_moat_12 rfl rfl [0, 1] [2] ⟨rfl, rfl, trivial⟩ (by decide +kernel) rfl [oX12 ao (0 : Int32) io_rows io_cells io_children io_changes io_taped io_at io_to io_nest io_readMany io_codeLong io_readLong io_undos io_wentHome io_tideLevel io_acts io_firstBreaks io_bestCrew io_sights io_wayMany io_random, rI Y (ao 8) 43 r2.2, rI Y (ao 16) 688 r1] ⟨rfl, rfl, trivial⟩ ⟨rfl, trivial⟩ 3 rfl (by decide +kernel) ?_
  obtain ⟨r3, h3, hf⟩ := fx_bind hf
  refine a_fV C (kX12_counts l D Y ao (0 : Int32) io_rows io_cells io_children io_changes io_taped io_at io_to io_nest io_readMany io_codeLong io_readLong io_undos io_wentHome io_tideLevel io_acts io_firstBreaks io_bestCrew io_sights io_wayMany io_random r1 r2.1 r3 h3) (gB_X12_335 _) rfl dvX12_counts ⟨⟨rfl, rfl⟩, ⟨Nat.le_of_ble_eq_true rfl, Nat.le_of_ble_eq_true rfl⟩, ⟨Nat.le_of_ble_eq_true rfl, Nat.le_of_ble_eq_true rfl⟩⟩ rfl (Nat.le_of_ble_eq_true rfl) dX12_moat_15 rfl rfl [0, 2] [1] ⟨rfl, rfl, trivial⟩ (by decide +kernel) rfl [oX12 ao (0 : Int32) io_rows io_cells io_children io_changes io_taped io_at io_to io_nest io_readMany io_codeLong io_readLong r3.2.1 io_wentHome io_tideLevel io_acts io_firstBreaks io_bestCrew io_sights io_wayMany io_random, rI Y (ao 8) 43 r2.2, rI Y (ao 16) 688 r3.2.2] ⟨rfl, rfl, trivial⟩ ⟨rfl, trivial⟩ 3 rfl (by decide +kernel) ?_
  obtain rfl := fx_some hf
  exact a_iret C hQ dX12_moat_18 ⟨rfl, rfl⟩
-- X12_build
abbrev rmX12_build : Room := { frames := 6, cells := 0, slots := 0, locals := 137 }
theorem dvX12_build : yX12_build.cls = RX12 ∧ yX12_build.cls ≠ "java/lang/invoke/MethodHandle" ∧ yX12_build.cls ≠ "java/lang/invoke/VarHandle" ∧ (parseMethodDescriptor yX12_build.desc).map (fun d => d.parameters.length) = some 1 := by decide +kernel
def fX12_build (io_thrown : Int32) (io_rows : Int32) (io_cells : Int32) (io_children : Int32) (io_undos : Int32) (io_wentHome : Int32) (co_row : Nat → Int64) (co_age : Nat → Int32) (co_skill : Nat → Int32) (co_friend : Nat → Int32) (co_now : Nat → Int32) (co_undone : Nat → Int32) (co_gets : Nat → Int32) (x1 : Int32) : Option (Int32 × Int32 × Int32 × Int32 × Int32 × (Nat → Int64) × (Nat → Int32) × (Nat → Int32) × (Nat → Int32)) :=
  (fX12_in (x1.toInt64) (0 : Int64) (30 : Int64)).bind (fun r1 => if r1 = (0 : Int32) then (some ((-1 : Int32), (0 : Int32), io_rows, io_undos, io_wentHome, co_row, co_now, co_undone, co_gets)) else ((fX12_putsBy io_undos co_now co_undone).bind (fun r3 => (fX12_wallAll io_cells co_now).bind (fun r4 => (fX12_builds io_cells io_children (0 : Int32) co_age co_skill co_friend co_gets co_now x1).bind (fun r5 => (fX12_enters (0 : Int32) co_row (r5.1.toInt64)).bind (fun r6 => (fX12_wallAll io_cells r5.2.2).bind (fun r7 => (fX12_adds io_undos r3 (r7 - r4)).bind (fun r8 => some (r8.1, (0 : Int32), r6.1, r8.2.1, r5.1, r6.2, r5.2.2, r8.2.2, r5.2.1)))))))))
set_option maxHeartbeats 400000 in
set_option maxRecDepth 100000 in
theorem kX12_build (l : Launch) (D : va_G) (Y : Nat → ClassId) (ao : Nat → Nat) (io_thrown : Int32) (io_rows : Int32) (io_cells : Int32) (io_children : Int32) (io_changes : Int32) (io_taped : Int32) (io_at : Int32) (io_to : Int32) (io_nest : Int32) (io_readMany : Int32) (io_codeLong : Int32) (io_readLong : Int32) (io_undos : Int32) (io_wentHome : Int32) (io_tideLevel : Int32) (io_acts : Int32) (io_firstBreaks : Int32) (io_bestCrew : Int32) (io_sights : Int32) (io_wayMany : Int32) (io_random : Int32) (co_row : Nat → Int64) (co_age : Nat → Int32) (co_skill : Nat → Int32) (co_friend : Nat → Int32) (co_now : Nat → Int32) (co_undone : Nat → Int32) (co_gets : Nat → Int32) (x1 : Int32) (res : Int32 × Int32 × Int32 × Int32 × Int32 × (Nat → Int64) × (Nat → Int32) × (Nat → Int32) × (Nat → Int32)) (hf : fX12_build io_thrown io_rows io_cells io_children io_undos io_wentHome co_row co_age co_skill co_friend co_now co_undone co_gets x1 = some res) : amf l D Y yX12_build wsX12_build rmX12_build [.ref (ao 0), .int x1] [oX12 ao io_thrown io_rows io_cells io_children io_changes io_taped io_at io_to io_nest io_readMany io_codeLong io_readLong io_undos io_wentHome io_tideLevel io_acts io_firstBreaks io_bestCrew io_sights io_wayMany io_random, rJ Y (ao 1) 24 co_row, rI Y (ao 4) 8 co_age, rI Y (ao 5) 8 co_skill, rI Y (ao 6) 8 co_friend, rI Y (ao 8) 43 co_now, rI Y (ao 16) 688 co_undone, rI Y (ao 17) 12 co_gets] (some (.int res.1)) [oX12 ao res.2.1 res.2.2.1 io_cells io_children io_changes io_taped io_at io_to io_nest io_readMany io_codeLong io_readLong res.2.2.2.1 res.2.2.2.2.1 io_tideLevel io_acts io_firstBreaks io_bestCrew io_sights io_wayMany io_random, rJ Y (ao 1) 24 res.2.2.2.2.2.1, rI Y (ao 4) 8 co_age, rI Y (ao 5) 8 co_skill, rI Y (ao 6) 8 co_friend, rI Y (ao 8) 43 res.2.2.2.2.2.2.1, rI Y (ao 16) 688 res.2.2.2.2.2.2.2.1, rI Y (ao 17) 12 res.2.2.2.2.2.2.2.2] := by
  refine amf.of (cc := cX12_build) (maxL := 3) (rt := (some .int)) (by decide) rfl RX12 rfl (Nat.le_of_ble_eq_true rfl) [some (.ref (ao 0)), some (.int x1), none] rfl ?_
  intro X C hQ
  unfold fX12_build at hf
  refine a_aload_n C dX12_build_0 rfl ?_
  refine a_iconst C (0 : Int32) dX12_build_1 (by decide) ?_
  refine a_put C (eB_X12_112 _) tfX12_0 dX12_build_2 0 rfl rfl rfl (Nat.le_of_ble_eq_true rfl) ?_
  refine a_iload_n C dX12_build_5 rfl ?_
  refine a_i2l C dX12_build_6 ?_
  refine a_lconst C (0 : Int64) dX12_build_7 (by decide) ?_
  refine a_ldc2 C (30 : Int64) dX12_build_8 (kB_X12_350 _) ?_
  obtain ⟨r1, h1, hf⟩ := fx_bind hf
  refine a_fS C (kX12_in l D Y (x1.toInt64) (0 : Int64) (30 : Int64) r1 h1) (gB_X12_122 _) rfl dvX12_in ⟨⟨rfl, rfl⟩, ⟨Nat.le_of_ble_eq_true rfl, Nat.le_of_ble_eq_true rfl⟩, ⟨Nat.le_of_ble_eq_true rfl, Nat.le_of_ble_eq_true rfl⟩⟩ rfl (Nat.le_of_ble_eq_true rfl) dX12_build_11 [] [0, 1, 2, 3, 4, 5, 6, 7] trivial (by decide +kernel) rfl [oX12 ao (0 : Int32) io_rows io_cells io_children io_changes io_taped io_at io_to io_nest io_readMany io_codeLong io_readLong io_undos io_wentHome io_tideLevel io_acts io_firstBreaks io_bestCrew io_sights io_wayMany io_random, rJ Y (ao 1) 24 co_row, rI Y (ao 4) 8 co_age, rI Y (ao 5) 8 co_skill, rI Y (ao 6) 8 co_friend, rI Y (ao 8) 43 co_now, rI Y (ao 16) 688 co_undone, rI Y (ao 17) 12 co_gets] trivial ⟨rfl, rfl, rfl, rfl, rfl, rfl, rfl, rfl, trivial⟩ 8 rfl (by decide +kernel) ?_
  refine a_if_ne C 19 dX12_build_14 (by decide) (fun h2 => ?_) (fun h2 => ?_)
  · have hf := fx_f h2 hf
    refine a_aload_n C dX12_build_19 rfl ?_
    obtain ⟨r3, h3, hf⟩ := fx_bind hf
    refine a_fV C (kX12_putsBy l D Y ao (0 : Int32) io_rows io_cells io_children io_changes io_taped io_at io_to io_nest io_readMany io_codeLong io_readLong io_undos io_wentHome io_tideLevel io_acts io_firstBreaks io_bestCrew io_sights io_wayMany io_random co_now co_undone r3 h3) (gB_X12_328 _) rfl dvX12_putsBy ⟨⟨rfl, rfl⟩, ⟨Nat.le_of_ble_eq_true rfl, Nat.le_of_ble_eq_true rfl⟩, ⟨Nat.le_of_ble_eq_true rfl, Nat.le_of_ble_eq_true rfl⟩⟩ rfl (Nat.le_of_ble_eq_true rfl) dX12_build_20 rfl rfl [0, 5, 6] [1, 2, 3, 4, 7] ⟨rfl, rfl, rfl, trivial⟩ (by decide +kernel) rfl [oX12 ao (0 : Int32) io_rows io_cells io_children io_changes io_taped io_at io_to io_nest io_readMany io_codeLong io_readLong io_undos io_wentHome io_tideLevel io_acts io_firstBreaks io_bestCrew io_sights io_wayMany io_random, rJ Y (ao 1) 24 co_row, rI Y (ao 4) 8 co_age, rI Y (ao 5) 8 co_skill, rI Y (ao 6) 8 co_friend, rI Y (ao 8) 43 co_now, rI Y (ao 16) 688 r3, rI Y (ao 17) 12 co_gets] ⟨rfl, rfl, rfl, trivial⟩ ⟨rfl, rfl, rfl, rfl, rfl, trivial⟩ 8 rfl (by decide +kernel) ?_
    refine a_aload_n C dX12_build_23 rfl ?_
    refine a_aload_n C dX12_build_24 rfl ?_
    refine a_get C (eB_X12_36 _) dX12_build_25 0 rfl rfl ?_
    obtain ⟨r4, h4, hf⟩ := fx_bind hf
    refine a_fV C (kX12_wallAll l D Y ao (ao 8) (0 : Int32) io_rows io_cells io_children io_changes io_taped io_at io_to io_nest io_readMany io_codeLong io_readLong io_undos io_wentHome io_tideLevel io_acts io_firstBreaks io_bestCrew io_sights io_wayMany io_random co_now r4 h4) (gB_X12_352 _) rfl dvX12_wallAll ⟨⟨rfl, rfl⟩, ⟨Nat.le_of_ble_eq_true rfl, Nat.le_of_ble_eq_true rfl⟩, ⟨Nat.le_of_ble_eq_true rfl, Nat.le_of_ble_eq_true rfl⟩⟩ rfl (Nat.le_of_ble_eq_true rfl) dX12_build_28 rfl rfl [0, 5] [1, 2, 3, 4, 6, 7] ⟨rfl, rfl, trivial⟩ (by decide +kernel) rfl [oX12 ao (0 : Int32) io_rows io_cells io_children io_changes io_taped io_at io_to io_nest io_readMany io_codeLong io_readLong io_undos io_wentHome io_tideLevel io_acts io_firstBreaks io_bestCrew io_sights io_wayMany io_random, rJ Y (ao 1) 24 co_row, rI Y (ao 4) 8 co_age, rI Y (ao 5) 8 co_skill, rI Y (ao 6) 8 co_friend, rI Y (ao 8) 43 co_now, rI Y (ao 16) 688 r3, rI Y (ao 17) 12 co_gets] ⟨rfl, rfl, trivial⟩ ⟨rfl, rfl, rfl, rfl, rfl, rfl, trivial⟩ 8 rfl (by decide +kernel) ?_
    refine a_istore_n C dX12_build_31 (by decide) rfl ?_
    refine a_aload_n C dX12_build_32 rfl ?_
    refine a_iconst C (0 : Int32) dX12_build_33 (by decide) ?_
    refine a_put C (eB_X12_309 _) tfX12_29 dX12_build_34 0 rfl rfl rfl (Nat.le_of_ble_eq_true rfl) ?_
    refine a_aload_n C dX12_build_37 rfl ?_
    refine a_aload_n C dX12_build_38 rfl ?_
    refine a_get C (eB_X12_36 _) dX12_build_39 0 rfl rfl ?_
    refine a_iload_n C dX12_build_42 rfl ?_
    obtain ⟨r5, h5, hf⟩ := fx_bind hf
    refine a_fV C (kX12_builds l D Y ao (ao 8) (0 : Int32) io_rows io_cells io_children io_changes io_taped io_at io_to io_nest io_readMany io_codeLong io_readLong io_undos (0 : Int32) io_tideLevel io_acts io_firstBreaks io_bestCrew io_sights io_wayMany io_random co_age co_skill co_friend co_gets co_now x1 r5 h5) (gB_X12_356 _) rfl dvX12_builds ⟨⟨rfl, rfl⟩, ⟨Nat.le_of_ble_eq_true rfl, Nat.le_of_ble_eq_true rfl⟩, ⟨Nat.le_of_ble_eq_true rfl, Nat.le_of_ble_eq_true rfl⟩⟩ rfl (Nat.le_of_ble_eq_true rfl) dX12_build_43 rfl rfl [0, 2, 3, 4, 7, 5] [1, 6] ⟨rfl, rfl, rfl, rfl, rfl, rfl, trivial⟩ (by decide +kernel) rfl [oX12 ao (0 : Int32) io_rows io_cells io_children io_changes io_taped io_at io_to io_nest io_readMany io_codeLong io_readLong io_undos r5.1 io_tideLevel io_acts io_firstBreaks io_bestCrew io_sights io_wayMany io_random, rJ Y (ao 1) 24 co_row, rI Y (ao 4) 8 co_age, rI Y (ao 5) 8 co_skill, rI Y (ao 6) 8 co_friend, rI Y (ao 8) 43 r5.2.2, rI Y (ao 16) 688 r3, rI Y (ao 17) 12 r5.2.1] ⟨rfl, rfl, rfl, rfl, rfl, rfl, trivial⟩ ⟨rfl, rfl, trivial⟩ 8 rfl (by decide +kernel) ?_
    refine a_aload_n C dX12_build_46 rfl ?_
    refine a_iconst C (0 : Int32) dX12_build_47 (by decide) ?_
    refine a_put C (eB_X12_119 _) tfX12_1 dX12_build_48 0 rfl rfl rfl (Nat.le_of_ble_eq_true rfl) ?_
    refine a_aload_n C dX12_build_51 rfl ?_
    refine a_aload_n C dX12_build_52 rfl ?_
    refine a_get C (eB_X12_309 _) dX12_build_53 0 rfl rfl ?_
    refine a_i2l C dX12_build_56 ?_
    obtain ⟨r6, h6, hf⟩ := fx_bind hf
    refine a_fV C (kX12_enters l D Y ao (0 : Int32) (0 : Int32) io_cells io_children io_changes io_taped io_at io_to io_nest io_readMany io_codeLong io_readLong io_undos r5.1 io_tideLevel io_acts io_firstBreaks io_bestCrew io_sights io_wayMany io_random co_row (r5.1.toInt64) r6 h6) (gB_X12_359 _) rfl dvX12_enters ⟨⟨rfl, rfl⟩, ⟨Nat.le_of_ble_eq_true rfl, Nat.le_of_ble_eq_true rfl⟩, ⟨Nat.le_of_ble_eq_true rfl, Nat.le_of_ble_eq_true rfl⟩⟩ rfl (Nat.le_of_ble_eq_true rfl) dX12_build_57 rfl rfl [0, 1] [2, 3, 4, 5, 6, 7] ⟨rfl, rfl, trivial⟩ (by decide +kernel) rfl [oX12 ao (0 : Int32) r6.1 io_cells io_children io_changes io_taped io_at io_to io_nest io_readMany io_codeLong io_readLong io_undos r5.1 io_tideLevel io_acts io_firstBreaks io_bestCrew io_sights io_wayMany io_random, rJ Y (ao 1) 24 r6.2, rI Y (ao 4) 8 co_age, rI Y (ao 5) 8 co_skill, rI Y (ao 6) 8 co_friend, rI Y (ao 8) 43 r5.2.2, rI Y (ao 16) 688 r3, rI Y (ao 17) 12 r5.2.1] ⟨rfl, rfl, trivial⟩ ⟨rfl, rfl, rfl, rfl, rfl, rfl, trivial⟩ 8 rfl (by decide +kernel) ?_
    refine a_aload_n C dX12_build_60 rfl ?_
    refine a_aload_n C dX12_build_61 rfl ?_
    refine a_aload_n C dX12_build_62 rfl ?_
    refine a_get C (eB_X12_36 _) dX12_build_63 0 rfl rfl ?_
    obtain ⟨r7, h7, hf⟩ := fx_bind hf
    refine a_fV C (kX12_wallAll l D Y ao (ao 8) (0 : Int32) r6.1 io_cells io_children io_changes io_taped io_at io_to io_nest io_readMany io_codeLong io_readLong io_undos r5.1 io_tideLevel io_acts io_firstBreaks io_bestCrew io_sights io_wayMany io_random r5.2.2 r7 h7) (gB_X12_352 _) rfl dvX12_wallAll ⟨⟨rfl, rfl⟩, ⟨Nat.le_of_ble_eq_true rfl, Nat.le_of_ble_eq_true rfl⟩, ⟨Nat.le_of_ble_eq_true rfl, Nat.le_of_ble_eq_true rfl⟩⟩ rfl (Nat.le_of_ble_eq_true rfl) dX12_build_66 rfl rfl [0, 5] [1, 2, 3, 4, 6, 7] ⟨rfl, rfl, trivial⟩ (by decide +kernel) rfl [oX12 ao (0 : Int32) r6.1 io_cells io_children io_changes io_taped io_at io_to io_nest io_readMany io_codeLong io_readLong io_undos r5.1 io_tideLevel io_acts io_firstBreaks io_bestCrew io_sights io_wayMany io_random, rJ Y (ao 1) 24 r6.2, rI Y (ao 4) 8 co_age, rI Y (ao 5) 8 co_skill, rI Y (ao 6) 8 co_friend, rI Y (ao 8) 43 r5.2.2, rI Y (ao 16) 688 r3, rI Y (ao 17) 12 r5.2.1] ⟨rfl, rfl, trivial⟩ ⟨rfl, rfl, rfl, rfl, rfl, rfl, trivial⟩ 8 rfl (by decide +kernel) ?_
    refine a_iload_n C dX12_build_69 rfl ?_
    refine a_isub C dX12_build_70 ?_
    obtain ⟨r8, h8, hf⟩ := fx_bind hf
    refine a_fV C (kX12_adds l D Y ao (0 : Int32) r6.1 io_cells io_children io_changes io_taped io_at io_to io_nest io_readMany io_codeLong io_readLong io_undos r5.1 io_tideLevel io_acts io_firstBreaks io_bestCrew io_sights io_wayMany io_random r3 (r7 - r4) r8 h8) (gB_X12_306 _) rfl dvX12_adds ⟨⟨rfl, rfl⟩, ⟨Nat.le_of_ble_eq_true rfl, Nat.le_of_ble_eq_true rfl⟩, ⟨Nat.le_of_ble_eq_true rfl, Nat.le_of_ble_eq_true rfl⟩⟩ rfl (Nat.le_of_ble_eq_true rfl) dX12_build_71 rfl rfl [0, 6] [1, 2, 3, 4, 5, 7] ⟨rfl, rfl, trivial⟩ (by decide +kernel) rfl [oX12 ao (0 : Int32) r6.1 io_cells io_children io_changes io_taped io_at io_to io_nest io_readMany io_codeLong io_readLong r8.2.1 r5.1 io_tideLevel io_acts io_firstBreaks io_bestCrew io_sights io_wayMany io_random, rJ Y (ao 1) 24 r6.2, rI Y (ao 4) 8 co_age, rI Y (ao 5) 8 co_skill, rI Y (ao 6) 8 co_friend, rI Y (ao 8) 43 r5.2.2, rI Y (ao 16) 688 r8.2.2, rI Y (ao 17) 12 r5.2.1] ⟨rfl, rfl, trivial⟩ ⟨rfl, rfl, rfl, rfl, rfl, rfl, trivial⟩ 8 rfl (by decide +kernel) ?_
    obtain rfl := fx_some hf
    exact a_iret C hQ dX12_build_74 ⟨rfl, rfl⟩
  · have hf := fx_t h2 hf
    refine a_iconst C (-1 : Int32) dX12_build_17 (by decide) ?_
    obtain rfl := fx_some hf
    exact a_iret C hQ dX12_build_18 ⟨rfl, rfl⟩
-- X12_tide
abbrev rmX12_tide : Room := { frames := 5, cells := 0, slots := 0, locals := 111 }
theorem dvX12_tide : yX12_tide.cls = RX12 ∧ yX12_tide.cls ≠ "java/lang/invoke/MethodHandle" ∧ yX12_tide.cls ≠ "java/lang/invoke/VarHandle" ∧ (parseMethodDescriptor yX12_tide.desc).map (fun d => d.parameters.length) = some 0 := by decide +kernel
def fX12_tide (io_thrown : Int32) (io_rows : Int32) (io_cells : Int32) (io_codeLong : Int32) (io_undos : Int32) (io_tideLevel : Int32) (co_row : Nat → Int64) (co_base : Nat → Int32) (co_dyke : Nat → Int32) (co_fixed : Nat → Int32) (co_now : Nat → Int32) (co_code : Nat → Int32) (co_stack : Nat → Int32) (co_asked : Nat → Int32) (co_undone : Nat → Int32) : Option (Int32 × Int32 × Int32 × Int32 × Int32 × (Nat → Int64) × (Nat → Int32) × (Nat → Int32) × (Nat → Int32) × (Nat → Int32)) :=
  (fX12_putsBy io_undos co_now co_undone).bind (fun r1 => (fX12_deepAll io_cells co_now).bind (fun r2 => (fX12_tideComes io_cells io_codeLong io_tideLevel co_base co_dyke co_fixed co_code co_stack co_asked co_now).bind (fun r3 => (fX12_enters (0 : Int32) co_row (r3.2.1.toInt64)).bind (fun r4 => (fX12_deepAll io_cells r3.2.2.2.2).bind (fun r5 => (fX12_enters r4.1 r4.2 ((r5 - r2).toInt64)).bind (fun r6 => (fX12_adds io_undos r1 r3.1).bind (fun r7 => some (r7.1, (0 : Int32), r6.1, r7.2.1, r3.2.1, r6.2, r3.2.2.2.2, r3.2.2.1, r3.2.2.2.1, r7.2.2))))))))
set_option maxHeartbeats 400000 in
set_option maxRecDepth 100000 in
theorem kX12_tide (l : Launch) (D : va_G) (Y : Nat → ClassId) (ao : Nat → Nat) (io_thrown : Int32) (io_rows : Int32) (io_cells : Int32) (io_children : Int32) (io_changes : Int32) (io_taped : Int32) (io_at : Int32) (io_to : Int32) (io_nest : Int32) (io_readMany : Int32) (io_codeLong : Int32) (io_readLong : Int32) (io_undos : Int32) (io_wentHome : Int32) (io_tideLevel : Int32) (io_acts : Int32) (io_firstBreaks : Int32) (io_bestCrew : Int32) (io_sights : Int32) (io_wayMany : Int32) (io_random : Int32) (co_row : Nat → Int64) (co_base : Nat → Int32) (co_dyke : Nat → Int32) (co_fixed : Nat → Int32) (co_now : Nat → Int32) (co_code : Nat → Int32) (co_stack : Nat → Int32) (co_asked : Nat → Int32) (co_undone : Nat → Int32) (res : Int32 × Int32 × Int32 × Int32 × Int32 × (Nat → Int64) × (Nat → Int32) × (Nat → Int32) × (Nat → Int32) × (Nat → Int32)) (hf : fX12_tide io_thrown io_rows io_cells io_codeLong io_undos io_tideLevel co_row co_base co_dyke co_fixed co_now co_code co_stack co_asked co_undone = some res) : amf l D Y yX12_tide wsX12_tide rmX12_tide [.ref (ao 0)] [oX12 ao io_thrown io_rows io_cells io_children io_changes io_taped io_at io_to io_nest io_readMany io_codeLong io_readLong io_undos io_wentHome io_tideLevel io_acts io_firstBreaks io_bestCrew io_sights io_wayMany io_random, rJ Y (ao 1) 24 co_row, rI Y (ao 2) 12 co_base, rI Y (ao 3) 12 co_dyke, rI Y (ao 7) 2 co_fixed, rI Y (ao 8) 43 co_now, rI Y (ao 12) 80 co_code, rI Y (ao 14) 80 co_stack, rI Y (ao 15) 4 co_asked, rI Y (ao 16) 688 co_undone] (some (.int res.1)) [oX12 ao res.2.1 res.2.2.1 io_cells io_children io_changes io_taped io_at io_to io_nest io_readMany io_codeLong io_readLong res.2.2.2.1 io_wentHome res.2.2.2.2.1 io_acts io_firstBreaks io_bestCrew io_sights io_wayMany io_random, rJ Y (ao 1) 24 res.2.2.2.2.2.1, rI Y (ao 2) 12 co_base, rI Y (ao 3) 12 co_dyke, rI Y (ao 7) 2 co_fixed, rI Y (ao 8) 43 res.2.2.2.2.2.2.1, rI Y (ao 12) 80 co_code, rI Y (ao 14) 80 res.2.2.2.2.2.2.2.1, rI Y (ao 15) 4 res.2.2.2.2.2.2.2.2.1, rI Y (ao 16) 688 res.2.2.2.2.2.2.2.2.2] := by
  refine amf.of (cc := cX12_tide) (maxL := 3) (rt := (some .int)) (by decide) rfl RX12 rfl (Nat.le_of_ble_eq_true rfl) [some (.ref (ao 0)), none, none] rfl ?_
  intro X C hQ
  unfold fX12_tide at hf
  refine a_aload_n C dX12_tide_0 rfl ?_
  refine a_iconst C (0 : Int32) dX12_tide_1 (by decide) ?_
  refine a_put C (eB_X12_112 _) tfX12_0 dX12_tide_2 0 rfl rfl rfl (Nat.le_of_ble_eq_true rfl) ?_
  refine a_aload_n C dX12_tide_5 rfl ?_
  obtain ⟨r1, h1, hf⟩ := fx_bind hf
  refine a_fV C (kX12_putsBy l D Y ao (0 : Int32) io_rows io_cells io_children io_changes io_taped io_at io_to io_nest io_readMany io_codeLong io_readLong io_undos io_wentHome io_tideLevel io_acts io_firstBreaks io_bestCrew io_sights io_wayMany io_random co_now co_undone r1 h1) (gB_X12_328 _) rfl dvX12_putsBy ⟨⟨rfl, rfl⟩, ⟨Nat.le_of_ble_eq_true rfl, Nat.le_of_ble_eq_true rfl⟩, ⟨Nat.le_of_ble_eq_true rfl, Nat.le_of_ble_eq_true rfl⟩⟩ rfl (Nat.le_of_ble_eq_true rfl) dX12_tide_6 rfl rfl [0, 5, 9] [1, 2, 3, 4, 6, 7, 8] ⟨rfl, rfl, rfl, trivial⟩ (by decide +kernel) rfl [oX12 ao (0 : Int32) io_rows io_cells io_children io_changes io_taped io_at io_to io_nest io_readMany io_codeLong io_readLong io_undos io_wentHome io_tideLevel io_acts io_firstBreaks io_bestCrew io_sights io_wayMany io_random, rJ Y (ao 1) 24 co_row, rI Y (ao 2) 12 co_base, rI Y (ao 3) 12 co_dyke, rI Y (ao 7) 2 co_fixed, rI Y (ao 8) 43 co_now, rI Y (ao 12) 80 co_code, rI Y (ao 14) 80 co_stack, rI Y (ao 15) 4 co_asked, rI Y (ao 16) 688 r1] ⟨rfl, rfl, rfl, trivial⟩ ⟨rfl, rfl, rfl, rfl, rfl, rfl, rfl, trivial⟩ 10 rfl (by decide +kernel) ?_
  refine a_aload_n C dX12_tide_9 rfl ?_
  refine a_aload_n C dX12_tide_10 rfl ?_
  refine a_get C (eB_X12_36 _) dX12_tide_11 0 rfl rfl ?_
  obtain ⟨r2, h2, hf⟩ := fx_bind hf
  refine a_fV C (kX12_deepAll l D Y ao (ao 8) (0 : Int32) io_rows io_cells io_children io_changes io_taped io_at io_to io_nest io_readMany io_codeLong io_readLong io_undos io_wentHome io_tideLevel io_acts io_firstBreaks io_bestCrew io_sights io_wayMany io_random co_now r2 h2) (gB_X12_363 _) rfl dvX12_deepAll ⟨⟨rfl, rfl⟩, ⟨Nat.le_of_ble_eq_true rfl, Nat.le_of_ble_eq_true rfl⟩, ⟨Nat.le_of_ble_eq_true rfl, Nat.le_of_ble_eq_true rfl⟩⟩ rfl (Nat.le_of_ble_eq_true rfl) dX12_tide_14 rfl rfl [0, 5] [1, 2, 3, 4, 6, 7, 8, 9] ⟨rfl, rfl, trivial⟩ (by decide +kernel) rfl [oX12 ao (0 : Int32) io_rows io_cells io_children io_changes io_taped io_at io_to io_nest io_readMany io_codeLong io_readLong io_undos io_wentHome io_tideLevel io_acts io_firstBreaks io_bestCrew io_sights io_wayMany io_random, rJ Y (ao 1) 24 co_row, rI Y (ao 2) 12 co_base, rI Y (ao 3) 12 co_dyke, rI Y (ao 7) 2 co_fixed, rI Y (ao 8) 43 co_now, rI Y (ao 12) 80 co_code, rI Y (ao 14) 80 co_stack, rI Y (ao 15) 4 co_asked, rI Y (ao 16) 688 r1] ⟨rfl, rfl, trivial⟩ ⟨rfl, rfl, rfl, rfl, rfl, rfl, rfl, rfl, trivial⟩ 10 rfl (by decide +kernel) ?_
  refine a_istore_n C dX12_tide_17 (by decide) rfl ?_
  refine a_aload_n C dX12_tide_18 rfl ?_
  refine a_aload_n C dX12_tide_19 rfl ?_
  refine a_get C (eB_X12_36 _) dX12_tide_20 0 rfl rfl ?_
  obtain ⟨r3, h3, hf⟩ := fx_bind hf
  refine a_fV C (kX12_tideComes l D Y ao (ao 8) (0 : Int32) io_rows io_cells io_children io_changes io_taped io_at io_to io_nest io_readMany io_codeLong io_readLong io_undos io_wentHome io_tideLevel io_acts io_firstBreaks io_bestCrew io_sights io_wayMany io_random co_base co_dyke co_fixed co_code co_stack co_asked co_now r3 h3) (gB_X12_366 _) rfl dvX12_tideComes ⟨⟨rfl, rfl⟩, ⟨Nat.le_of_ble_eq_true rfl, Nat.le_of_ble_eq_true rfl⟩, ⟨Nat.le_of_ble_eq_true rfl, Nat.le_of_ble_eq_true rfl⟩⟩ rfl (Nat.le_of_ble_eq_true rfl) dX12_tide_23 rfl rfl [0, 2, 3, 4, 6, 7, 8, 5] [1, 9] ⟨rfl, rfl, rfl, rfl, rfl, rfl, rfl, rfl, trivial⟩ (by decide +kernel) rfl [oX12 ao (0 : Int32) io_rows io_cells io_children io_changes io_taped io_at io_to io_nest io_readMany io_codeLong io_readLong io_undos io_wentHome r3.2.1 io_acts io_firstBreaks io_bestCrew io_sights io_wayMany io_random, rJ Y (ao 1) 24 co_row, rI Y (ao 2) 12 co_base, rI Y (ao 3) 12 co_dyke, rI Y (ao 7) 2 co_fixed, rI Y (ao 8) 43 r3.2.2.2.2, rI Y (ao 12) 80 co_code, rI Y (ao 14) 80 r3.2.2.1, rI Y (ao 15) 4 r3.2.2.2.1, rI Y (ao 16) 688 r1] ⟨rfl, rfl, rfl, rfl, rfl, rfl, rfl, rfl, trivial⟩ ⟨rfl, rfl, trivial⟩ 10 rfl (by decide +kernel) ?_
  refine a_istore_n C dX12_tide_26 (by decide) rfl ?_
  refine a_aload_n C dX12_tide_27 rfl ?_
  refine a_iconst C (0 : Int32) dX12_tide_28 (by decide) ?_
  refine a_put C (eB_X12_119 _) tfX12_1 dX12_tide_29 0 rfl rfl rfl (Nat.le_of_ble_eq_true rfl) ?_
  refine a_aload_n C dX12_tide_32 rfl ?_
  refine a_aload_n C dX12_tide_33 rfl ?_
  refine a_get C (eB_X12_319 _) dX12_tide_34 0 rfl rfl ?_
  refine a_i2l C dX12_tide_37 ?_
  obtain ⟨r4, h4, hf⟩ := fx_bind hf
  refine a_fV C (kX12_enters l D Y ao (0 : Int32) (0 : Int32) io_cells io_children io_changes io_taped io_at io_to io_nest io_readMany io_codeLong io_readLong io_undos io_wentHome r3.2.1 io_acts io_firstBreaks io_bestCrew io_sights io_wayMany io_random co_row (r3.2.1.toInt64) r4 h4) (gB_X12_359 _) rfl dvX12_enters ⟨⟨rfl, rfl⟩, ⟨Nat.le_of_ble_eq_true rfl, Nat.le_of_ble_eq_true rfl⟩, ⟨Nat.le_of_ble_eq_true rfl, Nat.le_of_ble_eq_true rfl⟩⟩ rfl (Nat.le_of_ble_eq_true rfl) dX12_tide_38 rfl rfl [0, 1] [2, 3, 4, 5, 6, 7, 8, 9] ⟨rfl, rfl, trivial⟩ (by decide +kernel) rfl [oX12 ao (0 : Int32) r4.1 io_cells io_children io_changes io_taped io_at io_to io_nest io_readMany io_codeLong io_readLong io_undos io_wentHome r3.2.1 io_acts io_firstBreaks io_bestCrew io_sights io_wayMany io_random, rJ Y (ao 1) 24 r4.2, rI Y (ao 2) 12 co_base, rI Y (ao 3) 12 co_dyke, rI Y (ao 7) 2 co_fixed, rI Y (ao 8) 43 r3.2.2.2.2, rI Y (ao 12) 80 co_code, rI Y (ao 14) 80 r3.2.2.1, rI Y (ao 15) 4 r3.2.2.2.1, rI Y (ao 16) 688 r1] ⟨rfl, rfl, trivial⟩ ⟨rfl, rfl, rfl, rfl, rfl, rfl, rfl, rfl, trivial⟩ 10 rfl (by decide +kernel) ?_
  refine a_aload_n C dX12_tide_41 rfl ?_
  refine a_aload_n C dX12_tide_42 rfl ?_
  refine a_aload_n C dX12_tide_43 rfl ?_
  refine a_get C (eB_X12_36 _) dX12_tide_44 0 rfl rfl ?_
  obtain ⟨r5, h5, hf⟩ := fx_bind hf
  refine a_fV C (kX12_deepAll l D Y ao (ao 8) (0 : Int32) r4.1 io_cells io_children io_changes io_taped io_at io_to io_nest io_readMany io_codeLong io_readLong io_undos io_wentHome r3.2.1 io_acts io_firstBreaks io_bestCrew io_sights io_wayMany io_random r3.2.2.2.2 r5 h5) (gB_X12_363 _) rfl dvX12_deepAll ⟨⟨rfl, rfl⟩, ⟨Nat.le_of_ble_eq_true rfl, Nat.le_of_ble_eq_true rfl⟩, ⟨Nat.le_of_ble_eq_true rfl, Nat.le_of_ble_eq_true rfl⟩⟩ rfl (Nat.le_of_ble_eq_true rfl) dX12_tide_47 rfl rfl [0, 5] [1, 2, 3, 4, 6, 7, 8, 9] ⟨rfl, rfl, trivial⟩ (by decide +kernel) rfl [oX12 ao (0 : Int32) r4.1 io_cells io_children io_changes io_taped io_at io_to io_nest io_readMany io_codeLong io_readLong io_undos io_wentHome r3.2.1 io_acts io_firstBreaks io_bestCrew io_sights io_wayMany io_random, rJ Y (ao 1) 24 r4.2, rI Y (ao 2) 12 co_base, rI Y (ao 3) 12 co_dyke, rI Y (ao 7) 2 co_fixed, rI Y (ao 8) 43 r3.2.2.2.2, rI Y (ao 12) 80 co_code, rI Y (ao 14) 80 r3.2.2.1, rI Y (ao 15) 4 r3.2.2.2.1, rI Y (ao 16) 688 r1] ⟨rfl, rfl, trivial⟩ ⟨rfl, rfl, rfl, rfl, rfl, rfl, rfl, rfl, trivial⟩ 10 rfl (by decide +kernel) ?_
  refine a_iload_n C dX12_tide_50 rfl ?_
  refine a_isub C dX12_tide_51 ?_
  refine a_i2l C dX12_tide_52 ?_
  obtain ⟨r6, h6, hf⟩ := fx_bind hf
  refine a_fV C (kX12_enters l D Y ao (0 : Int32) r4.1 io_cells io_children io_changes io_taped io_at io_to io_nest io_readMany io_codeLong io_readLong io_undos io_wentHome r3.2.1 io_acts io_firstBreaks io_bestCrew io_sights io_wayMany io_random r4.2 ((r5 - r2).toInt64) r6 h6) (gB_X12_359 _) rfl dvX12_enters ⟨⟨rfl, rfl⟩, ⟨Nat.le_of_ble_eq_true rfl, Nat.le_of_ble_eq_true rfl⟩, ⟨Nat.le_of_ble_eq_true rfl, Nat.le_of_ble_eq_true rfl⟩⟩ rfl (Nat.le_of_ble_eq_true rfl) dX12_tide_53 rfl rfl [0, 1] [2, 3, 4, 5, 6, 7, 8, 9] ⟨rfl, rfl, trivial⟩ (by decide +kernel) rfl [oX12 ao (0 : Int32) r6.1 io_cells io_children io_changes io_taped io_at io_to io_nest io_readMany io_codeLong io_readLong io_undos io_wentHome r3.2.1 io_acts io_firstBreaks io_bestCrew io_sights io_wayMany io_random, rJ Y (ao 1) 24 r6.2, rI Y (ao 2) 12 co_base, rI Y (ao 3) 12 co_dyke, rI Y (ao 7) 2 co_fixed, rI Y (ao 8) 43 r3.2.2.2.2, rI Y (ao 12) 80 co_code, rI Y (ao 14) 80 r3.2.2.1, rI Y (ao 15) 4 r3.2.2.2.1, rI Y (ao 16) 688 r1] ⟨rfl, rfl, trivial⟩ ⟨rfl, rfl, rfl, rfl, rfl, rfl, rfl, rfl, trivial⟩ 10 rfl (by decide +kernel) ?_
  refine a_aload_n C dX12_tide_56 rfl ?_
  refine a_iload_n C dX12_tide_57 rfl ?_
  obtain ⟨r7, h7, hf⟩ := fx_bind hf
  refine a_fV C (kX12_adds l D Y ao (0 : Int32) r6.1 io_cells io_children io_changes io_taped io_at io_to io_nest io_readMany io_codeLong io_readLong io_undos io_wentHome r3.2.1 io_acts io_firstBreaks io_bestCrew io_sights io_wayMany io_random r1 r3.1 r7 h7) (gB_X12_306 _) rfl dvX12_adds ⟨⟨rfl, rfl⟩, ⟨Nat.le_of_ble_eq_true rfl, Nat.le_of_ble_eq_true rfl⟩, ⟨Nat.le_of_ble_eq_true rfl, Nat.le_of_ble_eq_true rfl⟩⟩ rfl (Nat.le_of_ble_eq_true rfl) dX12_tide_58 rfl rfl [0, 9] [1, 2, 3, 4, 5, 6, 7, 8] ⟨rfl, rfl, trivial⟩ (by decide +kernel) rfl [oX12 ao (0 : Int32) r6.1 io_cells io_children io_changes io_taped io_at io_to io_nest io_readMany io_codeLong io_readLong r7.2.1 io_wentHome r3.2.1 io_acts io_firstBreaks io_bestCrew io_sights io_wayMany io_random, rJ Y (ao 1) 24 r6.2, rI Y (ao 2) 12 co_base, rI Y (ao 3) 12 co_dyke, rI Y (ao 7) 2 co_fixed, rI Y (ao 8) 43 r3.2.2.2.2, rI Y (ao 12) 80 co_code, rI Y (ao 14) 80 r3.2.2.1, rI Y (ao 15) 4 r3.2.2.2.1, rI Y (ao 16) 688 r7.2.2] ⟨rfl, rfl, trivial⟩ ⟨rfl, rfl, rfl, rfl, rfl, rfl, rfl, rfl, trivial⟩ 10 rfl (by decide +kernel) ?_
  obtain rfl := fx_some hf
  exact a_iret C hQ dX12_tide_61 ⟨rfl, rfl⟩
