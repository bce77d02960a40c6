-- X3_fillCell
abbrev rmX3_fillCell : Room := { frames := 1, cells := 0, slots := 0, locals := 25 }
theorem dvX3_fillCell : yX3_fillCell.cls = RX3 ∧ yX3_fillCell.cls ≠ "java/lang/invoke/MethodHandle" ∧ yX3_fillCell.cls ≠ "java/lang/invoke/VarHandle" ∧ (parseMethodDescriptor yX3_fillCell.desc).map (fun d => d.parameters.length) = some 2 := by decide +kernel
def fX3_fillCell_b41 (co_sums : Nat → Int32) (co_ways : Nat → Int32) (co_nextWays : Nat → Int32) : Option ((Nat → Int32) × (Nat → Int32)) :=
  some (co_nextWays, co_ways)
set_option maxHeartbeats 400000 in
set_option maxRecDepth 100000 in
theorem kX3_fillCell_b41 {X : cxT} {l : Launch} {D : va_G} {Y : Nat → ClassId} {ao aC : Nat → Nat} {io_cells : Int32} {co_amount : Nat → Int32} {co_open : Nat → Int32} {co_sums : Nat → Int32} {co_ways : Nat → Int32} {co_nextWays : Nat → Int32} {res : (Nat → Int32) × (Nat → Int32)} (C : axC X l D Y cX3_fillCell 4 RX3 wsX3_fillCell rmX3_fillCell none) {q0 : Nat} (hQ : axQ X 0 0 (fun r9 w9 => r9 = none ∧ ∃ ao_ : Nat → Nat, ao_ 0 = q0 ∧ w9 = [oX3 ao_ aC io_cells, rI Y (ao_ 1) 12 co_amount, rI Y (ao_ 2) 12 co_open, rI Y (ao_ 3) 256 co_sums, rI Y (ao_ 4) 256 res.1, rI Y (ao_ 5) 256 res.2])) (hq0 : ao 0 = q0) (hf : fX3_fillCell_b41 co_sums co_ways co_nextWays = some res) : ax X 0 0 41 [some (.ref (ao 0)), none, none, none] [oX3 ao aC io_cells, rI Y (ao 1) 12 co_amount, rI Y (ao 2) 12 co_open, rI Y (ao 3) 256 co_sums, rI Y (ao 4) 256 co_ways, rI Y (ao 5) 256 co_nextWays] [] := by
  unfold fX3_fillCell_b41 at hf
  refine a_aload_n C dX3_fillCell_41 rfl ?_
  refine a_get C (eB_X3_21 _) dX3_fillCell_42 0 rfl rfl ?_
  refine a_astore_n C dX3_fillCell_45 (by decide) rfl ?_
  refine a_aload_n C dX3_fillCell_46 rfl ?_
  refine a_aload_n C dX3_fillCell_47 rfl ?_
  refine a_get C (eB_X3_24 _) dX3_fillCell_48 0 rfl rfl ?_
  refine a_put C (eB_X3_21 _) tfX3_5 dX3_fillCell_51 0 rfl rfl rfl (Nat.le_of_ble_eq_true rfl) ?_
  refine a_aload_n C dX3_fillCell_54 rfl ?_
  refine a_aload_n C dX3_fillCell_55 rfl ?_
  refine a_put C (eB_X3_24 _) tfX3_6 dX3_fillCell_56 0 rfl rfl rfl (Nat.le_of_ble_eq_true rfl) ?_
  obtain rfl := fx_some hf
  refine a_perm [0, 1, 2, 3, 5, 4] [oX3 (swA 4 5 ao) aC io_cells, rI Y ((swA 4 5 ao) 1) 12 co_amount, rI Y ((swA 4 5 ao) 2) 12 co_open, rI Y ((swA 4 5 ao) 3) 256 co_sums, rI Y ((swA 4 5 ao) 4) 256 co_nextWays, rI Y ((swA 4 5 ao) 5) 256 co_ways] ⟨rfl, rfl, rfl, rfl, rfl, rfl, trivial⟩ rfl ?_
  exact a_vret C hQ dX3_fillCell_59 ⟨rfl, swA 4 5 ao, hq0, rfl⟩
def fX3_fillCell_b35 (co_sums : Nat → Int32) (co_ways : Nat → Int32) (co_nextWays : Nat → Int32) (x1 : Int32) (x2 : Int32) (x3 : Int32) (k10 : (Nat → Int32) × Int32 → Option ((Nat → Int32) × (Nat → Int32))) : Option ((Nat → Int32) × (Nat → Int32)) :=
  k10 (co_nextWays, (x3 + (1 : Int32)))
set_option maxHeartbeats 400000 in
set_option maxRecDepth 100000 in
theorem kX3_fillCell_b35 {X : cxT} {l : Launch} {D : va_G} {Y : Nat → ClassId} {ao aC : Nat → Nat} {io_cells : Int32} {co_amount : Nat → Int32} {co_open : Nat → Int32} {co_sums : Nat → Int32} {co_ways : Nat → Int32} {co_nextWays : Nat → Int32} {x1 : Int32} {x2 : Int32} {x3 : Int32} {res : (Nat → Int32) × (Nat → Int32)} (C : axC X l D Y cX3_fillCell 4 RX3 wsX3_fillCell rmX3_fillCell none) {q0 : Nat} (hQ : axQ X 0 0 (fun r9 w9 => r9 = none ∧ ∃ ao_ : Nat → Nat, ao_ 0 = q0 ∧ w9 = [oX3 ao_ aC io_cells, rI Y (ao_ 1) 12 co_amount, rI Y (ao_ 2) 12 co_open, rI Y (ao_ 3) 256 co_sums, rI Y (ao_ 4) 256 res.1, rI Y (ao_ 5) 256 res.2])) (hq0 : ao 0 = q0) {k10 : (Nat → Int32) × Int32 → Option ((Nat → Int32) × (Nat → Int32))} (hk10 : ∀ s : (Nat → Int32) × Int32, k10 s = some res → ∀ ao : Nat → Nat, ao 0 = q0 → ax X 0 0 10 [some (.ref (ao 0)), some (.int x1), some (.int x2), some (.int s.2)] [oX3 ao aC io_cells, rI Y (ao 1) 12 co_amount, rI Y (ao 2) 12 co_open, rI Y (ao 3) 256 co_sums, rI Y (ao 4) 256 co_ways, rI Y (ao 5) 256 s.1] []) (hf : fX3_fillCell_b35 co_sums co_ways co_nextWays x1 x2 x3 k10 = some res) : ax X 0 0 35 [some (.ref (ao 0)), some (.int x1), some (.int x2), some (.int x3)] [oX3 ao aC io_cells, rI Y (ao 1) 12 co_amount, rI Y (ao 2) 12 co_open, rI Y (ao 3) 256 co_sums, rI Y (ao 4) 256 co_ways, rI Y (ao 5) 256 co_nextWays] [] := by
  unfold fX3_fillCell_b35 at hf
  refine a_iinc C (1 : Int32) dX3_fillCell_35 (by decide) rfl (by decide) rfl ?_
  refine a_goto C 10 dX3_fillCell_38 (by decide) ?_
  exact hk10 (co_nextWays, (x3 + (1 : Int32))) hf _ hq0
def fX3_fillCell_l10 (co_sums : Nat → Int32) (co_ways : Nat → Int32) (x1 : Int32) (x2 : Int32) (k10 : (Nat → Int32) × Int32 → Option ((Nat → Int32) × (Nat → Int32))) (co_nextWays : Nat → Int32) (x3 : Int32) : Option ((Nat → Int32) × (Nat → Int32)) :=
  if x1 < x3 then (fX3_fillCell_b41 co_sums co_ways co_nextWays) else (if inb x3 256 then if (co_ways (Int32.toNatClampNeg x3)) = (0 : Int32) then (fX3_fillCell_b35 co_sums co_ways co_nextWays x1 x2 x3 k10) else ((fX3_addTeams co_sums co_ways co_nextWays x3 (x1 &&& (x3 ^^^ (-1 : Int32))) x2).bind (fun r4 => fX3_fillCell_b35 co_sums co_ways r4 x1 x2 x3 k10)) else none)
def fX3_fillCell_b10 (co_sums : Nat → Int32) (co_ways : Nat → Int32) (co_nextWays : Nat → Int32) (x1 : Int32) (x2 : Int32) (x3 : Int32) : Option ((Nat → Int32) × (Nat → Int32)) :=
  loopN (fun (s : (Nat → Int32) × Int32) k10 => fX3_fillCell_l10 co_sums co_ways x1 x2 k10 s.1 s.2) FUEL (co_nextWays, x3)
set_option maxHeartbeats 400000 in
set_option maxRecDepth 100000 in
theorem kX3_fillCell_l10 {X : cxT} {l : Launch} {D : va_G} {Y : Nat → ClassId} {ao aC : Nat → Nat} {io_cells : Int32} {co_amount : Nat → Int32} {co_open : Nat → Int32} {co_sums : Nat → Int32} {co_ways : Nat → Int32} {co_nextWays : Nat → Int32} {x1 : Int32} {x2 : Int32} {x3 : Int32} {res : (Nat → Int32) × (Nat → Int32)} (C : axC X l D Y cX3_fillCell 4 RX3 wsX3_fillCell rmX3_fillCell none) {q0 : Nat} (hQ : axQ X 0 0 (fun r9 w9 => r9 = none ∧ ∃ ao_ : Nat → Nat, ao_ 0 = q0 ∧ w9 = [oX3 ao_ aC io_cells, rI Y (ao_ 1) 12 co_amount, rI Y (ao_ 2) 12 co_open, rI Y (ao_ 3) 256 co_sums, rI Y (ao_ 4) 256 res.1, rI Y (ao_ 5) 256 res.2])) (hq0 : ao 0 = q0) {k10 : (Nat → Int32) × Int32 → Option ((Nat → Int32) × (Nat → Int32))} (hk10 : ∀ s : (Nat → Int32) × Int32, k10 s = some res → ∀ ao : Nat → Nat, ao 0 = q0 → ax X 0 0 10 [some (.ref (ao 0)), some (.int x1), some (.int x2), some (.int s.2)] [oX3 ao aC io_cells, rI Y (ao 1) 12 co_amount, rI Y (ao 2) 12 co_open, rI Y (ao 3) 256 co_sums, rI Y (ao 4) 256 co_ways, rI Y (ao 5) 256 s.1] []) (hf : fX3_fillCell_l10 co_sums co_ways x1 x2 k10 co_nextWays x3 = some res) : ax X 0 0 10 [some (.ref (ao 0)), some (.int x1), some (.int x2), some (.int x3)] [oX3 ao aC io_cells, rI Y (ao 1) 12 co_amount, rI Y (ao 2) 12 co_open, rI Y (ao 3) 256 co_sums, rI Y (ao 4) 256 co_ways, rI Y (ao 5) 256 co_nextWays] [] := by
  unfold fX3_fillCell_l10 at hf
  refine a_iload_n C dX3_fillCell_10 rfl ?_
  refine a_iload_n C dX3_fillCell_11 rfl ?_
  refine a_icmp_gt C 41 dX3_fillCell_12 (by decide) (fun h1 => ?_) (fun h1 => ?_)
  · have hf := fx_t h1 hf
    refine a_kill [1, 2, 3] ?_
    exact kX3_fillCell_b41 C hQ hq0 hf
  · have hf := fx_f h1 hf
    refine a_aload_n C dX3_fillCell_15 rfl ?_
    refine a_get C (eB_X3_21 _) dX3_fillCell_16 0 rfl rfl ?_
    refine a_iload_n C dX3_fillCell_19 rfl ?_
    obtain ⟨h2, hf⟩ := fx_ite hf
    refine a_iald C dX3_fillCell_20 4 rfl h2 ?_
    refine a_if_eq C 35 dX3_fillCell_21 (by decide) (fun h3 => ?_) (fun h3 => ?_)
    · have hf := fx_t h3 hf
      exact kX3_fillCell_b35 C hQ hq0 hk10 hf
    · have hf := fx_f h3 hf
      refine a_aload_n C dX3_fillCell_24 rfl ?_
      refine a_iload_n C dX3_fillCell_25 rfl ?_
      refine a_iload_n C dX3_fillCell_26 rfl ?_
      refine a_iload_n C dX3_fillCell_27 rfl ?_
      refine a_iconst C (-1 : Int32) dX3_fillCell_28 (by decide) ?_
      refine a_ixor C dX3_fillCell_29 ?_
      refine a_iand C dX3_fillCell_30 ?_
      refine a_iload_n C dX3_fillCell_31 rfl ?_
      obtain ⟨r4, h4, hf⟩ := fx_bind hf
      refine a_fV C (kX3_addTeams l D Y ao aC io_cells co_sums co_ways co_nextWays x3 (x1 &&& (x3 ^^^ (-1 : Int32))) x2 r4 h4) (gB_X3_65 _) rfl dvX3_addTeams ⟨⟨rfl, rfl⟩, ⟨Nat.le_of_ble_eq_true rfl, Nat.le_of_ble_eq_true rfl⟩, ⟨Nat.le_of_ble_eq_true rfl, Nat.le_of_ble_eq_true rfl⟩⟩ rfl (Nat.le_of_ble_eq_true rfl) dX3_fillCell_32 rfl rfl [0, 3, 4, 5] [1, 2] ⟨rfl, rfl, rfl, rfl, trivial⟩ (by decide +kernel) rfl [oX3 ao aC io_cells, rI Y (ao 1) 12 co_amount, rI Y (ao 2) 12 co_open, rI Y (ao 3) 256 co_sums, rI Y (ao 4) 256 co_ways, rI Y (ao 5) 256 r4] ⟨rfl, rfl, rfl, rfl, trivial⟩ ⟨rfl, rfl, trivial⟩ 6 rfl (by decide +kernel) ?_
      exact kX3_fillCell_b35 C hQ hq0 hk10 hf
set_option maxHeartbeats 400000 in
set_option maxRecDepth 100000 in
theorem kX3_fillCell_b10 {X : cxT} {l : Launch} {D : va_G} {Y : Nat → ClassId} {ao aC : Nat → Nat} {io_cells : Int32} {co_amount : Nat → Int32} {co_open : Nat → Int32} {co_sums : Nat → Int32} {co_ways : Nat → Int32} {co_nextWays : Nat → Int32} {x1 : Int32} {x2 : Int32} {x3 : Int32} {res : (Nat → Int32) × (Nat → Int32)} (C : axC X l D Y cX3_fillCell 4 RX3 wsX3_fillCell rmX3_fillCell none) {q0 : Nat} (hQ : axQ X 0 0 (fun r9 w9 => r9 = none ∧ ∃ ao_ : Nat → Nat, ao_ 0 = q0 ∧ w9 = [oX3 ao_ aC io_cells, rI Y (ao_ 1) 12 co_amount, rI Y (ao_ 2) 12 co_open, rI Y (ao_ 3) 256 co_sums, rI Y (ao_ 4) 256 res.1, rI Y (ao_ 5) 256 res.2])) (hq0 : ao 0 = q0) (hf : fX3_fillCell_b10 co_sums co_ways co_nextWays x1 x2 x3 = some res) : ax X 0 0 10 [some (.ref (ao 0)), some (.int x1), some (.int x2), some (.int x3)] [oX3 ao aC io_cells, rI Y (ao 1) 12 co_amount, rI Y (ao 2) 12 co_open, rI Y (ao 3) 256 co_sums, rI Y (ao 4) 256 co_ways, rI Y (ao 5) 256 co_nextWays] [] := by
  unfold fX3_fillCell_b10 at hf
  exact fx_loop (P := fun s : (Nat → Int32) × Int32 => ∀ ao : Nat → Nat, ao 0 = q0 → ax X 0 0 10 [some (.ref (ao 0)), some (.int x1), some (.int x2), some (.int s.2)] [oX3 ao aC io_cells, rI Y (ao 1) 12 co_amount, rI Y (ao 2) 12 co_open, rI Y (ao 3) 256 co_sums, rI Y (ao 4) 256 co_ways, rI Y (ao 5) 256 s.1] []) (fun s k10 hk10 h ao hq0 => kX3_fillCell_l10 C hQ hq0 hk10 h) FUEL (co_nextWays, x3) hf _ hq0
def fX3_fillCell (co_sums : Nat → Int32) (co_ways : Nat → Int32) (co_nextWays : Nat → Int32) (x1 : Int32) (x2 : Int32) : Option ((Nat → Int32) × (Nat → Int32)) :=
  (fJ7_fill_53178 co_nextWays 256 (0 : Int32)).bind (fun r5 => fX3_fillCell_b10 co_sums co_ways r5 x1 x2 (0 : Int32))
set_option maxHeartbeats 400000 in
set_option maxRecDepth 100000 in
theorem kX3_fillCell (l : Launch) (D : va_G) (Y : Nat → ClassId) (ao aC : Nat → Nat) (io_cells : Int32) (co_amount : Nat → Int32) (co_open : Nat → Int32) (co_sums : Nat → Int32) (co_ways : Nat → Int32) (co_nextWays : Nat → Int32) (x1 : Int32) (x2 : Int32) (res : (Nat → Int32) × (Nat → Int32)) (hf : fX3_fillCell co_sums co_ways co_nextWays x1 x2 = some res) : am l D Y yX3_fillCell wsX3_fillCell rmX3_fillCell [.ref (ao 0), .int x1, .int x2] [oX3 ao aC io_cells, rI Y (ao 1) 12 co_amount, rI Y (ao 2) 12 co_open, rI Y (ao 3) 256 co_sums, rI Y (ao 4) 256 co_ways, rI Y (ao 5) 256 co_nextWays] 0 0 (fun r9 w9 => r9 = none ∧ ∃ ao_ : Nat → Nat, ao_ 0 = ao 0 ∧ w9 = [oX3 ao_ aC io_cells, rI Y (ao_ 1) 12 co_amount, rI Y (ao_ 2) 12 co_open, rI Y (ao_ 3) 256 co_sums, rI Y (ao_ 4) 256 res.1, rI Y (ao_ 5) 256 res.2]) := by
  refine am.of (cc := cX3_fillCell) (maxL := 4) (rt := none) (by decide) rfl RX3 rfl (Nat.le_of_ble_eq_true rfl) [some (.ref (ao 0)), some (.int x1), some (.int x2), none] rfl ?_
  intro X C hQ
  have hq0 : ao 0 = ao 0 := rfl
  unfold fX3_fillCell at hf
  refine a_aload_n C dX3_fillCell_0 rfl ?_
  refine a_get C (eB_X3_24 _) dX3_fillCell_1 0 rfl rfl ?_
  refine a_iconst C (0 : Int32) dX3_fillCell_4 (by decide) ?_
  obtain ⟨r5, h5, hf⟩ := fx_bind hf
  refine a_fS C (kJ7_fill_53178 l D Y (ao 5) co_nextWays 256 (0 : Int32) r5 h5) (gB_X3_55 _) rfl dvJ7_fill_53178 ⟨⟨rfl, rfl⟩, ⟨Nat.le_of_ble_eq_true rfl, Nat.le_of_ble_eq_true rfl⟩, ⟨Nat.le_of_ble_eq_true rfl, Nat.le_of_ble_eq_true rfl⟩⟩ rfl (Nat.le_of_ble_eq_true rfl) dX3_fillCell_5 [5] [0, 1, 2, 3, 4] ⟨rfl, trivial⟩ (by decide +kernel) rfl [oX3 ao aC io_cells, rI Y (ao 1) 12 co_amount, rI Y (ao 2) 12 co_open, rI Y (ao 3) 256 co_sums, rI Y (ao 4) 256 co_ways, rI Y (ao 5) 256 r5] ⟨rfl, trivial⟩ ⟨rfl, rfl, rfl, rfl, rfl, trivial⟩ 6 rfl (by decide +kernel) ?_
  refine a_iconst C (0 : Int32) dX3_fillCell_8 (by decide) ?_
  refine a_istore_n C dX3_fillCell_9 (by decide) rfl ?_
  exact kX3_fillCell_b10 C hQ hq0 hf
-- X1_find
abbrev rmX1_find : Room := { frames := 61, cells := 0, slots := 0, locals := 1358 }
theorem dvX1_find : yX1_find.cls = RX1 ∧ yX1_find.cls ≠ "java/lang/invoke/MethodHandle" ∧ yX1_find.cls ≠ "java/lang/invoke/VarHandle" ∧ (parseMethodDescriptor yX1_find.desc).map (fun d => d.parameters.length) = some 5 := by decide +kernel
def fX1_find_b54 (io_able : Int32) (io_spells : Int32) (io_height : Int32) (co_place : Nat → Int32) (co_lack : Nat → Int32) (co_most : Nat → Int32) (ip1_moats : Int32) (ip1_spades : Int32) (ip1_tides : Int32) (cp1_wall : Nat → Int32) (cp1_depth : Nat → Int32) (cp1_mood : Nat → Int32) (cp1_place : Nat → Int32) (ip2_moats : Int32) (ip2_spades : Int32) (ip2_tides : Int32) (cp2_wall : Nat → Int32) (cp2_depth : Nat → Int32) (cp2_mood : Nat → Int32) (cp2_place : Nat → Int32) (iC_size : Int32) (cC_age : Nat → Int32) (cC_skill : Nat → Int32) (cC_pals : Nat → Int32) (iL_cells : Int32) (cL_base : Nat → Int32) : Option (Int32 × Int32 × Int32 × Int32 × (Nat → Int32) × (Nat → Int32) × (Nat → Int32) × Int32 × Int32 × Int32 × (Nat → Int32) × (Nat → Int32) × (Nat → Int32) × (Nat → Int32)) :=
  some ((-1 : Int32), io_able, io_spells, io_height, co_place, co_lack, co_most, ip2_moats, ip2_spades, ip2_tides, cp2_wall, cp2_depth, cp2_mood, cp2_place)
set_option maxHeartbeats 400000 in
set_option maxRecDepth 100000 in
theorem kX1_find_b54 {X : cxT} {l : Launch} {D : va_G} {Y : Nat → ClassId} {ao aL aC ap1 ap2 : Nat → Nat} {io_able : Int32} {io_spells : Int32} {io_height : Int32} {co_place : Nat → Int32} {co_lack : Nat → Int32} {co_most : Nat → Int32} {ip1_moats : Int32} {ip1_spades : Int32} {ip1_tides : Int32} {cp1_wall : Nat → Int32} {cp1_depth : Nat → Int32} {cp1_mood : Nat → Int32} {cp1_place : Nat → Int32} {ip2_moats : Int32} {ip2_spades : Int32} {ip2_tides : Int32} {cp2_wall : Nat → Int32} {cp2_depth : Nat → Int32} {cp2_mood : Nat → Int32} {cp2_place : Nat → Int32} {iC_size : Int32} {cC_age : Nat → Int32} {cC_skill : Nat → Int32} {cC_pals : Nat → Int32} {iL_cells : Int32} {cL_base : Nat → Int32} {res : Int32 × Int32 × Int32 × Int32 × (Nat → Int32) × (Nat → Int32) × (Nat → Int32) × Int32 × Int32 × Int32 × (Nat → Int32) × (Nat → Int32) × (Nat → Int32) × (Nat → Int32)} (C : axC X l D Y cX1_find 7 RX1 wsX1_find rmX1_find (some .int)) (hQ : axQ X 0 0 (fun r9 w9 => r9 = (some (.int res.1)) ∧ w9 = [oX1 ao aL aC res.2.1 res.2.2.1 res.2.2.2.1, rI Y (ao 1) 8 res.2.2.2.2.1, rI Y (ao 2) 12 res.2.2.2.2.2.1, rI Y (ao 3) 8 res.2.2.2.2.2.2.1, oX9 ap1 aL aC ip1_moats ip1_spades ip1_tides, rI Y (ap1 1) 12 cp1_wall, rI Y (ap1 2) 12 cp1_depth, rI Y (ap1 3) 8 cp1_mood, rI Y (ap1 4) 8 cp1_place, oX9 ap2 aL aC res.2.2.2.2.2.2.2.1 res.2.2.2.2.2.2.2.2.1 res.2.2.2.2.2.2.2.2.2.1, rI Y (ap2 1) 12 res.2.2.2.2.2.2.2.2.2.2.1, rI Y (ap2 2) 12 res.2.2.2.2.2.2.2.2.2.2.2.1, rI Y (ap2 3) 8 res.2.2.2.2.2.2.2.2.2.2.2.2.1, rI Y (ap2 4) 8 res.2.2.2.2.2.2.2.2.2.2.2.2.2, oX2 aC iC_size, rI Y (aC 1) 8 cC_age, rI Y (aC 2) 8 cC_skill, rI Y (aC 4) 8 cC_pals, oX5 aL iL_cells, rI Y (aL 1) 12 cL_base])) (hf : fX1_find_b54 io_able io_spells io_height co_place co_lack co_most ip1_moats ip1_spades ip1_tides cp1_wall cp1_depth cp1_mood cp1_place ip2_moats ip2_spades ip2_tides cp2_wall cp2_depth cp2_mood cp2_place iC_size cC_age cC_skill cC_pals iL_cells cL_base = some res) : ax X 0 0 54 [none, none, none, none, none, none, none] [oX1 ao aL aC io_able io_spells io_height, rI Y (ao 1) 8 co_place, rI Y (ao 2) 12 co_lack, rI Y (ao 3) 8 co_most, oX9 ap1 aL aC ip1_moats ip1_spades ip1_tides, rI Y (ap1 1) 12 cp1_wall, rI Y (ap1 2) 12 cp1_depth, rI Y (ap1 3) 8 cp1_mood, rI Y (ap1 4) 8 cp1_place, oX9 ap2 aL aC ip2_moats ip2_spades ip2_tides, rI Y (ap2 1) 12 cp2_wall, rI Y (ap2 2) 12 cp2_depth, rI Y (ap2 3) 8 cp2_mood, rI Y (ap2 4) 8 cp2_place, oX2 aC iC_size, rI Y (aC 1) 8 cC_age, rI Y (aC 2) 8 cC_skill, rI Y (aC 4) 8 cC_pals, oX5 aL iL_cells, rI Y (aL 1) 12 cL_base] [] := by
  unfold fX1_find_b54 at hf
  refine a_iconst C (-1 : Int32) dX1_find_54 (by decide) ?_
  obtain rfl := fx_some hf
  exact a_iret C hQ dX1_find_55 ⟨rfl, rfl⟩
def fX1_find_b45 (io_able : Int32) (io_spells : Int32) (io_height : Int32) (co_place : Nat → Int32) (co_lack : Nat → Int32) (co_most : Nat → Int32) (ip1_moats : Int32) (ip1_spades : Int32) (ip1_tides : Int32) (cp1_wall : Nat → Int32) (cp1_depth : Nat → Int32) (cp1_mood : Nat → Int32) (cp1_place : Nat → Int32) (ip2_moats : Int32) (ip2_spades : Int32) (ip2_tides : Int32) (cp2_wall : Nat → Int32) (cp2_depth : Nat → Int32) (cp2_mood : Nat → Int32) (cp2_place : Nat → Int32) (iC_size : Int32) (cC_age : Nat → Int32) (cC_skill : Nat → Int32) (cC_pals : Nat → Int32) (iL_cells : Int32) (cL_base : Nat → Int32) (x6 : Int32) : Option (Int32 × Int32 × Int32 × Int32 × (Nat → Int32) × (Nat → Int32) × (Nat → Int32) × Int32 × Int32 × Int32 × (Nat → Int32) × (Nat → Int32) × (Nat → Int32) × (Nat → Int32)) :=
  some (x6, io_able, io_spells, io_height, co_place, co_lack, co_most, ip2_moats, ip2_spades, ip2_tides, cp2_wall, cp2_depth, cp2_mood, cp2_place)
set_option maxHeartbeats 400000 in
set_option maxRecDepth 100000 in
theorem kX1_find_b45 {X : cxT} {l : Launch} {D : va_G} {Y : Nat → ClassId} {ao aL aC ap1 ap2 : Nat → Nat} {io_able : Int32} {io_spells : Int32} {io_height : Int32} {co_place : Nat → Int32} {co_lack : Nat → Int32} {co_most : Nat → Int32} {ip1_moats : Int32} {ip1_spades : Int32} {ip1_tides : Int32} {cp1_wall : Nat → Int32} {cp1_depth : Nat → Int32} {cp1_mood : Nat → Int32} {cp1_place : Nat → Int32} {ip2_moats : Int32} {ip2_spades : Int32} {ip2_tides : Int32} {cp2_wall : Nat → Int32} {cp2_depth : Nat → Int32} {cp2_mood : Nat → Int32} {cp2_place : Nat → Int32} {iC_size : Int32} {cC_age : Nat → Int32} {cC_skill : Nat → Int32} {cC_pals : Nat → Int32} {iL_cells : Int32} {cL_base : Nat → Int32} {x6 : Int32} {res : Int32 × Int32 × Int32 × Int32 × (Nat → Int32) × (Nat → Int32) × (Nat → Int32) × Int32 × Int32 × Int32 × (Nat → Int32) × (Nat → Int32) × (Nat → Int32) × (Nat → Int32)} (C : axC X l D Y cX1_find 7 RX1 wsX1_find rmX1_find (some .int)) (hQ : axQ X 0 0 (fun r9 w9 => r9 = (some (.int res.1)) ∧ w9 = [oX1 ao aL aC res.2.1 res.2.2.1 res.2.2.2.1, rI Y (ao 1) 8 res.2.2.2.2.1, rI Y (ao 2) 12 res.2.2.2.2.2.1, rI Y (ao 3) 8 res.2.2.2.2.2.2.1, oX9 ap1 aL aC ip1_moats ip1_spades ip1_tides, rI Y (ap1 1) 12 cp1_wall, rI Y (ap1 2) 12 cp1_depth, rI Y (ap1 3) 8 cp1_mood, rI Y (ap1 4) 8 cp1_place, oX9 ap2 aL aC res.2.2.2.2.2.2.2.1 res.2.2.2.2.2.2.2.2.1 res.2.2.2.2.2.2.2.2.2.1, rI Y (ap2 1) 12 res.2.2.2.2.2.2.2.2.2.2.1, rI Y (ap2 2) 12 res.2.2.2.2.2.2.2.2.2.2.2.1, rI Y (ap2 3) 8 res.2.2.2.2.2.2.2.2.2.2.2.2.1, rI Y (ap2 4) 8 res.2.2.2.2.2.2.2.2.2.2.2.2.2, oX2 aC iC_size, rI Y (aC 1) 8 cC_age, rI Y (aC 2) 8 cC_skill, rI Y (aC 4) 8 cC_pals, oX5 aL iL_cells, rI Y (aL 1) 12 cL_base])) (hf : fX1_find_b45 io_able io_spells io_height co_place co_lack co_most ip1_moats ip1_spades ip1_tides cp1_wall cp1_depth cp1_mood cp1_place ip2_moats ip2_spades ip2_tides cp2_wall cp2_depth cp2_mood cp2_place iC_size cC_age cC_skill cC_pals iL_cells cL_base x6 = some res) : ax X 0 0 45 [none, none, none, none, none, none, some (.int x6)] [oX1 ao aL aC io_able io_spells io_height, rI Y (ao 1) 8 co_place, rI Y (ao 2) 12 co_lack, rI Y (ao 3) 8 co_most, oX9 ap1 aL aC ip1_moats ip1_spades ip1_tides, rI Y (ap1 1) 12 cp1_wall, rI Y (ap1 2) 12 cp1_depth, rI Y (ap1 3) 8 cp1_mood, rI Y (ap1 4) 8 cp1_place, oX9 ap2 aL aC ip2_moats ip2_spades ip2_tides, rI Y (ap2 1) 12 cp2_wall, rI Y (ap2 2) 12 cp2_depth, rI Y (ap2 3) 8 cp2_mood, rI Y (ap2 4) 8 cp2_place, oX2 aC iC_size, rI Y (aC 1) 8 cC_age, rI Y (aC 2) 8 cC_skill, rI Y (aC 4) 8 cC_pals, oX5 aL iL_cells, rI Y (aL 1) 12 cL_base] [] := by
  unfold fX1_find_b45 at hf
  refine a_iload C dX1_find_45 rfl ?_
  obtain rfl := fx_some hf
  exact a_iret C hQ dX1_find_47 ⟨rfl, rfl⟩
def fX1_find_l21 (io_able : Int32) (io_spells : Int32) (io_height : Int32) (co_most : Nat → Int32) (ip1_moats : Int32) (ip1_spades : Int32) (ip1_tides : Int32) (cp1_wall : Nat → Int32) (cp1_depth : Nat → Int32) (cp1_mood : Nat → Int32) (cp1_place : Nat → Int32) (iC_size : Int32) (cC_age : Nat → Int32) (cC_skill : Nat → Int32) (cC_pals : Nat → Int32) (iL_cells : Int32) (cL_base : Nat → Int32) (k21 : (Nat → Int32) × (Nat → Int32) × Int32 × Int32 × Int32 × (Nat → Int32) × (Nat → Int32) × (Nat → Int32) × (Nat → Int32) × Int32 → Option (Int32 × Int32 × Int32 × Int32 × (Nat → Int32) × (Nat → Int32) × (Nat → Int32) × Int32 × Int32 × Int32 × (Nat → Int32) × (Nat → Int32) × (Nat → Int32) × (Nat → Int32))) (co_place : Nat → Int32) (co_lack : Nat → Int32) (ip2_moats : Int32) (ip2_spades : Int32) (ip2_tides : Int32) (cp2_wall : Nat → Int32) (cp2_depth : Nat → Int32) (cp2_mood : Nat → Int32) (cp2_place : Nat → Int32) (x6 : Int32) : Option (Int32 × Int32 × Int32 × Int32 × (Nat → Int32) × (Nat → Int32) × (Nat → Int32) × Int32 × Int32 × Int32 × (Nat → Int32) × (Nat → Int32) × (Nat → Int32) × (Nat → Int32)) :=
  (fJ6_bitCount_0f7a4 io_able).bind (fun r1 => if r1 < x6 then (fX1_find_b54 io_able io_spells io_height co_place co_lack co_most ip1_moats ip1_spades ip1_tides cp1_wall cp1_depth cp1_mood cp1_place ip2_moats ip2_spades ip2_tides cp2_wall cp2_depth cp2_mood cp2_place iC_size cC_age cC_skill cC_pals iL_cells cL_base) else ((fX1_settle 12 io_able io_spells io_height co_place co_lack co_most ip1_moats ip1_spades ip1_tides cp1_wall cp1_depth cp1_mood cp1_place ip2_moats ip2_spades ip2_tides cp2_wall cp2_depth cp2_mood cp2_place iC_size cC_age cC_skill cC_pals iL_cells cL_base (0 : Int32) x6).bind (fun r3 => if r3.1 = (0 : Int32) then (k21 (r3.2.1, r3.2.2.1, r3.2.2.2.1, r3.2.2.2.2.1, r3.2.2.2.2.2.1, r3.2.2.2.2.2.2.1, r3.2.2.2.2.2.2.2.1, r3.2.2.2.2.2.2.2.2.1, r3.2.2.2.2.2.2.2.2.2, (x6 + (1 : Int32)))) else (fX1_find_b45 io_able io_spells io_height r3.2.1 r3.2.2.1 co_most ip1_moats ip1_spades ip1_tides cp1_wall cp1_depth cp1_mood cp1_place r3.2.2.2.1 r3.2.2.2.2.1 r3.2.2.2.2.2.1 r3.2.2.2.2.2.2.1 r3.2.2.2.2.2.2.2.1 r3.2.2.2.2.2.2.2.2.1 r3.2.2.2.2.2.2.2.2.2 iC_size cC_age cC_skill cC_pals iL_cells cL_base x6))))
def fX1_find_b21 (io_able : Int32) (io_spells : Int32) (io_height : Int32) (co_place : Nat → Int32) (co_lack : Nat → Int32) (co_most : Nat → Int32) (ip1_moats : Int32) (ip1_spades : Int32) (ip1_tides : Int32) (cp1_wall : Nat → Int32) (cp1_depth : Nat → Int32) (cp1_mood : Nat → Int32) (cp1_place : Nat → Int32) (ip2_moats : Int32) (ip2_spades : Int32) (ip2_tides : Int32) (cp2_wall : Nat → Int32) (cp2_depth : Nat → Int32) (cp2_mood : Nat → Int32) (cp2_place : Nat → Int32) (iC_size : Int32) (cC_age : Nat → Int32) (cC_skill : Nat → Int32) (cC_pals : Nat → Int32) (iL_cells : Int32) (cL_base : Nat → Int32) (x6 : Int32) : Option (Int32 × Int32 × Int32 × Int32 × (Nat → Int32) × (Nat → Int32) × (Nat → Int32) × Int32 × Int32 × Int32 × (Nat → Int32) × (Nat → Int32) × (Nat → Int32) × (Nat → Int32)) :=
  loopN (fun (s : (Nat → Int32) × (Nat → Int32) × Int32 × Int32 × Int32 × (Nat → Int32) × (Nat → Int32) × (Nat → Int32) × (Nat → Int32) × Int32) k21 => fX1_find_l21 io_able io_spells io_height co_most ip1_moats ip1_spades ip1_tides cp1_wall cp1_depth cp1_mood cp1_place iC_size cC_age cC_skill cC_pals iL_cells cL_base k21 s.1 s.2.1 s.2.2.1 s.2.2.2.1 s.2.2.2.2.1 s.2.2.2.2.2.1 s.2.2.2.2.2.2.1 s.2.2.2.2.2.2.2.1 s.2.2.2.2.2.2.2.2.1 s.2.2.2.2.2.2.2.2.2) FUEL (co_place, co_lack, ip2_moats, ip2_spades, ip2_tides, cp2_wall, cp2_depth, cp2_mood, cp2_place, x6)
set_option maxHeartbeats 400000 in
set_option maxRecDepth 100000 in
theorem kX1_find_l21 {X : cxT} {l : Launch} {D : va_G} {Y : Nat → ClassId} {ao aL aC ap1 ap2 : Nat → Nat} {io_able : Int32} {io_spells : Int32} {io_height : Int32} {co_place : Nat → Int32} {co_lack : Nat → Int32} {co_most : Nat → Int32} {ip1_moats : Int32} {ip1_spades : Int32} {ip1_tides : Int32} {cp1_wall : Nat → Int32} {cp1_depth : Nat → Int32} {cp1_mood : Nat → Int32} {cp1_place : Nat → Int32} {ip2_moats : Int32} {ip2_spades : Int32} {ip2_tides : Int32} {cp2_wall : Nat → Int32} {cp2_depth : Nat → Int32} {cp2_mood : Nat → Int32} {cp2_place : Nat → Int32} {iC_size : Int32} {cC_age : Nat → Int32} {cC_skill : Nat → Int32} {cC_pals : Nat → Int32} {iL_cells : Int32} {cL_base : Nat → Int32} {x6 : Int32} {res : Int32 × Int32 × Int32 × Int32 × (Nat → Int32) × (Nat → Int32) × (Nat → Int32) × Int32 × Int32 × Int32 × (Nat → Int32) × (Nat → Int32) × (Nat → Int32) × (Nat → Int32)} (C : axC X l D Y cX1_find 7 RX1 wsX1_find rmX1_find (some .int)) (hQ : axQ X 0 0 (fun r9 w9 => r9 = (some (.int res.1)) ∧ w9 = [oX1 ao aL aC res.2.1 res.2.2.1 res.2.2.2.1, rI Y (ao 1) 8 res.2.2.2.2.1, rI Y (ao 2) 12 res.2.2.2.2.2.1, rI Y (ao 3) 8 res.2.2.2.2.2.2.1, oX9 ap1 aL aC ip1_moats ip1_spades ip1_tides, rI Y (ap1 1) 12 cp1_wall, rI Y (ap1 2) 12 cp1_depth, rI Y (ap1 3) 8 cp1_mood, rI Y (ap1 4) 8 cp1_place, oX9 ap2 aL aC res.2.2.2.2.2.2.2.1 res.2.2.2.2.2.2.2.2.1 res.2.2.2.2.2.2.2.2.2.1, rI Y (ap2 1) 12 res.2.2.2.2.2.2.2.2.2.2.1, rI Y (ap2 2) 12 res.2.2.2.2.2.2.2.2.2.2.2.1, rI Y (ap2 3) 8 res.2.2.2.2.2.2.2.2.2.2.2.2.1, rI Y (ap2 4) 8 res.2.2.2.2.2.2.2.2.2.2.2.2.2, oX2 aC iC_size, rI Y (aC 1) 8 cC_age, rI Y (aC 2) 8 cC_skill, rI Y (aC 4) 8 cC_pals, oX5 aL iL_cells, rI Y (aL 1) 12 cL_base])) {k21 : (Nat → Int32) × (Nat → Int32) × Int32 × Int32 × Int32 × (Nat → Int32) × (Nat → Int32) × (Nat → Int32) × (Nat → Int32) × Int32 → Option (Int32 × Int32 × Int32 × Int32 × (Nat → Int32) × (Nat → Int32) × (Nat → Int32) × Int32 × Int32 × Int32 × (Nat → Int32) × (Nat → Int32) × (Nat → Int32) × (Nat → Int32))} (hk21 : ∀ s : (Nat → Int32) × (Nat → Int32) × Int32 × Int32 × Int32 × (Nat → Int32) × (Nat → Int32) × (Nat → Int32) × (Nat → Int32) × Int32, k21 s = some res → ax X 0 0 21 [some (.ref (ao 0)), some (.ref (ap1 0)), some (.ref (ap2 0)), none, none, none, some (.int s.2.2.2.2.2.2.2.2.2)] [oX1 ao aL aC io_able io_spells io_height, rI Y (ao 1) 8 s.1, rI Y (ao 2) 12 s.2.1, rI Y (ao 3) 8 co_most, oX9 ap1 aL aC ip1_moats ip1_spades ip1_tides, rI Y (ap1 1) 12 cp1_wall, rI Y (ap1 2) 12 cp1_depth, rI Y (ap1 3) 8 cp1_mood, rI Y (ap1 4) 8 cp1_place, oX9 ap2 aL aC s.2.2.1 s.2.2.2.1 s.2.2.2.2.1, rI Y (ap2 1) 12 s.2.2.2.2.2.1, rI Y (ap2 2) 12 s.2.2.2.2.2.2.1, rI Y (ap2 3) 8 s.2.2.2.2.2.2.2.1, rI Y (ap2 4) 8 s.2.2.2.2.2.2.2.2.1, oX2 aC iC_size, rI Y (aC 1) 8 cC_age, rI Y (aC 2) 8 cC_skill, rI Y (aC 4) 8 cC_pals, oX5 aL iL_cells, rI Y (aL 1) 12 cL_base] []) (hf : fX1_find_l21 io_able io_spells io_height co_most ip1_moats ip1_spades ip1_tides cp1_wall cp1_depth cp1_mood cp1_place iC_size cC_age cC_skill cC_pals iL_cells cL_base k21 co_place co_lack ip2_moats ip2_spades ip2_tides cp2_wall cp2_depth cp2_mood cp2_place x6 = some res) : ax X 0 0 21 [some (.ref (ao 0)), some (.ref (ap1 0)), some (.ref (ap2 0)), none, none, none, some (.int x6)] [oX1 ao aL aC io_able io_spells io_height, rI Y (ao 1) 8 co_place, rI Y (ao 2) 12 co_lack, rI Y (ao 3) 8 co_most, oX9 ap1 aL aC ip1_moats ip1_spades ip1_tides, rI Y (ap1 1) 12 cp1_wall, rI Y (ap1 2) 12 cp1_depth, rI Y (ap1 3) 8 cp1_mood, rI Y (ap1 4) 8 cp1_place, oX9 ap2 aL aC ip2_moats ip2_spades ip2_tides, rI Y (ap2 1) 12 cp2_wall, rI Y (ap2 2) 12 cp2_depth, rI Y (ap2 3) 8 cp2_mood, rI Y (ap2 4) 8 cp2_place, oX2 aC iC_size, rI Y (aC 1) 8 cC_age, rI Y (aC 2) 8 cC_skill, rI Y (aC 4) 8 cC_pals, oX5 aL iL_cells, rI Y (aL 1) 12 cL_base] [] := by
  unfold fX1_find_l21 at hf
  refine a_iload C dX1_find_21 rfl ?_
  refine a_aload_n C dX1_find_23 rfl ?_
  refine a_get C (eB_X1_40 _) dX1_find_24 0 rfl rfl ?_
  obtain ⟨r1, h1, hf⟩ := fx_bind hf
  refine a_fS C (kJ6_bitCount_0f7a4 l D Y io_able r1 h1) (gB_X1_43 _) rfl dvJ6_bitCount_0f7a4 ⟨⟨rfl, rfl⟩, ⟨Nat.le_of_ble_eq_true rfl, Nat.le_of_ble_eq_true rfl⟩, ⟨Nat.le_of_ble_eq_true rfl, Nat.le_of_ble_eq_true rfl⟩⟩ rfl (Nat.le_of_ble_eq_true rfl) dX1_find_27 [] [0, 1, 2, 3, 4, 5, 6, 7, 8, 9, 10, 11, 12, 13, 14, 15, 16, 17, 18, 19] trivial (by decide +kernel) rfl [oX1 ao aL aC io_able io_spells io_height, rI Y (ao 1) 8 co_place, rI Y (ao 2) 12 co_lack, rI Y (ao 3) 8 co_most, oX9 ap1 aL aC ip1_moats ip1_spades ip1_tides, rI Y (ap1 1) 12 cp1_wall, rI Y (ap1 2) 12 cp1_depth, rI Y (ap1 3) 8 cp1_mood, rI Y (ap1 4) 8 cp1_place, oX9 ap2 aL aC ip2_moats ip2_spades ip2_tides, rI Y (ap2 1) 12 cp2_wall, rI Y (ap2 2) 12 cp2_depth, rI Y (ap2 3) 8 cp2_mood, rI Y (ap2 4) 8 cp2_place, oX2 aC iC_size, rI Y (aC 1) 8 cC_age, rI Y (aC 2) 8 cC_skill, rI Y (aC 4) 8 cC_pals, oX5 aL iL_cells, rI Y (aL 1) 12 cL_base] trivial ⟨rfl, rfl, rfl, rfl, rfl, rfl, rfl, rfl, rfl, rfl, rfl, rfl, rfl, rfl, rfl, rfl, rfl, rfl, rfl, rfl, trivial⟩ 20 rfl (by decide +kernel) ?_
  refine a_icmp_gt C 54 dX1_find_30 (by decide) (fun h2 => ?_) (fun h2 => ?_)
  · have hf := fx_t h2 hf
    refine a_kill [0, 1, 2, 6] ?_
    exact kX1_find_b54 C hQ hf
  · have hf := fx_f h2 hf
    refine a_aload_n C dX1_find_33 rfl ?_
    refine a_aload_n C dX1_find_34 rfl ?_
    refine a_aload_n C dX1_find_35 rfl ?_
    refine a_iconst C (0 : Int32) dX1_find_36 (by decide) ?_
    refine a_iload C dX1_find_37 rfl ?_
    obtain ⟨r3, h3, hf⟩ := fx_bind hf
    refine a_fV C (kX1_settle l D Y 12 ao aL aC ap1 ap2 io_able io_spells io_height co_place co_lack co_most ip1_moats ip1_spades ip1_tides cp1_wall cp1_depth cp1_mood cp1_place ip2_moats ip2_spades ip2_tides cp2_wall cp2_depth cp2_mood cp2_place iC_size cC_age cC_skill cC_pals iL_cells cL_base (0 : Int32) x6 r3 h3) (gB_X1_49 _) rfl dvX1_settle ⟨⟨rfl, rfl⟩, ⟨Nat.le_of_ble_eq_true rfl, Nat.le_of_ble_eq_true rfl⟩, ⟨Nat.le_of_ble_eq_true rfl, Nat.le_of_ble_eq_true rfl⟩⟩ rfl (Nat.le_of_ble_eq_true rfl) dX1_find_39 rfl rfl [0, 1, 2, 3, 4, 5, 6, 7, 8, 9, 10, 11, 12, 13, 14, 15, 16, 17, 18, 19] [] ⟨rfl, rfl, rfl, rfl, rfl, rfl, rfl, rfl, rfl, rfl, rfl, rfl, rfl, rfl, rfl, rfl, rfl, rfl, rfl, rfl, trivial⟩ (by decide +kernel) rfl [oX1 ao aL aC io_able io_spells io_height, rI Y (ao 1) 8 r3.2.1, rI Y (ao 2) 12 r3.2.2.1, rI Y (ao 3) 8 co_most, oX9 ap1 aL aC ip1_moats ip1_spades ip1_tides, rI Y (ap1 1) 12 cp1_wall, rI Y (ap1 2) 12 cp1_depth, rI Y (ap1 3) 8 cp1_mood, rI Y (ap1 4) 8 cp1_place, oX9 ap2 aL aC r3.2.2.2.1 r3.2.2.2.2.1 r3.2.2.2.2.2.1, rI Y (ap2 1) 12 r3.2.2.2.2.2.2.1, rI Y (ap2 2) 12 r3.2.2.2.2.2.2.2.1, rI Y (ap2 3) 8 r3.2.2.2.2.2.2.2.2.1, rI Y (ap2 4) 8 r3.2.2.2.2.2.2.2.2.2, oX2 aC iC_size, rI Y (aC 1) 8 cC_age, rI Y (aC 2) 8 cC_skill, rI Y (aC 4) 8 cC_pals, oX5 aL iL_cells, rI Y (aL 1) 12 cL_base] ⟨rfl, rfl, rfl, rfl, rfl, rfl, rfl, rfl, rfl, rfl, rfl, rfl, rfl, rfl, rfl, rfl, rfl, rfl, rfl, rfl, trivial⟩ trivial 20 rfl (by decide +kernel) ?_
    refine a_if_eq C 48 dX1_find_42 (by decide) (fun h4 => ?_) (fun h4 => ?_)
    · have hf := fx_t h4 hf
      refine a_iinc C (1 : Int32) dX1_find_48 (by decide) rfl (by decide) rfl ?_
      refine a_goto C 21 dX1_find_51 (by decide) ?_
      exact hk21 (r3.2.1, r3.2.2.1, r3.2.2.2.1, r3.2.2.2.2.1, r3.2.2.2.2.2.1, r3.2.2.2.2.2.2.1, r3.2.2.2.2.2.2.2.1, r3.2.2.2.2.2.2.2.2.1, r3.2.2.2.2.2.2.2.2.2, (x6 + (1 : Int32))) hf
    · have hf := fx_f h4 hf
      refine a_kill [0, 1, 2] ?_
      exact kX1_find_b45 C hQ hf
set_option maxHeartbeats 400000 in
set_option maxRecDepth 100000 in
theorem kX1_find_b21 {X : cxT} {l : Launch} {D : va_G} {Y : Nat → ClassId} {ao aL aC ap1 ap2 : Nat → Nat} {io_able : Int32} {io_spells : Int32} {io_height : Int32} {co_place : Nat → Int32} {co_lack : Nat → Int32} {co_most : Nat → Int32} {ip1_moats : Int32} {ip1_spades : Int32} {ip1_tides : Int32} {cp1_wall : Nat → Int32} {cp1_depth : Nat → Int32} {cp1_mood : Nat → Int32} {cp1_place : Nat → Int32} {ip2_moats : Int32} {ip2_spades : Int32} {ip2_tides : Int32} {cp2_wall : Nat → Int32} {cp2_depth : Nat → Int32} {cp2_mood : Nat → Int32} {cp2_place : Nat → Int32} {iC_size : Int32} {cC_age : Nat → Int32} {cC_skill : Nat → Int32} {cC_pals : Nat → Int32} {iL_cells : Int32} {cL_base : Nat → Int32} {x6 : Int32} {res : Int32 × Int32 × Int32 × Int32 × (Nat → Int32) × (Nat → Int32) × (Nat → Int32) × Int32 × Int32 × Int32 × (Nat → Int32) × (Nat → Int32) × (Nat → Int32) × (Nat → Int32)} (C : axC X l D Y cX1_find 7 RX1 wsX1_find rmX1_find (some .int)) (hQ : axQ X 0 0 (fun r9 w9 => r9 = (some (.int res.1)) ∧ w9 = [oX1 ao aL aC res.2.1 res.2.2.1 res.2.2.2.1, rI Y (ao 1) 8 res.2.2.2.2.1, rI Y (ao 2) 12 res.2.2.2.2.2.1, rI Y (ao 3) 8 res.2.2.2.2.2.2.1, oX9 ap1 aL aC ip1_moats ip1_spades ip1_tides, rI Y (ap1 1) 12 cp1_wall, rI Y (ap1 2) 12 cp1_depth, rI Y (ap1 3) 8 cp1_mood, rI Y (ap1 4) 8 cp1_place, oX9 ap2 aL aC res.2.2.2.2.2.2.2.1 res.2.2.2.2.2.2.2.2.1 res.2.2.2.2.2.2.2.2.2.1, rI Y (ap2 1) 12 res.2.2.2.2.2.2.2.2.2.2.1, rI Y (ap2 2) 12 res.2.2.2.2.2.2.2.2.2.2.2.1, rI Y (ap2 3) 8 res.2.2.2.2.2.2.2.2.2.2.2.2.1, rI Y (ap2 4) 8 res.2.2.2.2.2.2.2.2.2.2.2.2.2, oX2 aC iC_size, rI Y (aC 1) 8 cC_age, rI Y (aC 2) 8 cC_skill, rI Y (aC 4) 8 cC_pals, oX5 aL iL_cells, rI Y (aL 1) 12 cL_base])) (hf : fX1_find_b21 io_able io_spells io_height co_place co_lack co_most ip1_moats ip1_spades ip1_tides cp1_wall cp1_depth cp1_mood cp1_place ip2_moats ip2_spades ip2_tides cp2_wall cp2_depth cp2_mood cp2_place iC_size cC_age cC_skill cC_pals iL_cells cL_base x6 = some res) : ax X 0 0 21 [some (.ref (ao 0)), some (.ref (ap1 0)), some (.ref (ap2 0)), none, none, none, some (.int x6)] [oX1 ao aL aC io_able io_spells io_height, rI Y (ao 1) 8 co_place, rI Y (ao 2) 12 co_lack, rI Y (ao 3) 8 co_most, oX9 ap1 aL aC ip1_moats ip1_spades ip1_tides, rI Y (ap1 1) 12 cp1_wall, rI Y (ap1 2) 12 cp1_depth, rI Y (ap1 3) 8 cp1_mood, rI Y (ap1 4) 8 cp1_place, oX9 ap2 aL aC ip2_moats ip2_spades ip2_tides, rI Y (ap2 1) 12 cp2_wall, rI Y (ap2 2) 12 cp2_depth, rI Y (ap2 3) 8 cp2_mood, rI Y (ap2 4) 8 cp2_place, oX2 aC iC_size, rI Y (aC 1) 8 cC_age, rI Y (aC 2) 8 cC_skill, rI Y (aC 4) 8 cC_pals, oX5 aL iL_cells, rI Y (aL 1) 12 cL_base] [] := by
  unfold fX1_find_b21 at hf
  exact fx_loop (P := fun s : (Nat → Int32) × (Nat → Int32) × Int32 × Int32 × Int32 × (Nat → Int32) × (Nat → Int32) × (Nat → Int32) × (Nat → Int32) × Int32 => ax X 0 0 21 [some (.ref (ao 0)), some (.ref (ap1 0)), some (.ref (ap2 0)), none, none, none, some (.int s.2.2.2.2.2.2.2.2.2)] [oX1 ao aL aC io_able io_spells io_height, rI Y (ao 1) 8 s.1, rI Y (ao 2) 12 s.2.1, rI Y (ao 3) 8 co_most, oX9 ap1 aL aC ip1_moats ip1_spades ip1_tides, rI Y (ap1 1) 12 cp1_wall, rI Y (ap1 2) 12 cp1_depth, rI Y (ap1 3) 8 cp1_mood, rI Y (ap1 4) 8 cp1_place, oX9 ap2 aL aC s.2.2.1 s.2.2.2.1 s.2.2.2.2.1, rI Y (ap2 1) 12 s.2.2.2.2.2.1, rI Y (ap2 2) 12 s.2.2.2.2.2.2.1, rI Y (ap2 3) 8 s.2.2.2.2.2.2.2.1, rI Y (ap2 4) 8 s.2.2.2.2.2.2.2.2.1, oX2 aC iC_size, rI Y (aC 1) 8 cC_age, rI Y (aC 2) 8 cC_skill, rI Y (aC 4) 8 cC_pals, oX5 aL iL_cells, rI Y (aL 1) 12 cL_base] []) (fun s k21 hk21 h => kX1_find_l21 C hQ hk21 h) FUEL (co_place, co_lack, ip2_moats, ip2_spades, ip2_tides, cp2_wall, cp2_depth, cp2_mood, cp2_place, x6) hf
def fX1_find (io_able : Int32) (io_spells : Int32) (io_height : Int32) (co_place : Nat → Int32) (co_lack : Nat → Int32) (co_most : Nat → Int32) (ip1_moats : Int32) (ip1_spades : Int32) (ip1_tides : Int32) (cp1_wall : Nat → Int32) (cp1_depth : Nat → Int32) (cp1_mood : Nat → Int32) (cp1_place : Nat → Int32) (ip2_moats : Int32) (ip2_spades : Int32) (ip2_tides : Int32) (cp2_wall : Nat → Int32) (cp2_depth : Nat → Int32) (cp2_mood : Nat → Int32) (cp2_place : Nat → Int32) (iC_size : Int32) (cC_age : Nat → Int32) (cC_skill : Nat → Int32) (cC_pals : Nat → Int32) (iL_cells : Int32) (cL_base : Nat → Int32) (x3 : Int32) (x4 : Int32) (x5 : Int32) : Option (Int32 × Int32 × Int32 × Int32 × (Nat → Int32) × (Nat → Int32) × (Nat → Int32) × Int32 × Int32 × Int32 × (Nat → Int32) × (Nat → Int32) × (Nat → Int32) × (Nat → Int32)) :=
  (fX1_prepare io_able x4 x5 co_place co_lack co_most ip1_spades cp1_wall cp1_mood iC_size cC_age cC_skill cC_pals iL_cells cL_base x3).bind (fun r5 => fX1_find_b21 r5.1 x4 x5 r5.2.1 r5.2.2.1 r5.2.2.2 ip1_moats ip1_spades ip1_tides cp1_wall cp1_depth cp1_mood cp1_place ip2_moats ip2_spades ip2_tides cp2_wall cp2_depth cp2_mood cp2_place iC_size cC_age cC_skill cC_pals iL_cells cL_base (0 : Int32))
set_option maxHeartbeats 400000 in
set_option maxRecDepth 100000 in
theorem kX1_find (l : Launch) (D : va_G) (Y : Nat → ClassId) (ao aL aC ap1 ap2 : Nat → Nat) (io_able : Int32) (io_spells : Int32) (io_height : Int32) (co_place : Nat → Int32) (co_lack : Nat → Int32) (co_most : Nat → Int32) (ip1_moats : Int32) (ip1_spades : Int32) (ip1_tides : Int32) (cp1_wall : Nat → Int32) (cp1_depth : Nat → Int32) (cp1_mood : Nat → Int32) (cp1_place : Nat → Int32) (ip2_moats : Int32) (ip2_spades : Int32) (ip2_tides : Int32) (cp2_wall : Nat → Int32) (cp2_depth : Nat → Int32) (cp2_mood : Nat → Int32) (cp2_place : Nat → Int32) (iC_size : Int32) (cC_age : Nat → Int32) (cC_skill : Nat → Int32) (cC_pals : Nat → Int32) (iL_cells : Int32) (cL_base : Nat → Int32) (x3 : Int32) (x4 : Int32) (x5 : Int32) (res : Int32 × Int32 × Int32 × Int32 × (Nat → Int32) × (Nat → Int32) × (Nat → Int32) × Int32 × Int32 × Int32 × (Nat → Int32) × (Nat → Int32) × (Nat → Int32) × (Nat → Int32)) (hf : fX1_find io_able io_spells io_height co_place co_lack co_most ip1_moats ip1_spades ip1_tides cp1_wall cp1_depth cp1_mood cp1_place ip2_moats ip2_spades ip2_tides cp2_wall cp2_depth cp2_mood cp2_place iC_size cC_age cC_skill cC_pals iL_cells cL_base x3 x4 x5 = some res) : amf l D Y yX1_find wsX1_find rmX1_find [.ref (ao 0), .ref (ap1 0), .ref (ap2 0), .int x3, .int x4, .int x5] [oX1 ao aL aC io_able io_spells io_height, rI Y (ao 1) 8 co_place, rI Y (ao 2) 12 co_lack, rI Y (ao 3) 8 co_most, oX9 ap1 aL aC ip1_moats ip1_spades ip1_tides, rI Y (ap1 1) 12 cp1_wall, rI Y (ap1 2) 12 cp1_depth, rI Y (ap1 3) 8 cp1_mood, rI Y (ap1 4) 8 cp1_place, oX9 ap2 aL aC ip2_moats ip2_spades ip2_tides, rI Y (ap2 1) 12 cp2_wall, rI Y (ap2 2) 12 cp2_depth, rI Y (ap2 3) 8 cp2_mood, rI Y (ap2 4) 8 cp2_place, oX2 aC iC_size, rI Y (aC 1) 8 cC_age, rI Y (aC 2) 8 cC_skill, rI Y (aC 4) 8 cC_pals, oX5 aL iL_cells, rI Y (aL 1) 12 cL_base] (some (.int res.1)) [oX1 ao aL aC res.2.1 res.2.2.1 res.2.2.2.1, rI Y (ao 1) 8 res.2.2.2.2.1, rI Y (ao 2) 12 res.2.2.2.2.2.1, rI Y (ao 3) 8 res.2.2.2.2.2.2.1, oX9 ap1 aL aC ip1_moats ip1_spades ip1_tides, rI Y (ap1 1) 12 cp1_wall, rI Y (ap1 2) 12 cp1_depth, rI Y (ap1 3) 8 cp1_mood, rI Y (ap1 4) 8 cp1_place, oX9 ap2 aL aC res.2.2.2.2.2.2.2.1 res.2.2.2.2.2.2.2.2.1 res.2.2.2.2.2.2.2.2.2.1, rI Y (ap2 1) 12 res.2.2.2.2.2.2.2.2.2.2.1, rI Y (ap2 2) 12 res.2.2.2.2.2.2.2.2.2.2.2.1, rI Y (ap2 3) 8 res.2.2.2.2.2.2.2.2.2.2.2.2.1, rI Y (ap2 4) 8 res.2.2.2.2.2.2.2.2.2.2.2.2.2, oX2 aC iC_size, rI Y (aC 1) 8 cC_age, rI Y (aC 2) 8 cC_skill, rI Y (aC 4) 8 cC_pals, oX5 aL iL_cells, rI Y (aL 1) 12 cL_base] := by
  refine amf.of (cc := cX1_find) (maxL := 7) (rt := (some .int)) (by decide) rfl RX1 rfl (Nat.le_of_ble_eq_true rfl) [some (.ref (ao 0)), some (.ref (ap1 0)), some (.ref (ap2 0)), some (.int x3), some (.int x4), some (.int x5), none] rfl ?_
  intro X C hQ
  unfold fX1_find at hf
  refine a_aload_n C dX1_find_0 rfl ?_
  refine a_iload C dX1_find_1 rfl ?_
  refine a_put C (eB_X1_29 _) tfX1_6 dX1_find_3 0 rfl rfl rfl (Nat.le_of_ble_eq_true rfl) ?_
  refine a_aload_n C dX1_find_6 rfl ?_
  refine a_iload C dX1_find_7 rfl ?_
  refine a_put C (eB_X1_33 _) tfX1_7 dX1_find_9 0 rfl rfl rfl (Nat.le_of_ble_eq_true rfl) ?_
  refine a_aload_n C dX1_find_12 rfl ?_
  refine a_aload_n C dX1_find_13 rfl ?_
  refine a_iload_n C dX1_find_14 rfl ?_
  obtain ⟨r5, h5, hf⟩ := fx_bind hf
  refine a_fV C (kX1_prepare l D Y ao aL aC ap1 io_able x4 x5 co_place co_lack co_most ip1_moats ip1_spades ip1_tides cp1_wall cp1_mood iC_size cC_age cC_skill cC_pals iL_cells cL_base x3 r5 h5) (gB_X1_36 _) rfl dvX1_prepare ⟨⟨rfl, rfl⟩, ⟨Nat.le_of_ble_eq_true rfl, Nat.le_of_ble_eq_true rfl⟩, ⟨Nat.le_of_ble_eq_true rfl, Nat.le_of_ble_eq_true rfl⟩⟩ rfl (Nat.le_of_ble_eq_true rfl) dX1_find_15 rfl rfl [0, 1, 2, 3, 4, 5, 7, 14, 15, 16, 17, 18, 19] [6, 8, 9, 10, 11, 12, 13] ⟨rfl, rfl, rfl, rfl, rfl, rfl, rfl, rfl, rfl, rfl, rfl, rfl, rfl, trivial⟩ (by decide +kernel) rfl [oX1 ao aL aC r5.1 x4 x5, rI Y (ao 1) 8 r5.2.1, rI Y (ao 2) 12 r5.2.2.1, rI Y (ao 3) 8 r5.2.2.2, oX9 ap1 aL aC ip1_moats ip1_spades ip1_tides, rI Y (ap1 1) 12 cp1_wall, rI Y (ap1 2) 12 cp1_depth, rI Y (ap1 3) 8 cp1_mood, rI Y (ap1 4) 8 cp1_place, oX9 ap2 aL aC ip2_moats ip2_spades ip2_tides, rI Y (ap2 1) 12 cp2_wall, rI Y (ap2 2) 12 cp2_depth, rI Y (ap2 3) 8 cp2_mood, rI Y (ap2 4) 8 cp2_place, oX2 aC iC_size, rI Y (aC 1) 8 cC_age, rI Y (aC 2) 8 cC_skill, rI Y (aC 4) 8 cC_pals, oX5 aL iL_cells, rI Y (aL 1) 12 cL_base] ⟨rfl, rfl, rfl, rfl, rfl, rfl, rfl, rfl, rfl, rfl, rfl, rfl, rfl, trivial⟩ ⟨rfl, rfl, rfl, rfl, rfl, rfl, rfl, trivial⟩ 20 rfl (by decide +kernel) ?_
  refine a_iconst C (0 : Int32) dX1_find_18 (by decide) ?_
  refine a_istore C dX1_find_19 (by decide) rfl ?_
  refine a_kill [3, 4, 5] ?_
  exact kX1_find_b21 C hQ hf
-- X3_fitting
abbrev rmX3_fitting : Room := { frames := 2, cells := 0, slots := 0, locals := 48 }
theorem dvX3_fitting : yX3_fitting.cls = RX3 ∧ yX3_fitting.cls ≠ "java/lang/invoke/MethodHandle" ∧ yX3_fitting.cls ≠ "java/lang/invoke/VarHandle" ∧ (parseMethodDescriptor yX3_fitting.desc).map (fun d => d.parameters.length) = some 1 := by decide +kernel
def fX3_fitting_b75 (io_cells : Int32) (co_open : Nat → Int32) (co_sums : Nat → Int32) (co_ways : Nat → Int32) (co_nextWays : Nat → Int32) (x2 : Int32) : Option (Int32 × (Nat → Int32) × (Nat → Int32)) :=
  some (x2, co_ways, co_nextWays)
set_option maxHeartbeats 400000 in
set_option maxRecDepth 100000 in
theorem kX3_fitting_b75 {X : cxT} {l : Launch} {D : va_G} {Y : Nat → ClassId} {ao aC : Nat → Nat} {io_cells : Int32} {co_amount : Nat → Int32} {co_open : Nat → Int32} {co_sums : Nat → Int32} {co_ways : Nat → Int32} {co_nextWays : Nat → Int32} {x2 : Int32} {res : Int32 × (Nat → Int32) × (Nat → Int32)} (C : axC X l D Y cX3_fitting 4 RX3 wsX3_fitting rmX3_fitting (some .int)) {q0 : Nat} (hQ : axQ X 0 0 (fun r9 w9 => r9 = (some (.int res.1)) ∧ ∃ ao_ : Nat → Nat, ao_ 0 = q0 ∧ w9 = [oX3 ao_ aC io_cells, rI Y (ao_ 1) 12 co_amount, rI Y (ao_ 2) 12 co_open, rI Y (ao_ 3) 256 co_sums, rI Y (ao_ 4) 256 res.2.1, rI Y (ao_ 5) 256 res.2.2])) (hq0 : ao 0 = q0) (hf : fX3_fitting_b75 io_cells co_open co_sums co_ways co_nextWays x2 = some res) : ax X 0 0 75 [none, none, some (.int x2), none] [oX3 ao aC io_cells, rI Y (ao 1) 12 co_amount, rI Y (ao 2) 12 co_open, rI Y (ao 3) 256 co_sums, rI Y (ao 4) 256 co_ways, rI Y (ao 5) 256 co_nextWays] [] := by
  unfold fX3_fitting_b75 at hf
  refine a_iload_n C dX3_fitting_75 rfl ?_
  obtain rfl := fx_some hf
  exact a_iret C hQ dX3_fitting_76 ⟨rfl, ao, hq0, rfl⟩
def fX3_fitting_l55 (io_cells : Int32) (co_open : Nat → Int32) (co_sums : Nat → Int32) (co_ways : Nat → Int32) (co_nextWays : Nat → Int32) (x1 : Int32) (k55 : Int32 × Int32 → Option (Int32 × (Nat → Int32) × (Nat → Int32))) (x2 : Int32) (x3 : Int32) : Option (Int32 × (Nat → Int32) × (Nat → Int32)) :=
  if x1 < x3 then (fX3_fitting_b75 io_cells co_open co_sums co_ways co_nextWays x2) else (if inb x3 256 then k55 ((x2 + (co_ways (Int32.toNatClampNeg x3))), (x3 + (1 : Int32))) else none)
def fX3_fitting_b55 (io_cells : Int32) (co_open : Nat → Int32) (co_sums : Nat → Int32) (co_ways : Nat → Int32) (co_nextWays : Nat → Int32) (x1 : Int32) (x2 : Int32) (x3 : Int32) : Option (Int32 × (Nat → Int32) × (Nat → Int32)) :=
  loopN (fun (s : Int32 × Int32) k55 => fX3_fitting_l55 io_cells co_open co_sums co_ways co_nextWays x1 k55 s.1 s.2) FUEL (x2, x3)
set_option maxHeartbeats 400000 in
set_option maxRecDepth 100000 in
theorem kX3_fitting_l55 {X : cxT} {l : Launch} {D : va_G} {Y : Nat → ClassId} {ao aC : Nat → Nat} {io_cells : Int32} {co_amount : Nat → Int32} {co_open : Nat → Int32} {co_sums : Nat → Int32} {co_ways : Nat → Int32} {co_nextWays : Nat → Int32} {x1 : Int32} {x2 : Int32} {x3 : Int32} {res : Int32 × (Nat → Int32) × (Nat → Int32)} (C : axC X l D Y cX3_fitting 4 RX3 wsX3_fitting rmX3_fitting (some .int)) {q0 : Nat} (hQ : axQ X 0 0 (fun r9 w9 => r9 = (some (.int res.1)) ∧ ∃ ao_ : Nat → Nat, ao_ 0 = q0 ∧ w9 = [oX3 ao_ aC io_cells, rI Y (ao_ 1) 12 co_amount, rI Y (ao_ 2) 12 co_open, rI Y (ao_ 3) 256 co_sums, rI Y (ao_ 4) 256 res.2.1, rI Y (ao_ 5) 256 res.2.2])) (hq0 : ao 0 = q0) {k55 : Int32 × Int32 → Option (Int32 × (Nat → Int32) × (Nat → Int32))} (hk55 : ∀ s : Int32 × Int32, k55 s = some res → ∀ ao : Nat → Nat, ao 0 = q0 → ax X 0 0 55 [some (.ref (ao 0)), some (.int x1), some (.int s.1), some (.int s.2)] [oX3 ao aC io_cells, rI Y (ao 1) 12 co_amount, rI Y (ao 2) 12 co_open, rI Y (ao 3) 256 co_sums, rI Y (ao 4) 256 co_ways, rI Y (ao 5) 256 co_nextWays] []) (hf : fX3_fitting_l55 io_cells co_open co_sums co_ways co_nextWays x1 k55 x2 x3 = some res) : ax X 0 0 55 [some (.ref (ao 0)), some (.int x1), some (.int x2), some (.int x3)] [oX3 ao aC io_cells, rI Y (ao 1) 12 co_amount, rI Y (ao 2) 12 co_open, rI Y (ao 3) 256 co_sums, rI Y (ao 4) 256 co_ways, rI Y (ao 5) 256 co_nextWays] [] := by
  unfold fX3_fitting_l55 at hf
  refine a_iload_n C dX3_fitting_55 rfl ?_
  refine a_iload_n C dX3_fitting_56 rfl ?_
  refine a_icmp_gt C 75 dX3_fitting_57 (by decide) (fun h1 => ?_) (fun h1 => ?_)
  · have hf := fx_t h1 hf
    refine a_kill [0, 1, 3] ?_
    exact kX3_fitting_b75 C hQ hq0 hf
  · have hf := fx_f h1 hf
    refine a_iload_n C dX3_fitting_60 rfl ?_
    refine a_aload_n C dX3_fitting_61 rfl ?_
    refine a_get C (eB_X3_21 _) dX3_fitting_62 0 rfl rfl ?_
    refine a_iload_n C dX3_fitting_65 rfl ?_
    obtain ⟨h2, hf⟩ := fx_ite hf
    refine a_iald C dX3_fitting_66 4 rfl h2 ?_
    refine a_iadd C dX3_fitting_67 ?_
    refine a_istore_n C dX3_fitting_68 (by decide) rfl ?_
    refine a_iinc C (1 : Int32) dX3_fitting_69 (by decide) rfl (by decide) rfl ?_
    refine a_goto C 55 dX3_fitting_72 (by decide) ?_
    exact hk55 ((x2 + (co_ways (Int32.toNatClampNeg x3))), (x3 + (1 : Int32))) hf _ hq0
set_option maxHeartbeats 400000 in
set_option maxRecDepth 100000 in
theorem kX3_fitting_b55 {X : cxT} {l : Launch} {D : va_G} {Y : Nat → ClassId} {ao aC : Nat → Nat} {io_cells : Int32} {co_amount : Nat → Int32} {co_open : Nat → Int32} {co_sums : Nat → Int32} {co_ways : Nat → Int32} {co_nextWays : Nat → Int32} {x1 : Int32} {x2 : Int32} {x3 : Int32} {res : Int32 × (Nat → Int32) × (Nat → Int32)} (C : axC X l D Y cX3_fitting 4 RX3 wsX3_fitting rmX3_fitting (some .int)) {q0 : Nat} (hQ : axQ X 0 0 (fun r9 w9 => r9 = (some (.int res.1)) ∧ ∃ ao_ : Nat → Nat, ao_ 0 = q0 ∧ w9 = [oX3 ao_ aC io_cells, rI Y (ao_ 1) 12 co_amount, rI Y (ao_ 2) 12 co_open, rI Y (ao_ 3) 256 co_sums, rI Y (ao_ 4) 256 res.2.1, rI Y (ao_ 5) 256 res.2.2])) (hq0 : ao 0 = q0) (hf : fX3_fitting_b55 io_cells co_open co_sums co_ways co_nextWays x1 x2 x3 = some res) : ax X 0 0 55 [some (.ref (ao 0)), some (.int x1), some (.int x2), some (.int x3)] [oX3 ao aC io_cells, rI Y (ao 1) 12 co_amount, rI Y (ao 2) 12 co_open, rI Y (ao 3) 256 co_sums, rI Y (ao 4) 256 co_ways, rI Y (ao 5) 256 co_nextWays] [] := by
  unfold fX3_fitting_b55 at hf
  exact fx_loop (P := fun s : Int32 × Int32 => ∀ ao : Nat → Nat, ao 0 = q0 → ax X 0 0 55 [some (.ref (ao 0)), some (.int x1), some (.int s.1), some (.int s.2)] [oX3 ao aC io_cells, rI Y (ao 1) 12 co_amount, rI Y (ao 2) 12 co_open, rI Y (ao 3) 256 co_sums, rI Y (ao 4) 256 co_ways, rI Y (ao 5) 256 co_nextWays] []) (fun s k55 hk55 h ao hq0 => kX3_fitting_l55 C hQ hq0 hk55 h) FUEL (x2, x3) hf _ hq0
def fX3_fitting_b51 (io_cells : Int32) (co_open : Nat → Int32) (co_sums : Nat → Int32) (co_ways : Nat → Int32) (co_nextWays : Nat → Int32) (x1 : Int32) : Option (Int32 × (Nat → Int32) × (Nat → Int32)) :=
  fX3_fitting_b55 io_cells co_open co_sums co_ways co_nextWays x1 (0 : Int32) (0 : Int32)
set_option maxHeartbeats 400000 in
set_option maxRecDepth 100000 in
theorem kX3_fitting_b51 {X : cxT} {l : Launch} {D : va_G} {Y : Nat → ClassId} {ao aC : Nat → Nat} {io_cells : Int32} {co_amount : Nat → Int32} {co_open : Nat → Int32} {co_sums : Nat → Int32} {co_ways : Nat → Int32} {co_nextWays : Nat → Int32} {x1 : Int32} {res : Int32 × (Nat → Int32) × (Nat → Int32)} (C : axC X l D Y cX3_fitting 4 RX3 wsX3_fitting rmX3_fitting (some .int)) {q0 : Nat} (hQ : axQ X 0 0 (fun r9 w9 => r9 = (some (.int res.1)) ∧ ∃ ao_ : Nat → Nat, ao_ 0 = q0 ∧ w9 = [oX3 ao_ aC io_cells, rI Y (ao_ 1) 12 co_amount, rI Y (ao_ 2) 12 co_open, rI Y (ao_ 3) 256 co_sums, rI Y (ao_ 4) 256 res.2.1, rI Y (ao_ 5) 256 res.2.2])) (hq0 : ao 0 = q0) (hf : fX3_fitting_b51 io_cells co_open co_sums co_ways co_nextWays x1 = some res) : ax X 0 0 51 [some (.ref (ao 0)), some (.int x1), none, none] [oX3 ao aC io_cells, rI Y (ao 1) 12 co_amount, rI Y (ao 2) 12 co_open, rI Y (ao 3) 256 co_sums, rI Y (ao 4) 256 co_ways, rI Y (ao 5) 256 co_nextWays] [] := by
  unfold fX3_fitting_b51 at hf
  refine a_iconst C (0 : Int32) dX3_fitting_51 (by decide) ?_
  refine a_istore_n C dX3_fitting_52 (by decide) rfl ?_
  refine a_iconst C (0 : Int32) dX3_fitting_53 (by decide) ?_
  refine a_istore_n C dX3_fitting_54 (by decide) rfl ?_
  exact kX3_fitting_b55 C hQ hq0 hf
def fX3_fitting_b45 (io_cells : Int32) (co_open : Nat → Int32) (co_sums : Nat → Int32) (co_ways : Nat → Int32) (co_nextWays : Nat → Int32) (x1 : Int32) (x2 : Int32) (k17 : (Nat → Int32) × (Nat → Int32) × Int32 → Option (Int32 × (Nat → Int32) × (Nat → Int32))) : Option (Int32 × (Nat → Int32) × (Nat → Int32)) :=
  k17 (co_ways, co_nextWays, (x2 + (1 : Int32)))
set_option maxHeartbeats 400000 in
set_option maxRecDepth 100000 in
theorem kX3_fitting_b45 {X : cxT} {l : Launch} {D : va_G} {Y : Nat → ClassId} {ao aC : Nat → Nat} {io_cells : Int32} {co_amount : Nat → Int32} {co_open : Nat → Int32} {co_sums : Nat → Int32} {co_ways : Nat → Int32} {co_nextWays : Nat → Int32} {x1 : Int32} {x2 : Int32} {res : Int32 × (Nat → Int32) × (Nat → Int32)} (C : axC X l D Y cX3_fitting 4 RX3 wsX3_fitting rmX3_fitting (some .int)) {q0 : Nat} (hQ : axQ X 0 0 (fun r9 w9 => r9 = (some (.int res.1)) ∧ ∃ ao_ : Nat → Nat, ao_ 0 = q0 ∧ w9 = [oX3 ao_ aC io_cells, rI Y (ao_ 1) 12 co_amount, rI Y (ao_ 2) 12 co_open, rI Y (ao_ 3) 256 co_sums, rI Y (ao_ 4) 256 res.2.1, rI Y (ao_ 5) 256 res.2.2])) (hq0 : ao 0 = q0) {k17 : (Nat → Int32) × (Nat → Int32) × Int32 → Option (Int32 × (Nat → Int32) × (Nat → Int32))} (hk17 : ∀ s : (Nat → Int32) × (Nat → Int32) × Int32, k17 s = some res → ∀ ao : Nat → Nat, ao 0 = q0 → ax X 0 0 17 [some (.ref (ao 0)), some (.int x1), some (.int s.2.2), none] [oX3 ao aC io_cells, rI Y (ao 1) 12 co_amount, rI Y (ao 2) 12 co_open, rI Y (ao 3) 256 co_sums, rI Y (ao 4) 256 s.1, rI Y (ao 5) 256 s.2.1] []) (hf : fX3_fitting_b45 io_cells co_open co_sums co_ways co_nextWays x1 x2 k17 = some res) : ax X 0 0 45 [some (.ref (ao 0)), some (.int x1), some (.int x2), none] [oX3 ao aC io_cells, rI Y (ao 1) 12 co_amount, rI Y (ao 2) 12 co_open, rI Y (ao 3) 256 co_sums, rI Y (ao 4) 256 co_ways, rI Y (ao 5) 256 co_nextWays] [] := by
  unfold fX3_fitting_b45 at hf
  refine a_iinc C (1 : Int32) dX3_fitting_45 (by decide) rfl (by decide) rfl ?_
  refine a_goto C 17 dX3_fitting_48 (by decide) ?_
  exact hk17 (co_ways, co_nextWays, (x2 + (1 : Int32))) hf _ hq0
def fX3_fitting_l17 (io_cells : Int32) (co_open : Nat → Int32) (co_sums : Nat → Int32) (x1 : Int32) (k17 : (Nat → Int32) × (Nat → Int32) × Int32 → Option (Int32 × (Nat → Int32) × (Nat → Int32))) (co_ways : Nat → Int32) (co_nextWays : Nat → Int32) (x2 : Int32) : Option (Int32 × (Nat → Int32) × (Nat → Int32)) :=
  if (12 : Int32) ≤ x2 then (fX3_fitting_b51 io_cells co_open co_sums co_ways co_nextWays x1) else (if ((jshr io_cells x2) &&& (1 : Int32)) = (0 : Int32) then (fX3_fitting_b45 io_cells co_open co_sums co_ways co_nextWays x1 x2 k17) else (if inb x2 12 then (fX3_fillCell co_sums co_ways co_nextWays x1 (co_open (Int32.toNatClampNeg x2))).bind (fun r6 => fX3_fitting_b45 io_cells co_open co_sums r6.1 r6.2 x1 x2 k17) else none))
def fX3_fitting_b17 (io_cells : Int32) (co_open : Nat → Int32) (co_sums : Nat → Int32) (co_ways : Nat → Int32) (co_nextWays : Nat → Int32) (x1 : Int32) (x2 : Int32) : Option (Int32 × (Nat → Int32) × (Nat → Int32)) :=
  loopN (fun (s : (Nat → Int32) × (Nat → Int32) × Int32) k17 => fX3_fitting_l17 io_cells co_open co_sums x1 k17 s.1 s.2.1 s.2.2) FUEL (co_ways, co_nextWays, x2)
set_option maxHeartbeats 400000 in
set_option maxRecDepth 100000 in
theorem kX3_fitting_l17 {X : cxT} {l : Launch} {D : va_G} {Y : Nat → ClassId} {ao aC : Nat → Nat} {io_cells : Int32} {co_amount : Nat → Int32} {co_open : Nat → Int32} {co_sums : Nat → Int32} {co_ways : Nat → Int32} {co_nextWays : Nat → Int32} {x1 : Int32} {x2 : Int32} {res : Int32 × (Nat → Int32) × (Nat → Int32)} (C : axC X l D Y cX3_fitting 4 RX3 wsX3_fitting rmX3_fitting (some .int)) {q0 : Nat} (hQ : axQ X 0 0 (fun r9 w9 => r9 = (some (.int res.1)) ∧ ∃ ao_ : Nat → Nat, ao_ 0 = q0 ∧ w9 = [oX3 ao_ aC io_cells, rI Y (ao_ 1) 12 co_amount, rI Y (ao_ 2) 12 co_open, rI Y (ao_ 3) 256 co_sums, rI Y (ao_ 4) 256 res.2.1, rI Y (ao_ 5) 256 res.2.2])) (hq0 : ao 0 = q0) {k17 : (Nat → Int32) × (Nat → Int32) × Int32 → Option (Int32 × (Nat → Int32) × (Nat → Int32))} (hk17 : ∀ s : (Nat → Int32) × (Nat → Int32) × Int32, k17 s = some res → ∀ ao : Nat → Nat, ao 0 = q0 → ax X 0 0 17 [some (.ref (ao 0)), some (.int x1), some (.int s.2.2), none] [oX3 ao aC io_cells, rI Y (ao 1) 12 co_amount, rI Y (ao 2) 12 co_open, rI Y (ao 3) 256 co_sums, rI Y (ao 4) 256 s.1, rI Y (ao 5) 256 s.2.1] []) (hf : fX3_fitting_l17 io_cells co_open co_sums x1 k17 co_ways co_nextWays x2 = some res) : ax X 0 0 17 [some (.ref (ao 0)), some (.int x1), some (.int x2), none] [oX3 ao aC io_cells, rI Y (ao 1) 12 co_amount, rI Y (ao 2) 12 co_open, rI Y (ao 3) 256 co_sums, rI Y (ao 4) 256 co_ways, rI Y (ao 5) 256 co_nextWays] [] := by
  unfold fX3_fitting_l17 at hf
  refine a_iload_n C dX3_fitting_17 rfl ?_
  refine a_bipush C (12 : Int32) dX3_fitting_18 (by decide) ?_
  refine a_icmp_ge C 51 dX3_fitting_20 (by decide) (fun h3 => ?_) (fun h3 => ?_)
  · have hf := fx_t h3 hf
    refine a_kill [2] ?_
    exact kX3_fitting_b51 C hQ hq0 hf
  · have hf := fx_f h3 hf
    refine a_aload_n C dX3_fitting_23 rfl ?_
    refine a_get C (eB_X3_31 _) dX3_fitting_24 0 rfl rfl ?_
    refine a_iload_n C dX3_fitting_27 rfl ?_
    refine a_ishr C dX3_fitting_28 ?_
    refine a_iconst C (1 : Int32) dX3_fitting_29 (by decide) ?_
    refine a_iand C dX3_fitting_30 ?_
    refine a_if_eq C 45 dX3_fitting_31 (by decide) (fun h4 => ?_) (fun h4 => ?_)
    · have hf := fx_t h4 hf
      exact kX3_fitting_b45 C hQ hq0 hk17 hf
    · have hf := fx_f h4 hf
      refine a_aload_n C dX3_fitting_34 rfl ?_
      refine a_iload_n C dX3_fitting_35 rfl ?_
      refine a_aload_n C dX3_fitting_36 rfl ?_
      refine a_get C (eB_X3_15 _) dX3_fitting_37 0 rfl rfl ?_
      refine a_iload_n C dX3_fitting_40 rfl ?_
      obtain ⟨h5, hf⟩ := fx_ite hf
      refine a_iald C dX3_fitting_41 2 rfl h5 ?_
      obtain ⟨r6, h6, hf⟩ := fx_bind hf
      refine a_gV C (kX3_fillCell l D Y ao aC io_cells co_amount co_open co_sums co_ways co_nextWays x1 (co_open (Int32.toNatClampNeg x2)) r6 h6) (gB_X3_61 _) rfl dvX3_fillCell ⟨⟨rfl, rfl⟩, ⟨Nat.le_of_ble_eq_true rfl, Nat.le_of_ble_eq_true rfl⟩, ⟨Nat.le_of_ble_eq_true rfl, Nat.le_of_ble_eq_true rfl⟩⟩ rfl (Nat.le_of_ble_eq_true rfl) dX3_fitting_42 rfl rfl [0, 1, 2, 3, 4, 5] [] ⟨rfl, rfl, rfl, rfl, rfl, rfl, trivial⟩ (by decide +kernel) [] trivial (by decide +kernel) (by decide +kernel) ?_
      rintro _ _ ⟨rfl, ao, hA, rfl⟩
      rw [← hA]
      have hq0 := hA.trans hq0
      refine a_perm [0, 1, 2, 3, 4, 5] [oX3 ao aC io_cells, rI Y (ao 1) 12 co_amount, rI Y (ao 2) 12 co_open, rI Y (ao 3) 256 co_sums, rI Y (ao 4) 256 r6.1, rI Y (ao 5) 256 r6.2] ⟨rfl, rfl, rfl, rfl, rfl, rfl, trivial⟩ (by decide +kernel) ?_
      exact kX3_fitting_b45 C hQ hq0 hk17 hf
set_option maxHeartbeats 400000 in
set_option maxRecDepth 100000 in
theorem kX3_fitting_b17 {X : cxT} {l : Launch} {D : va_G} {Y : Nat → ClassId} {ao aC : Nat → Nat} {io_cells : Int32} {co_amount : Nat → Int32} {co_open : Nat → Int32} {co_sums : Nat → Int32} {co_ways : Nat → Int32} {co_nextWays : Nat → Int32} {x1 : Int32} {x2 : Int32} {res : Int32 × (Nat → Int32) × (Nat → Int32)} (C : axC X l D Y cX3_fitting 4 RX3 wsX3_fitting rmX3_fitting (some .int)) {q0 : Nat} (hQ : axQ X 0 0 (fun r9 w9 => r9 = (some (.int res.1)) ∧ ∃ ao_ : Nat → Nat, ao_ 0 = q0 ∧ w9 = [oX3 ao_ aC io_cells, rI Y (ao_ 1) 12 co_amount, rI Y (ao_ 2) 12 co_open, rI Y (ao_ 3) 256 co_sums, rI Y (ao_ 4) 256 res.2.1, rI Y (ao_ 5) 256 res.2.2])) (hq0 : ao 0 = q0) (hf : fX3_fitting_b17 io_cells co_open co_sums co_ways co_nextWays x1 x2 = some res) : ax X 0 0 17 [some (.ref (ao 0)), some (.int x1), some (.int x2), none] [oX3 ao aC io_cells, rI Y (ao 1) 12 co_amount, rI Y (ao 2) 12 co_open, rI Y (ao 3) 256 co_sums, rI Y (ao 4) 256 co_ways, rI Y (ao 5) 256 co_nextWays] [] := by
  unfold fX3_fitting_b17 at hf
  exact fx_loop (P := fun s : (Nat → Int32) × (Nat → Int32) × Int32 => ∀ ao : Nat → Nat, ao 0 = q0 → ax X 0 0 17 [some (.ref (ao 0)), some (.int x1), some (.int s.2.2), none] [oX3 ao aC io_cells, rI Y (ao 1) 12 co_amount, rI Y (ao 2) 12 co_open, rI Y (ao 3) 256 co_sums, rI Y (ao 4) 256 s.1, rI Y (ao 5) 256 s.2.1] []) (fun s k17 hk17 h ao hq0 => kX3_fitting_l17 C hQ hq0 hk17 h) FUEL (co_ways, co_nextWays, x2) hf _ hq0
def fX3_fitting (io_cells : Int32) (co_open : Nat → Int32) (co_sums : Nat → Int32) (co_ways : Nat → Int32) (co_nextWays : Nat → Int32) (x1 : Int32) : Option (Int32 × (Nat → Int32) × (Nat → Int32)) :=
  (fJ7_fill_53178 co_ways 256 (0 : Int32)).bind (fun r7 => if inb (0 : Int32) 256 then fX3_fitting_b17 io_cells co_open co_sums (upd r7 (Int32.toNatClampNeg (0 : Int32)) (1 : Int32)) co_nextWays x1 (0 : Int32) else none)
set_option maxHeartbeats 400000 in
set_option maxRecDepth 100000 in
theorem kX3_fitting (l : Launch) (D : va_G) (Y : Nat → ClassId) (ao aC : Nat → Nat) (io_cells : Int32) (co_amount : Nat → Int32) (co_open : Nat → Int32) (co_sums : Nat → Int32) (co_ways : Nat → Int32) (co_nextWays : Nat → Int32) (x1 : Int32) (res : Int32 × (Nat → Int32) × (Nat → Int32)) (hf : fX3_fitting io_cells co_open co_sums co_ways co_nextWays x1 = some res) : am l D Y yX3_fitting wsX3_fitting rmX3_fitting [.ref (ao 0), .int x1] [oX3 ao aC io_cells, rI Y (ao 1) 12 co_amount, rI Y (ao 2) 12 co_open, rI Y (ao 3) 256 co_sums, rI Y (ao 4) 256 co_ways, rI Y (ao 5) 256 co_nextWays] 0 0 (fun r9 w9 => r9 = (some (.int res.1)) ∧ ∃ ao_ : Nat → Nat, ao_ 0 = ao 0 ∧ w9 = [oX3 ao_ aC io_cells, rI Y (ao_ 1) 12 co_amount, rI Y (ao_ 2) 12 co_open, rI Y (ao_ 3) 256 co_sums, rI Y (ao_ 4) 256 res.2.1, rI Y (ao_ 5) 256 res.2.2]) := by
  refine am.of (cc := cX3_fitting) (maxL := 4) (rt := (some .int)) (by decide) rfl RX3 rfl (Nat.le_of_ble_eq_true rfl) [some (.ref (ao 0)), some (.int x1), none, none] rfl ?_
  intro X C hQ
  have hq0 : ao 0 = ao 0 := rfl
  unfold fX3_fitting at hf
  refine a_aload_n C dX3_fitting_0 rfl ?_
  refine a_get C (eB_X3_21 _) dX3_fitting_1 0 rfl rfl ?_
  refine a_iconst C (0 : Int32) dX3_fitting_4 (by decide) ?_
  obtain ⟨r7, h7, hf⟩ := fx_bind hf
  refine a_fS C (kJ7_fill_53178 l D Y (ao 4) co_ways 256 (0 : Int32) r7 h7) (gB_X3_55 _) rfl dvJ7_fill_53178 ⟨⟨rfl, rfl⟩, ⟨Nat.le_of_ble_eq_true rfl, Nat.le_of_ble_eq_true rfl⟩, ⟨Nat.le_of_ble_eq_true rfl, Nat.le_of_ble_eq_true rfl⟩⟩ rfl (Nat.le_of_ble_eq_true rfl) dX3_fitting_5 [4] [0, 1, 2, 3, 5] ⟨rfl, trivial⟩ (by decide +kernel) rfl [oX3 ao aC io_cells, rI Y (ao 1) 12 co_amount, rI Y (ao 2) 12 co_open, rI Y (ao 3) 256 co_sums, rI Y (ao 4) 256 r7, rI Y (ao 5) 256 co_nextWays] ⟨rfl, trivial⟩ ⟨rfl, rfl, rfl, rfl, rfl, trivial⟩ 6 rfl (by decide +kernel) ?_
  refine a_aload_n C dX3_fitting_8 rfl ?_
  refine a_get C (eB_X3_21 _) dX3_fitting_9 0 rfl rfl ?_
  refine a_iconst C (0 : Int32) dX3_fitting_12 (by decide) ?_
  refine a_iconst C (1 : Int32) dX3_fitting_13 (by decide) ?_
  obtain ⟨h8, hf⟩ := fx_ite hf
  refine a_iast C dX3_fitting_14 4 rfl h8 ?_
  refine a_iconst C (0 : Int32) dX3_fitting_15 (by decide) ?_
  refine a_istore_n C dX3_fitting_16 (by decide) rfl ?_
  exact kX3_fitting_b17 C hQ hq0 hf
-- X3_canBeAt
abbrev rmX3_canBeAt : Room := { frames := 3, cells := 0, slots := 0, locals := 71 }
theorem dvX3_canBeAt : yX3_canBeAt.cls = RX3 ∧ yX3_canBeAt.cls ≠ "java/lang/invoke/MethodHandle" ∧ yX3_canBeAt.cls ≠ "java/lang/invoke/VarHandle" ∧ (parseMethodDescriptor yX3_canBeAt.desc).map (fun d => d.parameters.length) = some 3 := by decide +kernel
def fX3_canBeAt_b44 (io_cells : Int32) (co_open : Nat → Int32) (co_sums : Nat → Int32) (co_ways : Nat → Int32) (co_nextWays : Nat → Int32) (cC_skill : Nat → Int32) (x1 : Int32) (x2 : Int32) (s0 : Int32) : Option (Int32 × (Nat → Int32) × (Nat → Int32) × (Nat → Int32)) :=
  if inb x2 12 then if inb x1 8 then if s0 = 0 ∨ s0 = 1 then some (s0, (upd co_open (Int32.toNatClampNeg x2) ((co_open (Int32.toNatClampNeg x2)) + (cC_skill (Int32.toNatClampNeg x1)))), co_ways, co_nextWays) else none else none else none
set_option maxHeartbeats 400000 in
set_option maxRecDepth 100000 in
theorem kX3_canBeAt_b44 {X : cxT} {l : Launch} {D : va_G} {Y : Nat → ClassId} {ao aC : Nat → Nat} {io_cells : Int32} {co_amount : Nat → Int32} {co_open : Nat → Int32} {co_sums : Nat → Int32} {co_ways : Nat → Int32} {co_nextWays : Nat → Int32} {iC_size : Int32} {cC_skill : Nat → Int32} {x1 : Int32} {x2 : Int32} {s0 : Int32} {res : Int32 × (Nat → Int32) × (Nat → Int32) × (Nat → Int32)} (C : axC X l D Y cX3_canBeAt 5 RX3 wsX3_canBeAt rmX3_canBeAt (some .boolean)) {q0 : Nat} (hQ : axQ X 0 0 (fun r9 w9 => r9 = (some (.int res.1)) ∧ ∃ ao_ : Nat → Nat, ao_ 0 = q0 ∧ w9 = [oX3 ao_ aC io_cells, rI Y (ao_ 1) 12 co_amount, rI Y (ao_ 2) 12 res.2.1, rI Y (ao_ 3) 256 co_sums, rI Y (ao_ 4) 256 res.2.2.1, rI Y (ao_ 5) 256 res.2.2.2, oX2 aC iC_size, rI Y (aC 2) 8 cC_skill])) (hq0 : ao 0 = q0) (hf : fX3_canBeAt_b44 io_cells co_open co_sums co_ways co_nextWays cC_skill x1 x2 s0 = some res) : ax X 0 0 44 [some (.ref (ao 0)), some (.int x1), some (.int x2), none, none] [oX3 ao aC io_cells, rI Y (ao 1) 12 co_amount, rI Y (ao 2) 12 co_open, rI Y (ao 3) 256 co_sums, rI Y (ao 4) 256 co_ways, rI Y (ao 5) 256 co_nextWays, oX2 aC iC_size, rI Y (aC 2) 8 cC_skill] [.int s0] := by
  unfold fX3_canBeAt_b44 at hf
  refine a_istore C dX3_canBeAt_44 (by decide) rfl ?_
  refine a_aload_n C dX3_canBeAt_46 rfl ?_
  refine a_get C (eB_X3_15 _) dX3_canBeAt_47 0 rfl rfl ?_
  refine a_iload_n C dX3_canBeAt_50 rfl ?_
  refine a_dup2 C dX3_canBeAt_51 rfl rfl ?_
  obtain ⟨h1, hf⟩ := fx_ite hf
  refine a_iald C dX3_canBeAt_52 2 rfl h1 ?_
  refine a_aload_n C dX3_canBeAt_53 rfl ?_
  refine a_get C (eB_X3_27 _) dX3_canBeAt_54 0 rfl rfl ?_
  refine a_get C (eB_X3_52 _) dX3_canBeAt_57 6 rfl rfl ?_
  refine a_iload_n C dX3_canBeAt_60 rfl ?_
  obtain ⟨h2, hf⟩ := fx_ite hf
  refine a_iald C dX3_canBeAt_61 7 rfl h2 ?_
  refine a_iadd C dX3_canBeAt_62 ?_
  refine a_iast C dX3_canBeAt_63 2 rfl h1 ?_
  refine a_iload C dX3_canBeAt_64 rfl ?_
  obtain ⟨h3, hf⟩ := fx_ite hf
  obtain rfl := fx_some hf
  exact a_zret C hQ h3 dX3_canBeAt_66 ⟨rfl, ao, hq0, rfl⟩
def fX3_canBeAt (io_cells : Int32) (co_open : Nat → Int32) (co_sums : Nat → Int32) (co_ways : Nat → Int32) (co_nextWays : Nat → Int32) (cC_skill : Nat → Int32) (x1 : Int32) (x2 : Int32) (x3 : Int32) : Option (Int32 × (Nat → Int32) × (Nat → Int32) × (Nat → Int32)) :=
  if ((jshr io_cells x2) &&& (1 : Int32)) = (0 : Int32) then (some ((0 : Int32), co_open, co_ways, co_nextWays)) else (if inb x2 12 then if inb x1 8 then (fX3_fitting io_cells (upd co_open (Int32.toNatClampNeg x2) ((co_open (Int32.toNatClampNeg x2)) - (cC_skill (Int32.toNatClampNeg x1)))) co_sums co_ways co_nextWays x3).bind (fun r7 => if r7.1 ≤ (0 : Int32) then (fX3_canBeAt_b44 io_cells (upd co_open (Int32.toNatClampNeg x2) ((co_open (Int32.toNatClampNeg x2)) - (cC_skill (Int32.toNatClampNeg x1)))) co_sums r7.2.1 r7.2.2 cC_skill x1 x2 (0 : Int32)) else (fX3_canBeAt_b44 io_cells (upd co_open (Int32.toNatClampNeg x2) ((co_open (Int32.toNatClampNeg x2)) - (cC_skill (Int32.toNatClampNeg x1)))) co_sums r7.2.1 r7.2.2 cC_skill x1 x2 (1 : Int32))) else none else none)
set_option maxHeartbeats 400000 in
set_option maxRecDepth 100000 in
theorem kX3_canBeAt (l : Launch) (D : va_G) (Y : Nat → ClassId) (ao aC : Nat → Nat) (io_cells : Int32) (co_amount : Nat → Int32) (co_open : Nat → Int32) (co_sums : Nat → Int32) (co_ways : Nat → Int32) (co_nextWays : Nat → Int32) (iC_size : Int32) (cC_skill : Nat → Int32) (x1 : Int32) (x2 : Int32) (x3 : Int32) (res : Int32 × (Nat → Int32) × (Nat → Int32) × (Nat → Int32)) (hf : fX3_canBeAt io_cells co_open co_sums co_ways co_nextWays cC_skill x1 x2 x3 = some res) : am l D Y yX3_canBeAt wsX3_canBeAt rmX3_canBeAt [.ref (ao 0), .int x1, .int x2, .int x3] [oX3 ao aC io_cells, rI Y (ao 1) 12 co_amount, rI Y (ao 2) 12 co_open, rI Y (ao 3) 256 co_sums, rI Y (ao 4) 256 co_ways, rI Y (ao 5) 256 co_nextWays, oX2 aC iC_size, rI Y (aC 2) 8 cC_skill] 0 0 (fun r9 w9 => r9 = (some (.int res.1)) ∧ ∃ ao_ : Nat → Nat, ao_ 0 = ao 0 ∧ w9 = [oX3 ao_ aC io_cells, rI Y (ao_ 1) 12 co_amount, rI Y (ao_ 2) 12 res.2.1, rI Y (ao_ 3) 256 co_sums, rI Y (ao_ 4) 256 res.2.2.1, rI Y (ao_ 5) 256 res.2.2.2, oX2 aC iC_size, rI Y (aC 2) 8 cC_skill]) := by
  refine am.of (cc := cX3_canBeAt) (maxL := 5) (rt := (some .boolean)) (by decide) rfl RX3 rfl (Nat.le_of_ble_eq_true rfl) [some (.ref (ao 0)), some (.int x1), some (.int x2), some (.int x3), none] rfl ?_
  intro X C hQ
  have hq0 : ao 0 = ao 0 := rfl
  unfold fX3_canBeAt at hf
  refine a_aload_n C dX3_canBeAt_0 rfl ?_
  refine a_get C (eB_X3_31 _) dX3_canBeAt_1 0 rfl rfl ?_
  refine a_iload_n C dX3_canBeAt_4 rfl ?_
  refine a_ishr C dX3_canBeAt_5 ?_
  refine a_iconst C (1 : Int32) dX3_canBeAt_6 (by decide) ?_
  refine a_iand C dX3_canBeAt_7 ?_
  refine a_if_ne C 13 dX3_canBeAt_8 (by decide) (fun h4 => ?_) (fun h4 => ?_)
  · have hf := fx_f h4 hf
    refine a_aload_n C dX3_canBeAt_13 rfl ?_
    refine a_get C (eB_X3_15 _) dX3_canBeAt_14 0 rfl rfl ?_
    refine a_iload_n C dX3_canBeAt_17 rfl ?_
    refine a_dup2 C dX3_canBeAt_18 rfl rfl ?_
    obtain ⟨h5, hf⟩ := fx_ite hf
    refine a_iald C dX3_canBeAt_19 2 rfl h5 ?_
    refine a_aload_n C dX3_canBeAt_20 rfl ?_
    refine a_get C (eB_X3_27 _) dX3_canBeAt_21 0 rfl rfl ?_
    refine a_get C (eB_X3_52 _) dX3_canBeAt_24 6 rfl rfl ?_
    refine a_iload_n C dX3_canBeAt_27 rfl ?_
    obtain ⟨h6, hf⟩ := fx_ite hf
    refine a_iald C dX3_canBeAt_28 7 rfl h6 ?_
    refine a_isub C dX3_canBeAt_29 ?_
    refine a_iast C dX3_canBeAt_30 2 rfl h5 ?_
    refine a_aload_n C dX3_canBeAt_31 rfl ?_
    refine a_iload_n C dX3_canBeAt_32 rfl ?_
    obtain ⟨r7, h7, hf⟩ := fx_bind hf
    refine a_gV C (kX3_fitting l D Y ao aC io_cells co_amount (upd co_open (Int32.toNatClampNeg x2) ((co_open (Int32.toNatClampNeg x2)) - (cC_skill (Int32.toNatClampNeg x1)))) co_sums co_ways co_nextWays x3 r7 h7) (gB_X3_83 _) rfl dvX3_fitting ⟨⟨rfl, rfl⟩, ⟨Nat.le_of_ble_eq_true rfl, Nat.le_of_ble_eq_true rfl⟩, ⟨Nat.le_of_ble_eq_true rfl, Nat.le_of_ble_eq_true rfl⟩⟩ rfl (Nat.le_of_ble_eq_true rfl) dX3_canBeAt_33 rfl rfl [0, 1, 2, 3, 4, 5] [6, 7] ⟨rfl, rfl, rfl, rfl, rfl, rfl, trivial⟩ (by decide +kernel) [oX2 aC iC_size, rI Y (aC 2) 8 cC_skill] ⟨rfl, rfl, trivial⟩ (by decide +kernel) (by decide +kernel) ?_
    rintro _ _ ⟨rfl, ao, hA, rfl⟩
    rw [← hA]
    have hq0 := hA.trans hq0
    refine a_perm [2, 3, 4, 5, 6, 7, 0, 1] [oX3 ao aC io_cells, rI Y (ao 1) 12 co_amount, rI Y (ao 2) 12 (upd co_open (Int32.toNatClampNeg x2) ((co_open (Int32.toNatClampNeg x2)) - (cC_skill (Int32.toNatClampNeg x1)))), rI Y (ao 3) 256 co_sums, rI Y (ao 4) 256 r7.2.1, rI Y (ao 5) 256 r7.2.2, oX2 aC iC_size, rI Y (aC 2) 8 cC_skill] ⟨rfl, rfl, rfl, rfl, rfl, rfl, rfl, rfl, trivial⟩ (by decide +kernel) ?_
    refine a_if_le C 43 dX3_canBeAt_36 (by decide) (fun h8 => ?_) (fun h8 => ?_)
    · have hf := fx_t h8 hf
      refine a_iconst C (0 : Int32) dX3_canBeAt_43 (by decide) ?_
      refine a_kill [3] ?_
      exact kX3_canBeAt_b44 C hQ hq0 hf
    · have hf := fx_f h8 hf
      refine a_iconst C (1 : Int32) dX3_canBeAt_39 (by decide) ?_
      refine a_goto C 44 dX3_canBeAt_40 (by decide) ?_
      refine a_kill [3] ?_
      exact kX3_canBeAt_b44 C hQ hq0 hf
  · have hf := fx_t h4 hf
    refine a_iconst C (0 : Int32) dX3_canBeAt_11 (by decide) ?_
    obtain rfl := fx_some hf
    exact a_zret C hQ (Or.inl rfl) dX3_canBeAt_12 ⟨rfl, ao, hq0, rfl⟩
-- X3_cellsOf
abbrev rmX3_cellsOf : Room := { frames := 4, cells := 0, slots := 0, locals := 95 }
theorem dvX3_cellsOf : yX3_cellsOf.cls = RX3 ∧ yX3_cellsOf.cls ≠ "java/lang/invoke/MethodHandle" ∧ yX3_cellsOf.cls ≠ "java/lang/invoke/VarHandle" ∧ (parseMethodDescriptor yX3_cellsOf.desc).map (fun d => d.parameters.length) = some 2 := by decide +kernel
def fX3_cellsOf_b36 (io_cells : Int32) (co_open : Nat → Int32) (co_sums : Nat → Int32) (co_ways : Nat → Int32) (co_nextWays : Nat → Int32) (cC_skill : Nat → Int32) (x3 : Int32) : Option (Int32 × (Nat → Int32) × (Nat → Int32) × (Nat → Int32)) :=
  some (x3, co_open, co_ways, co_nextWays)
set_option maxHeartbeats 400000 in
set_option maxRecDepth 100000 in
theorem kX3_cellsOf_b36 {X : cxT} {l : Launch} {D : va_G} {Y : Nat → ClassId} {ao aC : Nat → Nat} {io_cells : Int32} {co_amount : Nat → Int32} {co_open : Nat → Int32} {co_sums : Nat → Int32} {co_ways : Nat → Int32} {co_nextWays : Nat → Int32} {iC_size : Int32} {cC_skill : Nat → Int32} {x3 : Int32} {res : Int32 × (Nat → Int32) × (Nat → Int32) × (Nat → Int32)} (C : axC X l D Y cX3_cellsOf 5 RX3 wsX3_cellsOf rmX3_cellsOf (some .int)) {q0 : Nat} (hQ : axQ X 0 0 (fun r9 w9 => r9 = (some (.int res.1)) ∧ ∃ ao_ : Nat → Nat, ao_ 0 = q0 ∧ w9 = [oX3 ao_ aC io_cells, rI Y (ao_ 1) 12 co_amount, rI Y (ao_ 2) 12 res.2.1, rI Y (ao_ 3) 256 co_sums, rI Y (ao_ 4) 256 res.2.2.1, rI Y (ao_ 5) 256 res.2.2.2, oX2 aC iC_size, rI Y (aC 2) 8 cC_skill])) (hq0 : ao 0 = q0) (hf : fX3_cellsOf_b36 io_cells co_open co_sums co_ways co_nextWays cC_skill x3 = some res) : ax X 0 0 36 [none, none, none, some (.int x3), none] [oX3 ao aC io_cells, rI Y (ao 1) 12 co_amount, rI Y (ao 2) 12 co_open, rI Y (ao 3) 256 co_sums, rI Y (ao 4) 256 co_ways, rI Y (ao 5) 256 co_nextWays, oX2 aC iC_size, rI Y (aC 2) 8 cC_skill] [] := by
  unfold fX3_cellsOf_b36 at hf
  refine a_iload_n C dX3_cellsOf_36 rfl ?_
  obtain rfl := fx_some hf
  exact a_iret C hQ dX3_cellsOf_37 ⟨rfl, ao, hq0, rfl⟩
def fX3_cellsOf_b30 (io_cells : Int32) (co_open : Nat → Int32) (co_sums : Nat → Int32) (co_ways : Nat → Int32) (co_nextWays : Nat → Int32) (cC_skill : Nat → Int32) (x1 : Int32) (x2 : Int32) (x3 : Int32) (x4 : Int32) (k5 : (Nat → Int32) × (Nat → Int32) × (Nat → Int32) × Int32 × Int32 → Option (Int32 × (Nat → Int32) × (Nat → Int32) × (Nat → Int32))) : Option (Int32 × (Nat → Int32) × (Nat → Int32) × (Nat → Int32)) :=
  k5 (co_open, co_ways, co_nextWays, x3, (x4 + (1 : Int32)))
set_option maxHeartbeats 400000 in
set_option maxRecDepth 100000 in
theorem kX3_cellsOf_b30 {X : cxT} {l : Launch} {D : va_G} {Y : Nat → ClassId} {ao aC : Nat → Nat} {io_cells : Int32} {co_amount : Nat → Int32} {co_open : Nat → Int32} {co_sums : Nat → Int32} {co_ways : Nat → Int32} {co_nextWays : Nat → Int32} {iC_size : Int32} {cC_skill : Nat → Int32} {x1 : Int32} {x2 : Int32} {x3 : Int32} {x4 : Int32} {res : Int32 × (Nat → Int32) × (Nat → Int32) × (Nat → Int32)} (C : axC X l D Y cX3_cellsOf 5 RX3 wsX3_cellsOf rmX3_cellsOf (some .int)) {q0 : Nat} (hQ : axQ X 0 0 (fun r9 w9 => r9 = (some (.int res.1)) ∧ ∃ ao_ : Nat → Nat, ao_ 0 = q0 ∧ w9 = [oX3 ao_ aC io_cells, rI Y (ao_ 1) 12 co_amount, rI Y (ao_ 2) 12 res.2.1, rI Y (ao_ 3) 256 co_sums, rI Y (ao_ 4) 256 res.2.2.1, rI Y (ao_ 5) 256 res.2.2.2, oX2 aC iC_size, rI Y (aC 2) 8 cC_skill])) (hq0 : ao 0 = q0) {k5 : (Nat → Int32) × (Nat → Int32) × (Nat → Int32) × Int32 × Int32 → Option (Int32 × (Nat → Int32) × (Nat → Int32) × (Nat → Int32))} (hk5 : ∀ s : (Nat → Int32) × (Nat → Int32) × (Nat → Int32) × Int32 × Int32, k5 s = some res → ∀ ao : Nat → Nat, ao 0 = q0 → ax X 0 0 5 [some (.ref (ao 0)), some (.int x1), some (.int x2), some (.int s.2.2.2.1), some (.int s.2.2.2.2)] [oX3 ao aC io_cells, rI Y (ao 1) 12 co_amount, rI Y (ao 2) 12 s.1, rI Y (ao 3) 256 co_sums, rI Y (ao 4) 256 s.2.1, rI Y (ao 5) 256 s.2.2.1, oX2 aC iC_size, rI Y (aC 2) 8 cC_skill] []) (hf : fX3_cellsOf_b30 io_cells co_open co_sums co_ways co_nextWays cC_skill x1 x2 x3 x4 k5 = some res) : ax X 0 0 30 [some (.ref (ao 0)), some (.int x1), some (.int x2), some (.int x3), some (.int x4)] [oX3 ao aC io_cells, rI Y (ao 1) 12 co_amount, rI Y (ao 2) 12 co_open, rI Y (ao 3) 256 co_sums, rI Y (ao 4) 256 co_ways, rI Y (ao 5) 256 co_nextWays, oX2 aC iC_size, rI Y (aC 2) 8 cC_skill] [] := by
  unfold fX3_cellsOf_b30 at hf
  refine a_iinc C (1 : Int32) dX3_cellsOf_30 (by decide) rfl (by decide) rfl ?_
  refine a_goto C 5 dX3_cellsOf_33 (by decide) ?_
  exact hk5 (co_open, co_ways, co_nextWays, x3, (x4 + (1 : Int32))) hf _ hq0
def fX3_cellsOf_l5 (io_cells : Int32) (co_sums : Nat → Int32) (cC_skill : Nat → Int32) (x1 : Int32) (x2 : Int32) (k5 : (Nat → Int32) × (Nat → Int32) × (Nat → Int32) × Int32 × Int32 → Option (Int32 × (Nat → Int32) × (Nat → Int32) × (Nat → Int32))) (co_open : Nat → Int32) (co_ways : Nat → Int32) (co_nextWays : Nat → Int32) (x3 : Int32) (x4 : Int32) : Option (Int32 × (Nat → Int32) × (Nat → Int32) × (Nat → Int32)) :=
  if (12 : Int32) ≤ x4 then (fX3_cellsOf_b36 io_cells co_open co_sums co_ways co_nextWays cC_skill x3) else ((fX3_canBeAt io_cells co_open co_sums co_ways co_nextWays cC_skill x1 x4 x2).bind (fun r2 => if r2.1 = (0 : Int32) then (fX3_cellsOf_b30 io_cells r2.2.1 co_sums r2.2.2.1 r2.2.2.2 cC_skill x1 x2 x3 x4 k5) else (fX3_cellsOf_b30 io_cells r2.2.1 co_sums r2.2.2.1 r2.2.2.2 cC_skill x1 x2 (x3 ||| (jshl (1 : Int32) x4)) x4 k5)))
def fX3_cellsOf_b5 (io_cells : Int32) (co_open : Nat → Int32) (co_sums : Nat → Int32) (co_ways : Nat → Int32) (co_nextWays : Nat → Int32) (cC_skill : Nat → Int32) (x1 : Int32) (x2 : Int32) (x3 : Int32) (x4 : Int32) : Option (Int32 × (Nat → Int32) × (Nat → Int32) × (Nat → Int32)) :=
  loopN (fun (s : (Nat → Int32) × (Nat → Int32) × (Nat → Int32) × Int32 × Int32) k5 => fX3_cellsOf_l5 io_cells co_sums cC_skill x1 x2 k5 s.1 s.2.1 s.2.2.1 s.2.2.2.1 s.2.2.2.2) FUEL (co_open, co_ways, co_nextWays, x3, x4)
set_option maxHeartbeats 400000 in
set_option maxRecDepth 100000 in
theorem kX3_cellsOf_l5 {X : cxT} {l : Launch} {D : va_G} {Y : Nat → ClassId} {ao aC : Nat → Nat} {io_cells : Int32} {co_amount : Nat → Int32} {co_open : Nat → Int32} {co_sums : Nat → Int32} {co_ways : Nat → Int32} {co_nextWays : Nat → Int32} {iC_size : Int32} {cC_skill : Nat → Int32} {x1 : Int32} {x2 : Int32} {x3 : Int32} {x4 : Int32} {res : Int32 × (Nat → Int32) × (Nat → Int32) × (Nat → Int32)} (C : axC X l D Y cX3_cellsOf 5 RX3 wsX3_cellsOf rmX3_cellsOf (some .int)) {q0 : Nat} (hQ : axQ X 0 0 (fun r9 w9 => r9 = (some (.int res.1)) ∧ ∃ ao_ : Nat → Nat, ao_ 0 = q0 ∧ w9 = [oX3 ao_ aC io_cells, rI Y (ao_ 1) 12 co_amount, rI Y (ao_ 2) 12 res.2.1, rI Y (ao_ 3) 256 co_sums, rI Y (ao_ 4) 256 res.2.2.1, rI Y (ao_ 5) 256 res.2.2.2, oX2 aC iC_size, rI Y (aC 2) 8 cC_skill])) (hq0 : ao 0 = q0) {k5 : (Nat → Int32) × (Nat → Int32) × (Nat → Int32) × Int32 × Int32 → Option (Int32 × (Nat → Int32) × (Nat → Int32) × (Nat → Int32))} (hk5 : ∀ s : (Nat → Int32) × (Nat → Int32) × (Nat → Int32) × Int32 × Int32, k5 s = some res → ∀ ao : Nat → Nat, ao 0 = q0 → ax X 0 0 5 [some (.ref (ao 0)), some (.int x1), some (.int x2), some (.int s.2.2.2.1), some (.int s.2.2.2.2)] [oX3 ao aC io_cells, rI Y (ao 1) 12 co_amount, rI Y (ao 2) 12 s.1, rI Y (ao 3) 256 co_sums, rI Y (ao 4) 256 s.2.1, rI Y (ao 5) 256 s.2.2.1, oX2 aC iC_size, rI Y (aC 2) 8 cC_skill] []) (hf : fX3_cellsOf_l5 io_cells co_sums cC_skill x1 x2 k5 co_open co_ways co_nextWays x3 x4 = some res) : ax X 0 0 5 [some (.ref (ao 0)), some (.int x1), some (.int x2), some (.int x3), some (.int x4)] [oX3 ao aC io_cells, rI Y (ao 1) 12 co_amount, rI Y (ao 2) 12 co_open, rI Y (ao 3) 256 co_sums, rI Y (ao 4) 256 co_ways, rI Y (ao 5) 256 co_nextWays, oX2 aC iC_size, rI Y (aC 2) 8 cC_skill] [] := by
  unfold fX3_cellsOf_l5 at hf
  refine a_iload C dX3_cellsOf_5 rfl ?_
  refine a_bipush C (12 : Int32) dX3_cellsOf_7 (by decide) ?_
  refine a_icmp_ge C 36 dX3_cellsOf_9 (by decide) (fun h1 => ?_) (fun h1 => ?_)
  · have hf := fx_t h1 hf
    refine a_kill [0, 1, 2, 4] ?_
    exact kX3_cellsOf_b36 C hQ hq0 hf
  · have hf := fx_f h1 hf
    refine a_aload_n C dX3_cellsOf_12 rfl ?_
    refine a_iload_n C dX3_cellsOf_13 rfl ?_
    refine a_iload C dX3_cellsOf_14 rfl ?_
    refine a_iload_n C dX3_cellsOf_16 rfl ?_
    obtain ⟨r2, h2, hf⟩ := fx_bind hf
    refine a_gV C (kX3_canBeAt l D Y ao aC io_cells co_amount co_open co_sums co_ways co_nextWays iC_size cC_skill x1 x4 x2 r2 h2) (gB_X3_86 _) rfl dvX3_canBeAt ⟨⟨rfl, rfl⟩, ⟨Nat.le_of_ble_eq_true rfl, Nat.le_of_ble_eq_true rfl⟩, ⟨Nat.le_of_ble_eq_true rfl, Nat.le_of_ble_eq_true rfl⟩⟩ rfl (Nat.le_of_ble_eq_true rfl) dX3_cellsOf_17 rfl rfl [0, 1, 2, 3, 4, 5, 6, 7] [] ⟨rfl, rfl, rfl, rfl, rfl, rfl, rfl, rfl, trivial⟩ (by decide +kernel) [] trivial (by decide +kernel) (by decide +kernel) ?_
    rintro _ _ ⟨rfl, ao, hA, rfl⟩
    rw [← hA]
    have hq0 := hA.trans hq0
    refine a_perm [0, 1, 2, 3, 4, 5, 6, 7] [oX3 ao aC io_cells, rI Y (ao 1) 12 co_amount, rI Y (ao 2) 12 r2.2.1, rI Y (ao 3) 256 co_sums, rI Y (ao 4) 256 r2.2.2.1, rI Y (ao 5) 256 r2.2.2.2, oX2 aC iC_size, rI Y (aC 2) 8 cC_skill] ⟨rfl, rfl, rfl, rfl, rfl, rfl, rfl, rfl, trivial⟩ (by decide +kernel) ?_
    refine a_if_eq C 30 dX3_cellsOf_20 (by decide) (fun h3 => ?_) (fun h3 => ?_)
    · have hf := fx_t h3 hf
      exact kX3_cellsOf_b30 C hQ hq0 hk5 hf
    · have hf := fx_f h3 hf
      refine a_iload_n C dX3_cellsOf_23 rfl ?_
      refine a_iconst C (1 : Int32) dX3_cellsOf_24 (by decide) ?_
      refine a_iload C dX3_cellsOf_25 rfl ?_
      refine a_ishl C dX3_cellsOf_27 ?_
      refine a_ior C dX3_cellsOf_28 ?_
      refine a_istore_n C dX3_cellsOf_29 (by decide) rfl ?_
      exact kX3_cellsOf_b30 C hQ hq0 hk5 hf
set_option maxHeartbeats 400000 in
set_option maxRecDepth 100000 in
theorem kX3_cellsOf_b5 {X : cxT} {l : Launch} {D : va_G} {Y : Nat → ClassId} {ao aC : Nat → Nat} {io_cells : Int32} {co_amount : Nat → Int32} {co_open : Nat → Int32} {co_sums : Nat → Int32} {co_ways : Nat → Int32} {co_nextWays : Nat → Int32} {iC_size : Int32} {cC_skill : Nat → Int32} {x1 : Int32} {x2 : Int32} {x3 : Int32} {x4 : Int32} {res : Int32 × (Nat → Int32) × (Nat → Int32) × (Nat → Int32)} (C : axC X l D Y cX3_cellsOf 5 RX3 wsX3_cellsOf rmX3_cellsOf (some .int)) {q0 : Nat} (hQ : axQ X 0 0 (fun r9 w9 => r9 = (some (.int res.1)) ∧ ∃ ao_ : Nat → Nat, ao_ 0 = q0 ∧ w9 = [oX3 ao_ aC io_cells, rI Y (ao_ 1) 12 co_amount, rI Y (ao_ 2) 12 res.2.1, rI Y (ao_ 3) 256 co_sums, rI Y (ao_ 4) 256 res.2.2.1, rI Y (ao_ 5) 256 res.2.2.2, oX2 aC iC_size, rI Y (aC 2) 8 cC_skill])) (hq0 : ao 0 = q0) (hf : fX3_cellsOf_b5 io_cells co_open co_sums co_ways co_nextWays cC_skill x1 x2 x3 x4 = some res) : ax X 0 0 5 [some (.ref (ao 0)), some (.int x1), some (.int x2), some (.int x3), some (.int x4)] [oX3 ao aC io_cells, rI Y (ao 1) 12 co_amount, rI Y (ao 2) 12 co_open, rI Y (ao 3) 256 co_sums, rI Y (ao 4) 256 co_ways, rI Y (ao 5) 256 co_nextWays, oX2 aC iC_size, rI Y (aC 2) 8 cC_skill] [] := by
  unfold fX3_cellsOf_b5 at hf
  exact fx_loop (P := fun s : (Nat → Int32) × (Nat → Int32) × (Nat → Int32) × Int32 × Int32 => ∀ ao : Nat → Nat, ao 0 = q0 → ax X 0 0 5 [some (.ref (ao 0)), some (.int x1), some (.int x2), some (.int s.2.2.2.1), some (.int s.2.2.2.2)] [oX3 ao aC io_cells, rI Y (ao 1) 12 co_amount, rI Y (ao 2) 12 s.1, rI Y (ao 3) 256 co_sums, rI Y (ao 4) 256 s.2.1, rI Y (ao 5) 256 s.2.2.1, oX2 aC iC_size, rI Y (aC 2) 8 cC_skill] []) (fun s k5 hk5 h ao hq0 => kX3_cellsOf_l5 C hQ hq0 hk5 h) FUEL (co_open, co_ways, co_nextWays, x3, x4) hf _ hq0
def fX3_cellsOf (io_cells : Int32) (co_open : Nat → Int32) (co_sums : Nat → Int32) (co_ways : Nat → Int32) (co_nextWays : Nat → Int32) (cC_skill : Nat → Int32) (x1 : Int32) (x2 : Int32) : Option (Int32 × (Nat → Int32) × (Nat → Int32) × (Nat → Int32)) :=
  fX3_cellsOf_b5 io_cells co_open co_sums co_ways co_nextWays cC_skill x1 x2 (0 : Int32) (0 : Int32)
set_option maxHeartbeats 400000 in
set_option maxRecDepth 100000 in
theorem kX3_cellsOf (l : Launch) (D : va_G) (Y : Nat → ClassId) (ao aC : Nat → Nat) (io_cells : Int32) (co_amount : Nat → Int32) (co_open : Nat → Int32) (co_sums : Nat → Int32) (co_ways : Nat → Int32) (co_nextWays : Nat → Int32) (iC_size : Int32) (cC_skill : Nat → Int32) (x1 : Int32) (x2 : Int32) (res : Int32 × (Nat → Int32) × (Nat → Int32) × (Nat → Int32)) (hf : fX3_cellsOf io_cells co_open co_sums co_ways co_nextWays cC_skill x1 x2 = some res) : am l D Y yX3_cellsOf wsX3_cellsOf rmX3_cellsOf [.ref (ao 0), .int x1, .int x2] [oX3 ao aC io_cells, rI Y (ao 1) 12 co_amount, rI Y (ao 2) 12 co_open, rI Y (ao 3) 256 co_sums, rI Y (ao 4) 256 co_ways, rI Y (ao 5) 256 co_nextWays, oX2 aC iC_size, rI Y (aC 2) 8 cC_skill] 0 0 (fun r9 w9 => r9 = (some (.int res.1)) ∧ ∃ ao_ : Nat → Nat, ao_ 0 = ao 0 ∧ w9 = [oX3 ao_ aC io_cells, rI Y (ao_ 1) 12 co_amount, rI Y (ao_ 2) 12 res.2.1, rI Y (ao_ 3) 256 co_sums, rI Y (ao_ 4) 256 res.2.2.1, rI Y (ao_ 5) 256 res.2.2.2, oX2 aC iC_size, rI Y (aC 2) 8 cC_skill]) := by
  refine am.of (cc := cX3_cellsOf) (maxL := 5) (rt := (some .int)) (by decide) rfl RX3 rfl (Nat.le_of_ble_eq_true rfl) [some (.ref (ao 0)), some (.int x1), some (.int x2), none, none] rfl ?_
  intro X C hQ
  have hq0 : ao 0 = ao 0 := rfl
  unfold fX3_cellsOf at hf
  refine a_iconst C (0 : Int32) dX3_cellsOf_0 (by decide) ?_
  refine a_istore_n C dX3_cellsOf_1 (by decide) rfl ?_
  refine a_iconst C (0 : Int32) dX3_cellsOf_2 (by decide) ?_
  refine a_istore C dX3_cellsOf_3 (by decide) rfl ?_
  exact kX3_cellsOf_b5 C hQ hq0 hf
-- X3_leastOf
abbrev rmX3_leastOf : Room := { frames := 4, cells := 0, slots := 0, locals := 95 }
theorem dvX3_leastOf : yX3_leastOf.cls = RX3 ∧ yX3_leastOf.cls ≠ "java/lang/invoke/MethodHandle" ∧ yX3_leastOf.cls ≠ "java/lang/invoke/VarHandle" ∧ (parseMethodDescriptor yX3_leastOf.desc).map (fun d => d.parameters.length) = some 2 := by decide +kernel
def fX3_leastOf_b54 (io_cells : Int32) (co_open : Nat → Int32) (co_sums : Nat → Int32) (co_ways : Nat → Int32) (co_nextWays : Nat → Int32) (cC_skill : Nat → Int32) : Option (Int32 × (Nat → Int32) × (Nat → Int32) × (Nat → Int32)) :=
  some ((-1 : Int32), co_open, co_ways, co_nextWays)
set_option maxHeartbeats 400000 in
set_option maxRecDepth 100000 in
theorem kX3_leastOf_b54 {X : cxT} {l : Launch} {D : va_G} {Y : Nat → ClassId} {ao aC : Nat → Nat} {io_cells : Int32} {co_amount : Nat → Int32} {co_open : Nat → Int32} {co_sums : Nat → Int32} {co_ways : Nat → Int32} {co_nextWays : Nat → Int32} {iC_size : Int32} {cC_skill : Nat → Int32} {res : Int32 × (Nat → Int32) × (Nat → Int32) × (Nat → Int32)} (C : axC X l D Y cX3_leastOf 4 RX3 wsX3_leastOf rmX3_leastOf (some .int)) {q0 : Nat} (hQ : axQ X 0 0 (fun r9 w9 => r9 = (some (.int res.1)) ∧ ∃ ao_ : Nat → Nat, ao_ 0 = q0 ∧ w9 = [oX3 ao_ aC io_cells, rI Y (ao_ 1) 12 co_amount, rI Y (ao_ 2) 12 res.2.1, rI Y (ao_ 3) 256 co_sums, rI Y (ao_ 4) 256 res.2.2.1, rI Y (ao_ 5) 256 res.2.2.2, oX2 aC iC_size, rI Y (aC 2) 8 cC_skill])) (hq0 : ao 0 = q0) (hf : fX3_leastOf_b54 io_cells co_open co_sums co_ways co_nextWays cC_skill = some res) : ax X 0 0 54 [none, none, none, none] [oX3 ao aC io_cells, rI Y (ao 1) 12 co_amount, rI Y (ao 2) 12 co_open, rI Y (ao 3) 256 co_sums, rI Y (ao 4) 256 co_ways, rI Y (ao 5) 256 co_nextWays, oX2 aC iC_size, rI Y (aC 2) 8 cC_skill] [] := by
  unfold fX3_leastOf_b54 at hf
  refine a_iconst C (-1 : Int32) dX3_leastOf_54 (by decide) ?_
  obtain rfl := fx_some hf
  exact a_iret C hQ dX3_leastOf_55 ⟨rfl, ao, hq0, rfl⟩
def fX3_leastOf_b28 (io_cells : Int32) (co_open : Nat → Int32) (co_sums : Nat → Int32) (co_ways : Nat → Int32) (co_nextWays : Nat → Int32) (cC_skill : Nat → Int32) (x1 : Int32) (x3 : Int32) : Option (Int32 × (Nat → Int32) × (Nat → Int32) × (Nat → Int32)) :=
  if inb x3 12 then if inb x1 8 then some (x3, (upd co_open (Int32.toNatClampNeg x3) ((co_open (Int32.toNatClampNeg x3)) - (cC_skill (Int32.toNatClampNeg x1)))), co_ways, co_nextWays) else none else none
set_option maxHeartbeats 400000 in
set_option maxRecDepth 100000 in
theorem kX3_leastOf_b28 {X : cxT} {l : Launch} {D : va_G} {Y : Nat → ClassId} {ao aC : Nat → Nat} {io_cells : Int32} {co_amount : Nat → Int32} {co_open : Nat → Int32} {co_sums : Nat → Int32} {co_ways : Nat → Int32} {co_nextWays : Nat → Int32} {iC_size : Int32} {cC_skill : Nat → Int32} {x1 : Int32} {x3 : Int32} {res : Int32 × (Nat → Int32) × (Nat → Int32) × (Nat → Int32)} (C : axC X l D Y cX3_leastOf 4 RX3 wsX3_leastOf rmX3_leastOf (some .int)) {q0 : Nat} (hQ : axQ X 0 0 (fun r9 w9 => r9 = (some (.int res.1)) ∧ ∃ ao_ : Nat → Nat, ao_ 0 = q0 ∧ w9 = [oX3 ao_ aC io_cells, rI Y (ao_ 1) 12 co_amount, rI Y (ao_ 2) 12 res.2.1, rI Y (ao_ 3) 256 co_sums, rI Y (ao_ 4) 256 res.2.2.1, rI Y (ao_ 5) 256 res.2.2.2, oX2 aC iC_size, rI Y (aC 2) 8 cC_skill])) (hq0 : ao 0 = q0) (hf : fX3_leastOf_b28 io_cells co_open co_sums co_ways co_nextWays cC_skill x1 x3 = some res) : ax X 0 0 28 [some (.ref (ao 0)), some (.int x1), none, some (.int x3)] [oX3 ao aC io_cells, rI Y (ao 1) 12 co_amount, rI Y (ao 2) 12 co_open, rI Y (ao 3) 256 co_sums, rI Y (ao 4) 256 co_ways, rI Y (ao 5) 256 co_nextWays, oX2 aC iC_size, rI Y (aC 2) 8 cC_skill] [] := by
  unfold fX3_leastOf_b28 at hf
  refine a_aload_n C dX3_leastOf_28 rfl ?_
  refine a_get C (eB_X3_15 _) dX3_leastOf_29 0 rfl rfl ?_
  refine a_iload_n C dX3_leastOf_32 rfl ?_
  refine a_dup2 C dX3_leastOf_33 rfl rfl ?_
  obtain ⟨h1, hf⟩ := fx_ite hf
  refine a_iald C dX3_leastOf_34 2 rfl h1 ?_
  refine a_aload_n C dX3_leastOf_35 rfl ?_
  refine a_get C (eB_X3_27 _) dX3_leastOf_36 0 rfl rfl ?_
  refine a_get C (eB_X3_52 _) dX3_leastOf_39 6 rfl rfl ?_
  refine a_iload_n C dX3_leastOf_42 rfl ?_
  obtain ⟨h2, hf⟩ := fx_ite hf
  refine a_iald C dX3_leastOf_43 7 rfl h2 ?_
  refine a_isub C dX3_leastOf_44 ?_
  refine a_iast C dX3_leastOf_45 2 rfl h1 ?_
  refine a_iload_n C dX3_leastOf_46 rfl ?_
  obtain rfl := fx_some hf
  exact a_iret C hQ dX3_leastOf_47 ⟨rfl, ao, hq0, rfl⟩
def fX3_leastOf_l12 (io_cells : Int32) (co_sums : Nat → Int32) (cC_skill : Nat → Int32) (x1 : Int32) (x2 : Int32) (k12 : (Nat → Int32) × (Nat → Int32) × (Nat → Int32) × Int32 → Option (Int32 × (Nat → Int32) × (Nat → Int32) × (Nat → Int32))) (co_open : Nat → Int32) (co_ways : Nat → Int32) (co_nextWays : Nat → Int32) (x3 : Int32) : Option (Int32 × (Nat → Int32) × (Nat → Int32) × (Nat → Int32)) :=
  if (12 : Int32) ≤ x3 then (fX3_leastOf_b54 io_cells co_open co_sums co_ways co_nextWays cC_skill) else ((fX3_canBeAt io_cells co_open co_sums co_ways co_nextWays cC_skill x1 x3 x2).bind (fun r4 => if r4.1 = (0 : Int32) then (k12 (r4.2.1, r4.2.2.1, r4.2.2.2, (x3 + (1 : Int32)))) else (fX3_leastOf_b28 io_cells r4.2.1 co_sums r4.2.2.1 r4.2.2.2 cC_skill x1 x3)))
def fX3_leastOf_b12 (io_cells : Int32) (co_open : Nat → Int32) (co_sums : Nat → Int32) (co_ways : Nat → Int32) (co_nextWays : Nat → Int32) (cC_skill : Nat → Int32) (x1 : Int32) (x2 : Int32) (x3 : Int32) : Option (Int32 × (Nat → Int32) × (Nat → Int32) × (Nat → Int32)) :=
  loopN (fun (s : (Nat → Int32) × (Nat → Int32) × (Nat → Int32) × Int32) k12 => fX3_leastOf_l12 io_cells co_sums cC_skill x1 x2 k12 s.1 s.2.1 s.2.2.1 s.2.2.2) FUEL (co_open, co_ways, co_nextWays, x3)
set_option maxHeartbeats 400000 in
set_option maxRecDepth 100000 in
theorem kX3_leastOf_l12 {X : cxT} {l : Launch} {D : va_G} {Y : Nat → ClassId} {ao aC : Nat → Nat} {io_cells : Int32} {co_amount : Nat → Int32} {co_open : Nat → Int32} {co_sums : Nat → Int32} {co_ways : Nat → Int32} {co_nextWays : Nat → Int32} {iC_size : Int32} {cC_skill : Nat → Int32} {x1 : Int32} {x2 : Int32} {x3 : Int32} {res : Int32 × (Nat → Int32) × (Nat → Int32) × (Nat → Int32)} (C : axC X l D Y cX3_leastOf 4 RX3 wsX3_leastOf rmX3_leastOf (some .int)) {q0 : Nat} (hQ : axQ X 0 0 (fun r9 w9 => r9 = (some (.int res.1)) ∧ ∃ ao_ : Nat → Nat, ao_ 0 = q0 ∧ w9 = [oX3 ao_ aC io_cells, rI Y (ao_ 1) 12 co_amount, rI Y (ao_ 2) 12 res.2.1, rI Y (ao_ 3) 256 co_sums, rI Y (ao_ 4) 256 res.2.2.1, rI Y (ao_ 5) 256 res.2.2.2, oX2 aC iC_size, rI Y (aC 2) 8 cC_skill])) (hq0 : ao 0 = q0) {k12 : (Nat → Int32) × (Nat → Int32) × (Nat → Int32) × Int32 → Option (Int32 × (Nat → Int32) × (Nat → Int32) × (Nat → Int32))} (hk12 : ∀ s : (Nat → Int32) × (Nat → Int32) × (Nat → Int32) × Int32, k12 s = some res → ∀ ao : Nat → Nat, ao 0 = q0 → ax X 0 0 12 [some (.ref (ao 0)), some (.int x1), some (.int x2), some (.int s.2.2.2)] [oX3 ao aC io_cells, rI Y (ao 1) 12 co_amount, rI Y (ao 2) 12 s.1, rI Y (ao 3) 256 co_sums, rI Y (ao 4) 256 s.2.1, rI Y (ao 5) 256 s.2.2.1, oX2 aC iC_size, rI Y (aC 2) 8 cC_skill] []) (hf : fX3_leastOf_l12 io_cells co_sums cC_skill x1 x2 k12 co_open co_ways co_nextWays x3 = some res) : ax X 0 0 12 [some (.ref (ao 0)), some (.int x1), some (.int x2), some (.int x3)] [oX3 ao aC io_cells, rI Y (ao 1) 12 co_amount, rI Y (ao 2) 12 co_open, rI Y (ao 3) 256 co_sums, rI Y (ao 4) 256 co_ways, rI Y (ao 5) 256 co_nextWays, oX2 aC iC_size, rI Y (aC 2) 8 cC_skill] [] := by
  unfold fX3_leastOf_l12 at hf
  refine a_iload_n C dX3_leastOf_12 rfl ?_
  refine a_bipush C (12 : Int32) dX3_leastOf_13 (by decide) ?_
  refine a_icmp_ge C 54 dX3_leastOf_15 (by decide) (fun h3 => ?_) (fun h3 => ?_)
  · have hf := fx_t h3 hf
    refine a_kill [0, 1, 2, 3] ?_
    exact kX3_leastOf_b54 C hQ hq0 hf
  · have hf := fx_f h3 hf
    refine a_aload_n C dX3_leastOf_18 rfl ?_
    refine a_iload_n C dX3_leastOf_19 rfl ?_
    refine a_iload_n C dX3_leastOf_20 rfl ?_
    refine a_iload_n C dX3_leastOf_21 rfl ?_
    obtain ⟨r4, h4, hf⟩ := fx_bind hf
    refine a_gV C (kX3_canBeAt l D Y ao aC io_cells co_amount co_open co_sums co_ways co_nextWays iC_size cC_skill x1 x3 x2 r4 h4) (gB_X3_86 _) rfl dvX3_canBeAt ⟨⟨rfl, rfl⟩, ⟨Nat.le_of_ble_eq_true rfl, Nat.le_of_ble_eq_true rfl⟩, ⟨Nat.le_of_ble_eq_true rfl, Nat.le_of_ble_eq_true rfl⟩⟩ rfl (Nat.le_of_ble_eq_true rfl) dX3_leastOf_22 rfl rfl [0, 1, 2, 3, 4, 5, 6, 7] [] ⟨rfl, rfl, rfl, rfl, rfl, rfl, rfl, rfl, trivial⟩ (by decide +kernel) [] trivial (by decide +kernel) (by decide +kernel) ?_
    rintro _ _ ⟨rfl, ao, hA, rfl⟩
    rw [← hA]
    have hq0 := hA.trans hq0
    refine a_perm [0, 1, 2, 3, 4, 5, 6, 7] [oX3 ao aC io_cells, rI Y (ao 1) 12 co_amount, rI Y (ao 2) 12 r4.2.1, rI Y (ao 3) 256 co_sums, rI Y (ao 4) 256 r4.2.2.1, rI Y (ao 5) 256 r4.2.2.2, oX2 aC iC_size, rI Y (aC 2) 8 cC_skill] ⟨rfl, rfl, rfl, rfl, rfl, rfl, rfl, rfl, trivial⟩ (by decide +kernel) ?_
    refine a_if_eq C 48 dX3_leastOf_25 (by decide) (fun h5 => ?_) (fun h5 => ?_)
    · have hf := fx_t h5 hf
      refine a_iinc C (1 : Int32) dX3_leastOf_48 (by decide) rfl (by decide) rfl ?_
      refine a_goto C 12 dX3_leastOf_51 (by decide) ?_
      exact hk12 (r4.2.1, r4.2.2.1, r4.2.2.2, (x3 + (1 : Int32))) hf _ hq0
    · have hf := fx_f h5 hf
      refine a_kill [2] ?_
      exact kX3_leastOf_b28 C hQ hq0 hf
set_option maxHeartbeats 400000 in
set_option maxRecDepth 100000 in
theorem kX3_leastOf_b12 {X : cxT} {l : Launch} {D : va_G} {Y : Nat → ClassId} {ao aC : Nat → Nat} {io_cells : Int32} {co_amount : Nat → Int32} {co_open : Nat → Int32} {co_sums : Nat → Int32} {co_ways : Nat → Int32} {co_nextWays : Nat → Int32} {iC_size : Int32} {cC_skill : Nat → Int32} {x1 : Int32} {x2 : Int32} {x3 : Int32} {res : Int32 × (Nat → Int32) × (Nat → Int32) × (Nat → Int32)} (C : axC X l D Y cX3_leastOf 4 RX3 wsX3_leastOf rmX3_leastOf (some .int)) {q0 : Nat} (hQ : axQ X 0 0 (fun r9 w9 => r9 = (some (.int res.1)) ∧ ∃ ao_ : Nat → Nat, ao_ 0 = q0 ∧ w9 = [oX3 ao_ aC io_cells, rI Y (ao_ 1) 12 co_amount, rI Y (ao_ 2) 12 res.2.1, rI Y (ao_ 3) 256 co_sums, rI Y (ao_ 4) 256 res.2.2.1, rI Y (ao_ 5) 256 res.2.2.2, oX2 aC iC_size, rI Y (aC 2) 8 cC_skill])) (hq0 : ao 0 = q0) (hf : fX3_leastOf_b12 io_cells co_open co_sums co_ways co_nextWays cC_skill x1 x2 x3 = some res) : ax X 0 0 12 [some (.ref (ao 0)), some (.int x1), some (.int x2), some (.int x3)] [oX3 ao aC io_cells, rI Y (ao 1) 12 co_amount, rI Y (ao 2) 12 co_open, rI Y (ao 3) 256 co_sums, rI Y (ao 4) 256 co_ways, rI Y (ao 5) 256 co_nextWays, oX2 aC iC_size, rI Y (aC 2) 8 cC_skill] [] := by
  unfold fX3_leastOf_b12 at hf
  exact fx_loop (P := fun s : (Nat → Int32) × (Nat → Int32) × (Nat → Int32) × Int32 => ∀ ao : Nat → Nat, ao 0 = q0 → ax X 0 0 12 [some (.ref (ao 0)), some (.int x1), some (.int x2), some (.int s.2.2.2)] [oX3 ao aC io_cells, rI Y (ao 1) 12 co_amount, rI Y (ao 2) 12 s.1, rI Y (ao 3) 256 co_sums, rI Y (ao 4) 256 s.2.1, rI Y (ao 5) 256 s.2.2.1, oX2 aC iC_size, rI Y (aC 2) 8 cC_skill] []) (fun s k12 hk12 h ao hq0 => kX3_leastOf_l12 C hQ hq0 hk12 h) FUEL (co_open, co_ways, co_nextWays, x3) hf _ hq0
def fX3_leastOf (io_cells : Int32) (co_open : Nat → Int32) (co_sums : Nat → Int32) (co_ways : Nat → Int32) (co_nextWays : Nat → Int32) (cC_skill : Nat → Int32) (x1 : Int32) (x2 : Int32) : Option (Int32 × (Nat → Int32) × (Nat → Int32) × (Nat → Int32)) :=
  (fX3_fitting io_cells co_open co_sums co_ways co_nextWays x2).bind (fun r6 => if r6.1 ≤ (0 : Int32) then (fX3_leastOf_b12 io_cells co_open co_sums r6.2.1 r6.2.2 cC_skill x1 x2 (0 : Int32)) else (some ((-1 : Int32), co_open, r6.2.1, r6.2.2)))
set_option maxHeartbeats 400000 in
set_option maxRecDepth 100000 in
theorem kX3_leastOf (l : Launch) (D : va_G) (Y : Nat → ClassId) (ao aC : Nat → Nat) (io_cells : Int32) (co_amount : Nat → Int32) (co_open : Nat → Int32) (co_sums : Nat → Int32) (co_ways : Nat → Int32) (co_nextWays : Nat → Int32) (iC_size : Int32) (cC_skill : Nat → Int32) (x1 : Int32) (x2 : Int32) (res : Int32 × (Nat → Int32) × (Nat → Int32) × (Nat → Int32)) (hf : fX3_leastOf io_cells co_open co_sums co_ways co_nextWays cC_skill x1 x2 = some res) : am l D Y yX3_leastOf wsX3_leastOf rmX3_leastOf [.ref (ao 0), .int x1, .int x2] [oX3 ao aC io_cells, rI Y (ao 1) 12 co_amount, rI Y (ao 2) 12 co_open, rI Y (ao 3) 256 co_sums, rI Y (ao 4) 256 co_ways, rI Y (ao 5) 256 co_nextWays, oX2 aC iC_size, rI Y (aC 2) 8 cC_skill] 0 0 (fun r9 w9 => r9 = (some (.int res.1)) ∧ ∃ ao_ : Nat → Nat, ao_ 0 = ao 0 ∧ w9 = [oX3 ao_ aC io_cells, rI Y (ao_ 1) 12 co_amount, rI Y (ao_ 2) 12 res.2.1, rI Y (ao_ 3) 256 co_sums, rI Y (ao_ 4) 256 res.2.2.1, rI Y (ao_ 5) 256 res.2.2.2, oX2 aC iC_size, rI Y (aC 2) 8 cC_skill]) := by
  refine am.of (cc := cX3_leastOf) (maxL := 4) (rt := (some .int)) (by decide) rfl RX3 rfl (Nat.le_of_ble_eq_true rfl) [some (.ref (ao 0)), some (.int x1), some (.int x2), none] rfl ?_
  intro X C hQ
  have hq0 : ao 0 = ao 0 := rfl
  unfold fX3_leastOf at hf
  refine a_aload_n C dX3_leastOf_0 rfl ?_
  refine a_iload_n C dX3_leastOf_1 rfl ?_
  obtain ⟨r6, h6, hf⟩ := fx_bind hf
  refine a_gV C (kX3_fitting l D Y ao aC io_cells co_amount co_open co_sums co_ways co_nextWays x2 r6 h6) (gB_X3_83 _) rfl dvX3_fitting ⟨⟨rfl, rfl⟩, ⟨Nat.le_of_ble_eq_true rfl, Nat.le_of_ble_eq_true rfl⟩, ⟨Nat.le_of_ble_eq_true rfl, Nat.le_of_ble_eq_true rfl⟩⟩ rfl (Nat.le_of_ble_eq_true rfl) dX3_leastOf_2 rfl rfl [0, 1, 2, 3, 4, 5] [6, 7] ⟨rfl, rfl, rfl, rfl, rfl, rfl, trivial⟩ (by decide +kernel) [oX2 aC iC_size, rI Y (aC 2) 8 cC_skill] ⟨rfl, rfl, trivial⟩ (by decide +kernel) (by decide +kernel) ?_
  rintro _ _ ⟨rfl, ao, hA, rfl⟩
  rw [← hA]
  have hq0 := hA.trans hq0
  refine a_perm [2, 3, 4, 5, 6, 7, 0, 1] [oX3 ao aC io_cells, rI Y (ao 1) 12 co_amount, rI Y (ao 2) 12 co_open, rI Y (ao 3) 256 co_sums, rI Y (ao 4) 256 r6.2.1, rI Y (ao 5) 256 r6.2.2, oX2 aC iC_size, rI Y (aC 2) 8 cC_skill] ⟨rfl, rfl, rfl, rfl, rfl, rfl, rfl, rfl, trivial⟩ (by decide +kernel) ?_
  refine a_if_le C 10 dX3_leastOf_5 (by decide) (fun h7 => ?_) (fun h7 => ?_)
  · have hf := fx_t h7 hf
    refine a_iconst C (0 : Int32) dX3_leastOf_10 (by decide) ?_
    refine a_istore_n C dX3_leastOf_11 (by decide) rfl ?_
    exact kX3_leastOf_b12 C hQ hq0 hf
  · have hf := fx_f h7 hf
    refine a_iconst C (-1 : Int32) dX3_leastOf_8 (by decide) ?_
    obtain rfl := fx_some hf
    exact a_iret C hQ dX3_leastOf_9 ⟨rfl, ao, hq0, rfl⟩
-- X3_tellLeast
abbrev rmX3_tellLeast : Room := { frames := 5, cells := 0, slots := 0, locals := 118 }
theorem dvX3_tellLeast : yX3_tellLeast.cls = RX3 ∧ yX3_tellLeast.cls ≠ "java/lang/invoke/MethodHandle" ∧ yX3_tellLeast.cls ≠ "java/lang/invoke/VarHandle" ∧ (parseMethodDescriptor yX3_tellLeast.desc).map (fun d => d.parameters.length) = some 1 := by decide +kernel
def fX3_tellLeast_b46 (io_cells : Int32) (co_open : Nat → Int32) (co_sums : Nat → Int32) (co_ways : Nat → Int32) (co_nextWays : Nat → Int32) (ip1_size : Int32) (cp1_numbers : Nat → Int64) (iC_size : Int32) (cC_skill : Nat → Int32) : Option ((Nat → Int32) × (Nat → Int32) × (Nat → Int32) × Int32 × (Nat → Int64)) :=
  some (co_open, co_ways, co_nextWays, ip1_size, cp1_numbers)
set_option maxHeartbeats 400000 in
set_option maxRecDepth 100000 in
theorem kX3_tellLeast_b46 {X : cxT} {l : Launch} {D : va_G} {Y : Nat → ClassId} {ao aC ap1 : Nat → Nat} {io_cells : Int32} {co_amount : Nat → Int32} {co_open : Nat → Int32} {co_sums : Nat → Int32} {co_ways : Nat → Int32} {co_nextWays : Nat → Int32} {ip1_size : Int32} {cp1_numbers : Nat → Int64} {iC_size : Int32} {cC_skill : Nat → Int32} {res : (Nat → Int32) × (Nat → Int32) × (Nat → Int32) × Int32 × (Nat → Int64)} (C : axC X l D Y cX3_tellLeast 4 RX3 wsX3_tellLeast rmX3_tellLeast none) {q0 : Nat} (hQ : axQ X 0 0 (fun r9 w9 => r9 = none ∧ ∃ ao_ : Nat → Nat, ao_ 0 = q0 ∧ w9 = [oX3 ao_ aC io_cells, rI Y (ao_ 1) 12 co_amount, rI Y (ao_ 2) 12 res.1, rI Y (ao_ 3) 256 co_sums, rI Y (ao_ 4) 256 res.2.1, rI Y (ao_ 5) 256 res.2.2.1, oX8 ap1 res.2.2.2.1, rJ Y (ap1 1) 12 res.2.2.2.2, oX2 aC iC_size, rI Y (aC 2) 8 cC_skill])) (hq0 : ao 0 = q0) (hf : fX3_tellLeast_b46 io_cells co_open co_sums co_ways co_nextWays ip1_size cp1_numbers iC_size cC_skill = some res) : ax X 0 0 46 [none, none, none, none] [oX3 ao aC io_cells, rI Y (ao 1) 12 co_amount, rI Y (ao 2) 12 co_open, rI Y (ao 3) 256 co_sums, rI Y (ao 4) 256 co_ways, rI Y (ao 5) 256 co_nextWays, oX8 ap1 ip1_size, rJ Y (ap1 1) 12 cp1_numbers, oX2 aC iC_size, rI Y (aC 2) 8 cC_skill] [] := by
  unfold fX3_tellLeast_b46 at hf
  obtain rfl := fx_some hf
  exact a_vret C hQ dX3_tellLeast_46 ⟨rfl, ao, hq0, rfl⟩
def fX3_tellLeast_l10 (io_cells : Int32) (co_sums : Nat → Int32) (iC_size : Int32) (cC_skill : Nat → Int32) (k10 : (Nat → Int32) × (Nat → Int32) × (Nat → Int32) × Int32 × (Nat → Int64) × Int32 × Int32 → Option ((Nat → Int32) × (Nat → Int32) × (Nat → Int32) × Int32 × (Nat → Int64))) (co_open : Nat → Int32) (co_ways : Nat → Int32) (co_nextWays : Nat → Int32) (ip1_size : Int32) (cp1_numbers : Nat → Int64) (x2 : Int32) (x3 : Int32) : Option ((Nat → Int32) × (Nat → Int32) × (Nat → Int32) × Int32 × (Nat → Int64)) :=
  if iC_size ≤ x3 then (fX3_tellLeast_b46 io_cells co_open co_sums co_ways co_nextWays ip1_size cp1_numbers iC_size cC_skill) else ((fX3_leastOf io_cells co_open co_sums co_ways co_nextWays cC_skill x3 (x2 &&& ((jshl (1 : Int32) x3) ^^^ (-1 : Int32)))).bind (fun r2 => (fX8_add ip1_size cp1_numbers (r2.1.toInt64)).bind (fun r3 => k10 (r2.2.1, r2.2.2.1, r2.2.2.2, r3.1, r3.2, (x2 &&& ((jshl (1 : Int32) x3) ^^^ (-1 : Int32))), (x3 + (1 : Int32))))))
def fX3_tellLeast_b10 (io_cells : Int32) (co_open : Nat → Int32) (co_sums : Nat → Int32) (co_ways : Nat → Int32) (co_nextWays : Nat → Int32) (ip1_size : Int32) (cp1_numbers : Nat → Int64) (iC_size : Int32) (cC_skill : Nat → Int32) (x2 : Int32) (x3 : Int32) : Option ((Nat → Int32) × (Nat → Int32) × (Nat → Int32) × Int32 × (Nat → Int64)) :=
  loopN (fun (s : (Nat → Int32) × (Nat → Int32) × (Nat → Int32) × Int32 × (Nat → Int64) × Int32 × Int32) k10 => fX3_tellLeast_l10 io_cells co_sums iC_size cC_skill k10 s.1 s.2.1 s.2.2.1 s.2.2.2.1 s.2.2.2.2.1 s.2.2.2.2.2.1 s.2.2.2.2.2.2) FUEL (co_open, co_ways, co_nextWays, ip1_size, cp1_numbers, x2, x3)
set_option maxHeartbeats 400000 in
set_option maxRecDepth 100000 in
theorem kX3_tellLeast_l10 {X : cxT} {l : Launch} {D : va_G} {Y : Nat → ClassId} {ao aC ap1 : Nat → Nat} {io_cells : Int32} {co_amount : Nat → Int32} {co_open : Nat → Int32} {co_sums : Nat → Int32} {co_ways : Nat → Int32} {co_nextWays : Nat → Int32} {ip1_size : Int32} {cp1_numbers : Nat → Int64} {iC_size : Int32} {cC_skill : Nat → Int32} {x2 : Int32} {x3 : Int32} {res : (Nat → Int32) × (Nat → Int32) × (Nat → Int32) × Int32 × (Nat → Int64)} (C : axC X l D Y cX3_tellLeast 4 RX3 wsX3_tellLeast rmX3_tellLeast none) {q0 : Nat} (hQ : axQ X 0 0 (fun r9 w9 => r9 = none ∧ ∃ ao_ : Nat → Nat, ao_ 0 = q0 ∧ w9 = [oX3 ao_ aC io_cells, rI Y (ao_ 1) 12 co_amount, rI Y (ao_ 2) 12 res.1, rI Y (ao_ 3) 256 co_sums, rI Y (ao_ 4) 256 res.2.1, rI Y (ao_ 5) 256 res.2.2.1, oX8 ap1 res.2.2.2.1, rJ Y (ap1 1) 12 res.2.2.2.2, oX2 aC iC_size, rI Y (aC 2) 8 cC_skill])) (hq0 : ao 0 = q0) {k10 : (Nat → Int32) × (Nat → Int32) × (Nat → Int32) × Int32 × (Nat → Int64) × Int32 × Int32 → Option ((Nat → Int32) × (Nat → Int32) × (Nat → Int32) × Int32 × (Nat → Int64))} (hk10 : ∀ s : (Nat → Int32) × (Nat → Int32) × (Nat → Int32) × Int32 × (Nat → Int64) × Int32 × Int32, k10 s = some res → ∀ ao : Nat → Nat, ao 0 = q0 → ax X 0 0 10 [some (.ref (ao 0)), some (.ref (ap1 0)), some (.int s.2.2.2.2.2.1), some (.int s.2.2.2.2.2.2)] [oX3 ao aC io_cells, rI Y (ao 1) 12 co_amount, rI Y (ao 2) 12 s.1, rI Y (ao 3) 256 co_sums, rI Y (ao 4) 256 s.2.1, rI Y (ao 5) 256 s.2.2.1, oX8 ap1 s.2.2.2.1, rJ Y (ap1 1) 12 s.2.2.2.2.1, oX2 aC iC_size, rI Y (aC 2) 8 cC_skill] []) (hf : fX3_tellLeast_l10 io_cells co_sums iC_size cC_skill k10 co_open co_ways co_nextWays ip1_size cp1_numbers x2 x3 = some res) : ax X 0 0 10 [some (.ref (ao 0)), some (.ref (ap1 0)), some (.int x2), some (.int x3)] [oX3 ao aC io_cells, rI Y (ao 1) 12 co_amount, rI Y (ao 2) 12 co_open, rI Y (ao 3) 256 co_sums, rI Y (ao 4) 256 co_ways, rI Y (ao 5) 256 co_nextWays, oX8 ap1 ip1_size, rJ Y (ap1 1) 12 cp1_numbers, oX2 aC iC_size, rI Y (aC 2) 8 cC_skill] [] := by
  unfold fX3_tellLeast_l10 at hf
  refine a_iload_n C dX3_tellLeast_10 rfl ?_
  refine a_aload_n C dX3_tellLeast_11 rfl ?_
  refine a_get C (eB_X3_27 _) dX3_tellLeast_12 0 rfl rfl ?_
  refine a_get C (eB_X3_47 _) dX3_tellLeast_15 8 rfl rfl ?_
  refine a_icmp_ge C 46 dX3_tellLeast_18 (by decide) (fun h1 => ?_) (fun h1 => ?_)
  · have hf := fx_t h1 hf
    refine a_kill [0, 1, 2, 3] ?_
    exact kX3_tellLeast_b46 C hQ hq0 hf
  · have hf := fx_f h1 hf
    refine a_iload_n C dX3_tellLeast_21 rfl ?_
    refine a_iconst C (1 : Int32) dX3_tellLeast_22 (by decide) ?_
    refine a_iload_n C dX3_tellLeast_23 rfl ?_
    refine a_ishl C dX3_tellLeast_24 ?_
    refine a_iconst C (-1 : Int32) dX3_tellLeast_25 (by decide) ?_
    refine a_ixor C dX3_tellLeast_26 ?_
    refine a_iand C dX3_tellLeast_27 ?_
    refine a_istore_n C dX3_tellLeast_28 (by decide) rfl ?_
    refine a_aload_n C dX3_tellLeast_29 rfl ?_
    refine a_aload_n C dX3_tellLeast_30 rfl ?_
    refine a_iload_n C dX3_tellLeast_31 rfl ?_
    refine a_iload_n C dX3_tellLeast_32 rfl ?_
    obtain ⟨r2, h2, hf⟩ := fx_bind hf
    refine a_gV C (kX3_leastOf l D Y ao aC io_cells co_amount co_open co_sums co_ways co_nextWays iC_size cC_skill x3 (x2 &&& ((jshl (1 : Int32) x3) ^^^ (-1 : Int32))) r2 h2) (gB_X3_73 _) rfl dvX3_leastOf ⟨⟨rfl, rfl⟩, ⟨Nat.le_of_ble_eq_true rfl, Nat.le_of_ble_eq_true rfl⟩, ⟨Nat.le_of_ble_eq_true rfl, Nat.le_of_ble_eq_true rfl⟩⟩ rfl (Nat.le_of_ble_eq_true rfl) dX3_tellLeast_33 rfl rfl [0, 1, 2, 3, 4, 5, 8, 9] [6, 7] ⟨rfl, rfl, rfl, rfl, rfl, rfl, rfl, rfl, trivial⟩ (by decide +kernel) [oX8 ap1 ip1_size, rJ Y (ap1 1) 12 cp1_numbers] ⟨rfl, rfl, trivial⟩ (by decide +kernel) (by decide +kernel) ?_
    rintro _ _ ⟨rfl, ao, hA, rfl⟩
    rw [← hA]
    have hq0 := hA.trans hq0
    refine a_perm [2, 3, 4, 5, 6, 7, 0, 1, 8, 9] [oX3 ao aC io_cells, rI Y (ao 1) 12 co_amount, rI Y (ao 2) 12 r2.2.1, rI Y (ao 3) 256 co_sums, rI Y (ao 4) 256 r2.2.2.1, rI Y (ao 5) 256 r2.2.2.2, oX8 ap1 ip1_size, rJ Y (ap1 1) 12 cp1_numbers, oX2 aC iC_size, rI Y (aC 2) 8 cC_skill] ⟨rfl, rfl, rfl, rfl, rfl, rfl, rfl, rfl, rfl, rfl, trivial⟩ (by decide +kernel) ?_
    refine a_i2l C dX3_tellLeast_36 ?_
    obtain ⟨r3, h3, hf⟩ := fx_bind hf
    refine a_fV C (kX8_add l D Y ap1 ip1_size cp1_numbers (r2.1.toInt64) r3 h3) (gB_X3_77 _) rfl dvX8_add ⟨⟨rfl, rfl⟩, ⟨Nat.le_of_ble_eq_true rfl, Nat.le_of_ble_eq_true rfl⟩, ⟨Nat.le_of_ble_eq_true rfl, Nat.le_of_ble_eq_true rfl⟩⟩ rfl (Nat.le_of_ble_eq_true rfl) dX3_tellLeast_37 rfl rfl [6, 7] [0, 1, 2, 3, 4, 5, 8, 9] ⟨rfl, rfl, trivial⟩ (by decide +kernel) rfl [oX3 ao aC io_cells, rI Y (ao 1) 12 co_amount, rI Y (ao 2) 12 r2.2.1, rI Y (ao 3) 256 co_sums, rI Y (ao 4) 256 r2.2.2.1, rI Y (ao 5) 256 r2.2.2.2, oX8 ap1 r3.1, rJ Y (ap1 1) 12 r3.2, oX2 aC iC_size, rI Y (aC 2) 8 cC_skill] ⟨rfl, rfl, trivial⟩ ⟨rfl, rfl, rfl, rfl, rfl, rfl, rfl, rfl, trivial⟩ 10 rfl (by decide +kernel) ?_
    refine a_iinc C (1 : Int32) dX3_tellLeast_40 (by decide) rfl (by decide) rfl ?_
    refine a_goto C 10 dX3_tellLeast_43 (by decide) ?_
    exact hk10 (r2.2.1, r2.2.2.1, r2.2.2.2, r3.1, r3.2, (x2 &&& ((jshl (1 : Int32) x3) ^^^ (-1 : Int32))), (x3 + (1 : Int32))) hf _ hq0
set_option maxHeartbeats 400000 in
set_option maxRecDepth 100000 in
theorem kX3_tellLeast_b10 {X : cxT} {l : Launch} {D : va_G} {Y : Nat → ClassId} {ao aC ap1 : Nat → Nat} {io_cells : Int32} {co_amount : Nat → Int32} {co_open : Nat → Int32} {co_sums : Nat → Int32} {co_ways : Nat → Int32} {co_nextWays : Nat → Int32} {ip1_size : Int32} {cp1_numbers : Nat → Int64} {iC_size : Int32} {cC_skill : Nat → Int32} {x2 : Int32} {x3 : Int32} {res : (Nat → Int32) × (Nat → Int32) × (Nat → Int32) × Int32 × (Nat → Int64)} (C : axC X l D Y cX3_tellLeast 4 RX3 wsX3_tellLeast rmX3_tellLeast none) {q0 : Nat} (hQ : axQ X 0 0 (fun r9 w9 => r9 = none ∧ ∃ ao_ : Nat → Nat, ao_ 0 = q0 ∧ w9 = [oX3 ao_ aC io_cells, rI Y (ao_ 1) 12 co_amount, rI Y (ao_ 2) 12 res.1, rI Y (ao_ 3) 256 co_sums, rI Y (ao_ 4) 256 res.2.1, rI Y (ao_ 5) 256 res.2.2.1, oX8 ap1 res.2.2.2.1, rJ Y (ap1 1) 12 res.2.2.2.2, oX2 aC iC_size, rI Y (aC 2) 8 cC_skill])) (hq0 : ao 0 = q0) (hf : fX3_tellLeast_b10 io_cells co_open co_sums co_ways co_nextWays ip1_size cp1_numbers iC_size cC_skill x2 x3 = some res) : ax X 0 0 10 [some (.ref (ao 0)), some (.ref (ap1 0)), some (.int x2), some (.int x3)] [oX3 ao aC io_cells, rI Y (ao 1) 12 co_amount, rI Y (ao 2) 12 co_open, rI Y (ao 3) 256 co_sums, rI Y (ao 4) 256 co_ways, rI Y (ao 5) 256 co_nextWays, oX8 ap1 ip1_size, rJ Y (ap1 1) 12 cp1_numbers, oX2 aC iC_size, rI Y (aC 2) 8 cC_skill] [] := by
  unfold fX3_tellLeast_b10 at hf
  exact fx_loop (P := fun s : (Nat → Int32) × (Nat → Int32) × (Nat → Int32) × Int32 × (Nat → Int64) × Int32 × Int32 => ∀ ao : Nat → Nat, ao 0 = q0 → ax X 0 0 10 [some (.ref (ao 0)), some (.ref (ap1 0)), some (.int s.2.2.2.2.2.1), some (.int s.2.2.2.2.2.2)] [oX3 ao aC io_cells, rI Y (ao 1) 12 co_amount, rI Y (ao 2) 12 s.1, rI Y (ao 3) 256 co_sums, rI Y (ao 4) 256 s.2.1, rI Y (ao 5) 256 s.2.2.1, oX8 ap1 s.2.2.2.1, rJ Y (ap1 1) 12 s.2.2.2.2.1, oX2 aC iC_size, rI Y (aC 2) 8 cC_skill] []) (fun s k10 hk10 h ao hq0 => kX3_tellLeast_l10 C hQ hq0 hk10 h) FUEL (co_open, co_ways, co_nextWays, ip1_size, cp1_numbers, x2, x3) hf _ hq0
def fX3_tellLeast (io_cells : Int32) (co_open : Nat → Int32) (co_sums : Nat → Int32) (co_ways : Nat → Int32) (co_nextWays : Nat → Int32) (ip1_size : Int32) (cp1_numbers : Nat → Int64) (iC_size : Int32) (cC_skill : Nat → Int32) : Option ((Nat → Int32) × (Nat → Int32) × (Nat → Int32) × Int32 × (Nat → Int64)) :=
  (fX2_all iC_size).bind (fun r4 => fX3_tellLeast_b10 io_cells co_open co_sums co_ways co_nextWays ip1_size cp1_numbers iC_size cC_skill r4 (0 : Int32))
set_option maxHeartbeats 400000 in
set_option maxRecDepth 100000 in
theorem kX3_tellLeast (l : Launch) (D : va_G) (Y : Nat → ClassId) (ao aC ap1 : Nat → Nat) (io_cells : Int32) (co_amount : Nat → Int32) (co_open : Nat → Int32) (co_sums : Nat → Int32) (co_ways : Nat → Int32) (co_nextWays : Nat → Int32) (ip1_size : Int32) (cp1_numbers : Nat → Int64) (iC_size : Int32) (cC_skill : Nat → Int32) (res : (Nat → Int32) × (Nat → Int32) × (Nat → Int32) × Int32 × (Nat → Int64)) (hf : fX3_tellLeast io_cells co_open co_sums co_ways co_nextWays ip1_size cp1_numbers iC_size cC_skill = some res) : am l D Y yX3_tellLeast wsX3_tellLeast rmX3_tellLeast [.ref (ao 0), .ref (ap1 0)] [oX3 ao aC io_cells, rI Y (ao 1) 12 co_amount, rI Y (ao 2) 12 co_open, rI Y (ao 3) 256 co_sums, rI Y (ao 4) 256 co_ways, rI Y (ao 5) 256 co_nextWays, oX8 ap1 ip1_size, rJ Y (ap1 1) 12 cp1_numbers, oX2 aC iC_size, rI Y (aC 2) 8 cC_skill] 0 0 (fun r9 w9 => r9 = none ∧ ∃ ao_ : Nat → Nat, ao_ 0 = ao 0 ∧ w9 = [oX3 ao_ aC io_cells, rI Y (ao_ 1) 12 co_amount, rI Y (ao_ 2) 12 res.1, rI Y (ao_ 3) 256 co_sums, rI Y (ao_ 4) 256 res.2.1, rI Y (ao_ 5) 256 res.2.2.1, oX8 ap1 res.2.2.2.1, rJ Y (ap1 1) 12 res.2.2.2.2, oX2 aC iC_size, rI Y (aC 2) 8 cC_skill]) := by
  refine am.of (cc := cX3_tellLeast) (maxL := 4) (rt := none) (by decide) rfl RX3 rfl (Nat.le_of_ble_eq_true rfl) [some (.ref (ao 0)), some (.ref (ap1 0)), none, none] rfl ?_
  intro X C hQ
  have hq0 : ao 0 = ao 0 := rfl
  unfold fX3_tellLeast at hf
  refine a_aload_n C dX3_tellLeast_0 rfl ?_
  refine a_get C (eB_X3_27 _) dX3_tellLeast_1 0 rfl rfl ?_
  obtain ⟨r4, h4, hf⟩ := fx_bind hf
  refine a_fV C (kX2_all l D Y aC iC_size r4 h4) (gB_X3_69 _) rfl dvX2_all ⟨⟨rfl, rfl⟩, ⟨Nat.le_of_ble_eq_true rfl, Nat.le_of_ble_eq_true rfl⟩, ⟨Nat.le_of_ble_eq_true rfl, Nat.le_of_ble_eq_true rfl⟩⟩ rfl (Nat.le_of_ble_eq_true rfl) dX3_tellLeast_4 rfl rfl [8] [0, 1, 2, 3, 4, 5, 6, 7, 9] ⟨rfl, trivial⟩ (by decide +kernel) rfl [oX3 ao aC io_cells, rI Y (ao 1) 12 co_amount, rI Y (ao 2) 12 co_open, rI Y (ao 3) 256 co_sums, rI Y (ao 4) 256 co_ways, rI Y (ao 5) 256 co_nextWays, oX8 ap1 ip1_size, rJ Y (ap1 1) 12 cp1_numbers, oX2 aC iC_size, rI Y (aC 2) 8 cC_skill] ⟨rfl, trivial⟩ ⟨rfl, rfl, rfl, rfl, rfl, rfl, rfl, rfl, rfl, trivial⟩ 10 rfl (by decide +kernel) ?_
  refine a_istore_n C dX3_tellLeast_7 (by decide) rfl ?_
  refine a_iconst C (0 : Int32) dX3_tellLeast_8 (by decide) ?_
  refine a_istore_n C dX3_tellLeast_9 (by decide) rfl ?_
  exact kX3_tellLeast_b10 C hQ hq0 hf
