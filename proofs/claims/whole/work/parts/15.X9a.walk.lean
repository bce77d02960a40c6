-- X9_copy
abbrev rmX9_copy : Room := { frames := 1, cells := 0, slots := 0, locals := 40 }
theorem dvX9_copy : yX9_copy.cls = RX9 ∧ yX9_copy.cls ≠ "java/lang/invoke/MethodHandle" ∧ yX9_copy.cls ≠ "java/lang/invoke/VarHandle" ∧ (parseMethodDescriptor yX9_copy.desc).map (fun d => d.parameters.length) = some 1 := by decide +kernel
def fX9_copy (io_moats : Int32) (io_spades : Int32) (io_tides : Int32) (co_wall : Nat → Int32) (co_depth : Nat → Int32) (co_mood : Nat → Int32) (co_place : Nat → Int32) (ip1_moats : Int32) (ip1_spades : Int32) (ip1_tides : Int32) (cp1_wall : Nat → Int32) (cp1_depth : Nat → Int32) (cp1_mood : Nat → Int32) (cp1_place : Nat → Int32) : Option (Int32 × Int32 × Int32 × (Nat → Int32) × (Nat → Int32) × (Nat → Int32) × (Nat → Int32)) :=
  some (ip1_moats, ip1_spades, ip1_tides, (va_cpy cp1_wall co_wall (Int32.toNatClampNeg (0 : Int32)) (Int32.toNatClampNeg (0 : Int32)) (Int32.toNatClampNeg (12 : Int32))), (va_cpy cp1_depth co_depth (Int32.toNatClampNeg (0 : Int32)) (Int32.toNatClampNeg (0 : Int32)) (Int32.toNatClampNeg (12 : Int32))), (va_cpy cp1_mood co_mood (Int32.toNatClampNeg (0 : Int32)) (Int32.toNatClampNeg (0 : Int32)) (Int32.toNatClampNeg (8 : Int32))), (va_cpy cp1_place co_place (Int32.toNatClampNeg (0 : Int32)) (Int32.toNatClampNeg (0 : Int32)) (Int32.toNatClampNeg (8 : Int32))))
set_option maxHeartbeats 400000 in
set_option maxRecDepth 100000 in
theorem kX9_copy (l : Launch) (D : va_G) (Y : Nat → ClassId) (ao aL aC ap1 : Nat → Nat) (io_moats : Int32) (io_spades : Int32) (io_tides : Int32) (co_wall : Nat → Int32) (co_depth : Nat → Int32) (co_mood : Nat → Int32) (co_place : Nat → Int32) (ip1_moats : Int32) (ip1_spades : Int32) (ip1_tides : Int32) (cp1_wall : Nat → Int32) (cp1_depth : Nat → Int32) (cp1_mood : Nat → Int32) (cp1_place : Nat → Int32) (res : Int32 × Int32 × Int32 × (Nat → Int32) × (Nat → Int32) × (Nat → Int32) × (Nat → Int32)) (hf : fX9_copy io_moats io_spades io_tides co_wall co_depth co_mood co_place ip1_moats ip1_spades ip1_tides cp1_wall cp1_depth cp1_mood cp1_place = some res) : amf l D Y yX9_copy wsX9_copy rmX9_copy [.ref (ao 0), .ref (ap1 0)] [oX9 ao aL aC io_moats io_spades io_tides, rI Y (ao 1) 12 co_wall, rI Y (ao 2) 12 co_depth, rI Y (ao 3) 8 co_mood, rI Y (ao 4) 8 co_place, oX9 ap1 aL aC ip1_moats ip1_spades ip1_tides, rI Y (ap1 1) 12 cp1_wall, rI Y (ap1 2) 12 cp1_depth, rI Y (ap1 3) 8 cp1_mood, rI Y (ap1 4) 8 cp1_place] none [oX9 ao aL aC res.1 res.2.1 res.2.2.1, rI Y (ao 1) 12 res.2.2.2.1, rI Y (ao 2) 12 res.2.2.2.2.1, rI Y (ao 3) 8 res.2.2.2.2.2.1, rI Y (ao 4) 8 res.2.2.2.2.2.2, oX9 ap1 aL aC ip1_moats ip1_spades ip1_tides, rI Y (ap1 1) 12 cp1_wall, rI Y (ap1 2) 12 cp1_depth, rI Y (ap1 3) 8 cp1_mood, rI Y (ap1 4) 8 cp1_place] := by
  refine amf.of (cc := cX9_copy) (maxL := 2) (rt := none) (by decide) rfl RX9 rfl (Nat.le_of_ble_eq_true rfl) [some (.ref (ao 0)), some (.ref (ap1 0))] rfl ?_
  intro X C hQ
  unfold fX9_copy at hf
  refine a_aload_n C dX9_copy_0 rfl ?_
  refine a_get C (eB_X9_9 _) dX9_copy_1 5 rfl rfl ?_
  refine a_iconst C (0 : Int32) dX9_copy_4 (by decide) ?_
  refine a_aload_n C dX9_copy_5 rfl ?_
  refine a_get C (eB_X9_9 _) dX9_copy_6 0 rfl rfl ?_
  refine a_iconst C (0 : Int32) dX9_copy_9 (by decide) ?_
  refine a_bipush C (12 : Int32) dX9_copy_10 (by decide) ?_
  refine a_copyi C dX9_copy_12 (cB_X9_32 _) ⟨Nat.le_of_ble_eq_true rfl, by decide⟩ (Nat.le_of_ble_eq_true rfl) 6 1 rfl rfl (by decide) (by decide) (by decide) (by decide) (by decide) ?_
  refine a_aload_n C dX9_copy_15 rfl ?_
  refine a_get C (eB_X9_15 _) dX9_copy_16 5 rfl rfl ?_
  refine a_iconst C (0 : Int32) dX9_copy_19 (by decide) ?_
  refine a_aload_n C dX9_copy_20 rfl ?_
  refine a_get C (eB_X9_15 _) dX9_copy_21 0 rfl rfl ?_
  refine a_iconst C (0 : Int32) dX9_copy_24 (by decide) ?_
  refine a_bipush C (12 : Int32) dX9_copy_25 (by decide) ?_
  refine a_copyi C dX9_copy_27 (cB_X9_32 _) ⟨Nat.le_of_ble_eq_true rfl, by decide⟩ (Nat.le_of_ble_eq_true rfl) 7 2 rfl rfl (by decide) (by decide) (by decide) (by decide) (by decide) ?_
  refine a_aload_n C dX9_copy_30 rfl ?_
  refine a_get C (eB_X9_18 _) dX9_copy_31 5 rfl rfl ?_
  refine a_iconst C (0 : Int32) dX9_copy_34 (by decide) ?_
  refine a_aload_n C dX9_copy_35 rfl ?_
  refine a_get C (eB_X9_18 _) dX9_copy_36 0 rfl rfl ?_
  refine a_iconst C (0 : Int32) dX9_copy_39 (by decide) ?_
  refine a_bipush C (8 : Int32) dX9_copy_40 (by decide) ?_
  refine a_copyi C dX9_copy_42 (cB_X9_32 _) ⟨Nat.le_of_ble_eq_true rfl, by decide⟩ (Nat.le_of_ble_eq_true rfl) 8 3 rfl rfl (by decide) (by decide) (by decide) (by decide) (by decide) ?_
  refine a_aload_n C dX9_copy_45 rfl ?_
  refine a_get C (eB_X9_21 _) dX9_copy_46 5 rfl rfl ?_
  refine a_iconst C (0 : Int32) dX9_copy_49 (by decide) ?_
  refine a_aload_n C dX9_copy_50 rfl ?_
  refine a_get C (eB_X9_21 _) dX9_copy_51 0 rfl rfl ?_
  refine a_iconst C (0 : Int32) dX9_copy_54 (by decide) ?_
  refine a_bipush C (8 : Int32) dX9_copy_55 (by decide) ?_
  refine a_copyi C dX9_copy_57 (cB_X9_32 _) ⟨Nat.le_of_ble_eq_true rfl, by decide⟩ (Nat.le_of_ble_eq_true rfl) 9 4 rfl rfl (by decide) (by decide) (by decide) (by decide) (by decide) ?_
  refine a_aload_n C dX9_copy_60 rfl ?_
  refine a_aload_n C dX9_copy_61 rfl ?_
  refine a_get C (eB_X9_38 _) dX9_copy_62 5 rfl rfl ?_
  refine a_put C (eB_X9_38 _) tfX9_6 dX9_copy_65 0 rfl rfl rfl (Nat.le_of_ble_eq_true rfl) ?_
  refine a_aload_n C dX9_copy_68 rfl ?_
  refine a_aload_n C dX9_copy_69 rfl ?_
  refine a_get C (eB_X9_42 _) dX9_copy_70 5 rfl rfl ?_
  refine a_put C (eB_X9_42 _) tfX9_7 dX9_copy_73 0 rfl rfl rfl (Nat.le_of_ble_eq_true rfl) ?_
  refine a_aload_n C dX9_copy_76 rfl ?_
  refine a_aload_n C dX9_copy_77 rfl ?_
  refine a_get C (eB_X9_45 _) dX9_copy_78 5 rfl rfl ?_
  refine a_put C (eB_X9_45 _) tfX9_8 dX9_copy_81 0 rfl rfl rfl (Nat.le_of_ble_eq_true rfl) ?_
  obtain rfl := fx_some hf
  exact a_vret C hQ dX9_copy_84 ⟨rfl, rfl⟩
-- X9_startAnew
abbrev rmX9_startAnew : Room := { frames := 1, cells := 0, slots := 0, locals := 23 }
theorem dvX9_startAnew : yX9_startAnew.cls = RX9 ∧ yX9_startAnew.cls ≠ "java/lang/invoke/MethodHandle" ∧ yX9_startAnew.cls ≠ "java/lang/invoke/VarHandle" ∧ (parseMethodDescriptor yX9_startAnew.desc).map (fun d => d.parameters.length) = some 0 := by decide +kernel
def fX9_startAnew (io_moats : Int32) (io_tides : Int32) (co_wall : Nat → Int32) (co_depth : Nat → Int32) (co_place : Nat → Int32) : Option (Int32 × Int32 × (Nat → Int32) × (Nat → Int32) × (Nat → Int32)) :=
  (fJ7_fill_53178 co_wall 12 (0 : Int32)).bind (fun r1 => (fJ7_fill_53178 co_depth 12 (0 : Int32)).bind (fun r2 => (fJ7_fill_53178 co_place 8 (-1 : Int32)).bind (fun r3 => some ((0 : Int32), (0 : Int32), r1, r2, r3))))
set_option maxHeartbeats 400000 in
set_option maxRecDepth 100000 in
theorem kX9_startAnew (l : Launch) (D : va_G) (Y : Nat → ClassId) (ao aL aC : Nat → Nat) (io_moats : Int32) (io_spades : Int32) (io_tides : Int32) (co_wall : Nat → Int32) (co_depth : Nat → Int32) (co_place : Nat → Int32) (res : Int32 × Int32 × (Nat → Int32) × (Nat → Int32) × (Nat → Int32)) (hf : fX9_startAnew io_moats io_tides co_wall co_depth co_place = some res) : amf l D Y yX9_startAnew wsX9_startAnew rmX9_startAnew [.ref (ao 0)] [oX9 ao aL aC io_moats io_spades io_tides, rI Y (ao 1) 12 co_wall, rI Y (ao 2) 12 co_depth, rI Y (ao 4) 8 co_place] none [oX9 ao aL aC res.1 io_spades res.2.1, rI Y (ao 1) 12 res.2.2.1, rI Y (ao 2) 12 res.2.2.2.1, rI Y (ao 4) 8 res.2.2.2.2] := by
  refine amf.of (cc := cX9_startAnew) (maxL := 1) (rt := none) (by decide) rfl RX9 rfl (Nat.le_of_ble_eq_true rfl) [some (.ref (ao 0))] rfl ?_
  intro X C hQ
  unfold fX9_startAnew at hf
  refine a_aload_n C dX9_startAnew_0 rfl ?_
  refine a_get C (eB_X9_9 _) dX9_startAnew_1 0 rfl rfl ?_
  refine a_iconst C (0 : Int32) dX9_startAnew_4 (by decide) ?_
  obtain ⟨r1, h1, hf⟩ := fx_bind hf
  refine a_fS C (kJ7_fill_53178 l D Y (ao 1) co_wall 12 (0 : Int32) r1 h1) (gB_X9_48 _) rfl dvJ7_fill_53178 ⟨⟨rfl, rfl⟩, ⟨Nat.le_of_ble_eq_true rfl, Nat.le_of_ble_eq_true rfl⟩, ⟨Nat.le_of_ble_eq_true rfl, Nat.le_of_ble_eq_true rfl⟩⟩ rfl (Nat.le_of_ble_eq_true rfl) dX9_startAnew_5 [1] [0, 2, 3] ⟨rfl, trivial⟩ (by decide +kernel) rfl [oX9 ao aL aC io_moats io_spades io_tides, rI Y (ao 1) 12 r1, rI Y (ao 2) 12 co_depth, rI Y (ao 4) 8 co_place] ⟨rfl, trivial⟩ ⟨rfl, rfl, rfl, trivial⟩ 4 rfl (by decide +kernel) ?_
  refine a_aload_n C dX9_startAnew_8 rfl ?_
  refine a_get C (eB_X9_15 _) dX9_startAnew_9 0 rfl rfl ?_
  refine a_iconst C (0 : Int32) dX9_startAnew_12 (by decide) ?_
  obtain ⟨r2, h2, hf⟩ := fx_bind hf
  refine a_fS C (kJ7_fill_53178 l D Y (ao 2) co_depth 12 (0 : Int32) r2 h2) (gB_X9_48 _) rfl dvJ7_fill_53178 ⟨⟨rfl, rfl⟩, ⟨Nat.le_of_ble_eq_true rfl, Nat.le_of_ble_eq_true rfl⟩, ⟨Nat.le_of_ble_eq_true rfl, Nat.le_of_ble_eq_true rfl⟩⟩ rfl (Nat.le_of_ble_eq_true rfl) dX9_startAnew_13 [2] [0, 1, 3] ⟨rfl, trivial⟩ (by decide +kernel) rfl [oX9 ao aL aC io_moats io_spades io_tides, rI Y (ao 1) 12 r1, rI Y (ao 2) 12 r2, rI Y (ao 4) 8 co_place] ⟨rfl, trivial⟩ ⟨rfl, rfl, rfl, trivial⟩ 4 rfl (by decide +kernel) ?_
  refine a_aload_n C dX9_startAnew_16 rfl ?_
  refine a_get C (eB_X9_21 _) dX9_startAnew_17 0 rfl rfl ?_
  refine a_iconst C (-1 : Int32) dX9_startAnew_20 (by decide) ?_
  obtain ⟨r3, h3, hf⟩ := fx_bind hf
  refine a_fS C (kJ7_fill_53178 l D Y (ao 4) co_place 8 (-1 : Int32) r3 h3) (gB_X9_48 _) rfl dvJ7_fill_53178 ⟨⟨rfl, rfl⟩, ⟨Nat.le_of_ble_eq_true rfl, Nat.le_of_ble_eq_true rfl⟩, ⟨Nat.le_of_ble_eq_true rfl, Nat.le_of_ble_eq_true rfl⟩⟩ rfl (Nat.le_of_ble_eq_true rfl) dX9_startAnew_21 [3] [0, 1, 2] ⟨rfl, trivial⟩ (by decide +kernel) rfl [oX9 ao aL aC io_moats io_spades io_tides, rI Y (ao 1) 12 r1, rI Y (ao 2) 12 r2, rI Y (ao 4) 8 r3] ⟨rfl, trivial⟩ ⟨rfl, rfl, rfl, trivial⟩ 4 rfl (by decide +kernel) ?_
  refine a_aload_n C dX9_startAnew_24 rfl ?_
  refine a_iconst C (0 : Int32) dX9_startAnew_25 (by decide) ?_
  refine a_put C (eB_X9_38 _) tfX9_6 dX9_startAnew_26 0 rfl rfl rfl (Nat.le_of_ble_eq_true rfl) ?_
  refine a_aload_n C dX9_startAnew_29 rfl ?_
  refine a_iconst C (0 : Int32) dX9_startAnew_30 (by decide) ?_
  refine a_put C (eB_X9_45 _) tfX9_8 dX9_startAnew_31 0 rfl rfl rfl (Nat.le_of_ble_eq_true rfl) ?_
  obtain rfl := fx_some hf
  exact a_vret C hQ dX9_startAnew_34 ⟨rfl, rfl⟩
-- X9_welcome
abbrev rmX9_welcome : Room := { frames := 0, cells := 0, slots := 0, locals := 0 }
theorem dvX9_welcome : yX9_welcome.cls = RX9 ∧ yX9_welcome.cls ≠ "java/lang/invoke/MethodHandle" ∧ yX9_welcome.cls ≠ "java/lang/invoke/VarHandle" ∧ (parseMethodDescriptor yX9_welcome.desc).map (fun d => d.parameters.length) = some 1 := by decide +kernel
def fX9_welcome_b33 (co_mood : Nat → Int32) (co_place : Nat → Int32) (iC_size : Int32) : Option ((Nat → Int32) × (Nat → Int32)) :=
  some (co_mood, co_place)
set_option maxHeartbeats 400000 in
set_option maxRecDepth 100000 in
theorem kX9_welcome_b33 {X : cxT} {l : Launch} {D : va_G} {Y : Nat → ClassId} {ao aL aC : Nat → Nat} {io_moats : Int32} {io_spades : Int32} {io_tides : Int32} {co_mood : Nat → Int32} {co_place : Nat → Int32} {iC_size : Int32} {res : (Nat → Int32) × (Nat → Int32)} (C : axC X l D Y cX9_welcome 3 RX9 wsX9_welcome rmX9_welcome none) (hQ : axQ X 0 0 (fun r9 w9 => r9 = none ∧ w9 = [oX9 ao aL aC io_moats io_spades io_tides, rI Y (ao 3) 8 res.1, rI Y (ao 4) 8 res.2, oX2 aC iC_size])) (hf : fX9_welcome_b33 co_mood co_place iC_size = some res) : ax X 0 0 33 [none, none, none] [oX9 ao aL aC io_moats io_spades io_tides, rI Y (ao 3) 8 co_mood, rI Y (ao 4) 8 co_place, oX2 aC iC_size] [] := by
  unfold fX9_welcome_b33 at hf
  obtain rfl := fx_some hf
  exact a_vret C hQ dX9_welcome_33 ⟨rfl, rfl⟩
def fX9_welcome_l2 (iC_size : Int32) (k2 : (Nat → Int32) × (Nat → Int32) × Int32 → Option ((Nat → Int32) × (Nat → Int32))) (co_mood : Nat → Int32) (co_place : Nat → Int32) (x2 : Int32) : Option ((Nat → Int32) × (Nat → Int32)) :=
  if iC_size ≤ x2 then (fX9_welcome_b33 co_mood co_place iC_size) else (if inb x2 8 then k2 ((upd co_mood (Int32.toNatClampNeg x2) (5 : Int32)), (upd co_place (Int32.toNatClampNeg x2) (-1 : Int32)), (x2 + (1 : Int32))) else none)
def fX9_welcome_b2 (co_mood : Nat → Int32) (co_place : Nat → Int32) (iC_size : Int32) (x2 : Int32) : Option ((Nat → Int32) × (Nat → Int32)) :=
  loopN (fun (s : (Nat → Int32) × (Nat → Int32) × Int32) k2 => fX9_welcome_l2 iC_size k2 s.1 s.2.1 s.2.2) FUEL (co_mood, co_place, x2)
set_option maxHeartbeats 400000 in
set_option maxRecDepth 100000 in
theorem kX9_welcome_l2 {X : cxT} {l : Launch} {D : va_G} {Y : Nat → ClassId} {ao aL aC : Nat → Nat} {io_moats : Int32} {io_spades : Int32} {io_tides : Int32} {co_mood : Nat → Int32} {co_place : Nat → Int32} {iC_size : Int32} {x2 : Int32} {res : (Nat → Int32) × (Nat → Int32)} (C : axC X l D Y cX9_welcome 3 RX9 wsX9_welcome rmX9_welcome none) (hQ : axQ X 0 0 (fun r9 w9 => r9 = none ∧ w9 = [oX9 ao aL aC io_moats io_spades io_tides, rI Y (ao 3) 8 res.1, rI Y (ao 4) 8 res.2, oX2 aC iC_size])) {k2 : (Nat → Int32) × (Nat → Int32) × Int32 → Option ((Nat → Int32) × (Nat → Int32))} (hk2 : ∀ s : (Nat → Int32) × (Nat → Int32) × Int32, k2 s = some res → ax X 0 0 2 [some (.ref (ao 0)), none, some (.int s.2.2)] [oX9 ao aL aC io_moats io_spades io_tides, rI Y (ao 3) 8 s.1, rI Y (ao 4) 8 s.2.1, oX2 aC iC_size] []) (hf : fX9_welcome_l2 iC_size k2 co_mood co_place x2 = some res) : ax X 0 0 2 [some (.ref (ao 0)), none, some (.int x2)] [oX9 ao aL aC io_moats io_spades io_tides, rI Y (ao 3) 8 co_mood, rI Y (ao 4) 8 co_place, oX2 aC iC_size] [] := by
  unfold fX9_welcome_l2 at hf
  refine a_iload_n C dX9_welcome_2 rfl ?_
  refine a_aload_n C dX9_welcome_3 rfl ?_
  refine a_get C (eB_X9_28 _) dX9_welcome_4 0 rfl rfl ?_
  refine a_get C (eB_X9_54 _) dX9_welcome_7 3 rfl rfl ?_
  refine a_icmp_ge C 33 dX9_welcome_10 (by decide) (fun h1 => ?_) (fun h1 => ?_)
  · have hf := fx_t h1 hf
    refine a_kill [0, 2] ?_
    exact kX9_welcome_b33 C hQ hf
  · have hf := fx_f h1 hf
    refine a_aload_n C dX9_welcome_13 rfl ?_
    refine a_get C (eB_X9_18 _) dX9_welcome_14 0 rfl rfl ?_
    refine a_iload_n C dX9_welcome_17 rfl ?_
    refine a_iconst C (5 : Int32) dX9_welcome_18 (by decide) ?_
    obtain ⟨h2, hf⟩ := fx_ite hf
    refine a_iast C dX9_welcome_19 1 rfl h2 ?_
    refine a_aload_n C dX9_welcome_20 rfl ?_
    refine a_get C (eB_X9_21 _) dX9_welcome_21 0 rfl rfl ?_
    refine a_iload_n C dX9_welcome_24 rfl ?_
    refine a_iconst C (-1 : Int32) dX9_welcome_25 (by decide) ?_
    refine a_iast C dX9_welcome_26 2 rfl h2 ?_
    refine a_iinc C (1 : Int32) dX9_welcome_27 (by decide) rfl (by decide) rfl ?_
    refine a_goto C 2 dX9_welcome_30 (by decide) ?_
    exact hk2 ((upd co_mood (Int32.toNatClampNeg x2) (5 : Int32)), (upd co_place (Int32.toNatClampNeg x2) (-1 : Int32)), (x2 + (1 : Int32))) hf
set_option maxHeartbeats 400000 in
set_option maxRecDepth 100000 in
theorem kX9_welcome_b2 {X : cxT} {l : Launch} {D : va_G} {Y : Nat → ClassId} {ao aL aC : Nat → Nat} {io_moats : Int32} {io_spades : Int32} {io_tides : Int32} {co_mood : Nat → Int32} {co_place : Nat → Int32} {iC_size : Int32} {x2 : Int32} {res : (Nat → Int32) × (Nat → Int32)} (C : axC X l D Y cX9_welcome 3 RX9 wsX9_welcome rmX9_welcome none) (hQ : axQ X 0 0 (fun r9 w9 => r9 = none ∧ w9 = [oX9 ao aL aC io_moats io_spades io_tides, rI Y (ao 3) 8 res.1, rI Y (ao 4) 8 res.2, oX2 aC iC_size])) (hf : fX9_welcome_b2 co_mood co_place iC_size x2 = some res) : ax X 0 0 2 [some (.ref (ao 0)), none, some (.int x2)] [oX9 ao aL aC io_moats io_spades io_tides, rI Y (ao 3) 8 co_mood, rI Y (ao 4) 8 co_place, oX2 aC iC_size] [] := by
  unfold fX9_welcome_b2 at hf
  exact fx_loop (P := fun s : (Nat → Int32) × (Nat → Int32) × Int32 => ax X 0 0 2 [some (.ref (ao 0)), none, some (.int s.2.2)] [oX9 ao aL aC io_moats io_spades io_tides, rI Y (ao 3) 8 s.1, rI Y (ao 4) 8 s.2.1, oX2 aC iC_size] []) (fun s k2 hk2 h => kX9_welcome_l2 C hQ hk2 h) FUEL (co_mood, co_place, x2) hf
def fX9_welcome (co_mood : Nat → Int32) (co_place : Nat → Int32) (iC_size : Int32) (x1 : Int32) : Option ((Nat → Int32) × (Nat → Int32)) :=
  fX9_welcome_b2 co_mood co_place iC_size x1
set_option maxHeartbeats 400000 in
set_option maxRecDepth 100000 in
theorem kX9_welcome (l : Launch) (D : va_G) (Y : Nat → ClassId) (ao aL aC : Nat → Nat) (io_moats : Int32) (io_spades : Int32) (io_tides : Int32) (co_mood : Nat → Int32) (co_place : Nat → Int32) (iC_size : Int32) (x1 : Int32) (res : (Nat → Int32) × (Nat → Int32)) (hf : fX9_welcome co_mood co_place iC_size x1 = some res) : amf l D Y yX9_welcome wsX9_welcome rmX9_welcome [.ref (ao 0), .int x1] [oX9 ao aL aC io_moats io_spades io_tides, rI Y (ao 3) 8 co_mood, rI Y (ao 4) 8 co_place, oX2 aC iC_size] none [oX9 ao aL aC io_moats io_spades io_tides, rI Y (ao 3) 8 res.1, rI Y (ao 4) 8 res.2, oX2 aC iC_size] := by
  refine amf.of (cc := cX9_welcome) (maxL := 3) (rt := none) (by decide) rfl RX9 rfl (Nat.le_of_ble_eq_true rfl) [some (.ref (ao 0)), some (.int x1), none] rfl ?_
  intro X C hQ
  unfold fX9_welcome at hf
  refine a_iload_n C dX9_welcome_0 rfl ?_
  refine a_istore_n C dX9_welcome_1 (by decide) rfl ?_
  refine a_kill [1] ?_
  exact kX9_welcome_b2 C hQ hf
-- X9_top
abbrev rmX9_top : Room := { frames := 0, cells := 0, slots := 0, locals := 0 }
theorem dvX9_top : yX9_top.cls = RX9 ∧ yX9_top.cls ≠ "java/lang/invoke/MethodHandle" ∧ yX9_top.cls ≠ "java/lang/invoke/VarHandle" ∧ (parseMethodDescriptor yX9_top.desc).map (fun d => d.parameters.length) = some 1 := by decide +kernel
def fX9_top (co_wall : Nat → Int32) (cL_base : Nat → Int32) (x1 : Int32) : Option (Int32) :=
  if inb x1 12 then some (((10 : Int32) * (cL_base (Int32.toNatClampNeg x1))) + (co_wall (Int32.toNatClampNeg x1))) else none
set_option maxHeartbeats 400000 in
set_option maxRecDepth 100000 in
theorem kX9_top (l : Launch) (D : va_G) (Y : Nat → ClassId) (ao aL aC : Nat → Nat) (io_moats : Int32) (io_spades : Int32) (io_tides : Int32) (co_wall : Nat → Int32) (iL_cells : Int32) (cL_base : Nat → Int32) (x1 : Int32) (res : Int32) (hf : fX9_top co_wall cL_base x1 = some res) : amf l D Y yX9_top wsX9_top rmX9_top [.ref (ao 0), .int x1] [oX9 ao aL aC io_moats io_spades io_tides, rI Y (ao 1) 12 co_wall, oX5 aL iL_cells, rI Y (aL 1) 12 cL_base] (some (.int res)) [oX9 ao aL aC io_moats io_spades io_tides, rI Y (ao 1) 12 co_wall, oX5 aL iL_cells, rI Y (aL 1) 12 cL_base] := by
  refine amf.of (cc := cX9_top) (maxL := 2) (rt := (some .int)) (by decide) rfl RX9 rfl (Nat.le_of_ble_eq_true rfl) [some (.ref (ao 0)), some (.int x1)] rfl ?_
  intro X C hQ
  unfold fX9_top at hf
  refine a_bipush C (10 : Int32) dX9_top_0 (by decide) ?_
  refine a_aload_n C dX9_top_2 rfl ?_
  refine a_get C (eB_X9_24 _) dX9_top_3 0 rfl rfl ?_
  refine a_get C (eB_X9_59 _) dX9_top_6 2 rfl rfl ?_
  refine a_iload_n C dX9_top_9 rfl ?_
  obtain ⟨h1, hf⟩ := fx_ite hf
  refine a_iald C dX9_top_10 3 rfl h1 ?_
  refine a_imul C dX9_top_11 ?_
  refine a_aload_n C dX9_top_12 rfl ?_
  refine a_get C (eB_X9_9 _) dX9_top_13 0 rfl rfl ?_
  refine a_iload_n C dX9_top_16 rfl ?_
  refine a_iald C dX9_top_17 1 rfl h1 ?_
  refine a_iadd C dX9_top_18 ?_
  obtain rfl := fx_some hf
  exact a_iret C hQ dX9_top_19 ⟨rfl, rfl⟩
-- X9_lowestTop
abbrev rmX9_lowestTop : Room := { frames := 1, cells := 0, slots := 0, locals := 21 }
theorem dvX9_lowestTop : yX9_lowestTop.cls = RX9 ∧ yX9_lowestTop.cls ≠ "java/lang/invoke/MethodHandle" ∧ yX9_lowestTop.cls ≠ "java/lang/invoke/VarHandle" ∧ (parseMethodDescriptor yX9_lowestTop.desc).map (fun d => d.parameters.length) = some 0 := by decide +kernel
def fX9_lowestTop_b35 (co_wall : Nat → Int32) (iL_cells : Int32) (cL_base : Nat → Int32) (x1 : Int32) : Option (Int32) :=
  some x1
set_option maxHeartbeats 400000 in
set_option maxRecDepth 100000 in
theorem kX9_lowestTop_b35 {X : cxT} {l : Launch} {D : va_G} {Y : Nat → ClassId} {ao aL aC : Nat → Nat} {io_moats : Int32} {io_spades : Int32} {io_tides : Int32} {co_wall : Nat → Int32} {iL_cells : Int32} {cL_base : Nat → Int32} {x1 : Int32} {res : Int32} (C : axC X l D Y cX9_lowestTop 3 RX9 wsX9_lowestTop rmX9_lowestTop (some .int)) (hQ : axQ X 0 0 (fun r9 w9 => r9 = (some (.int res)) ∧ w9 = [oX9 ao aL aC io_moats io_spades io_tides, rI Y (ao 1) 12 co_wall, oX5 aL iL_cells, rI Y (aL 1) 12 cL_base])) (hf : fX9_lowestTop_b35 co_wall iL_cells cL_base x1 = some res) : ax X 0 0 35 [none, some (.int x1), none] [oX9 ao aL aC io_moats io_spades io_tides, rI Y (ao 1) 12 co_wall, oX5 aL iL_cells, rI Y (aL 1) 12 cL_base] [] := by
  unfold fX9_lowestTop_b35 at hf
  refine a_iload_n C dX9_lowestTop_35 rfl ?_
  obtain rfl := fx_some hf
  exact a_iret C hQ dX9_lowestTop_36 ⟨rfl, rfl⟩
def fX9_lowestTop_l8 (co_wall : Nat → Int32) (iL_cells : Int32) (cL_base : Nat → Int32) (k8 : Int32 × Int32 → Option (Int32)) (x1 : Int32) (x2 : Int32) : Option (Int32) :=
  if iL_cells ≤ x2 then (fX9_lowestTop_b35 co_wall iL_cells cL_base x1) else ((fX9_top co_wall cL_base x2).bind (fun r2 => k8 ((jmin x1 r2), (x2 + (1 : Int32)))))
def fX9_lowestTop_b8 (co_wall : Nat → Int32) (iL_cells : Int32) (cL_base : Nat → Int32) (x1 : Int32) (x2 : Int32) : Option (Int32) :=
  loopN (fun (s : Int32 × Int32) k8 => fX9_lowestTop_l8 co_wall iL_cells cL_base k8 s.1 s.2) FUEL (x1, x2)
set_option maxHeartbeats 400000 in
set_option maxRecDepth 100000 in
theorem kX9_lowestTop_l8 {X : cxT} {l : Launch} {D : va_G} {Y : Nat → ClassId} {ao aL aC : Nat → Nat} {io_moats : Int32} {io_spades : Int32} {io_tides : Int32} {co_wall : Nat → Int32} {iL_cells : Int32} {cL_base : Nat → Int32} {x1 : Int32} {x2 : Int32} {res : Int32} (C : axC X l D Y cX9_lowestTop 3 RX9 wsX9_lowestTop rmX9_lowestTop (some .int)) (hQ : axQ X 0 0 (fun r9 w9 => r9 = (some (.int res)) ∧ w9 = [oX9 ao aL aC io_moats io_spades io_tides, rI Y (ao 1) 12 co_wall, oX5 aL iL_cells, rI Y (aL 1) 12 cL_base])) {k8 : Int32 × Int32 → Option (Int32)} (hk8 : ∀ s : Int32 × Int32, k8 s = some res → ax X 0 0 8 [some (.ref (ao 0)), some (.int s.1), some (.int s.2)] [oX9 ao aL aC io_moats io_spades io_tides, rI Y (ao 1) 12 co_wall, oX5 aL iL_cells, rI Y (aL 1) 12 cL_base] []) (hf : fX9_lowestTop_l8 co_wall iL_cells cL_base k8 x1 x2 = some res) : ax X 0 0 8 [some (.ref (ao 0)), some (.int x1), some (.int x2)] [oX9 ao aL aC io_moats io_spades io_tides, rI Y (ao 1) 12 co_wall, oX5 aL iL_cells, rI Y (aL 1) 12 cL_base] [] := by
  unfold fX9_lowestTop_l8 at hf
  refine a_iload_n C dX9_lowestTop_8 rfl ?_
  refine a_aload_n C dX9_lowestTop_9 rfl ?_
  refine a_get C (eB_X9_24 _) dX9_lowestTop_10 0 rfl rfl ?_
  refine a_get C (eB_X9_68 _) dX9_lowestTop_13 2 rfl rfl ?_
  refine a_icmp_ge C 35 dX9_lowestTop_16 (by decide) (fun h1 => ?_) (fun h1 => ?_)
  · have hf := fx_t h1 hf
    refine a_kill [0, 2] ?_
    exact kX9_lowestTop_b35 C hQ hf
  · have hf := fx_f h1 hf
    refine a_iload_n C dX9_lowestTop_19 rfl ?_
    refine a_aload_n C dX9_lowestTop_20 rfl ?_
    refine a_iload_n C dX9_lowestTop_21 rfl ?_
    obtain ⟨r2, h2, hf⟩ := fx_bind hf
    refine a_fV C (kX9_top l D Y ao aL aC io_moats io_spades io_tides co_wall iL_cells cL_base x2 r2 h2) (gB_X9_64 _) rfl dvX9_top ⟨⟨rfl, rfl⟩, ⟨Nat.le_of_ble_eq_true rfl, Nat.le_of_ble_eq_true rfl⟩, ⟨Nat.le_of_ble_eq_true rfl, Nat.le_of_ble_eq_true rfl⟩⟩ rfl (Nat.le_of_ble_eq_true rfl) dX9_lowestTop_22 rfl rfl [0, 1, 2, 3] [] ⟨rfl, rfl, rfl, rfl, trivial⟩ (by decide +kernel) rfl [oX9 ao aL aC io_moats io_spades io_tides, rI Y (ao 1) 12 co_wall, oX5 aL iL_cells, rI Y (aL 1) 12 cL_base] ⟨rfl, rfl, rfl, rfl, trivial⟩ trivial 4 rfl (by decide +kernel) ?_
    refine a_mmin C dX9_lowestTop_25 (mB_X9_71 _) ⟨⟨Nat.le_of_ble_eq_true rfl, Nat.le_of_ble_eq_true rfl⟩, ⟨Nat.le_of_ble_eq_true rfl, Nat.le_of_ble_eq_true rfl⟩⟩ (Nat.le_of_ble_eq_true rfl) ?_
    refine a_istore_n C dX9_lowestTop_28 (by decide) rfl ?_
    refine a_iinc C (1 : Int32) dX9_lowestTop_29 (by decide) rfl (by decide) rfl ?_
    refine a_goto C 8 dX9_lowestTop_32 (by decide) ?_
    exact hk8 ((jmin x1 r2), (x2 + (1 : Int32))) hf
set_option maxHeartbeats 400000 in
set_option maxRecDepth 100000 in
theorem kX9_lowestTop_b8 {X : cxT} {l : Launch} {D : va_G} {Y : Nat → ClassId} {ao aL aC : Nat → Nat} {io_moats : Int32} {io_spades : Int32} {io_tides : Int32} {co_wall : Nat → Int32} {iL_cells : Int32} {cL_base : Nat → Int32} {x1 : Int32} {x2 : Int32} {res : Int32} (C : axC X l D Y cX9_lowestTop 3 RX9 wsX9_lowestTop rmX9_lowestTop (some .int)) (hQ : axQ X 0 0 (fun r9 w9 => r9 = (some (.int res)) ∧ w9 = [oX9 ao aL aC io_moats io_spades io_tides, rI Y (ao 1) 12 co_wall, oX5 aL iL_cells, rI Y (aL 1) 12 cL_base])) (hf : fX9_lowestTop_b8 co_wall iL_cells cL_base x1 x2 = some res) : ax X 0 0 8 [some (.ref (ao 0)), some (.int x1), some (.int x2)] [oX9 ao aL aC io_moats io_spades io_tides, rI Y (ao 1) 12 co_wall, oX5 aL iL_cells, rI Y (aL 1) 12 cL_base] [] := by
  unfold fX9_lowestTop_b8 at hf
  exact fx_loop (P := fun s : Int32 × Int32 => ax X 0 0 8 [some (.ref (ao 0)), some (.int s.1), some (.int s.2)] [oX9 ao aL aC io_moats io_spades io_tides, rI Y (ao 1) 12 co_wall, oX5 aL iL_cells, rI Y (aL 1) 12 cL_base] []) (fun s k8 hk8 h => kX9_lowestTop_l8 C hQ hk8 h) FUEL (x1, x2) hf
def fX9_lowestTop (co_wall : Nat → Int32) (iL_cells : Int32) (cL_base : Nat → Int32) : Option (Int32) :=
  (fX9_top co_wall cL_base (0 : Int32)).bind (fun r3 => fX9_lowestTop_b8 co_wall iL_cells cL_base r3 (1 : Int32))
set_option maxHeartbeats 400000 in
set_option maxRecDepth 100000 in
theorem kX9_lowestTop (l : Launch) (D : va_G) (Y : Nat → ClassId) (ao aL aC : Nat → Nat) (io_moats : Int32) (io_spades : Int32) (io_tides : Int32) (co_wall : Nat → Int32) (iL_cells : Int32) (cL_base : Nat → Int32) (res : Int32) (hf : fX9_lowestTop co_wall iL_cells cL_base = some res) : amf l D Y yX9_lowestTop wsX9_lowestTop rmX9_lowestTop [.ref (ao 0)] [oX9 ao aL aC io_moats io_spades io_tides, rI Y (ao 1) 12 co_wall, oX5 aL iL_cells, rI Y (aL 1) 12 cL_base] (some (.int res)) [oX9 ao aL aC io_moats io_spades io_tides, rI Y (ao 1) 12 co_wall, oX5 aL iL_cells, rI Y (aL 1) 12 cL_base] := by
  refine amf.of (cc := cX9_lowestTop) (maxL := 3) (rt := (some .int)) (by decide) rfl RX9 rfl (Nat.le_of_ble_eq_true rfl) [some (.ref (ao 0)), none, none] rfl ?_
  intro X C hQ
  unfold fX9_lowestTop at hf
  refine a_aload_n C dX9_lowestTop_0 rfl ?_
  refine a_iconst C (0 : Int32) dX9_lowestTop_1 (by decide) ?_
  obtain ⟨r3, h3, hf⟩ := fx_bind hf
  refine a_fV C (kX9_top l D Y ao aL aC io_moats io_spades io_tides co_wall iL_cells cL_base (0 : Int32) r3 h3) (gB_X9_64 _) rfl dvX9_top ⟨⟨rfl, rfl⟩, ⟨Nat.le_of_ble_eq_true rfl, Nat.le_of_ble_eq_true rfl⟩, ⟨Nat.le_of_ble_eq_true rfl, Nat.le_of_ble_eq_true rfl⟩⟩ rfl (Nat.le_of_ble_eq_true rfl) dX9_lowestTop_2 rfl rfl [0, 1, 2, 3] [] ⟨rfl, rfl, rfl, rfl, trivial⟩ (by decide +kernel) rfl [oX9 ao aL aC io_moats io_spades io_tides, rI Y (ao 1) 12 co_wall, oX5 aL iL_cells, rI Y (aL 1) 12 cL_base] ⟨rfl, rfl, rfl, rfl, trivial⟩ trivial 4 rfl (by decide +kernel) ?_
  refine a_istore_n C dX9_lowestTop_5 (by decide) rfl ?_
  refine a_iconst C (1 : Int32) dX9_lowestTop_6 (by decide) ?_
  refine a_istore_n C dX9_lowestTop_7 (by decide) rfl ?_
  exact kX9_lowestTop_b8 C hQ hf
-- X9_below
abbrev rmX9_below : Room := { frames := 1, cells := 0, slots := 0, locals := 21 }
theorem dvX9_below : yX9_below.cls = RX9 ∧ yX9_below.cls ≠ "java/lang/invoke/MethodHandle" ∧ yX9_below.cls ≠ "java/lang/invoke/VarHandle" ∧ (parseMethodDescriptor yX9_below.desc).map (fun d => d.parameters.length) = some 1 := by decide +kernel
def fX9_below_b36 (co_wall : Nat → Int32) (iL_cells : Int32) (cL_base : Nat → Int32) (x2 : Int32) : Option (Int32) :=
  some x2
set_option maxHeartbeats 400000 in
set_option maxRecDepth 100000 in
theorem kX9_below_b36 {X : cxT} {l : Launch} {D : va_G} {Y : Nat → ClassId} {ao aL aC : Nat → Nat} {io_moats : Int32} {io_spades : Int32} {io_tides : Int32} {co_wall : Nat → Int32} {iL_cells : Int32} {cL_base : Nat → Int32} {x2 : Int32} {res : Int32} (C : axC X l D Y cX9_below 4 RX9 wsX9_below rmX9_below (some .int)) (hQ : axQ X 0 0 (fun r9 w9 => r9 = (some (.int res)) ∧ w9 = [oX9 ao aL aC io_moats io_spades io_tides, rI Y (ao 1) 12 co_wall, oX5 aL iL_cells, rI Y (aL 1) 12 cL_base])) (hf : fX9_below_b36 co_wall iL_cells cL_base x2 = some res) : ax X 0 0 36 [none, none, some (.int x2), none] [oX9 ao aL aC io_moats io_spades io_tides, rI Y (ao 1) 12 co_wall, oX5 aL iL_cells, rI Y (aL 1) 12 cL_base] [] := by
  unfold fX9_below_b36 at hf
  refine a_iload_n C dX9_below_36 rfl ?_
  obtain rfl := fx_some hf
  exact a_iret C hQ dX9_below_37 ⟨rfl, rfl⟩
def fX9_below_b30 (co_wall : Nat → Int32) (iL_cells : Int32) (cL_base : Nat → Int32) (x1 : Int32) (x2 : Int32) (x3 : Int32) (k4 : Int32 × Int32 → Option (Int32)) : Option (Int32) :=
  k4 (x2, (x3 + (1 : Int32)))
set_option maxHeartbeats 400000 in
set_option maxRecDepth 100000 in
theorem kX9_below_b30 {X : cxT} {l : Launch} {D : va_G} {Y : Nat → ClassId} {ao aL aC : Nat → Nat} {io_moats : Int32} {io_spades : Int32} {io_tides : Int32} {co_wall : Nat → Int32} {iL_cells : Int32} {cL_base : Nat → Int32} {x1 : Int32} {x2 : Int32} {x3 : Int32} {res : Int32} (C : axC X l D Y cX9_below 4 RX9 wsX9_below rmX9_below (some .int)) (hQ : axQ X 0 0 (fun r9 w9 => r9 = (some (.int res)) ∧ w9 = [oX9 ao aL aC io_moats io_spades io_tides, rI Y (ao 1) 12 co_wall, oX5 aL iL_cells, rI Y (aL 1) 12 cL_base])) {k4 : Int32 × Int32 → Option (Int32)} (hk4 : ∀ s : Int32 × Int32, k4 s = some res → ax X 0 0 4 [some (.ref (ao 0)), some (.int x1), some (.int s.1), some (.int s.2)] [oX9 ao aL aC io_moats io_spades io_tides, rI Y (ao 1) 12 co_wall, oX5 aL iL_cells, rI Y (aL 1) 12 cL_base] []) (hf : fX9_below_b30 co_wall iL_cells cL_base x1 x2 x3 k4 = some res) : ax X 0 0 30 [some (.ref (ao 0)), some (.int x1), some (.int x2), some (.int x3)] [oX9 ao aL aC io_moats io_spades io_tides, rI Y (ao 1) 12 co_wall, oX5 aL iL_cells, rI Y (aL 1) 12 cL_base] [] := by
  unfold fX9_below_b30 at hf
  refine a_iinc C (1 : Int32) dX9_below_30 (by decide) rfl (by decide) rfl ?_
  refine a_goto C 4 dX9_below_33 (by decide) ?_
  exact hk4 (x2, (x3 + (1 : Int32))) hf
def fX9_below_l4 (co_wall : Nat → Int32) (iL_cells : Int32) (cL_base : Nat → Int32) (x1 : Int32) (k4 : Int32 × Int32 → Option (Int32)) (x2 : Int32) (x3 : Int32) : Option (Int32) :=
  if iL_cells ≤ x3 then (fX9_below_b36 co_wall iL_cells cL_base x2) else ((fX9_top co_wall cL_base x3).bind (fun r2 => if x1 ≤ r2 then (fX9_below_b30 co_wall iL_cells cL_base x1 x2 x3 k4) else (fX9_below_b30 co_wall iL_cells cL_base x1 (x2 ||| (jshl (1 : Int32) x3)) x3 k4)))
def fX9_below_b4 (co_wall : Nat → Int32) (iL_cells : Int32) (cL_base : Nat → Int32) (x1 : Int32) (x2 : Int32) (x3 : Int32) : Option (Int32) :=
  loopN (fun (s : Int32 × Int32) k4 => fX9_below_l4 co_wall iL_cells cL_base x1 k4 s.1 s.2) FUEL (x2, x3)
set_option maxHeartbeats 400000 in
set_option maxRecDepth 100000 in
theorem kX9_below_l4 {X : cxT} {l : Launch} {D : va_G} {Y : Nat → ClassId} {ao aL aC : Nat → Nat} {io_moats : Int32} {io_spades : Int32} {io_tides : Int32} {co_wall : Nat → Int32} {iL_cells : Int32} {cL_base : Nat → Int32} {x1 : Int32} {x2 : Int32} {x3 : Int32} {res : Int32} (C : axC X l D Y cX9_below 4 RX9 wsX9_below rmX9_below (some .int)) (hQ : axQ X 0 0 (fun r9 w9 => r9 = (some (.int res)) ∧ w9 = [oX9 ao aL aC io_moats io_spades io_tides, rI Y (ao 1) 12 co_wall, oX5 aL iL_cells, rI Y (aL 1) 12 cL_base])) {k4 : Int32 × Int32 → Option (Int32)} (hk4 : ∀ s : Int32 × Int32, k4 s = some res → ax X 0 0 4 [some (.ref (ao 0)), some (.int x1), some (.int s.1), some (.int s.2)] [oX9 ao aL aC io_moats io_spades io_tides, rI Y (ao 1) 12 co_wall, oX5 aL iL_cells, rI Y (aL 1) 12 cL_base] []) (hf : fX9_below_l4 co_wall iL_cells cL_base x1 k4 x2 x3 = some res) : ax X 0 0 4 [some (.ref (ao 0)), some (.int x1), some (.int x2), some (.int x3)] [oX9 ao aL aC io_moats io_spades io_tides, rI Y (ao 1) 12 co_wall, oX5 aL iL_cells, rI Y (aL 1) 12 cL_base] [] := by
  unfold fX9_below_l4 at hf
  refine a_iload_n C dX9_below_4 rfl ?_
  refine a_aload_n C dX9_below_5 rfl ?_
  refine a_get C (eB_X9_24 _) dX9_below_6 0 rfl rfl ?_
  refine a_get C (eB_X9_68 _) dX9_below_9 2 rfl rfl ?_
  refine a_icmp_ge C 36 dX9_below_12 (by decide) (fun h1 => ?_) (fun h1 => ?_)
  · have hf := fx_t h1 hf
    refine a_kill [0, 1, 3] ?_
    exact kX9_below_b36 C hQ hf
  · have hf := fx_f h1 hf
    refine a_aload_n C dX9_below_15 rfl ?_
    refine a_iload_n C dX9_below_16 rfl ?_
    obtain ⟨r2, h2, hf⟩ := fx_bind hf
    refine a_fV C (kX9_top l D Y ao aL aC io_moats io_spades io_tides co_wall iL_cells cL_base x3 r2 h2) (gB_X9_64 _) rfl dvX9_top ⟨⟨rfl, rfl⟩, ⟨Nat.le_of_ble_eq_true rfl, Nat.le_of_ble_eq_true rfl⟩, ⟨Nat.le_of_ble_eq_true rfl, Nat.le_of_ble_eq_true rfl⟩⟩ rfl (Nat.le_of_ble_eq_true rfl) dX9_below_17 rfl rfl [0, 1, 2, 3] [] ⟨rfl, rfl, rfl, rfl, trivial⟩ (by decide +kernel) rfl [oX9 ao aL aC io_moats io_spades io_tides, rI Y (ao 1) 12 co_wall, oX5 aL iL_cells, rI Y (aL 1) 12 cL_base] ⟨rfl, rfl, rfl, rfl, trivial⟩ trivial 4 rfl (by decide +kernel) ?_
    refine a_iload_n C dX9_below_20 rfl ?_
    refine a_icmp_ge C 30 dX9_below_21 (by decide) (fun h3 => ?_) (fun h3 => ?_)
    · have hf := fx_t h3 hf
      exact kX9_below_b30 C hQ hk4 hf
    · have hf := fx_f h3 hf
      refine a_iload_n C dX9_below_24 rfl ?_
      refine a_iconst C (1 : Int32) dX9_below_25 (by decide) ?_
      refine a_iload_n C dX9_below_26 rfl ?_
      refine a_ishl C dX9_below_27 ?_
      refine a_ior C dX9_below_28 ?_
      refine a_istore_n C dX9_below_29 (by decide) rfl ?_
      exact kX9_below_b30 C hQ hk4 hf
set_option maxHeartbeats 400000 in
set_option maxRecDepth 100000 in
theorem kX9_below_b4 {X : cxT} {l : Launch} {D : va_G} {Y : Nat → ClassId} {ao aL aC : Nat → Nat} {io_moats : Int32} {io_spades : Int32} {io_tides : Int32} {co_wall : Nat → Int32} {iL_cells : Int32} {cL_base : Nat → Int32} {x1 : Int32} {x2 : Int32} {x3 : Int32} {res : Int32} (C : axC X l D Y cX9_below 4 RX9 wsX9_below rmX9_below (some .int)) (hQ : axQ X 0 0 (fun r9 w9 => r9 = (some (.int res)) ∧ w9 = [oX9 ao aL aC io_moats io_spades io_tides, rI Y (ao 1) 12 co_wall, oX5 aL iL_cells, rI Y (aL 1) 12 cL_base])) (hf : fX9_below_b4 co_wall iL_cells cL_base x1 x2 x3 = some res) : ax X 0 0 4 [some (.ref (ao 0)), some (.int x1), some (.int x2), some (.int x3)] [oX9 ao aL aC io_moats io_spades io_tides, rI Y (ao 1) 12 co_wall, oX5 aL iL_cells, rI Y (aL 1) 12 cL_base] [] := by
  unfold fX9_below_b4 at hf
  exact fx_loop (P := fun s : Int32 × Int32 => ax X 0 0 4 [some (.ref (ao 0)), some (.int x1), some (.int s.1), some (.int s.2)] [oX9 ao aL aC io_moats io_spades io_tides, rI Y (ao 1) 12 co_wall, oX5 aL iL_cells, rI Y (aL 1) 12 cL_base] []) (fun s k4 hk4 h => kX9_below_l4 C hQ hk4 h) FUEL (x2, x3) hf
def fX9_below (co_wall : Nat → Int32) (iL_cells : Int32) (cL_base : Nat → Int32) (x1 : Int32) : Option (Int32) :=
  fX9_below_b4 co_wall iL_cells cL_base x1 (0 : Int32) (0 : Int32)
set_option maxHeartbeats 400000 in
set_option maxRecDepth 100000 in
theorem kX9_below (l : Launch) (D : va_G) (Y : Nat → ClassId) (ao aL aC : Nat → Nat) (io_moats : Int32) (io_spades : Int32) (io_tides : Int32) (co_wall : Nat → Int32) (iL_cells : Int32) (cL_base : Nat → Int32) (x1 : Int32) (res : Int32) (hf : fX9_below co_wall iL_cells cL_base x1 = some res) : amf l D Y yX9_below wsX9_below rmX9_below [.ref (ao 0), .int x1] [oX9 ao aL aC io_moats io_spades io_tides, rI Y (ao 1) 12 co_wall, oX5 aL iL_cells, rI Y (aL 1) 12 cL_base] (some (.int res)) [oX9 ao aL aC io_moats io_spades io_tides, rI Y (ao 1) 12 co_wall, oX5 aL iL_cells, rI Y (aL 1) 12 cL_base] := by
  refine amf.of (cc := cX9_below) (maxL := 4) (rt := (some .int)) (by decide) rfl RX9 rfl (Nat.le_of_ble_eq_true rfl) [some (.ref (ao 0)), some (.int x1), none, none] rfl ?_
  intro X C hQ
  unfold fX9_below at hf
  refine a_iconst C (0 : Int32) dX9_below_0 (by decide) ?_
  refine a_istore_n C dX9_below_1 (by decide) rfl ?_
  refine a_iconst C (0 : Int32) dX9_below_2 (by decide) ?_
  refine a_istore_n C dX9_below_3 (by decide) rfl ?_
  exact kX9_below_b4 C hQ hf
-- X9_childrenAt
abbrev rmX9_childrenAt : Room := { frames := 0, cells := 0, slots := 0, locals := 0 }
theorem dvX9_childrenAt : yX9_childrenAt.cls = RX9 ∧ yX9_childrenAt.cls ≠ "java/lang/invoke/MethodHandle" ∧ yX9_childrenAt.cls ≠ "java/lang/invoke/VarHandle" ∧ (parseMethodDescriptor yX9_childrenAt.desc).map (fun d => d.parameters.length) = some 1 := by decide +kernel
def fX9_childrenAt_b37 (co_place : Nat → Int32) (iC_size : Int32) (x2 : Int32) : Option (Int32) :=
  some x2
set_option maxHeartbeats 400000 in
set_option maxRecDepth 100000 in
theorem kX9_childrenAt_b37 {X : cxT} {l : Launch} {D : va_G} {Y : Nat → ClassId} {ao aL aC : Nat → Nat} {io_moats : Int32} {io_spades : Int32} {io_tides : Int32} {co_place : Nat → Int32} {iC_size : Int32} {x2 : Int32} {res : Int32} (C : axC X l D Y cX9_childrenAt 4 RX9 wsX9_childrenAt rmX9_childrenAt (some .int)) (hQ : axQ X 0 0 (fun r9 w9 => r9 = (some (.int res)) ∧ w9 = [oX9 ao aL aC io_moats io_spades io_tides, rI Y (ao 4) 8 co_place, oX2 aC iC_size])) (hf : fX9_childrenAt_b37 co_place iC_size x2 = some res) : ax X 0 0 37 [none, none, some (.int x2), none] [oX9 ao aL aC io_moats io_spades io_tides, rI Y (ao 4) 8 co_place, oX2 aC iC_size] [] := by
  unfold fX9_childrenAt_b37 at hf
  refine a_iload_n C dX9_childrenAt_37 rfl ?_
  obtain rfl := fx_some hf
  exact a_iret C hQ dX9_childrenAt_38 ⟨rfl, rfl⟩
def fX9_childrenAt_b31 (co_place : Nat → Int32) (iC_size : Int32) (x1 : Int32) (x2 : Int32) (x3 : Int32) (k4 : Int32 × Int32 → Option (Int32)) : Option (Int32) :=
  k4 (x2, (x3 + (1 : Int32)))
set_option maxHeartbeats 400000 in
set_option maxRecDepth 100000 in
theorem kX9_childrenAt_b31 {X : cxT} {l : Launch} {D : va_G} {Y : Nat → ClassId} {ao aL aC : Nat → Nat} {io_moats : Int32} {io_spades : Int32} {io_tides : Int32} {co_place : Nat → Int32} {iC_size : Int32} {x1 : Int32} {x2 : Int32} {x3 : Int32} {res : Int32} (C : axC X l D Y cX9_childrenAt 4 RX9 wsX9_childrenAt rmX9_childrenAt (some .int)) (hQ : axQ X 0 0 (fun r9 w9 => r9 = (some (.int res)) ∧ w9 = [oX9 ao aL aC io_moats io_spades io_tides, rI Y (ao 4) 8 co_place, oX2 aC iC_size])) {k4 : Int32 × Int32 → Option (Int32)} (hk4 : ∀ s : Int32 × Int32, k4 s = some res → ax X 0 0 4 [some (.ref (ao 0)), some (.int x1), some (.int s.1), some (.int s.2)] [oX9 ao aL aC io_moats io_spades io_tides, rI Y (ao 4) 8 co_place, oX2 aC iC_size] []) (hf : fX9_childrenAt_b31 co_place iC_size x1 x2 x3 k4 = some res) : ax X 0 0 31 [some (.ref (ao 0)), some (.int x1), some (.int x2), some (.int x3)] [oX9 ao aL aC io_moats io_spades io_tides, rI Y (ao 4) 8 co_place, oX2 aC iC_size] [] := by
  unfold fX9_childrenAt_b31 at hf
  refine a_iinc C (1 : Int32) dX9_childrenAt_31 (by decide) rfl (by decide) rfl ?_
  refine a_goto C 4 dX9_childrenAt_34 (by decide) ?_
  exact hk4 (x2, (x3 + (1 : Int32))) hf
def fX9_childrenAt_l4 (co_place : Nat → Int32) (iC_size : Int32) (x1 : Int32) (k4 : Int32 × Int32 → Option (Int32)) (x2 : Int32) (x3 : Int32) : Option (Int32) :=
  if iC_size ≤ x3 then (fX9_childrenAt_b37 co_place iC_size x2) else (if inb x3 8 then if (co_place (Int32.toNatClampNeg x3)) = x1 then (fX9_childrenAt_b31 co_place iC_size x1 (x2 ||| (jshl (1 : Int32) x3)) x3 k4) else (fX9_childrenAt_b31 co_place iC_size x1 x2 x3 k4) else none)
def fX9_childrenAt_b4 (co_place : Nat → Int32) (iC_size : Int32) (x1 : Int32) (x2 : Int32) (x3 : Int32) : Option (Int32) :=
  loopN (fun (s : Int32 × Int32) k4 => fX9_childrenAt_l4 co_place iC_size x1 k4 s.1 s.2) FUEL (x2, x3)
set_option maxHeartbeats 400000 in
set_option maxRecDepth 100000 in
theorem kX9_childrenAt_l4 {X : cxT} {l : Launch} {D : va_G} {Y : Nat → ClassId} {ao aL aC : Nat → Nat} {io_moats : Int32} {io_spades : Int32} {io_tides : Int32} {co_place : Nat → Int32} {iC_size : Int32} {x1 : Int32} {x2 : Int32} {x3 : Int32} {res : Int32} (C : axC X l D Y cX9_childrenAt 4 RX9 wsX9_childrenAt rmX9_childrenAt (some .int)) (hQ : axQ X 0 0 (fun r9 w9 => r9 = (some (.int res)) ∧ w9 = [oX9 ao aL aC io_moats io_spades io_tides, rI Y (ao 4) 8 co_place, oX2 aC iC_size])) {k4 : Int32 × Int32 → Option (Int32)} (hk4 : ∀ s : Int32 × Int32, k4 s = some res → ax X 0 0 4 [some (.ref (ao 0)), some (.int x1), some (.int s.1), some (.int s.2)] [oX9 ao aL aC io_moats io_spades io_tides, rI Y (ao 4) 8 co_place, oX2 aC iC_size] []) (hf : fX9_childrenAt_l4 co_place iC_size x1 k4 x2 x3 = some res) : ax X 0 0 4 [some (.ref (ao 0)), some (.int x1), some (.int x2), some (.int x3)] [oX9 ao aL aC io_moats io_spades io_tides, rI Y (ao 4) 8 co_place, oX2 aC iC_size] [] := by
  unfold fX9_childrenAt_l4 at hf
  refine a_iload_n C dX9_childrenAt_4 rfl ?_
  refine a_aload_n C dX9_childrenAt_5 rfl ?_
  refine a_get C (eB_X9_28 _) dX9_childrenAt_6 0 rfl rfl ?_
  refine a_get C (eB_X9_54 _) dX9_childrenAt_9 2 rfl rfl ?_
  refine a_icmp_ge C 37 dX9_childrenAt_12 (by decide) (fun h1 => ?_) (fun h1 => ?_)
  · have hf := fx_t h1 hf
    refine a_kill [0, 1, 3] ?_
    exact kX9_childrenAt_b37 C hQ hf
  · have hf := fx_f h1 hf
    refine a_aload_n C dX9_childrenAt_15 rfl ?_
    refine a_get C (eB_X9_21 _) dX9_childrenAt_16 0 rfl rfl ?_
    refine a_iload_n C dX9_childrenAt_19 rfl ?_
    obtain ⟨h2, hf⟩ := fx_ite hf
    refine a_iald C dX9_childrenAt_20 1 rfl h2 ?_
    refine a_iload_n C dX9_childrenAt_21 rfl ?_
    refine a_icmp_ne C 31 dX9_childrenAt_22 (by decide) (fun h3 => ?_) (fun h3 => ?_)
    · have hf := fx_f h3 hf
      exact kX9_childrenAt_b31 C hQ hk4 hf
    · have hf := fx_t h3 hf
      refine a_iload_n C dX9_childrenAt_25 rfl ?_
      refine a_iconst C (1 : Int32) dX9_childrenAt_26 (by decide) ?_
      refine a_iload_n C dX9_childrenAt_27 rfl ?_
      refine a_ishl C dX9_childrenAt_28 ?_
      refine a_ior C dX9_childrenAt_29 ?_
      refine a_istore_n C dX9_childrenAt_30 (by decide) rfl ?_
      exact kX9_childrenAt_b31 C hQ hk4 hf
set_option maxHeartbeats 400000 in
set_option maxRecDepth 100000 in
theorem kX9_childrenAt_b4 {X : cxT} {l : Launch} {D : va_G} {Y : Nat → ClassId} {ao aL aC : Nat → Nat} {io_moats : Int32} {io_spades : Int32} {io_tides : Int32} {co_place : Nat → Int32} {iC_size : Int32} {x1 : Int32} {x2 : Int32} {x3 : Int32} {res : Int32} (C : axC X l D Y cX9_childrenAt 4 RX9 wsX9_childrenAt rmX9_childrenAt (some .int)) (hQ : axQ X 0 0 (fun r9 w9 => r9 = (some (.int res)) ∧ w9 = [oX9 ao aL aC io_moats io_spades io_tides, rI Y (ao 4) 8 co_place, oX2 aC iC_size])) (hf : fX9_childrenAt_b4 co_place iC_size x1 x2 x3 = some res) : ax X 0 0 4 [some (.ref (ao 0)), some (.int x1), some (.int x2), some (.int x3)] [oX9 ao aL aC io_moats io_spades io_tides, rI Y (ao 4) 8 co_place, oX2 aC iC_size] [] := by
  unfold fX9_childrenAt_b4 at hf
  exact fx_loop (P := fun s : Int32 × Int32 => ax X 0 0 4 [some (.ref (ao 0)), some (.int x1), some (.int s.1), some (.int s.2)] [oX9 ao aL aC io_moats io_spades io_tides, rI Y (ao 4) 8 co_place, oX2 aC iC_size] []) (fun s k4 hk4 h => kX9_childrenAt_l4 C hQ hk4 h) FUEL (x2, x3) hf
def fX9_childrenAt (co_place : Nat → Int32) (iC_size : Int32) (x1 : Int32) : Option (Int32) :=
  fX9_childrenAt_b4 co_place iC_size x1 (0 : Int32) (0 : Int32)
set_option maxHeartbeats 400000 in
set_option maxRecDepth 100000 in
theorem kX9_childrenAt (l : Launch) (D : va_G) (Y : Nat → ClassId) (ao aL aC : Nat → Nat) (io_moats : Int32) (io_spades : Int32) (io_tides : Int32) (co_place : Nat → Int32) (iC_size : Int32) (x1 : Int32) (res : Int32) (hf : fX9_childrenAt co_place iC_size x1 = some res) : amf l D Y yX9_childrenAt wsX9_childrenAt rmX9_childrenAt [.ref (ao 0), .int x1] [oX9 ao aL aC io_moats io_spades io_tides, rI Y (ao 4) 8 co_place, oX2 aC iC_size] (some (.int res)) [oX9 ao aL aC io_moats io_spades io_tides, rI Y (ao 4) 8 co_place, oX2 aC iC_size] := by
  refine amf.of (cc := cX9_childrenAt) (maxL := 4) (rt := (some .int)) (by decide) rfl RX9 rfl (Nat.le_of_ble_eq_true rfl) [some (.ref (ao 0)), some (.int x1), none, none] rfl ?_
  intro X C hQ
  unfold fX9_childrenAt at hf
  refine a_iconst C (0 : Int32) dX9_childrenAt_0 (by decide) ?_
  refine a_istore_n C dX9_childrenAt_1 (by decide) rfl ?_
  refine a_iconst C (0 : Int32) dX9_childrenAt_2 (by decide) ?_
  refine a_istore_n C dX9_childrenAt_3 (by decide) rfl ?_
  exact kX9_childrenAt_b4 C hQ hf
-- X9_atHome
abbrev rmX9_atHome : Room := { frames := 1, cells := 0, slots := 0, locals := 23 }
theorem dvX9_atHome : yX9_atHome.cls = RX9 ∧ yX9_atHome.cls ≠ "java/lang/invoke/MethodHandle" ∧ yX9_atHome.cls ≠ "java/lang/invoke/VarHandle" ∧ (parseMethodDescriptor yX9_atHome.desc).map (fun d => d.parameters.length) = some 0 := by decide +kernel
def fX9_atHome (co_place : Nat → Int32) (iC_size : Int32) : Option (Int32) :=
  (fX9_childrenAt co_place iC_size (-1 : Int32)).bind (fun r1 => some r1)
set_option maxHeartbeats 400000 in
set_option maxRecDepth 100000 in
theorem kX9_atHome (l : Launch) (D : va_G) (Y : Nat → ClassId) (ao aL aC : Nat → Nat) (io_moats : Int32) (io_spades : Int32) (io_tides : Int32) (co_place : Nat → Int32) (iC_size : Int32) (res : Int32) (hf : fX9_atHome co_place iC_size = some res) : amf l D Y yX9_atHome wsX9_atHome rmX9_atHome [.ref (ao 0)] [oX9 ao aL aC io_moats io_spades io_tides, rI Y (ao 4) 8 co_place, oX2 aC iC_size] (some (.int res)) [oX9 ao aL aC io_moats io_spades io_tides, rI Y (ao 4) 8 co_place, oX2 aC iC_size] := by
  refine amf.of (cc := cX9_atHome) (maxL := 1) (rt := (some .int)) (by decide) rfl RX9 rfl (Nat.le_of_ble_eq_true rfl) [some (.ref (ao 0))] rfl ?_
  intro X C hQ
  unfold fX9_atHome at hf
  refine a_aload_n C dX9_atHome_0 rfl ?_
  refine a_iconst C (-1 : Int32) dX9_atHome_1 (by decide) ?_
  obtain ⟨r1, h1, hf⟩ := fx_bind hf
  refine a_fV C (kX9_childrenAt l D Y ao aL aC io_moats io_spades io_tides co_place iC_size (-1 : Int32) r1 h1) (gB_X9_77 _) rfl dvX9_childrenAt ⟨⟨rfl, rfl⟩, ⟨Nat.le_of_ble_eq_true rfl, Nat.le_of_ble_eq_true rfl⟩, ⟨Nat.le_of_ble_eq_true rfl, Nat.le_of_ble_eq_true rfl⟩⟩ rfl (Nat.le_of_ble_eq_true rfl) dX9_atHome_2 rfl rfl [0, 1, 2] [] ⟨rfl, rfl, rfl, trivial⟩ (by decide +kernel) rfl [oX9 ao aL aC io_moats io_spades io_tides, rI Y (ao 4) 8 co_place, oX2 aC iC_size] ⟨rfl, rfl, rfl, trivial⟩ trivial 3 rfl (by decide +kernel) ?_
  obtain rfl := fx_some hf
  exact a_iret C hQ dX9_atHome_5 ⟨rfl, rfl⟩
-- X9_wet
abbrev rmX9_wet : Room := { frames := 0, cells := 0, slots := 0, locals := 0 }
theorem dvX9_wet : yX9_wet.cls = RX9 ∧ yX9_wet.cls ≠ "java/lang/invoke/MethodHandle" ∧ yX9_wet.cls ≠ "java/lang/invoke/VarHandle" ∧ (parseMethodDescriptor yX9_wet.desc).map (fun d => d.parameters.length) = some 0 := by decide +kernel
def fX9_wet_b36 (co_depth : Nat → Int32) (iL_cells : Int32) (x1 : Int32) : Option (Int32) :=
  some x1
set_option maxHeartbeats 400000 in
set_option maxRecDepth 100000 in
theorem kX9_wet_b36 {X : cxT} {l : Launch} {D : va_G} {Y : Nat → ClassId} {ao aL aC : Nat → Nat} {io_moats : Int32} {io_spades : Int32} {io_tides : Int32} {co_depth : Nat → Int32} {iL_cells : Int32} {x1 : Int32} {res : Int32} (C : axC X l D Y cX9_wet 3 RX9 wsX9_wet rmX9_wet (some .int)) (hQ : axQ X 0 0 (fun r9 w9 => r9 = (some (.int res)) ∧ w9 = [oX9 ao aL aC io_moats io_spades io_tides, rI Y (ao 2) 12 co_depth, oX5 aL iL_cells])) (hf : fX9_wet_b36 co_depth iL_cells x1 = some res) : ax X 0 0 36 [none, some (.int x1), none] [oX9 ao aL aC io_moats io_spades io_tides, rI Y (ao 2) 12 co_depth, oX5 aL iL_cells] [] := by
  unfold fX9_wet_b36 at hf
  refine a_iload_n C dX9_wet_36 rfl ?_
  obtain rfl := fx_some hf
  exact a_iret C hQ dX9_wet_37 ⟨rfl, rfl⟩
def fX9_wet_b30 (co_depth : Nat → Int32) (iL_cells : Int32) (x1 : Int32) (x2 : Int32) (k4 : Int32 × Int32 → Option (Int32)) : Option (Int32) :=
  k4 (x1, (x2 + (1 : Int32)))
set_option maxHeartbeats 400000 in
set_option maxRecDepth 100000 in
theorem kX9_wet_b30 {X : cxT} {l : Launch} {D : va_G} {Y : Nat → ClassId} {ao aL aC : Nat → Nat} {io_moats : Int32} {io_spades : Int32} {io_tides : Int32} {co_depth : Nat → Int32} {iL_cells : Int32} {x1 : Int32} {x2 : Int32} {res : Int32} (C : axC X l D Y cX9_wet 3 RX9 wsX9_wet rmX9_wet (some .int)) (hQ : axQ X 0 0 (fun r9 w9 => r9 = (some (.int res)) ∧ w9 = [oX9 ao aL aC io_moats io_spades io_tides, rI Y (ao 2) 12 co_depth, oX5 aL iL_cells])) {k4 : Int32 × Int32 → Option (Int32)} (hk4 : ∀ s : Int32 × Int32, k4 s = some res → ax X 0 0 4 [some (.ref (ao 0)), some (.int s.1), some (.int s.2)] [oX9 ao aL aC io_moats io_spades io_tides, rI Y (ao 2) 12 co_depth, oX5 aL iL_cells] []) (hf : fX9_wet_b30 co_depth iL_cells x1 x2 k4 = some res) : ax X 0 0 30 [some (.ref (ao 0)), some (.int x1), some (.int x2)] [oX9 ao aL aC io_moats io_spades io_tides, rI Y (ao 2) 12 co_depth, oX5 aL iL_cells] [] := by
  unfold fX9_wet_b30 at hf
  refine a_iinc C (1 : Int32) dX9_wet_30 (by decide) rfl (by decide) rfl ?_
  refine a_goto C 4 dX9_wet_33 (by decide) ?_
  exact hk4 (x1, (x2 + (1 : Int32))) hf
def fX9_wet_l4 (co_depth : Nat → Int32) (iL_cells : Int32) (k4 : Int32 × Int32 → Option (Int32)) (x1 : Int32) (x2 : Int32) : Option (Int32) :=
  if iL_cells ≤ x2 then (fX9_wet_b36 co_depth iL_cells x1) else (if inb x2 12 then if (co_depth (Int32.toNatClampNeg x2)) ≤ (0 : Int32) then (fX9_wet_b30 co_depth iL_cells x1 x2 k4) else (fX9_wet_b30 co_depth iL_cells (x1 ||| (jshl (1 : Int32) x2)) x2 k4) else none)
def fX9_wet_b4 (co_depth : Nat → Int32) (iL_cells : Int32) (x1 : Int32) (x2 : Int32) : Option (Int32) :=
  loopN (fun (s : Int32 × Int32) k4 => fX9_wet_l4 co_depth iL_cells k4 s.1 s.2) FUEL (x1, x2)
set_option maxHeartbeats 400000 in
set_option maxRecDepth 100000 in
theorem kX9_wet_l4 {X : cxT} {l : Launch} {D : va_G} {Y : Nat → ClassId} {ao aL aC : Nat → Nat} {io_moats : Int32} {io_spades : Int32} {io_tides : Int32} {co_depth : Nat → Int32} {iL_cells : Int32} {x1 : Int32} {x2 : Int32} {res : Int32} (C : axC X l D Y cX9_wet 3 RX9 wsX9_wet rmX9_wet (some .int)) (hQ : axQ X 0 0 (fun r9 w9 => r9 = (some (.int res)) ∧ w9 = [oX9 ao aL aC io_moats io_spades io_tides, rI Y (ao 2) 12 co_depth, oX5 aL iL_cells])) {k4 : Int32 × Int32 → Option (Int32)} (hk4 : ∀ s : Int32 × Int32, k4 s = some res → ax X 0 0 4 [some (.ref (ao 0)), some (.int s.1), some (.int s.2)] [oX9 ao aL aC io_moats io_spades io_tides, rI Y (ao 2) 12 co_depth, oX5 aL iL_cells] []) (hf : fX9_wet_l4 co_depth iL_cells k4 x1 x2 = some res) : ax X 0 0 4 [some (.ref (ao 0)), some (.int x1), some (.int x2)] [oX9 ao aL aC io_moats io_spades io_tides, rI Y (ao 2) 12 co_depth, oX5 aL iL_cells] [] := by
  unfold fX9_wet_l4 at hf
  refine a_iload_n C dX9_wet_4 rfl ?_
  refine a_aload_n C dX9_wet_5 rfl ?_
  refine a_get C (eB_X9_24 _) dX9_wet_6 0 rfl rfl ?_
  refine a_get C (eB_X9_68 _) dX9_wet_9 2 rfl rfl ?_
  refine a_icmp_ge C 36 dX9_wet_12 (by decide) (fun h1 => ?_) (fun h1 => ?_)
  · have hf := fx_t h1 hf
    refine a_kill [0, 2] ?_
    exact kX9_wet_b36 C hQ hf
  · have hf := fx_f h1 hf
    refine a_aload_n C dX9_wet_15 rfl ?_
    refine a_get C (eB_X9_15 _) dX9_wet_16 0 rfl rfl ?_
    refine a_iload_n C dX9_wet_19 rfl ?_
    obtain ⟨h2, hf⟩ := fx_ite hf
    refine a_iald C dX9_wet_20 1 rfl h2 ?_
    refine a_if_le C 30 dX9_wet_21 (by decide) (fun h3 => ?_) (fun h3 => ?_)
    · have hf := fx_t h3 hf
      exact kX9_wet_b30 C hQ hk4 hf
    · have hf := fx_f h3 hf
      refine a_iload_n C dX9_wet_24 rfl ?_
      refine a_iconst C (1 : Int32) dX9_wet_25 (by decide) ?_
      refine a_iload_n C dX9_wet_26 rfl ?_
      refine a_ishl C dX9_wet_27 ?_
      refine a_ior C dX9_wet_28 ?_
      refine a_istore_n C dX9_wet_29 (by decide) rfl ?_
      exact kX9_wet_b30 C hQ hk4 hf
set_option maxHeartbeats 400000 in
set_option maxRecDepth 100000 in
theorem kX9_wet_b4 {X : cxT} {l : Launch} {D : va_G} {Y : Nat → ClassId} {ao aL aC : Nat → Nat} {io_moats : Int32} {io_spades : Int32} {io_tides : Int32} {co_depth : Nat → Int32} {iL_cells : Int32} {x1 : Int32} {x2 : Int32} {res : Int32} (C : axC X l D Y cX9_wet 3 RX9 wsX9_wet rmX9_wet (some .int)) (hQ : axQ X 0 0 (fun r9 w9 => r9 = (some (.int res)) ∧ w9 = [oX9 ao aL aC io_moats io_spades io_tides, rI Y (ao 2) 12 co_depth, oX5 aL iL_cells])) (hf : fX9_wet_b4 co_depth iL_cells x1 x2 = some res) : ax X 0 0 4 [some (.ref (ao 0)), some (.int x1), some (.int x2)] [oX9 ao aL aC io_moats io_spades io_tides, rI Y (ao 2) 12 co_depth, oX5 aL iL_cells] [] := by
  unfold fX9_wet_b4 at hf
  exact fx_loop (P := fun s : Int32 × Int32 => ax X 0 0 4 [some (.ref (ao 0)), some (.int s.1), some (.int s.2)] [oX9 ao aL aC io_moats io_spades io_tides, rI Y (ao 2) 12 co_depth, oX5 aL iL_cells] []) (fun s k4 hk4 h => kX9_wet_l4 C hQ hk4 h) FUEL (x1, x2) hf
def fX9_wet (co_depth : Nat → Int32) (iL_cells : Int32) : Option (Int32) :=
  fX9_wet_b4 co_depth iL_cells (0 : Int32) (0 : Int32)
set_option maxHeartbeats 400000 in
set_option maxRecDepth 100000 in
theorem kX9_wet (l : Launch) (D : va_G) (Y : Nat → ClassId) (ao aL aC : Nat → Nat) (io_moats : Int32) (io_spades : Int32) (io_tides : Int32) (co_depth : Nat → Int32) (iL_cells : Int32) (res : Int32) (hf : fX9_wet co_depth iL_cells = some res) : amf l D Y yX9_wet wsX9_wet rmX9_wet [.ref (ao 0)] [oX9 ao aL aC io_moats io_spades io_tides, rI Y (ao 2) 12 co_depth, oX5 aL iL_cells] (some (.int res)) [oX9 ao aL aC io_moats io_spades io_tides, rI Y (ao 2) 12 co_depth, oX5 aL iL_cells] := by
  refine amf.of (cc := cX9_wet) (maxL := 3) (rt := (some .int)) (by decide) rfl RX9 rfl (Nat.le_of_ble_eq_true rfl) [some (.ref (ao 0)), none, none] rfl ?_
  intro X C hQ
  unfold fX9_wet at hf
  refine a_iconst C (0 : Int32) dX9_wet_0 (by decide) ?_
  refine a_istore_n C dX9_wet_1 (by decide) rfl ?_
  refine a_iconst C (0 : Int32) dX9_wet_2 (by decide) ?_
  refine a_istore_n C dX9_wet_3 (by decide) rfl ?_
  exact kX9_wet_b4 C hQ hf
-- X9_water
abbrev rmX9_water : Room := { frames := 0, cells := 0, slots := 0, locals := 0 }
theorem dvX9_water : yX9_water.cls = RX9 ∧ yX9_water.cls ≠ "java/lang/invoke/MethodHandle" ∧ yX9_water.cls ≠ "java/lang/invoke/VarHandle" ∧ (parseMethodDescriptor yX9_water.desc).map (fun d => d.parameters.length) = some 0 := by decide +kernel
def fX9_water_b30 (co_depth : Nat → Int32) (iL_cells : Int32) (x1 : Int32) : Option (Int32) :=
  some x1
set_option maxHeartbeats 400000 in
set_option maxRecDepth 100000 in
theorem kX9_water_b30 {X : cxT} {l : Launch} {D : va_G} {Y : Nat → ClassId} {ao aL aC : Nat → Nat} {io_moats : Int32} {io_spades : Int32} {io_tides : Int32} {co_depth : Nat → Int32} {iL_cells : Int32} {x1 : Int32} {res : Int32} (C : axC X l D Y cX9_water 3 RX9 wsX9_water rmX9_water (some .int)) (hQ : axQ X 0 0 (fun r9 w9 => r9 = (some (.int res)) ∧ w9 = [oX9 ao aL aC io_moats io_spades io_tides, rI Y (ao 2) 12 co_depth, oX5 aL iL_cells])) (hf : fX9_water_b30 co_depth iL_cells x1 = some res) : ax X 0 0 30 [none, some (.int x1), none] [oX9 ao aL aC io_moats io_spades io_tides, rI Y (ao 2) 12 co_depth, oX5 aL iL_cells] [] := by
  unfold fX9_water_b30 at hf
  refine a_iload_n C dX9_water_30 rfl ?_
  obtain rfl := fx_some hf
  exact a_iret C hQ dX9_water_31 ⟨rfl, rfl⟩
def fX9_water_l4 (co_depth : Nat → Int32) (iL_cells : Int32) (k4 : Int32 × Int32 → Option (Int32)) (x1 : Int32) (x2 : Int32) : Option (Int32) :=
  if iL_cells ≤ x2 then (fX9_water_b30 co_depth iL_cells x1) else (if inb x2 12 then k4 ((x1 + (co_depth (Int32.toNatClampNeg x2))), (x2 + (1 : Int32))) else none)
def fX9_water_b4 (co_depth : Nat → Int32) (iL_cells : Int32) (x1 : Int32) (x2 : Int32) : Option (Int32) :=
  loopN (fun (s : Int32 × Int32) k4 => fX9_water_l4 co_depth iL_cells k4 s.1 s.2) FUEL (x1, x2)
set_option maxHeartbeats 400000 in
set_option maxRecDepth 100000 in
theorem kX9_water_l4 {X : cxT} {l : Launch} {D : va_G} {Y : Nat → ClassId} {ao aL aC : Nat → Nat} {io_moats : Int32} {io_spades : Int32} {io_tides : Int32} {co_depth : Nat → Int32} {iL_cells : Int32} {x1 : Int32} {x2 : Int32} {res : Int32} (C : axC X l D Y cX9_water 3 RX9 wsX9_water rmX9_water (some .int)) (hQ : axQ X 0 0 (fun r9 w9 => r9 = (some (.int res)) ∧ w9 = [oX9 ao aL aC io_moats io_spades io_tides, rI Y (ao 2) 12 co_depth, oX5 aL iL_cells])) {k4 : Int32 × Int32 → Option (Int32)} (hk4 : ∀ s : Int32 × Int32, k4 s = some res → ax X 0 0 4 [some (.ref (ao 0)), some (.int s.1), some (.int s.2)] [oX9 ao aL aC io_moats io_spades io_tides, rI Y (ao 2) 12 co_depth, oX5 aL iL_cells] []) (hf : fX9_water_l4 co_depth iL_cells k4 x1 x2 = some res) : ax X 0 0 4 [some (.ref (ao 0)), some (.int x1), some (.int x2)] [oX9 ao aL aC io_moats io_spades io_tides, rI Y (ao 2) 12 co_depth, oX5 aL iL_cells] [] := by
  unfold fX9_water_l4 at hf
  refine a_iload_n C dX9_water_4 rfl ?_
  refine a_aload_n C dX9_water_5 rfl ?_
  refine a_get C (eB_X9_24 _) dX9_water_6 0 rfl rfl ?_
  refine a_get C (eB_X9_68 _) dX9_water_9 2 rfl rfl ?_
  refine a_icmp_ge C 30 dX9_water_12 (by decide) (fun h1 => ?_) (fun h1 => ?_)
  · have hf := fx_t h1 hf
    refine a_kill [0, 2] ?_
    exact kX9_water_b30 C hQ hf
  · have hf := fx_f h1 hf
    refine a_iload_n C dX9_water_15 rfl ?_
    refine a_aload_n C dX9_water_16 rfl ?_
    refine a_get C (eB_X9_15 _) dX9_water_17 0 rfl rfl ?_
    refine a_iload_n C dX9_water_20 rfl ?_
    obtain ⟨h2, hf⟩ := fx_ite hf
    refine a_iald C dX9_water_21 1 rfl h2 ?_
    refine a_iadd C dX9_water_22 ?_
    refine a_istore_n C dX9_water_23 (by decide) rfl ?_
    refine a_iinc C (1 : Int32) dX9_water_24 (by decide) rfl (by decide) rfl ?_
    refine a_goto C 4 dX9_water_27 (by decide) ?_
    exact hk4 ((x1 + (co_depth (Int32.toNatClampNeg x2))), (x2 + (1 : Int32))) hf
set_option maxHeartbeats 400000 in
set_option maxRecDepth 100000 in
theorem kX9_water_b4 {X : cxT} {l : Launch} {D : va_G} {Y : Nat → ClassId} {ao aL aC : Nat → Nat} {io_moats : Int32} {io_spades : Int32} {io_tides : Int32} {co_depth : Nat → Int32} {iL_cells : Int32} {x1 : Int32} {x2 : Int32} {res : Int32} (C : axC X l D Y cX9_water 3 RX9 wsX9_water rmX9_water (some .int)) (hQ : axQ X 0 0 (fun r9 w9 => r9 = (some (.int res)) ∧ w9 = [oX9 ao aL aC io_moats io_spades io_tides, rI Y (ao 2) 12 co_depth, oX5 aL iL_cells])) (hf : fX9_water_b4 co_depth iL_cells x1 x2 = some res) : ax X 0 0 4 [some (.ref (ao 0)), some (.int x1), some (.int x2)] [oX9 ao aL aC io_moats io_spades io_tides, rI Y (ao 2) 12 co_depth, oX5 aL iL_cells] [] := by
  unfold fX9_water_b4 at hf
  exact fx_loop (P := fun s : Int32 × Int32 => ax X 0 0 4 [some (.ref (ao 0)), some (.int s.1), some (.int s.2)] [oX9 ao aL aC io_moats io_spades io_tides, rI Y (ao 2) 12 co_depth, oX5 aL iL_cells] []) (fun s k4 hk4 h => kX9_water_l4 C hQ hk4 h) FUEL (x1, x2) hf
def fX9_water (co_depth : Nat → Int32) (iL_cells : Int32) : Option (Int32) :=
  fX9_water_b4 co_depth iL_cells (0 : Int32) (0 : Int32)
set_option maxHeartbeats 400000 in
set_option maxRecDepth 100000 in
theorem kX9_water (l : Launch) (D : va_G) (Y : Nat → ClassId) (ao aL aC : Nat → Nat) (io_moats : Int32) (io_spades : Int32) (io_tides : Int32) (co_depth : Nat → Int32) (iL_cells : Int32) (res : Int32) (hf : fX9_water co_depth iL_cells = some res) : amf l D Y yX9_water wsX9_water rmX9_water [.ref (ao 0)] [oX9 ao aL aC io_moats io_spades io_tides, rI Y (ao 2) 12 co_depth, oX5 aL iL_cells] (some (.int res)) [oX9 ao aL aC io_moats io_spades io_tides, rI Y (ao 2) 12 co_depth, oX5 aL iL_cells] := by
  refine amf.of (cc := cX9_water) (maxL := 3) (rt := (some .int)) (by decide) rfl RX9 rfl (Nat.le_of_ble_eq_true rfl) [some (.ref (ao 0)), none, none] rfl ?_
  intro X C hQ
  unfold fX9_water at hf
  refine a_iconst C (0 : Int32) dX9_water_0 (by decide) ?_
  refine a_istore_n C dX9_water_1 (by decide) rfl ?_
  refine a_iconst C (0 : Int32) dX9_water_2 (by decide) ?_
  refine a_istore_n C dX9_water_3 (by decide) rfl ?_
  exact kX9_water_b4 C hQ hf
-- X9_sand
abbrev rmX9_sand : Room := { frames := 0, cells := 0, slots := 0, locals := 0 }
theorem dvX9_sand : yX9_sand.cls = RX9 ∧ yX9_sand.cls ≠ "java/lang/invoke/MethodHandle" ∧ yX9_sand.cls ≠ "java/lang/invoke/VarHandle" ∧ (parseMethodDescriptor yX9_sand.desc).map (fun d => d.parameters.length) = some 0 := by decide +kernel
def fX9_sand_b30 (co_wall : Nat → Int32) (iL_cells : Int32) (x1 : Int32) : Option (Int32) :=
  some x1
set_option maxHeartbeats 400000 in
set_option maxRecDepth 100000 in
theorem kX9_sand_b30 {X : cxT} {l : Launch} {D : va_G} {Y : Nat → ClassId} {ao aL aC : Nat → Nat} {io_moats : Int32} {io_spades : Int32} {io_tides : Int32} {co_wall : Nat → Int32} {iL_cells : Int32} {x1 : Int32} {res : Int32} (C : axC X l D Y cX9_sand 3 RX9 wsX9_sand rmX9_sand (some .int)) (hQ : axQ X 0 0 (fun r9 w9 => r9 = (some (.int res)) ∧ w9 = [oX9 ao aL aC io_moats io_spades io_tides, rI Y (ao 1) 12 co_wall, oX5 aL iL_cells])) (hf : fX9_sand_b30 co_wall iL_cells x1 = some res) : ax X 0 0 30 [none, some (.int x1), none] [oX9 ao aL aC io_moats io_spades io_tides, rI Y (ao 1) 12 co_wall, oX5 aL iL_cells] [] := by
  unfold fX9_sand_b30 at hf
  refine a_iload_n C dX9_sand_30 rfl ?_
  obtain rfl := fx_some hf
  exact a_iret C hQ dX9_sand_31 ⟨rfl, rfl⟩
def fX9_sand_l4 (co_wall : Nat → Int32) (iL_cells : Int32) (k4 : Int32 × Int32 → Option (Int32)) (x1 : Int32) (x2 : Int32) : Option (Int32) :=
  if iL_cells ≤ x2 then (fX9_sand_b30 co_wall iL_cells x1) else (if inb x2 12 then k4 ((x1 + (co_wall (Int32.toNatClampNeg x2))), (x2 + (1 : Int32))) else none)
def fX9_sand_b4 (co_wall : Nat → Int32) (iL_cells : Int32) (x1 : Int32) (x2 : Int32) : Option (Int32) :=
  loopN (fun (s : Int32 × Int32) k4 => fX9_sand_l4 co_wall iL_cells k4 s.1 s.2) FUEL (x1, x2)
set_option maxHeartbeats 400000 in
set_option maxRecDepth 100000 in
theorem kX9_sand_l4 {X : cxT} {l : Launch} {D : va_G} {Y : Nat → ClassId} {ao aL aC : Nat → Nat} {io_moats : Int32} {io_spades : Int32} {io_tides : Int32} {co_wall : Nat → Int32} {iL_cells : Int32} {x1 : Int32} {x2 : Int32} {res : Int32} (C : axC X l D Y cX9_sand 3 RX9 wsX9_sand rmX9_sand (some .int)) (hQ : axQ X 0 0 (fun r9 w9 => r9 = (some (.int res)) ∧ w9 = [oX9 ao aL aC io_moats io_spades io_tides, rI Y (ao 1) 12 co_wall, oX5 aL iL_cells])) {k4 : Int32 × Int32 → Option (Int32)} (hk4 : ∀ s : Int32 × Int32, k4 s = some res → ax X 0 0 4 [some (.ref (ao 0)), some (.int s.1), some (.int s.2)] [oX9 ao aL aC io_moats io_spades io_tides, rI Y (ao 1) 12 co_wall, oX5 aL iL_cells] []) (hf : fX9_sand_l4 co_wall iL_cells k4 x1 x2 = some res) : ax X 0 0 4 [some (.ref (ao 0)), some (.int x1), some (.int x2)] [oX9 ao aL aC io_moats io_spades io_tides, rI Y (ao 1) 12 co_wall, oX5 aL iL_cells] [] := by
  unfold fX9_sand_l4 at hf
  refine a_iload_n C dX9_sand_4 rfl ?_
  refine a_aload_n C dX9_sand_5 rfl ?_
  refine a_get C (eB_X9_24 _) dX9_sand_6 0 rfl rfl ?_
  refine a_get C (eB_X9_68 _) dX9_sand_9 2 rfl rfl ?_
  refine a_icmp_ge C 30 dX9_sand_12 (by decide) (fun h1 => ?_) (fun h1 => ?_)
  · have hf := fx_t h1 hf
    refine a_kill [0, 2] ?_
    exact kX9_sand_b30 C hQ hf
  · have hf := fx_f h1 hf
    refine a_iload_n C dX9_sand_15 rfl ?_
    refine a_aload_n C dX9_sand_16 rfl ?_
    refine a_get C (eB_X9_9 _) dX9_sand_17 0 rfl rfl ?_
    refine a_iload_n C dX9_sand_20 rfl ?_
    obtain ⟨h2, hf⟩ := fx_ite hf
    refine a_iald C dX9_sand_21 1 rfl h2 ?_
    refine a_iadd C dX9_sand_22 ?_
    refine a_istore_n C dX9_sand_23 (by decide) rfl ?_
    refine a_iinc C (1 : Int32) dX9_sand_24 (by decide) rfl (by decide) rfl ?_
    refine a_goto C 4 dX9_sand_27 (by decide) ?_
    exact hk4 ((x1 + (co_wall (Int32.toNatClampNeg x2))), (x2 + (1 : Int32))) hf
set_option maxHeartbeats 400000 in
set_option maxRecDepth 100000 in
theorem kX9_sand_b4 {X : cxT} {l : Launch} {D : va_G} {Y : Nat → ClassId} {ao aL aC : Nat → Nat} {io_moats : Int32} {io_spades : Int32} {io_tides : Int32} {co_wall : Nat → Int32} {iL_cells : Int32} {x1 : Int32} {x2 : Int32} {res : Int32} (C : axC X l D Y cX9_sand 3 RX9 wsX9_sand rmX9_sand (some .int)) (hQ : axQ X 0 0 (fun r9 w9 => r9 = (some (.int res)) ∧ w9 = [oX9 ao aL aC io_moats io_spades io_tides, rI Y (ao 1) 12 co_wall, oX5 aL iL_cells])) (hf : fX9_sand_b4 co_wall iL_cells x1 x2 = some res) : ax X 0 0 4 [some (.ref (ao 0)), some (.int x1), some (.int x2)] [oX9 ao aL aC io_moats io_spades io_tides, rI Y (ao 1) 12 co_wall, oX5 aL iL_cells] [] := by
  unfold fX9_sand_b4 at hf
  exact fx_loop (P := fun s : Int32 × Int32 => ax X 0 0 4 [some (.ref (ao 0)), some (.int s.1), some (.int s.2)] [oX9 ao aL aC io_moats io_spades io_tides, rI Y (ao 1) 12 co_wall, oX5 aL iL_cells] []) (fun s k4 hk4 h => kX9_sand_l4 C hQ hk4 h) FUEL (x1, x2) hf
def fX9_sand (co_wall : Nat → Int32) (iL_cells : Int32) : Option (Int32) :=
  fX9_sand_b4 co_wall iL_cells (0 : Int32) (0 : Int32)
set_option maxHeartbeats 400000 in
set_option maxRecDepth 100000 in
theorem kX9_sand (l : Launch) (D : va_G) (Y : Nat → ClassId) (ao aL aC : Nat → Nat) (io_moats : Int32) (io_spades : Int32) (io_tides : Int32) (co_wall : Nat → Int32) (iL_cells : Int32) (res : Int32) (hf : fX9_sand co_wall iL_cells = some res) : amf l D Y yX9_sand wsX9_sand rmX9_sand [.ref (ao 0)] [oX9 ao aL aC io_moats io_spades io_tides, rI Y (ao 1) 12 co_wall, oX5 aL iL_cells] (some (.int res)) [oX9 ao aL aC io_moats io_spades io_tides, rI Y (ao 1) 12 co_wall, oX5 aL iL_cells] := by
  refine amf.of (cc := cX9_sand) (maxL := 3) (rt := (some .int)) (by decide) rfl RX9 rfl (Nat.le_of_ble_eq_true rfl) [some (.ref (ao 0)), none, none] rfl ?_
  intro X C hQ
  unfold fX9_sand at hf
  refine a_iconst C (0 : Int32) dX9_sand_0 (by decide) ?_
  refine a_istore_n C dX9_sand_1 (by decide) rfl ?_
  refine a_iconst C (0 : Int32) dX9_sand_2 (by decide) ?_
  refine a_istore_n C dX9_sand_3 (by decide) rfl ?_
  exact kX9_sand_b4 C hQ hf
-- X9_halved
abbrev rmX9_halved : Room := { frames := 0, cells := 0, slots := 0, locals := 0 }
theorem dvX9_halved : yX9_halved.cls ≠ "java/lang/invoke/MethodHandle" ∧ yX9_halved.cls ≠ "java/lang/invoke/VarHandle" ∧ (parseMethodDescriptor yX9_halved.desc).map (fun d => d.parameters.length) = some 3 := by decide +kernel
def fX9_halved_b26 (s0 : Int32) : Option (Int32) :=
  some s0
set_option maxHeartbeats 400000 in
set_option maxRecDepth 100000 in
theorem kX9_halved_b26 {X : cxT} {l : Launch} {D : va_G} {Y : Nat → ClassId} {s0 : Int32} {res : Int32} (C : axC X l D Y cX9_halved 4 RX9 wsX9_halved rmX9_halved (some .int)) (hQ : axQ X 0 0 (fun r9 w9 => r9 = (some (.int res)) ∧ w9 = [])) (hf : fX9_halved_b26 s0 = some res) : ax X 0 0 26 [none, none, none, none] [] [.int s0] := by
  unfold fX9_halved_b26 at hf
  obtain rfl := fx_some hf
  exact a_iret C hQ dX9_halved_26 ⟨rfl, rfl⟩
def fX9_halved_b12 (x2 : Int32) (s0 : Int32) : Option (Int32) :=
  if x2 = (13 : Int32) then (fX9_halved_b26 (s0 / (2 : Int32))) else (fX9_halved_b26 s0)
set_option maxHeartbeats 400000 in
set_option maxRecDepth 100000 in
theorem kX9_halved_b12 {X : cxT} {l : Launch} {D : va_G} {Y : Nat → ClassId} {x2 : Int32} {s0 : Int32} {res : Int32} (C : axC X l D Y cX9_halved 4 RX9 wsX9_halved rmX9_halved (some .int)) (hQ : axQ X 0 0 (fun r9 w9 => r9 = (some (.int res)) ∧ w9 = [])) (hf : fX9_halved_b12 x2 s0 = some res) : ax X 0 0 12 [none, none, some (.int x2), none] [] [.int s0] := by
  unfold fX9_halved_b12 at hf
  refine a_istore_n C dX9_halved_12 (by decide) rfl ?_
  refine a_iload_n C dX9_halved_13 rfl ?_
  refine a_bipush C (13 : Int32) dX9_halved_14 (by decide) ?_
  refine a_icmp_ne C 25 dX9_halved_16 (by decide) (fun h1 => ?_) (fun h1 => ?_)
  · have hf := fx_f h1 hf
    refine a_iload_n C dX9_halved_25 rfl ?_
    refine a_kill [2, 3] ?_
    exact kX9_halved_b26 C hQ hf
  · have hf := fx_t h1 hf
    refine a_iload_n C dX9_halved_19 rfl ?_
    refine a_iconst C (2 : Int32) dX9_halved_20 (by decide) ?_
    refine a_idiv C dX9_halved_21 (by decide) ?_
    refine a_goto C 26 dX9_halved_22 (by decide) ?_
    refine a_kill [2, 3] ?_
    exact kX9_halved_b26 C hQ hf
def fX9_halved (x0 : Int32) (x1 : Int32) (x2 : Int32) : Option (Int32) :=
  if (3 : Int32) ≤ x1 then (fX9_halved_b12 x2 x0) else (fX9_halved_b12 x2 (x0 / (2 : Int32)))
set_option maxHeartbeats 400000 in
set_option maxRecDepth 100000 in
theorem kX9_halved (l : Launch) (D : va_G) (Y : Nat → ClassId) (x0 : Int32) (x1 : Int32) (x2 : Int32) (res : Int32) (hf : fX9_halved x0 x1 x2 = some res) : amf l D Y yX9_halved wsX9_halved rmX9_halved [.int x0, .int x1, .int x2] [] (some (.int res)) [] := by
  refine amf.of (cc := cX9_halved) (maxL := 4) (rt := (some .int)) (by decide) rfl RX9 rfl (Nat.le_of_ble_eq_true rfl) [some (.int x0), some (.int x1), some (.int x2), none] rfl ?_
  intro X C hQ
  unfold fX9_halved at hf
  refine a_iload_n C dX9_halved_0 rfl ?_
  refine a_iconst C (3 : Int32) dX9_halved_1 (by decide) ?_
  refine a_icmp_ge C 11 dX9_halved_2 (by decide) (fun h2 => ?_) (fun h2 => ?_)
  · have hf := fx_t h2 hf
    refine a_iload_n C dX9_halved_11 rfl ?_
    refine a_kill [0, 1] ?_
    exact kX9_halved_b12 C hQ hf
  · have hf := fx_f h2 hf
    refine a_iload_n C dX9_halved_5 rfl ?_
    refine a_iconst C (2 : Int32) dX9_halved_6 (by decide) ?_
    refine a_idiv C dX9_halved_7 (by decide) ?_
    refine a_goto C 12 dX9_halved_8 (by decide) ?_
    refine a_kill [0, 1] ?_
    exact kX9_halved_b12 C hQ hf
-- X9_palNear
abbrev rmX9_palNear : Room := { frames := 1, cells := 0, slots := 0, locals := 21 }
theorem dvX9_palNear : yX9_palNear.cls = RX9 ∧ yX9_palNear.cls ≠ "java/lang/invoke/MethodHandle" ∧ yX9_palNear.cls ≠ "java/lang/invoke/VarHandle" ∧ (parseMethodDescriptor yX9_palNear.desc).map (fun d => d.parameters.length) = some 1 := by decide +kernel
def fX9_palNear_b69 (co_place : Nat → Int32) (iC_size : Int32) (cC_pals : Nat → Int32) : Option (Int32) :=
  some (0 : Int32)
set_option maxHeartbeats 400000 in
set_option maxRecDepth 100000 in
theorem kX9_palNear_b69 {X : cxT} {l : Launch} {D : va_G} {Y : Nat → ClassId} {ao aL aC : Nat → Nat} {io_moats : Int32} {io_spades : Int32} {io_tides : Int32} {co_place : Nat → Int32} {iC_size : Int32} {cC_pals : Nat → Int32} {res : Int32} (C : axC X l D Y cX9_palNear 4 RX9 wsX9_palNear rmX9_palNear (some .boolean)) (hQ : axQ X 0 0 (fun r9 w9 => r9 = (some (.int res)) ∧ w9 = [oX9 ao aL aC io_moats io_spades io_tides, rI Y (ao 4) 8 co_place, oX2 aC iC_size, rI Y (aC 4) 8 cC_pals])) (hf : fX9_palNear_b69 co_place iC_size cC_pals = some res) : ax X 0 0 69 [none, none, none, none] [oX9 ao aL aC io_moats io_spades io_tides, rI Y (ao 4) 8 co_place, oX2 aC iC_size, rI Y (aC 4) 8 cC_pals] [] := by
  unfold fX9_palNear_b69 at hf
  refine a_iconst C (0 : Int32) dX9_palNear_69 (by decide) ?_
  obtain rfl := fx_some hf
  exact a_zret C hQ (Or.inl rfl) dX9_palNear_70 ⟨rfl, rfl⟩
def fX9_palNear_b63 (co_place : Nat → Int32) (iC_size : Int32) (cC_pals : Nat → Int32) (x1 : Int32) (x2 : Int32) (x3 : Int32) (k12 : Int32 → Option (Int32)) : Option (Int32) :=
  k12 (x3 + (1 : Int32))
set_option maxHeartbeats 400000 in
set_option maxRecDepth 100000 in
theorem kX9_palNear_b63 {X : cxT} {l : Launch} {D : va_G} {Y : Nat → ClassId} {ao aL aC : Nat → Nat} {io_moats : Int32} {io_spades : Int32} {io_tides : Int32} {co_place : Nat → Int32} {iC_size : Int32} {cC_pals : Nat → Int32} {x1 : Int32} {x2 : Int32} {x3 : Int32} {res : Int32} (C : axC X l D Y cX9_palNear 4 RX9 wsX9_palNear rmX9_palNear (some .boolean)) (hQ : axQ X 0 0 (fun r9 w9 => r9 = (some (.int res)) ∧ w9 = [oX9 ao aL aC io_moats io_spades io_tides, rI Y (ao 4) 8 co_place, oX2 aC iC_size, rI Y (aC 4) 8 cC_pals])) {k12 : Int32 → Option (Int32)} (hk12 : ∀ s : Int32, k12 s = some res → ax X 0 0 12 [some (.ref (ao 0)), some (.int x1), some (.int x2), some (.int s)] [oX9 ao aL aC io_moats io_spades io_tides, rI Y (ao 4) 8 co_place, oX2 aC iC_size, rI Y (aC 4) 8 cC_pals] []) (hf : fX9_palNear_b63 co_place iC_size cC_pals x1 x2 x3 k12 = some res) : ax X 0 0 63 [some (.ref (ao 0)), some (.int x1), some (.int x2), some (.int x3)] [oX9 ao aL aC io_moats io_spades io_tides, rI Y (ao 4) 8 co_place, oX2 aC iC_size, rI Y (aC 4) 8 cC_pals] [] := by
  unfold fX9_palNear_b63 at hf
  refine a_iinc C (1 : Int32) dX9_palNear_63 (by decide) rfl (by decide) rfl ?_
  refine a_goto C 12 dX9_palNear_66 (by decide) ?_
  exact hk12 (x3 + (1 : Int32)) hf
def fX9_palNear_b61 (co_place : Nat → Int32) (iC_size : Int32) (cC_pals : Nat → Int32) : Option (Int32) :=
  some (1 : Int32)
set_option maxHeartbeats 400000 in
set_option maxRecDepth 100000 in
theorem kX9_palNear_b61 {X : cxT} {l : Launch} {D : va_G} {Y : Nat → ClassId} {ao aL aC : Nat → Nat} {io_moats : Int32} {io_spades : Int32} {io_tides : Int32} {co_place : Nat → Int32} {iC_size : Int32} {cC_pals : Nat → Int32} {res : Int32} (C : axC X l D Y cX9_palNear 4 RX9 wsX9_palNear rmX9_palNear (some .boolean)) (hQ : axQ X 0 0 (fun r9 w9 => r9 = (some (.int res)) ∧ w9 = [oX9 ao aL aC io_moats io_spades io_tides, rI Y (ao 4) 8 co_place, oX2 aC iC_size, rI Y (aC 4) 8 cC_pals])) (hf : fX9_palNear_b61 co_place iC_size cC_pals = some res) : ax X 0 0 61 [none, none, none, none] [oX9 ao aL aC io_moats io_spades io_tides, rI Y (ao 4) 8 co_place, oX2 aC iC_size, rI Y (aC 4) 8 cC_pals] [] := by
  unfold fX9_palNear_b61 at hf
  refine a_iconst C (1 : Int32) dX9_palNear_61 (by decide) ?_
  obtain rfl := fx_some hf
  exact a_zret C hQ (Or.inr rfl) dX9_palNear_62 ⟨rfl, rfl⟩
def fX9_palNear_l12 (co_place : Nat → Int32) (iC_size : Int32) (cC_pals : Nat → Int32) (x1 : Int32) (x2 : Int32) (k12 : Int32 → Option (Int32)) (x3 : Int32) : Option (Int32) :=
  if iC_size ≤ x3 then (fX9_palNear_b69 co_place iC_size cC_pals) else (if ((jshr x2 x3) &&& (1 : Int32)) = (0 : Int32) then (fX9_palNear_b63 co_place iC_size cC_pals x1 x2 x3 k12) else (if inb x3 8 then if (co_place (Int32.toNatClampNeg x3)) = (-1 : Int32) then (fX9_palNear_b63 co_place iC_size cC_pals x1 x2 x3 k12) else (if inb x1 8 then if (1 : Int32) < (jabs ((co_place (Int32.toNatClampNeg x3)) - (co_place (Int32.toNatClampNeg x1)))) then (fX9_palNear_b63 co_place iC_size cC_pals x1 x2 x3 k12) else (fX9_palNear_b61 co_place iC_size cC_pals) else none) else none))
def fX9_palNear_b12 (co_place : Nat → Int32) (iC_size : Int32) (cC_pals : Nat → Int32) (x1 : Int32) (x2 : Int32) (x3 : Int32) : Option (Int32) :=
  loopN (fun (s : Int32) k12 => fX9_palNear_l12 co_place iC_size cC_pals x1 x2 k12 s) FUEL x3
set_option maxHeartbeats 400000 in
set_option maxRecDepth 100000 in
theorem kX9_palNear_l12 {X : cxT} {l : Launch} {D : va_G} {Y : Nat → ClassId} {ao aL aC : Nat → Nat} {io_moats : Int32} {io_spades : Int32} {io_tides : Int32} {co_place : Nat → Int32} {iC_size : Int32} {cC_pals : Nat → Int32} {x1 : Int32} {x2 : Int32} {x3 : Int32} {res : Int32} (C : axC X l D Y cX9_palNear 4 RX9 wsX9_palNear rmX9_palNear (some .boolean)) (hQ : axQ X 0 0 (fun r9 w9 => r9 = (some (.int res)) ∧ w9 = [oX9 ao aL aC io_moats io_spades io_tides, rI Y (ao 4) 8 co_place, oX2 aC iC_size, rI Y (aC 4) 8 cC_pals])) {k12 : Int32 → Option (Int32)} (hk12 : ∀ s : Int32, k12 s = some res → ax X 0 0 12 [some (.ref (ao 0)), some (.int x1), some (.int x2), some (.int s)] [oX9 ao aL aC io_moats io_spades io_tides, rI Y (ao 4) 8 co_place, oX2 aC iC_size, rI Y (aC 4) 8 cC_pals] []) (hf : fX9_palNear_l12 co_place iC_size cC_pals x1 x2 k12 x3 = some res) : ax X 0 0 12 [some (.ref (ao 0)), some (.int x1), some (.int x2), some (.int x3)] [oX9 ao aL aC io_moats io_spades io_tides, rI Y (ao 4) 8 co_place, oX2 aC iC_size, rI Y (aC 4) 8 cC_pals] [] := by
  unfold fX9_palNear_l12 at hf
  refine a_iload_n C dX9_palNear_12 rfl ?_
  refine a_aload_n C dX9_palNear_13 rfl ?_
  refine a_get C (eB_X9_28 _) dX9_palNear_14 0 rfl rfl ?_
  refine a_get C (eB_X9_54 _) dX9_palNear_17 2 rfl rfl ?_
  refine a_icmp_ge C 69 dX9_palNear_20 (by decide) (fun h1 => ?_) (fun h1 => ?_)
  · have hf := fx_t h1 hf
    refine a_kill [0, 1, 2, 3] ?_
    exact kX9_palNear_b69 C hQ hf
  · have hf := fx_f h1 hf
    refine a_iload_n C dX9_palNear_23 rfl ?_
    refine a_iload_n C dX9_palNear_24 rfl ?_
    refine a_ishr C dX9_palNear_25 ?_
    refine a_iconst C (1 : Int32) dX9_palNear_26 (by decide) ?_
    refine a_iand C dX9_palNear_27 ?_
    refine a_if_eq C 63 dX9_palNear_28 (by decide) (fun h2 => ?_) (fun h2 => ?_)
    · have hf := fx_t h2 hf
      exact kX9_palNear_b63 C hQ hk12 hf
    · have hf := fx_f h2 hf
      refine a_aload_n C dX9_palNear_31 rfl ?_
      refine a_get C (eB_X9_21 _) dX9_palNear_32 0 rfl rfl ?_
      refine a_iload_n C dX9_palNear_35 rfl ?_
      obtain ⟨h3, hf⟩ := fx_ite hf
      refine a_iald C dX9_palNear_36 1 rfl h3 ?_
      refine a_iconst C (-1 : Int32) dX9_palNear_37 (by decide) ?_
      refine a_icmp_eq C 63 dX9_palNear_38 (by decide) (fun h4 => ?_) (fun h4 => ?_)
      · have hf := fx_t h4 hf
        exact kX9_palNear_b63 C hQ hk12 hf
      · have hf := fx_f h4 hf
        refine a_aload_n C dX9_palNear_41 rfl ?_
        refine a_get C (eB_X9_21 _) dX9_palNear_42 0 rfl rfl ?_
        refine a_iload_n C dX9_palNear_45 rfl ?_
        refine a_iald C dX9_palNear_46 1 rfl h3 ?_
        refine a_aload_n C dX9_palNear_47 rfl ?_
        refine a_get C (eB_X9_21 _) dX9_palNear_48 0 rfl rfl ?_
        refine a_iload_n C dX9_palNear_51 rfl ?_
        obtain ⟨h5, hf⟩ := fx_ite hf
        refine a_iald C dX9_palNear_52 1 rfl h5 ?_
        refine a_isub C dX9_palNear_53 ?_
        refine a_mabs C dX9_palNear_54 (mB_X9_97 _) ⟨⟨Nat.le_of_ble_eq_true rfl, Nat.le_of_ble_eq_true rfl⟩, ⟨Nat.le_of_ble_eq_true rfl, Nat.le_of_ble_eq_true rfl⟩⟩ (Nat.le_of_ble_eq_true rfl) ?_
        refine a_iconst C (1 : Int32) dX9_palNear_57 (by decide) ?_
        refine a_icmp_gt C 63 dX9_palNear_58 (by decide) (fun h6 => ?_) (fun h6 => ?_)
        · have hf := fx_t h6 hf
          exact kX9_palNear_b63 C hQ hk12 hf
        · have hf := fx_f h6 hf
          refine a_kill [0, 1, 2, 3] ?_
          exact kX9_palNear_b61 C hQ hf
set_option maxHeartbeats 400000 in
set_option maxRecDepth 100000 in
theorem kX9_palNear_b12 {X : cxT} {l : Launch} {D : va_G} {Y : Nat → ClassId} {ao aL aC : Nat → Nat} {io_moats : Int32} {io_spades : Int32} {io_tides : Int32} {co_place : Nat → Int32} {iC_size : Int32} {cC_pals : Nat → Int32} {x1 : Int32} {x2 : Int32} {x3 : Int32} {res : Int32} (C : axC X l D Y cX9_palNear 4 RX9 wsX9_palNear rmX9_palNear (some .boolean)) (hQ : axQ X 0 0 (fun r9 w9 => r9 = (some (.int res)) ∧ w9 = [oX9 ao aL aC io_moats io_spades io_tides, rI Y (ao 4) 8 co_place, oX2 aC iC_size, rI Y (aC 4) 8 cC_pals])) (hf : fX9_palNear_b12 co_place iC_size cC_pals x1 x2 x3 = some res) : ax X 0 0 12 [some (.ref (ao 0)), some (.int x1), some (.int x2), some (.int x3)] [oX9 ao aL aC io_moats io_spades io_tides, rI Y (ao 4) 8 co_place, oX2 aC iC_size, rI Y (aC 4) 8 cC_pals] [] := by
  unfold fX9_palNear_b12 at hf
  exact fx_loop (P := fun s : Int32 => ax X 0 0 12 [some (.ref (ao 0)), some (.int x1), some (.int x2), some (.int s)] [oX9 ao aL aC io_moats io_spades io_tides, rI Y (ao 4) 8 co_place, oX2 aC iC_size, rI Y (aC 4) 8 cC_pals] []) (fun s k12 hk12 h => kX9_palNear_l12 C hQ hk12 h) FUEL x3 hf
def fX9_palNear (co_place : Nat → Int32) (iC_size : Int32) (cC_pals : Nat → Int32) (x1 : Int32) : Option (Int32) :=
  if inb x1 8 then fX9_palNear_b12 co_place iC_size cC_pals x1 (cC_pals (Int32.toNatClampNeg x1)) (0 : Int32) else none
set_option maxHeartbeats 400000 in
set_option maxRecDepth 100000 in
theorem kX9_palNear (l : Launch) (D : va_G) (Y : Nat → ClassId) (ao aL aC : Nat → Nat) (io_moats : Int32) (io_spades : Int32) (io_tides : Int32) (co_place : Nat → Int32) (iC_size : Int32) (cC_pals : Nat → Int32) (x1 : Int32) (res : Int32) (hf : fX9_palNear co_place iC_size cC_pals x1 = some res) : amf l D Y yX9_palNear wsX9_palNear rmX9_palNear [.ref (ao 0), .int x1] [oX9 ao aL aC io_moats io_spades io_tides, rI Y (ao 4) 8 co_place, oX2 aC iC_size, rI Y (aC 4) 8 cC_pals] (some (.int res)) [oX9 ao aL aC io_moats io_spades io_tides, rI Y (ao 4) 8 co_place, oX2 aC iC_size, rI Y (aC 4) 8 cC_pals] := by
  refine amf.of (cc := cX9_palNear) (maxL := 4) (rt := (some .boolean)) (by decide) rfl RX9 rfl (Nat.le_of_ble_eq_true rfl) [some (.ref (ao 0)), some (.int x1), none, none] rfl ?_
  intro X C hQ
  unfold fX9_palNear at hf
  refine a_aload_n C dX9_palNear_0 rfl ?_
  refine a_get C (eB_X9_28 _) dX9_palNear_1 0 rfl rfl ?_
  refine a_get C (eB_X9_83 _) dX9_palNear_4 2 rfl rfl ?_
  refine a_iload_n C dX9_palNear_7 rfl ?_
  obtain ⟨h7, hf⟩ := fx_ite hf
  refine a_iald C dX9_palNear_8 3 rfl h7 ?_
  refine a_istore_n C dX9_palNear_9 (by decide) rfl ?_
  refine a_iconst C (0 : Int32) dX9_palNear_10 (by decide) ?_
  refine a_istore_n C dX9_palNear_11 (by decide) rfl ?_
  exact kX9_palNear_b12 C hQ hf
-- X9_spread
abbrev rmX9_spread : Room := { frames := 1, cells := 0, slots := 0, locals := 21 }
theorem dvX9_spread : yX9_spread.cls = RX9 ∧ yX9_spread.cls ≠ "java/lang/invoke/MethodHandle" ∧ yX9_spread.cls ≠ "java/lang/invoke/VarHandle" ∧ (parseMethodDescriptor yX9_spread.desc).map (fun d => d.parameters.length) = some 0 := by decide +kernel
def fX9_spread_b115 (co_depth : Nat → Int32) (iL_cells : Int32) (cL_dyke : Nat → Int32) : Option ((Nat → Int32)) :=
  some co_depth
set_option maxHeartbeats 400000 in
set_option maxRecDepth 100000 in
theorem kX9_spread_b115 {X : cxT} {l : Launch} {D : va_G} {Y : Nat → ClassId} {ao aL aC : Nat → Nat} {io_moats : Int32} {io_spades : Int32} {io_tides : Int32} {co_depth : Nat → Int32} {iL_cells : Int32} {cL_dyke : Nat → Int32} {res : (Nat → Int32)} (C : axC X l D Y cX9_spread 2 RX9 wsX9_spread rmX9_spread none) (hQ : axQ X 0 0 (fun r9 w9 => r9 = none ∧ w9 = [oX9 ao aL aC io_moats io_spades io_tides, rI Y (ao 2) 12 res, oX5 aL iL_cells, rI Y (aL 2) 12 cL_dyke])) (hf : fX9_spread_b115 co_depth iL_cells cL_dyke = some res) : ax X 0 0 115 [none, none] [oX9 ao aL aC io_moats io_spades io_tides, rI Y (ao 2) 12 co_depth, oX5 aL iL_cells, rI Y (aL 2) 12 cL_dyke] [] := by
  unfold fX9_spread_b115 at hf
  obtain rfl := fx_some hf
  exact a_vret C hQ dX9_spread_115 ⟨rfl, rfl⟩
def fX9_spread_l66 (iL_cells : Int32) (cL_dyke : Nat → Int32) (k66 : (Nat → Int32) × Int32 → Option ((Nat → Int32))) (co_depth : Nat → Int32) (x1 : Int32) : Option ((Nat → Int32)) :=
  if x1 ≤ (0 : Int32) then (fX9_spread_b115 co_depth iL_cells cL_dyke) else (if inb (x1 - (1 : Int32)) 12 then if inb x1 12 then k66 ((upd co_depth (Int32.toNatClampNeg (x1 - (1 : Int32))) (jmax (co_depth (Int32.toNatClampNeg (x1 - (1 : Int32)))) (((co_depth (Int32.toNatClampNeg x1)) - (cL_dyke (Int32.toNatClampNeg (x1 - (1 : Int32))))) - (1 : Int32)))), (x1 + (-1 : Int32))) else none else none)
def fX9_spread_b66 (co_depth : Nat → Int32) (iL_cells : Int32) (cL_dyke : Nat → Int32) (x1 : Int32) : Option ((Nat → Int32)) :=
  loopN (fun (s : (Nat → Int32) × Int32) k66 => fX9_spread_l66 iL_cells cL_dyke k66 s.1 s.2) FUEL (co_depth, x1)
set_option maxHeartbeats 400000 in
set_option maxRecDepth 100000 in
theorem kX9_spread_l66 {X : cxT} {l : Launch} {D : va_G} {Y : Nat → ClassId} {ao aL aC : Nat → Nat} {io_moats : Int32} {io_spades : Int32} {io_tides : Int32} {co_depth : Nat → Int32} {iL_cells : Int32} {cL_dyke : Nat → Int32} {x1 : Int32} {res : (Nat → Int32)} (C : axC X l D Y cX9_spread 2 RX9 wsX9_spread rmX9_spread none) (hQ : axQ X 0 0 (fun r9 w9 => r9 = none ∧ w9 = [oX9 ao aL aC io_moats io_spades io_tides, rI Y (ao 2) 12 res, oX5 aL iL_cells, rI Y (aL 2) 12 cL_dyke])) {k66 : (Nat → Int32) × Int32 → Option ((Nat → Int32))} (hk66 : ∀ s : (Nat → Int32) × Int32, k66 s = some res → ax X 0 0 66 [some (.ref (ao 0)), some (.int s.2)] [oX9 ao aL aC io_moats io_spades io_tides, rI Y (ao 2) 12 s.1, oX5 aL iL_cells, rI Y (aL 2) 12 cL_dyke] []) (hf : fX9_spread_l66 iL_cells cL_dyke k66 co_depth x1 = some res) : ax X 0 0 66 [some (.ref (ao 0)), some (.int x1)] [oX9 ao aL aC io_moats io_spades io_tides, rI Y (ao 2) 12 co_depth, oX5 aL iL_cells, rI Y (aL 2) 12 cL_dyke] [] := by
  unfold fX9_spread_l66 at hf
  refine a_iload_n C dX9_spread_66 rfl ?_
  refine a_if_le C 115 dX9_spread_67 (by decide) (fun h1 => ?_) (fun h1 => ?_)
  · have hf := fx_t h1 hf
    refine a_kill [0, 1] ?_
    exact kX9_spread_b115 C hQ hf
  · have hf := fx_f h1 hf
    refine a_aload_n C dX9_spread_70 rfl ?_
    refine a_get C (eB_X9_15 _) dX9_spread_71 0 rfl rfl ?_
    refine a_iload_n C dX9_spread_74 rfl ?_
    refine a_iconst C (1 : Int32) dX9_spread_75 (by decide) ?_
    refine a_isub C dX9_spread_76 ?_
    refine a_aload_n C dX9_spread_77 rfl ?_
    refine a_get C (eB_X9_15 _) dX9_spread_78 0 rfl rfl ?_
    refine a_iload_n C dX9_spread_81 rfl ?_
    refine a_iconst C (1 : Int32) dX9_spread_82 (by decide) ?_
    refine a_isub C dX9_spread_83 ?_
    obtain ⟨h2, hf⟩ := fx_ite hf
    refine a_iald C dX9_spread_84 1 rfl h2 ?_
    refine a_aload_n C dX9_spread_85 rfl ?_
    refine a_get C (eB_X9_15 _) dX9_spread_86 0 rfl rfl ?_
    refine a_iload_n C dX9_spread_89 rfl ?_
    obtain ⟨h3, hf⟩ := fx_ite hf
    refine a_iald C dX9_spread_90 1 rfl h3 ?_
    refine a_aload_n C dX9_spread_91 rfl ?_
    refine a_get C (eB_X9_24 _) dX9_spread_92 0 rfl rfl ?_
    refine a_get C (eB_X9_119 _) dX9_spread_95 2 rfl rfl ?_
    refine a_iload_n C dX9_spread_98 rfl ?_
    refine a_iconst C (1 : Int32) dX9_spread_99 (by decide) ?_
    refine a_isub C dX9_spread_100 ?_
    refine a_iald C dX9_spread_101 3 rfl h2 ?_
    refine a_isub C dX9_spread_102 ?_
    refine a_iconst C (1 : Int32) dX9_spread_103 (by decide) ?_
    refine a_isub C dX9_spread_104 ?_
    refine a_mmax C dX9_spread_105 (mB_X9_109 _) ⟨⟨Nat.le_of_ble_eq_true rfl, Nat.le_of_ble_eq_true rfl⟩, ⟨Nat.le_of_ble_eq_true rfl, Nat.le_of_ble_eq_true rfl⟩⟩ (Nat.le_of_ble_eq_true rfl) ?_
    refine a_iast C dX9_spread_108 1 rfl h2 ?_
    refine a_iinc C (-1 : Int32) dX9_spread_109 (by decide) rfl (by decide) rfl ?_
    refine a_goto C 66 dX9_spread_112 (by decide) ?_
    exact hk66 ((upd co_depth (Int32.toNatClampNeg (x1 - (1 : Int32))) (jmax (co_depth (Int32.toNatClampNeg (x1 - (1 : Int32)))) (((co_depth (Int32.toNatClampNeg x1)) - (cL_dyke (Int32.toNatClampNeg (x1 - (1 : Int32))))) - (1 : Int32)))), (x1 + (-1 : Int32))) hf
set_option maxHeartbeats 400000 in
set_option maxRecDepth 100000 in
theorem kX9_spread_b66 {X : cxT} {l : Launch} {D : va_G} {Y : Nat → ClassId} {ao aL aC : Nat → Nat} {io_moats : Int32} {io_spades : Int32} {io_tides : Int32} {co_depth : Nat → Int32} {iL_cells : Int32} {cL_dyke : Nat → Int32} {x1 : Int32} {res : (Nat → Int32)} (C : axC X l D Y cX9_spread 2 RX9 wsX9_spread rmX9_spread none) (hQ : axQ X 0 0 (fun r9 w9 => r9 = none ∧ w9 = [oX9 ao aL aC io_moats io_spades io_tides, rI Y (ao 2) 12 res, oX5 aL iL_cells, rI Y (aL 2) 12 cL_dyke])) (hf : fX9_spread_b66 co_depth iL_cells cL_dyke x1 = some res) : ax X 0 0 66 [some (.ref (ao 0)), some (.int x1)] [oX9 ao aL aC io_moats io_spades io_tides, rI Y (ao 2) 12 co_depth, oX5 aL iL_cells, rI Y (aL 2) 12 cL_dyke] [] := by
  unfold fX9_spread_b66 at hf
  exact fx_loop (P := fun s : (Nat → Int32) × Int32 => ax X 0 0 66 [some (.ref (ao 0)), some (.int s.2)] [oX9 ao aL aC io_moats io_spades io_tides, rI Y (ao 2) 12 s.1, oX5 aL iL_cells, rI Y (aL 2) 12 cL_dyke] []) (fun s k66 hk66 h => kX9_spread_l66 C hQ hk66 h) FUEL (co_depth, x1) hf
def fX9_spread_b56 (co_depth : Nat → Int32) (iL_cells : Int32) (cL_dyke : Nat → Int32) : Option ((Nat → Int32)) :=
  fX9_spread_b66 co_depth iL_cells cL_dyke (iL_cells - (1 : Int32))
set_option maxHeartbeats 400000 in
set_option maxRecDepth 100000 in
theorem kX9_spread_b56 {X : cxT} {l : Launch} {D : va_G} {Y : Nat → ClassId} {ao aL aC : Nat → Nat} {io_moats : Int32} {io_spades : Int32} {io_tides : Int32} {co_depth : Nat → Int32} {iL_cells : Int32} {cL_dyke : Nat → Int32} {res : (Nat → Int32)} (C : axC X l D Y cX9_spread 2 RX9 wsX9_spread rmX9_spread none) (hQ : axQ X 0 0 (fun r9 w9 => r9 = none ∧ w9 = [oX9 ao aL aC io_moats io_spades io_tides, rI Y (ao 2) 12 res, oX5 aL iL_cells, rI Y (aL 2) 12 cL_dyke])) (hf : fX9_spread_b56 co_depth iL_cells cL_dyke = some res) : ax X 0 0 56 [some (.ref (ao 0)), none] [oX9 ao aL aC io_moats io_spades io_tides, rI Y (ao 2) 12 co_depth, oX5 aL iL_cells, rI Y (aL 2) 12 cL_dyke] [] := by
  unfold fX9_spread_b56 at hf
  refine a_aload_n C dX9_spread_56 rfl ?_
  refine a_get C (eB_X9_24 _) dX9_spread_57 0 rfl rfl ?_
  refine a_get C (eB_X9_68 _) dX9_spread_60 2 rfl rfl ?_
  refine a_iconst C (1 : Int32) dX9_spread_63 (by decide) ?_
  refine a_isub C dX9_spread_64 ?_
  refine a_istore_n C dX9_spread_65 (by decide) rfl ?_
  exact kX9_spread_b66 C hQ hf
def fX9_spread_l2 (iL_cells : Int32) (cL_dyke : Nat → Int32) (k2 : (Nat → Int32) × Int32 → Option ((Nat → Int32))) (co_depth : Nat → Int32) (x1 : Int32) : Option ((Nat → Int32)) :=
  if iL_cells ≤ x1 then (fX9_spread_b56 co_depth iL_cells cL_dyke) else (if inb x1 12 then if inb (x1 - (1 : Int32)) 12 then k2 ((upd co_depth (Int32.toNatClampNeg x1) (jmax (co_depth (Int32.toNatClampNeg x1)) (((co_depth (Int32.toNatClampNeg (x1 - (1 : Int32)))) - (cL_dyke (Int32.toNatClampNeg (x1 - (1 : Int32))))) - (1 : Int32)))), (x1 + (1 : Int32))) else none else none)
def fX9_spread_b2 (co_depth : Nat → Int32) (iL_cells : Int32) (cL_dyke : Nat → Int32) (x1 : Int32) : Option ((Nat → Int32)) :=
  loopN (fun (s : (Nat → Int32) × Int32) k2 => fX9_spread_l2 iL_cells cL_dyke k2 s.1 s.2) FUEL (co_depth, x1)
set_option maxHeartbeats 400000 in
set_option maxRecDepth 100000 in
theorem kX9_spread_l2 {X : cxT} {l : Launch} {D : va_G} {Y : Nat → ClassId} {ao aL aC : Nat → Nat} {io_moats : Int32} {io_spades : Int32} {io_tides : Int32} {co_depth : Nat → Int32} {iL_cells : Int32} {cL_dyke : Nat → Int32} {x1 : Int32} {res : (Nat → Int32)} (C : axC X l D Y cX9_spread 2 RX9 wsX9_spread rmX9_spread none) (hQ : axQ X 0 0 (fun r9 w9 => r9 = none ∧ w9 = [oX9 ao aL aC io_moats io_spades io_tides, rI Y (ao 2) 12 res, oX5 aL iL_cells, rI Y (aL 2) 12 cL_dyke])) {k2 : (Nat → Int32) × Int32 → Option ((Nat → Int32))} (hk2 : ∀ s : (Nat → Int32) × Int32, k2 s = some res → ax X 0 0 2 [some (.ref (ao 0)), some (.int s.2)] [oX9 ao aL aC io_moats io_spades io_tides, rI Y (ao 2) 12 s.1, oX5 aL iL_cells, rI Y (aL 2) 12 cL_dyke] []) (hf : fX9_spread_l2 iL_cells cL_dyke k2 co_depth x1 = some res) : ax X 0 0 2 [some (.ref (ao 0)), some (.int x1)] [oX9 ao aL aC io_moats io_spades io_tides, rI Y (ao 2) 12 co_depth, oX5 aL iL_cells, rI Y (aL 2) 12 cL_dyke] [] := by
  unfold fX9_spread_l2 at hf
  refine a_iload_n C dX9_spread_2 rfl ?_
  refine a_aload_n C dX9_spread_3 rfl ?_
  refine a_get C (eB_X9_24 _) dX9_spread_4 0 rfl rfl ?_
  refine a_get C (eB_X9_68 _) dX9_spread_7 2 rfl rfl ?_
  refine a_icmp_ge C 56 dX9_spread_10 (by decide) (fun h4 => ?_) (fun h4 => ?_)
  · have hf := fx_t h4 hf
    refine a_kill [1] ?_
    exact kX9_spread_b56 C hQ hf
  · have hf := fx_f h4 hf
    refine a_aload_n C dX9_spread_13 rfl ?_
    refine a_get C (eB_X9_15 _) dX9_spread_14 0 rfl rfl ?_
    refine a_iload_n C dX9_spread_17 rfl ?_
    refine a_aload_n C dX9_spread_18 rfl ?_
    refine a_get C (eB_X9_15 _) dX9_spread_19 0 rfl rfl ?_
    refine a_iload_n C dX9_spread_22 rfl ?_
    obtain ⟨h5, hf⟩ := fx_ite hf
    refine a_iald C dX9_spread_23 1 rfl h5 ?_
    refine a_aload_n C dX9_spread_24 rfl ?_
    refine a_get C (eB_X9_15 _) dX9_spread_25 0 rfl rfl ?_
    refine a_iload_n C dX9_spread_28 rfl ?_
    refine a_iconst C (1 : Int32) dX9_spread_29 (by decide) ?_
    refine a_isub C dX9_spread_30 ?_
    obtain ⟨h6, hf⟩ := fx_ite hf
    refine a_iald C dX9_spread_31 1 rfl h6 ?_
    refine a_aload_n C dX9_spread_32 rfl ?_
    refine a_get C (eB_X9_24 _) dX9_spread_33 0 rfl rfl ?_
    refine a_get C (eB_X9_119 _) dX9_spread_36 2 rfl rfl ?_
    refine a_iload_n C dX9_spread_39 rfl ?_
    refine a_iconst C (1 : Int32) dX9_spread_40 (by decide) ?_
    refine a_isub C dX9_spread_41 ?_
    refine a_iald C dX9_spread_42 3 rfl h6 ?_
    refine a_isub C dX9_spread_43 ?_
    refine a_iconst C (1 : Int32) dX9_spread_44 (by decide) ?_
    refine a_isub C dX9_spread_45 ?_
    refine a_mmax C dX9_spread_46 (mB_X9_109 _) ⟨⟨Nat.le_of_ble_eq_true rfl, Nat.le_of_ble_eq_true rfl⟩, ⟨Nat.le_of_ble_eq_true rfl, Nat.le_of_ble_eq_true rfl⟩⟩ (Nat.le_of_ble_eq_true rfl) ?_
    refine a_iast C dX9_spread_49 1 rfl h5 ?_
    refine a_iinc C (1 : Int32) dX9_spread_50 (by decide) rfl (by decide) rfl ?_
    refine a_goto C 2 dX9_spread_53 (by decide) ?_
    exact hk2 ((upd co_depth (Int32.toNatClampNeg x1) (jmax (co_depth (Int32.toNatClampNeg x1)) (((co_depth (Int32.toNatClampNeg (x1 - (1 : Int32)))) - (cL_dyke (Int32.toNatClampNeg (x1 - (1 : Int32))))) - (1 : Int32)))), (x1 + (1 : Int32))) hf
set_option maxHeartbeats 400000 in
set_option maxRecDepth 100000 in
theorem kX9_spread_b2 {X : cxT} {l : Launch} {D : va_G} {Y : Nat → ClassId} {ao aL aC : Nat → Nat} {io_moats : Int32} {io_spades : Int32} {io_tides : Int32} {co_depth : Nat → Int32} {iL_cells : Int32} {cL_dyke : Nat → Int32} {x1 : Int32} {res : (Nat → Int32)} (C : axC X l D Y cX9_spread 2 RX9 wsX9_spread rmX9_spread none) (hQ : axQ X 0 0 (fun r9 w9 => r9 = none ∧ w9 = [oX9 ao aL aC io_moats io_spades io_tides, rI Y (ao 2) 12 res, oX5 aL iL_cells, rI Y (aL 2) 12 cL_dyke])) (hf : fX9_spread_b2 co_depth iL_cells cL_dyke x1 = some res) : ax X 0 0 2 [some (.ref (ao 0)), some (.int x1)] [oX9 ao aL aC io_moats io_spades io_tides, rI Y (ao 2) 12 co_depth, oX5 aL iL_cells, rI Y (aL 2) 12 cL_dyke] [] := by
  unfold fX9_spread_b2 at hf
  exact fx_loop (P := fun s : (Nat → Int32) × Int32 => ax X 0 0 2 [some (.ref (ao 0)), some (.int s.2)] [oX9 ao aL aC io_moats io_spades io_tides, rI Y (ao 2) 12 s.1, oX5 aL iL_cells, rI Y (aL 2) 12 cL_dyke] []) (fun s k2 hk2 h => kX9_spread_l2 C hQ hk2 h) FUEL (co_depth, x1) hf
def fX9_spread (co_depth : Nat → Int32) (iL_cells : Int32) (cL_dyke : Nat → Int32) : Option ((Nat → Int32)) :=
  fX9_spread_b2 co_depth iL_cells cL_dyke (1 : Int32)
set_option maxHeartbeats 400000 in
set_option maxRecDepth 100000 in
theorem kX9_spread (l : Launch) (D : va_G) (Y : Nat → ClassId) (ao aL aC : Nat → Nat) (io_moats : Int32) (io_spades : Int32) (io_tides : Int32) (co_depth : Nat → Int32) (iL_cells : Int32) (cL_dyke : Nat → Int32) (res : (Nat → Int32)) (hf : fX9_spread co_depth iL_cells cL_dyke = some res) : amf l D Y yX9_spread wsX9_spread rmX9_spread [.ref (ao 0)] [oX9 ao aL aC io_moats io_spades io_tides, rI Y (ao 2) 12 co_depth, oX5 aL iL_cells, rI Y (aL 2) 12 cL_dyke] none [oX9 ao aL aC io_moats io_spades io_tides, rI Y (ao 2) 12 res, oX5 aL iL_cells, rI Y (aL 2) 12 cL_dyke] := by
  refine amf.of (cc := cX9_spread) (maxL := 2) (rt := none) (by decide) rfl RX9 rfl (Nat.le_of_ble_eq_true rfl) [some (.ref (ao 0)), none] rfl ?_
  intro X C hQ
  unfold fX9_spread at hf
  refine a_iconst C (1 : Int32) dX9_spread_0 (by decide) ?_
  refine a_istore_n C dX9_spread_1 (by decide) rfl ?_
  exact kX9_spread_b2 C hQ hf
-- X9_send
abbrev rmX9_send : Room := { frames := 1, cells := 0, slots := 0, locals := 21 }
theorem dvX9_send : yX9_send.cls = RX9 ∧ yX9_send.cls ≠ "java/lang/invoke/MethodHandle" ∧ yX9_send.cls ≠ "java/lang/invoke/VarHandle" ∧ (parseMethodDescriptor yX9_send.desc).map (fun d => d.parameters.length) = some 2 := by decide +kernel
def fX9_send_b22 (co_mood : Nat → Int32) (co_place : Nat → Int32) (iC_size : Int32) (iL_cells : Int32) : Option (Int32 × (Nat → Int32)) :=
  some ((-1 : Int32), co_place)
set_option maxHeartbeats 400000 in
set_option maxRecDepth 100000 in
theorem kX9_send_b22 {X : cxT} {l : Launch} {D : va_G} {Y : Nat → ClassId} {ao aL aC : Nat → Nat} {io_moats : Int32} {io_spades : Int32} {io_tides : Int32} {co_mood : Nat → Int32} {co_place : Nat → Int32} {iC_size : Int32} {iL_cells : Int32} {res : Int32 × (Nat → Int32)} (C : axC X l D Y cX9_send 4 RX9 wsX9_send rmX9_send (some .int)) (hQ : axQ X 0 0 (fun r9 w9 => r9 = (some (.int res.1)) ∧ w9 = [oX9 ao aL aC io_moats io_spades io_tides, rI Y (ao 3) 8 co_mood, rI Y (ao 4) 8 res.2, oX2 aC iC_size, oX5 aL iL_cells])) (hf : fX9_send_b22 co_mood co_place iC_size iL_cells = some res) : ax X 0 0 22 [none, none, none, none] [oX9 ao aL aC io_moats io_spades io_tides, rI Y (ao 3) 8 co_mood, rI Y (ao 4) 8 co_place, oX2 aC iC_size, oX5 aL iL_cells] [] := by
  unfold fX9_send_b22 at hf
  refine a_iconst C (-1 : Int32) dX9_send_22 (by decide) ?_
  obtain rfl := fx_some hf
  exact a_iret C hQ dX9_send_23 ⟨rfl, rfl⟩
def fX9_send (co_mood : Nat → Int32) (co_place : Nat → Int32) (iC_size : Int32) (iL_cells : Int32) (x1 : Int32) (x2 : Int32) : Option (Int32 × (Nat → Int32)) :=
  (fX2_has iC_size x1).bind (fun r1 => if r1 = (0 : Int32) then (fX9_send_b22 co_mood co_place iC_size iL_cells) else ((fX5_has iL_cells x2).bind (fun r3 => if r3 = (0 : Int32) then (fX9_send_b22 co_mood co_place iC_size iL_cells) else (if inb x1 8 then if (co_mood (Int32.toNatClampNeg x1)) = (0 : Int32) then (some ((-2 : Int32), co_place)) else (if (co_place (Int32.toNatClampNeg x1)) = x2 then (some ((-3 : Int32), co_place)) else (some (((co_place (Int32.toNatClampNeg x1)) + (1 : Int32)), (upd co_place (Int32.toNatClampNeg x1) x2)))) else none))))
set_option maxHeartbeats 400000 in
set_option maxRecDepth 100000 in
theorem kX9_send (l : Launch) (D : va_G) (Y : Nat → ClassId) (ao aL aC : Nat → Nat) (io_moats : Int32) (io_spades : Int32) (io_tides : Int32) (co_mood : Nat → Int32) (co_place : Nat → Int32) (iC_size : Int32) (iL_cells : Int32) (x1 : Int32) (x2 : Int32) (res : Int32 × (Nat → Int32)) (hf : fX9_send co_mood co_place iC_size iL_cells x1 x2 = some res) : amf l D Y yX9_send wsX9_send rmX9_send [.ref (ao 0), .int x1, .int x2] [oX9 ao aL aC io_moats io_spades io_tides, rI Y (ao 3) 8 co_mood, rI Y (ao 4) 8 co_place, oX2 aC iC_size, oX5 aL iL_cells] (some (.int res.1)) [oX9 ao aL aC io_moats io_spades io_tides, rI Y (ao 3) 8 co_mood, rI Y (ao 4) 8 res.2, oX2 aC iC_size, oX5 aL iL_cells] := by
  refine amf.of (cc := cX9_send) (maxL := 4) (rt := (some .int)) (by decide) rfl RX9 rfl (Nat.le_of_ble_eq_true rfl) [some (.ref (ao 0)), some (.int x1), some (.int x2), none] rfl ?_
  intro X C hQ
  unfold fX9_send at hf
  refine a_aload_n C dX9_send_0 rfl ?_
  refine a_get C (eB_X9_28 _) dX9_send_1 0 rfl rfl ?_
  refine a_iload_n C dX9_send_4 rfl ?_
  obtain ⟨r1, h1, hf⟩ := fx_bind hf
  refine a_fV C (kX2_has l D Y aC iC_size x1 r1 h1) (gB_X9_122 _) rfl dvX2_has ⟨⟨rfl, rfl⟩, ⟨Nat.le_of_ble_eq_true rfl, Nat.le_of_ble_eq_true rfl⟩, ⟨Nat.le_of_ble_eq_true rfl, Nat.le_of_ble_eq_true rfl⟩⟩ rfl (Nat.le_of_ble_eq_true rfl) dX9_send_5 rfl rfl [3] [0, 1, 2, 4] ⟨rfl, trivial⟩ (by decide +kernel) rfl [oX9 ao aL aC io_moats io_spades io_tides, rI Y (ao 3) 8 co_mood, rI Y (ao 4) 8 co_place, oX2 aC iC_size, oX5 aL iL_cells] ⟨rfl, trivial⟩ ⟨rfl, rfl, rfl, rfl, trivial⟩ 5 rfl (by decide +kernel) ?_
  refine a_if_eq C 22 dX9_send_8 (by decide) (fun h2 => ?_) (fun h2 => ?_)
  · have hf := fx_t h2 hf
    refine a_kill [0, 1, 2] ?_
    exact kX9_send_b22 C hQ hf
  · have hf := fx_f h2 hf
    refine a_aload_n C dX9_send_11 rfl ?_
    refine a_get C (eB_X9_24 _) dX9_send_12 0 rfl rfl ?_
    refine a_iload_n C dX9_send_15 rfl ?_
    obtain ⟨r3, h3, hf⟩ := fx_bind hf
    refine a_fV C (kX5_has l D Y aL iL_cells x2 r3 h3) (gB_X9_106 _) rfl dvX5_has ⟨⟨rfl, rfl⟩, ⟨Nat.le_of_ble_eq_true rfl, Nat.le_of_ble_eq_true rfl⟩, ⟨Nat.le_of_ble_eq_true rfl, Nat.le_of_ble_eq_true rfl⟩⟩ rfl (Nat.le_of_ble_eq_true rfl) dX9_send_16 rfl rfl [4] [0, 1, 2, 3] ⟨rfl, trivial⟩ (by decide +kernel) rfl [oX9 ao aL aC io_moats io_spades io_tides, rI Y (ao 3) 8 co_mood, rI Y (ao 4) 8 co_place, oX2 aC iC_size, oX5 aL iL_cells] ⟨rfl, trivial⟩ ⟨rfl, rfl, rfl, rfl, trivial⟩ 5 rfl (by decide +kernel) ?_
    refine a_if_ne C 24 dX9_send_19 (by decide) (fun h4 => ?_) (fun h4 => ?_)
    · have hf := fx_f h4 hf
      refine a_aload_n C dX9_send_24 rfl ?_
      refine a_get C (eB_X9_18 _) dX9_send_25 0 rfl rfl ?_
      refine a_iload_n C dX9_send_28 rfl ?_
      obtain ⟨h5, hf⟩ := fx_ite hf
      refine a_iald C dX9_send_29 1 rfl h5 ?_
      refine a_if_ne C 36 dX9_send_30 (by decide) (fun h6 => ?_) (fun h6 => ?_)
      · have hf := fx_f h6 hf
        refine a_aload_n C dX9_send_36 rfl ?_
        refine a_get C (eB_X9_21 _) dX9_send_37 0 rfl rfl ?_
        refine a_iload_n C dX9_send_40 rfl ?_
        refine a_iald C dX9_send_41 2 rfl h5 ?_
        refine a_istore_n C dX9_send_42 (by decide) rfl ?_
        refine a_iload_n C dX9_send_43 rfl ?_
        refine a_iload_n C dX9_send_44 rfl ?_
        refine a_icmp_ne C 51 dX9_send_45 (by decide) (fun h7 => ?_) (fun h7 => ?_)
        · have hf := fx_f h7 hf
          refine a_aload_n C dX9_send_51 rfl ?_
          refine a_get C (eB_X9_21 _) dX9_send_52 0 rfl rfl ?_
          refine a_iload_n C dX9_send_55 rfl ?_
          refine a_iload_n C dX9_send_56 rfl ?_
          refine a_iast C dX9_send_57 2 rfl h5 ?_
          refine a_iload_n C dX9_send_58 rfl ?_
          refine a_iconst C (1 : Int32) dX9_send_59 (by decide) ?_
          refine a_iadd C dX9_send_60 ?_
          obtain rfl := fx_some hf
          exact a_iret C hQ dX9_send_61 ⟨rfl, rfl⟩
        · have hf := fx_t h7 hf
          refine a_bipush C (-3 : Int32) dX9_send_48 (by decide) ?_
          obtain rfl := fx_some hf
          exact a_iret C hQ dX9_send_50 ⟨rfl, rfl⟩
      · have hf := fx_t h6 hf
        refine a_bipush C (-2 : Int32) dX9_send_33 (by decide) ?_
        obtain rfl := fx_some hf
        exact a_iret C hQ dX9_send_35 ⟨rfl, rfl⟩
    · have hf := fx_t h4 hf
      refine a_kill [0, 1, 2] ?_
      exact kX9_send_b22 C hQ hf
-- X9_sendHome
abbrev rmX9_sendHome : Room := { frames := 1, cells := 0, slots := 0, locals := 21 }
theorem dvX9_sendHome : yX9_sendHome.cls = RX9 ∧ yX9_sendHome.cls ≠ "java/lang/invoke/MethodHandle" ∧ yX9_sendHome.cls ≠ "java/lang/invoke/VarHandle" ∧ (parseMethodDescriptor yX9_sendHome.desc).map (fun d => d.parameters.length) = some 1 := by decide +kernel
def fX9_sendHome (co_place : Nat → Int32) (iC_size : Int32) (x1 : Int32) : Option (Int32 × (Nat → Int32)) :=
  (fX2_has iC_size x1).bind (fun r1 => if r1 = (0 : Int32) then (some ((-1 : Int32), co_place)) else (if inb x1 8 then if (co_place (Int32.toNatClampNeg x1)) = (-1 : Int32) then (some ((-2 : Int32), co_place)) else (some ((co_place (Int32.toNatClampNeg x1)), (upd co_place (Int32.toNatClampNeg x1) (-1 : Int32)))) else none))
set_option maxHeartbeats 400000 in
set_option maxRecDepth 100000 in
theorem kX9_sendHome (l : Launch) (D : va_G) (Y : Nat → ClassId) (ao aL aC : Nat → Nat) (io_moats : Int32) (io_spades : Int32) (io_tides : Int32) (co_place : Nat → Int32) (iC_size : Int32) (x1 : Int32) (res : Int32 × (Nat → Int32)) (hf : fX9_sendHome co_place iC_size x1 = some res) : amf l D Y yX9_sendHome wsX9_sendHome rmX9_sendHome [.ref (ao 0), .int x1] [oX9 ao aL aC io_moats io_spades io_tides, rI Y (ao 4) 8 co_place, oX2 aC iC_size] (some (.int res.1)) [oX9 ao aL aC io_moats io_spades io_tides, rI Y (ao 4) 8 res.2, oX2 aC iC_size] := by
  refine amf.of (cc := cX9_sendHome) (maxL := 3) (rt := (some .int)) (by decide) rfl RX9 rfl (Nat.le_of_ble_eq_true rfl) [some (.ref (ao 0)), some (.int x1), none] rfl ?_
  intro X C hQ
  unfold fX9_sendHome at hf
  refine a_aload_n C dX9_sendHome_0 rfl ?_
  refine a_get C (eB_X9_28 _) dX9_sendHome_1 0 rfl rfl ?_
  refine a_iload_n C dX9_sendHome_4 rfl ?_
  obtain ⟨r1, h1, hf⟩ := fx_bind hf
  refine a_fV C (kX2_has l D Y aC iC_size x1 r1 h1) (gB_X9_122 _) rfl dvX2_has ⟨⟨rfl, rfl⟩, ⟨Nat.le_of_ble_eq_true rfl, Nat.le_of_ble_eq_true rfl⟩, ⟨Nat.le_of_ble_eq_true rfl, Nat.le_of_ble_eq_true rfl⟩⟩ rfl (Nat.le_of_ble_eq_true rfl) dX9_sendHome_5 rfl rfl [2] [0, 1] ⟨rfl, trivial⟩ (by decide +kernel) rfl [oX9 ao aL aC io_moats io_spades io_tides, rI Y (ao 4) 8 co_place, oX2 aC iC_size] ⟨rfl, trivial⟩ ⟨rfl, rfl, trivial⟩ 3 rfl (by decide +kernel) ?_
  refine a_if_ne C 13 dX9_sendHome_8 (by decide) (fun h2 => ?_) (fun h2 => ?_)
  · have hf := fx_f h2 hf
    refine a_aload_n C dX9_sendHome_13 rfl ?_
    refine a_get C (eB_X9_21 _) dX9_sendHome_14 0 rfl rfl ?_
    refine a_iload_n C dX9_sendHome_17 rfl ?_
    obtain ⟨h3, hf⟩ := fx_ite hf
    refine a_iald C dX9_sendHome_18 1 rfl h3 ?_
    refine a_istore_n C dX9_sendHome_19 (by decide) rfl ?_
    refine a_iload_n C dX9_sendHome_20 rfl ?_
    refine a_iconst C (-1 : Int32) dX9_sendHome_21 (by decide) ?_
    refine a_icmp_ne C 28 dX9_sendHome_22 (by decide) (fun h4 => ?_) (fun h4 => ?_)
    · have hf := fx_f h4 hf
      refine a_aload_n C dX9_sendHome_28 rfl ?_
      refine a_get C (eB_X9_21 _) dX9_sendHome_29 0 rfl rfl ?_
      refine a_iload_n C dX9_sendHome_32 rfl ?_
      refine a_iconst C (-1 : Int32) dX9_sendHome_33 (by decide) ?_
      refine a_iast C dX9_sendHome_34 1 rfl h3 ?_
      refine a_iload_n C dX9_sendHome_35 rfl ?_
      obtain rfl := fx_some hf
      exact a_iret C hQ dX9_sendHome_36 ⟨rfl, rfl⟩
    · have hf := fx_t h4 hf
      refine a_bipush C (-2 : Int32) dX9_sendHome_25 (by decide) ?_
      obtain rfl := fx_some hf
      exact a_iret C hQ dX9_sendHome_27 ⟨rfl, rfl⟩
  · have hf := fx_t h2 hf
    refine a_iconst C (-1 : Int32) dX9_sendHome_11 (by decide) ?_
    obtain rfl := fx_some hf
    exact a_iret C hQ dX9_sendHome_12 ⟨rfl, rfl⟩
-- X9_passSpade
abbrev rmX9_passSpade : Room := { frames := 1, cells := 0, slots := 0, locals := 21 }
theorem dvX9_passSpade : yX9_passSpade.cls = RX9 ∧ yX9_passSpade.cls ≠ "java/lang/invoke/MethodHandle" ∧ yX9_passSpade.cls ≠ "java/lang/invoke/VarHandle" ∧ (parseMethodDescriptor yX9_passSpade.desc).map (fun d => d.parameters.length) = some 2 := by decide +kernel
def fX9_passSpade_b48 (io_spades : Int32) (iC_size : Int32) (x1 : Int32) : Option (Int32 × Int32) :=
  (fJ6_bitCount_0f7a4 (io_spades ^^^ (jshl (1 : Int32) x1))).bind (fun r1 => some (r1, (io_spades ^^^ (jshl (1 : Int32) x1))))
set_option maxHeartbeats 400000 in
set_option maxRecDepth 100000 in
theorem kX9_passSpade_b48 {X : cxT} {l : Launch} {D : va_G} {Y : Nat → ClassId} {ao aL aC : Nat → Nat} {io_moats : Int32} {io_spades : Int32} {io_tides : Int32} {iC_size : Int32} {x1 : Int32} {res : Int32 × Int32} (C : axC X l D Y cX9_passSpade 4 RX9 wsX9_passSpade rmX9_passSpade (some .int)) (hQ : axQ X 0 0 (fun r9 w9 => r9 = (some (.int res.1)) ∧ w9 = [oX9 ao aL aC io_moats res.2 io_tides, oX2 aC iC_size])) (hf : fX9_passSpade_b48 io_spades iC_size x1 = some res) : ax X 0 0 48 [some (.ref (ao 0)), some (.int x1), none, none] [oX9 ao aL aC io_moats io_spades io_tides, oX2 aC iC_size] [] := by
  unfold fX9_passSpade_b48 at hf
  refine a_aload_n C dX9_passSpade_48 rfl ?_
  refine a_dup C dX9_passSpade_49 rfl ?_
  refine a_get C (eB_X9_42 _) dX9_passSpade_50 0 rfl rfl ?_
  refine a_iconst C (1 : Int32) dX9_passSpade_53 (by decide) ?_
  refine a_iload_n C dX9_passSpade_54 rfl ?_
  refine a_ishl C dX9_passSpade_55 ?_
  refine a_ixor C dX9_passSpade_56 ?_
  refine a_put C (eB_X9_42 _) tfX9_7 dX9_passSpade_57 0 rfl rfl rfl (Nat.le_of_ble_eq_true rfl) ?_
  refine a_aload_n C dX9_passSpade_60 rfl ?_
  refine a_get C (eB_X9_42 _) dX9_passSpade_61 0 rfl rfl ?_
  obtain ⟨r1, h1, hf⟩ := fx_bind hf
  refine a_fS C (kJ6_bitCount_0f7a4 l D Y (io_spades ^^^ (jshl (1 : Int32) x1)) r1 h1) (gB_X9_123 _) rfl dvJ6_bitCount_0f7a4 ⟨⟨rfl, rfl⟩, ⟨Nat.le_of_ble_eq_true rfl, Nat.le_of_ble_eq_true rfl⟩, ⟨Nat.le_of_ble_eq_true rfl, Nat.le_of_ble_eq_true rfl⟩⟩ rfl (Nat.le_of_ble_eq_true rfl) dX9_passSpade_64 [] [0, 1] trivial (by decide +kernel) rfl [oX9 ao aL aC io_moats (io_spades ^^^ (jshl (1 : Int32) x1)) io_tides, oX2 aC iC_size] trivial ⟨rfl, rfl, trivial⟩ 2 rfl (by decide +kernel) ?_
  obtain rfl := fx_some hf
  exact a_iret C hQ dX9_passSpade_67 ⟨rfl, rfl⟩
def fX9_passSpade_b29 (io_spades : Int32) (iC_size : Int32) (x1 : Int32) (x2 : Int32) (s0 : Int32) : Option (Int32 × Int32) :=
  if s0 = (0 : Int32) then (fX9_passSpade_b48 io_spades iC_size x1) else ((fJ6_bitCount_0f7a4 io_spades).bind (fun r3 => if r3 < x2 then (fX9_passSpade_b48 io_spades iC_size x1) else (some ((-2 : Int32), io_spades))))
set_option maxHeartbeats 400000 in
set_option maxRecDepth 100000 in
theorem kX9_passSpade_b29 {X : cxT} {l : Launch} {D : va_G} {Y : Nat → ClassId} {ao aL aC : Nat → Nat} {io_moats : Int32} {io_spades : Int32} {io_tides : Int32} {iC_size : Int32} {x1 : Int32} {x2 : Int32} {s0 : Int32} {res : Int32 × Int32} (C : axC X l D Y cX9_passSpade 4 RX9 wsX9_passSpade rmX9_passSpade (some .int)) (hQ : axQ X 0 0 (fun r9 w9 => r9 = (some (.int res.1)) ∧ w9 = [oX9 ao aL aC io_moats res.2 io_tides, oX2 aC iC_size])) (hf : fX9_passSpade_b29 io_spades iC_size x1 x2 s0 = some res) : ax X 0 0 29 [some (.ref (ao 0)), some (.int x1), some (.int x2), none] [oX9 ao aL aC io_moats io_spades io_tides, oX2 aC iC_size] [.int s0] := by
  unfold fX9_passSpade_b29 at hf
  refine a_istore_n C dX9_passSpade_29 (by decide) rfl ?_
  refine a_iload_n C dX9_passSpade_30 rfl ?_
  refine a_if_eq C 48 dX9_passSpade_31 (by decide) (fun h2 => ?_) (fun h2 => ?_)
  · have hf := fx_t h2 hf
    refine a_kill [2, 3] ?_
    exact kX9_passSpade_b48 C hQ hf
  · have hf := fx_f h2 hf
    refine a_aload_n C dX9_passSpade_34 rfl ?_
    refine a_get C (eB_X9_42 _) dX9_passSpade_35 0 rfl rfl ?_
    obtain ⟨r3, h3, hf⟩ := fx_bind hf
    refine a_fS C (kJ6_bitCount_0f7a4 l D Y io_spades r3 h3) (gB_X9_123 _) rfl dvJ6_bitCount_0f7a4 ⟨⟨rfl, rfl⟩, ⟨Nat.le_of_ble_eq_true rfl, Nat.le_of_ble_eq_true rfl⟩, ⟨Nat.le_of_ble_eq_true rfl, Nat.le_of_ble_eq_true rfl⟩⟩ rfl (Nat.le_of_ble_eq_true rfl) dX9_passSpade_38 [] [0, 1] trivial (by decide +kernel) rfl [oX9 ao aL aC io_moats io_spades io_tides, oX2 aC iC_size] trivial ⟨rfl, rfl, trivial⟩ 2 rfl (by decide +kernel) ?_
    refine a_iload_n C dX9_passSpade_41 rfl ?_
    refine a_icmp_lt C 48 dX9_passSpade_42 (by decide) (fun h4 => ?_) (fun h4 => ?_)
    · have hf := fx_t h4 hf
      refine a_kill [2, 3] ?_
      exact kX9_passSpade_b48 C hQ hf
    · have hf := fx_f h4 hf
      refine a_bipush C (-2 : Int32) dX9_passSpade_45 (by decide) ?_
      obtain rfl := fx_some hf
      exact a_iret C hQ dX9_passSpade_47 ⟨rfl, rfl⟩
def fX9_passSpade (io_spades : Int32) (iC_size : Int32) (x1 : Int32) (x2 : Int32) : Option (Int32 × Int32) :=
  (fX2_has iC_size x1).bind (fun r5 => if r5 = (0 : Int32) then (some ((-1 : Int32), io_spades)) else (if ((jshr io_spades x1) &&& (1 : Int32)) = (0 : Int32) then (fX9_passSpade_b29 io_spades iC_size x1 x2 (1 : Int32)) else (fX9_passSpade_b29 io_spades iC_size x1 x2 (0 : Int32))))
set_option maxHeartbeats 400000 in
set_option maxRecDepth 100000 in
theorem kX9_passSpade (l : Launch) (D : va_G) (Y : Nat → ClassId) (ao aL aC : Nat → Nat) (io_moats : Int32) (io_spades : Int32) (io_tides : Int32) (iC_size : Int32) (x1 : Int32) (x2 : Int32) (res : Int32 × Int32) (hf : fX9_passSpade io_spades iC_size x1 x2 = some res) : amf l D Y yX9_passSpade wsX9_passSpade rmX9_passSpade [.ref (ao 0), .int x1, .int x2] [oX9 ao aL aC io_moats io_spades io_tides, oX2 aC iC_size] (some (.int res.1)) [oX9 ao aL aC io_moats res.2 io_tides, oX2 aC iC_size] := by
  refine amf.of (cc := cX9_passSpade) (maxL := 4) (rt := (some .int)) (by decide) rfl RX9 rfl (Nat.le_of_ble_eq_true rfl) [some (.ref (ao 0)), some (.int x1), some (.int x2), none] rfl ?_
  intro X C hQ
  unfold fX9_passSpade at hf
  refine a_aload_n C dX9_passSpade_0 rfl ?_
  refine a_get C (eB_X9_28 _) dX9_passSpade_1 0 rfl rfl ?_
  refine a_iload_n C dX9_passSpade_4 rfl ?_
  obtain ⟨r5, h5, hf⟩ := fx_bind hf
  refine a_fV C (kX2_has l D Y aC iC_size x1 r5 h5) (gB_X9_122 _) rfl dvX2_has ⟨⟨rfl, rfl⟩, ⟨Nat.le_of_ble_eq_true rfl, Nat.le_of_ble_eq_true rfl⟩, ⟨Nat.le_of_ble_eq_true rfl, Nat.le_of_ble_eq_true rfl⟩⟩ rfl (Nat.le_of_ble_eq_true rfl) dX9_passSpade_5 rfl rfl [1] [0] ⟨rfl, trivial⟩ (by decide +kernel) rfl [oX9 ao aL aC io_moats io_spades io_tides, oX2 aC iC_size] ⟨rfl, trivial⟩ ⟨rfl, trivial⟩ 2 rfl (by decide +kernel) ?_
  refine a_if_ne C 13 dX9_passSpade_8 (by decide) (fun h6 => ?_) (fun h6 => ?_)
  · have hf := fx_f h6 hf
    refine a_aload_n C dX9_passSpade_13 rfl ?_
    refine a_get C (eB_X9_42 _) dX9_passSpade_14 0 rfl rfl ?_
    refine a_iload_n C dX9_passSpade_17 rfl ?_
    refine a_ishr C dX9_passSpade_18 ?_
    refine a_iconst C (1 : Int32) dX9_passSpade_19 (by decide) ?_
    refine a_iand C dX9_passSpade_20 ?_
    refine a_if_ne C 28 dX9_passSpade_21 (by decide) (fun h7 => ?_) (fun h7 => ?_)
    · have hf := fx_f h7 hf
      refine a_iconst C (0 : Int32) dX9_passSpade_28 (by decide) ?_
      exact kX9_passSpade_b29 C hQ hf
    · have hf := fx_t h7 hf
      refine a_iconst C (1 : Int32) dX9_passSpade_24 (by decide) ?_
      refine a_goto C 29 dX9_passSpade_25 (by decide) ?_
      exact kX9_passSpade_b29 C hQ hf
  · have hf := fx_t h6 hf
    refine a_iconst C (-1 : Int32) dX9_passSpade_11 (by decide) ?_
    obtain rfl := fx_some hf
    exact a_iret C hQ dX9_passSpade_12 ⟨rfl, rfl⟩
-- X9_cheer
abbrev rmX9_cheer : Room := { frames := 1, cells := 0, slots := 0, locals := 21 }
theorem dvX9_cheer : yX9_cheer.cls = RX9 ∧ yX9_cheer.cls ≠ "java/lang/invoke/MethodHandle" ∧ yX9_cheer.cls ≠ "java/lang/invoke/VarHandle" ∧ (parseMethodDescriptor yX9_cheer.desc).map (fun d => d.parameters.length) = some 1 := by decide +kernel
def fX9_cheer (co_mood : Nat → Int32) (iC_size : Int32) (x1 : Int32) : Option (Int32 × (Nat → Int32)) :=
  (fX2_has iC_size x1).bind (fun r1 => if r1 = (0 : Int32) then (some ((-1 : Int32), co_mood)) else (if inb x1 8 then some (((upd co_mood (Int32.toNatClampNeg x1) (jmin (9 : Int32) ((co_mood (Int32.toNatClampNeg x1)) + (3 : Int32)))) (Int32.toNatClampNeg x1)), (upd co_mood (Int32.toNatClampNeg x1) (jmin (9 : Int32) ((co_mood (Int32.toNatClampNeg x1)) + (3 : Int32))))) else none))
set_option maxHeartbeats 400000 in
set_option maxRecDepth 100000 in
theorem kX9_cheer (l : Launch) (D : va_G) (Y : Nat → ClassId) (ao aL aC : Nat → Nat) (io_moats : Int32) (io_spades : Int32) (io_tides : Int32) (co_mood : Nat → Int32) (iC_size : Int32) (x1 : Int32) (res : Int32 × (Nat → Int32)) (hf : fX9_cheer co_mood iC_size x1 = some res) : amf l D Y yX9_cheer wsX9_cheer rmX9_cheer [.ref (ao 0), .int x1] [oX9 ao aL aC io_moats io_spades io_tides, rI Y (ao 3) 8 co_mood, oX2 aC iC_size] (some (.int res.1)) [oX9 ao aL aC io_moats io_spades io_tides, rI Y (ao 3) 8 res.2, oX2 aC iC_size] := by
  refine amf.of (cc := cX9_cheer) (maxL := 2) (rt := (some .int)) (by decide) rfl RX9 rfl (Nat.le_of_ble_eq_true rfl) [some (.ref (ao 0)), some (.int x1)] rfl ?_
  intro X C hQ
  unfold fX9_cheer at hf
  refine a_aload_n C dX9_cheer_0 rfl ?_
  refine a_get C (eB_X9_28 _) dX9_cheer_1 0 rfl rfl ?_
  refine a_iload_n C dX9_cheer_4 rfl ?_
  obtain ⟨r1, h1, hf⟩ := fx_bind hf
  refine a_fV C (kX2_has l D Y aC iC_size x1 r1 h1) (gB_X9_122 _) rfl dvX2_has ⟨⟨rfl, rfl⟩, ⟨Nat.le_of_ble_eq_true rfl, Nat.le_of_ble_eq_true rfl⟩, ⟨Nat.le_of_ble_eq_true rfl, Nat.le_of_ble_eq_true rfl⟩⟩ rfl (Nat.le_of_ble_eq_true rfl) dX9_cheer_5 rfl rfl [2] [0, 1] ⟨rfl, trivial⟩ (by decide +kernel) rfl [oX9 ao aL aC io_moats io_spades io_tides, rI Y (ao 3) 8 co_mood, oX2 aC iC_size] ⟨rfl, trivial⟩ ⟨rfl, rfl, trivial⟩ 3 rfl (by decide +kernel) ?_
  refine a_if_ne C 13 dX9_cheer_8 (by decide) (fun h2 => ?_) (fun h2 => ?_)
  · have hf := fx_f h2 hf
    refine a_aload_n C dX9_cheer_13 rfl ?_
    refine a_get C (eB_X9_18 _) dX9_cheer_14 0 rfl rfl ?_
    refine a_iload_n C dX9_cheer_17 rfl ?_
    refine a_bipush C (9 : Int32) dX9_cheer_18 (by decide) ?_
    refine a_aload_n C dX9_cheer_20 rfl ?_
    refine a_get C (eB_X9_18 _) dX9_cheer_21 0 rfl rfl ?_
    refine a_iload_n C dX9_cheer_24 rfl ?_
    obtain ⟨h3, hf⟩ := fx_ite hf
    refine a_iald C dX9_cheer_25 1 rfl h3 ?_
    refine a_iconst C (3 : Int32) dX9_cheer_26 (by decide) ?_
    refine a_iadd C dX9_cheer_27 ?_
    refine a_mmin C dX9_cheer_28 (mB_X9_71 _) ⟨⟨Nat.le_of_ble_eq_true rfl, Nat.le_of_ble_eq_true rfl⟩, ⟨Nat.le_of_ble_eq_true rfl, Nat.le_of_ble_eq_true rfl⟩⟩ (Nat.le_of_ble_eq_true rfl) ?_
    refine a_iast C dX9_cheer_31 1 rfl h3 ?_
    refine a_aload_n C dX9_cheer_32 rfl ?_
    refine a_get C (eB_X9_18 _) dX9_cheer_33 0 rfl rfl ?_
    refine a_iload_n C dX9_cheer_36 rfl ?_
    refine a_iald C dX9_cheer_37 1 rfl h3 ?_
    obtain rfl := fx_some hf
    exact a_iret C hQ dX9_cheer_38 ⟨rfl, rfl⟩
  · have hf := fx_t h2 hf
    refine a_iconst C (-1 : Int32) dX9_cheer_11 (by decide) ?_
    obtain rfl := fx_some hf
    exact a_iret C hQ dX9_cheer_12 ⟨rfl, rfl⟩
-- X9_dig
abbrev rmX9_dig : Room := { frames := 1, cells := 0, slots := 0, locals := 21 }
theorem dvX9_dig : yX9_dig.cls = RX9 ∧ yX9_dig.cls ≠ "java/lang/invoke/MethodHandle" ∧ yX9_dig.cls ≠ "java/lang/invoke/VarHandle" ∧ (parseMethodDescriptor yX9_dig.desc).map (fun d => d.parameters.length) = some 1 := by decide +kernel
def fX9_dig (io_moats : Int32) (iL_cells : Int32) (x1 : Int32) : Option (Int32 × Int32) :=
  (fX5_has iL_cells x1).bind (fun r1 => if r1 = (0 : Int32) then (some ((-1 : Int32), io_moats)) else ((fJ6_bitCount_0f7a4 (io_moats ^^^ (jshl (1 : Int32) x1))).bind (fun r3 => some (r3, (io_moats ^^^ (jshl (1 : Int32) x1))))))
set_option maxHeartbeats 400000 in
set_option maxRecDepth 100000 in
theorem kX9_dig (l : Launch) (D : va_G) (Y : Nat → ClassId) (ao aL aC : Nat → Nat) (io_moats : Int32) (io_spades : Int32) (io_tides : Int32) (iL_cells : Int32) (x1 : Int32) (res : Int32 × Int32) (hf : fX9_dig io_moats iL_cells x1 = some res) : amf l D Y yX9_dig wsX9_dig rmX9_dig [.ref (ao 0), .int x1] [oX9 ao aL aC io_moats io_spades io_tides, oX5 aL iL_cells] (some (.int res.1)) [oX9 ao aL aC res.2 io_spades io_tides, oX5 aL iL_cells] := by
  refine amf.of (cc := cX9_dig) (maxL := 2) (rt := (some .int)) (by decide) rfl RX9 rfl (Nat.le_of_ble_eq_true rfl) [some (.ref (ao 0)), some (.int x1)] rfl ?_
  intro X C hQ
  unfold fX9_dig at hf
  refine a_aload_n C dX9_dig_0 rfl ?_
  refine a_get C (eB_X9_24 _) dX9_dig_1 0 rfl rfl ?_
  refine a_iload_n C dX9_dig_4 rfl ?_
  obtain ⟨r1, h1, hf⟩ := fx_bind hf
  refine a_fV C (kX5_has l D Y aL iL_cells x1 r1 h1) (gB_X9_106 _) rfl dvX5_has ⟨⟨rfl, rfl⟩, ⟨Nat.le_of_ble_eq_true rfl, Nat.le_of_ble_eq_true rfl⟩, ⟨Nat.le_of_ble_eq_true rfl, Nat.le_of_ble_eq_true rfl⟩⟩ rfl (Nat.le_of_ble_eq_true rfl) dX9_dig_5 rfl rfl [1] [0] ⟨rfl, trivial⟩ (by decide +kernel) rfl [oX9 ao aL aC io_moats io_spades io_tides, oX5 aL iL_cells] ⟨rfl, trivial⟩ ⟨rfl, trivial⟩ 2 rfl (by decide +kernel) ?_
  refine a_if_ne C 13 dX9_dig_8 (by decide) (fun h2 => ?_) (fun h2 => ?_)
  · have hf := fx_f h2 hf
    refine a_aload_n C dX9_dig_13 rfl ?_
    refine a_dup C dX9_dig_14 rfl ?_
    refine a_get C (eB_X9_38 _) dX9_dig_15 0 rfl rfl ?_
    refine a_iconst C (1 : Int32) dX9_dig_18 (by decide) ?_
    refine a_iload_n C dX9_dig_19 rfl ?_
    refine a_ishl C dX9_dig_20 ?_
    refine a_ixor C dX9_dig_21 ?_
    refine a_put C (eB_X9_38 _) tfX9_6 dX9_dig_22 0 rfl rfl rfl (Nat.le_of_ble_eq_true rfl) ?_
    refine a_aload_n C dX9_dig_25 rfl ?_
    refine a_get C (eB_X9_38 _) dX9_dig_26 0 rfl rfl ?_
    obtain ⟨r3, h3, hf⟩ := fx_bind hf
    refine a_fS C (kJ6_bitCount_0f7a4 l D Y (io_moats ^^^ (jshl (1 : Int32) x1)) r3 h3) (gB_X9_123 _) rfl dvJ6_bitCount_0f7a4 ⟨⟨rfl, rfl⟩, ⟨Nat.le_of_ble_eq_true rfl, Nat.le_of_ble_eq_true rfl⟩, ⟨Nat.le_of_ble_eq_true rfl, Nat.le_of_ble_eq_true rfl⟩⟩ rfl (Nat.le_of_ble_eq_true rfl) dX9_dig_29 [] [0, 1] trivial (by decide +kernel) rfl [oX9 ao aL aC (io_moats ^^^ (jshl (1 : Int32) x1)) io_spades io_tides, oX5 aL iL_cells] trivial ⟨rfl, rfl, trivial⟩ 2 rfl (by decide +kernel) ?_
    obtain rfl := fx_some hf
    exact a_iret C hQ dX9_dig_32 ⟨rfl, rfl⟩
  · have hf := fx_t h2 hf
    refine a_iconst C (-1 : Int32) dX9_dig_11 (by decide) ?_
    obtain rfl := fx_some hf
    exact a_iret C hQ dX9_dig_12 ⟨rfl, rfl⟩
