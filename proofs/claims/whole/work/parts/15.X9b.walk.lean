-- X9_drain
abbrev rmX9_drain : Room := { frames := 1, cells := 0, slots := 0, locals := 22 }
theorem dvX9_drain : yX9_drain.cls = RX9 ∧ yX9_drain.cls ≠ "java/lang/invoke/MethodHandle" ∧ yX9_drain.cls ≠ "java/lang/invoke/VarHandle" ∧ (parseMethodDescriptor yX9_drain.desc).map (fun d => d.parameters.length) = some 1 := by decide +kernel
def fX9_drain_b49 (co_depth : Nat → Int32) (iL_cells : Int32) : Option (Int32 × (Nat → Int32)) :=
  (fX9_wet co_depth iL_cells).bind (fun r1 => (fJ6_bitCount_0f7a4 r1).bind (fun r2 => some (r2, co_depth)))
set_option maxHeartbeats 400000 in
set_option maxRecDepth 100000 in
theorem kX9_drain_b49 {X : cxT} {l : Launch} {D : va_G} {Y : Nat → ClassId} {ao aL aC : Nat → Nat} {io_moats : Int32} {io_spades : Int32} {io_tides : Int32} {co_depth : Nat → Int32} {iL_cells : Int32} {res : Int32 × (Nat → Int32)} (C : axC X l D Y cX9_drain 3 RX9 wsX9_drain rmX9_drain (some .int)) (hQ : axQ X 0 0 (fun r9 w9 => r9 = (some (.int res.1)) ∧ w9 = [oX9 ao aL aC io_moats io_spades io_tides, rI Y (ao 2) 12 res.2, oX5 aL iL_cells])) (hf : fX9_drain_b49 co_depth iL_cells = some res) : ax X 0 0 49 [some (.ref (ao 0)), none, none] [oX9 ao aL aC io_moats io_spades io_tides, rI Y (ao 2) 12 co_depth, oX5 aL iL_cells] [] := by
  unfold fX9_drain_b49 at hf
  refine a_aload_n C dX9_drain_49 rfl ?_
  obtain ⟨r1, h1, hf⟩ := fx_bind hf
  refine a_fV C (kX9_wet l D Y ao aL aC io_moats io_spades io_tides co_depth iL_cells r1 h1) (gB_X9_132 _) rfl dvX9_wet ⟨⟨rfl, rfl⟩, ⟨Nat.le_of_ble_eq_true rfl, Nat.le_of_ble_eq_true rfl⟩, ⟨Nat.le_of_ble_eq_true rfl, Nat.le_of_ble_eq_true rfl⟩⟩ rfl (Nat.le_of_ble_eq_true rfl) dX9_drain_50 rfl rfl [0, 1, 2] [] ⟨rfl, rfl, rfl, trivial⟩ (by decide +kernel) rfl [oX9 ao aL aC io_moats io_spades io_tides, rI Y (ao 2) 12 co_depth, oX5 aL iL_cells] ⟨rfl, rfl, rfl, trivial⟩ trivial 3 rfl (by decide +kernel) ?_
  obtain ⟨r2, h2, hf⟩ := fx_bind hf
  refine a_fS C (kJ6_bitCount_0f7a4 l D Y r1 r2 h2) (gB_X9_123 _) rfl dvJ6_bitCount_0f7a4 ⟨⟨rfl, rfl⟩, ⟨Nat.le_of_ble_eq_true rfl, Nat.le_of_ble_eq_true rfl⟩, ⟨Nat.le_of_ble_eq_true rfl, Nat.le_of_ble_eq_true rfl⟩⟩ rfl (Nat.le_of_ble_eq_true rfl) dX9_drain_53 [] [0, 1, 2] trivial (by decide +kernel) rfl [oX9 ao aL aC io_moats io_spades io_tides, rI Y (ao 2) 12 co_depth, oX5 aL iL_cells] trivial ⟨rfl, rfl, rfl, trivial⟩ 3 rfl (by decide +kernel) ?_
  obtain rfl := fx_some hf
  exact a_iret C hQ dX9_drain_56 ⟨rfl, rfl⟩
def fX9_drain_l14 (iL_cells : Int32) (x1 : Int32) (k14 : (Nat → Int32) × Int32 → Option (Int32 × (Nat → Int32))) (co_depth : Nat → Int32) (x2 : Int32) : Option (Int32 × (Nat → Int32)) :=
  if iL_cells ≤ x2 then (fX9_drain_b49 co_depth iL_cells) else (if inb x2 12 then k14 ((upd co_depth (Int32.toNatClampNeg x2) (jmax (0 : Int32) ((co_depth (Int32.toNatClampNeg x2)) - x1))), (x2 + (1 : Int32))) else none)
def fX9_drain_b14 (co_depth : Nat → Int32) (iL_cells : Int32) (x1 : Int32) (x2 : Int32) : Option (Int32 × (Nat → Int32)) :=
  loopN (fun (s : (Nat → Int32) × Int32) k14 => fX9_drain_l14 iL_cells x1 k14 s.1 s.2) FUEL (co_depth, x2)
set_option maxHeartbeats 400000 in
set_option maxRecDepth 100000 in
theorem kX9_drain_l14 {X : cxT} {l : Launch} {D : va_G} {Y : Nat → ClassId} {ao aL aC : Nat → Nat} {io_moats : Int32} {io_spades : Int32} {io_tides : Int32} {co_depth : Nat → Int32} {iL_cells : Int32} {x1 : Int32} {x2 : Int32} {res : Int32 × (Nat → Int32)} (C : axC X l D Y cX9_drain 3 RX9 wsX9_drain rmX9_drain (some .int)) (hQ : axQ X 0 0 (fun r9 w9 => r9 = (some (.int res.1)) ∧ w9 = [oX9 ao aL aC io_moats io_spades io_tides, rI Y (ao 2) 12 res.2, oX5 aL iL_cells])) {k14 : (Nat → Int32) × Int32 → Option (Int32 × (Nat → Int32))} (hk14 : ∀ s : (Nat → Int32) × Int32, k14 s = some res → ax X 0 0 14 [some (.ref (ao 0)), some (.int x1), some (.int s.2)] [oX9 ao aL aC io_moats io_spades io_tides, rI Y (ao 2) 12 s.1, oX5 aL iL_cells] []) (hf : fX9_drain_l14 iL_cells x1 k14 co_depth x2 = some res) : ax X 0 0 14 [some (.ref (ao 0)), some (.int x1), some (.int x2)] [oX9 ao aL aC io_moats io_spades io_tides, rI Y (ao 2) 12 co_depth, oX5 aL iL_cells] [] := by
  unfold fX9_drain_l14 at hf
  refine a_iload_n C dX9_drain_14 rfl ?_
  refine a_aload_n C dX9_drain_15 rfl ?_
  refine a_get C (eB_X9_24 _) dX9_drain_16 0 rfl rfl ?_
  refine a_get C (eB_X9_68 _) dX9_drain_19 2 rfl rfl ?_
  refine a_icmp_ge C 49 dX9_drain_22 (by decide) (fun h3 => ?_) (fun h3 => ?_)
  · have hf := fx_t h3 hf
    refine a_kill [1, 2] ?_
    exact kX9_drain_b49 C hQ hf
  · have hf := fx_f h3 hf
    refine a_aload_n C dX9_drain_25 rfl ?_
    refine a_get C (eB_X9_15 _) dX9_drain_26 0 rfl rfl ?_
    refine a_iload_n C dX9_drain_29 rfl ?_
    refine a_iconst C (0 : Int32) dX9_drain_30 (by decide) ?_
    refine a_aload_n C dX9_drain_31 rfl ?_
    refine a_get C (eB_X9_15 _) dX9_drain_32 0 rfl rfl ?_
    refine a_iload_n C dX9_drain_35 rfl ?_
    obtain ⟨h4, hf⟩ := fx_ite hf
    refine a_iald C dX9_drain_36 1 rfl h4 ?_
    refine a_iload_n C dX9_drain_37 rfl ?_
    refine a_isub C dX9_drain_38 ?_
    refine a_mmax C dX9_drain_39 (mB_X9_109 _) ⟨⟨Nat.le_of_ble_eq_true rfl, Nat.le_of_ble_eq_true rfl⟩, ⟨Nat.le_of_ble_eq_true rfl, Nat.le_of_ble_eq_true rfl⟩⟩ (Nat.le_of_ble_eq_true rfl) ?_
    refine a_iast C dX9_drain_42 1 rfl h4 ?_
    refine a_iinc C (1 : Int32) dX9_drain_43 (by decide) rfl (by decide) rfl ?_
    refine a_goto C 14 dX9_drain_46 (by decide) ?_
    exact hk14 ((upd co_depth (Int32.toNatClampNeg x2) (jmax (0 : Int32) ((co_depth (Int32.toNatClampNeg x2)) - x1))), (x2 + (1 : Int32))) hf
set_option maxHeartbeats 400000 in
set_option maxRecDepth 100000 in
theorem kX9_drain_b14 {X : cxT} {l : Launch} {D : va_G} {Y : Nat → ClassId} {ao aL aC : Nat → Nat} {io_moats : Int32} {io_spades : Int32} {io_tides : Int32} {co_depth : Nat → Int32} {iL_cells : Int32} {x1 : Int32} {x2 : Int32} {res : Int32 × (Nat → Int32)} (C : axC X l D Y cX9_drain 3 RX9 wsX9_drain rmX9_drain (some .int)) (hQ : axQ X 0 0 (fun r9 w9 => r9 = (some (.int res.1)) ∧ w9 = [oX9 ao aL aC io_moats io_spades io_tides, rI Y (ao 2) 12 res.2, oX5 aL iL_cells])) (hf : fX9_drain_b14 co_depth iL_cells x1 x2 = some res) : ax X 0 0 14 [some (.ref (ao 0)), some (.int x1), some (.int x2)] [oX9 ao aL aC io_moats io_spades io_tides, rI Y (ao 2) 12 co_depth, oX5 aL iL_cells] [] := by
  unfold fX9_drain_b14 at hf
  exact fx_loop (P := fun s : (Nat → Int32) × Int32 => ax X 0 0 14 [some (.ref (ao 0)), some (.int x1), some (.int s.2)] [oX9 ao aL aC io_moats io_spades io_tides, rI Y (ao 2) 12 s.1, oX5 aL iL_cells] []) (fun s k14 hk14 h => kX9_drain_l14 C hQ hk14 h) FUEL (co_depth, x2) hf
def fX9_drain (co_depth : Nat → Int32) (iL_cells : Int32) (x1 : Int32) : Option (Int32 × (Nat → Int32)) :=
  (fX11_within x1 (1 : Int32) (99 : Int32)).bind (fun r5 => if r5 = (0 : Int32) then (some ((-1 : Int32), co_depth)) else (fX9_drain_b14 co_depth iL_cells x1 (0 : Int32)))
set_option maxHeartbeats 400000 in
set_option maxRecDepth 100000 in
theorem kX9_drain (l : Launch) (D : va_G) (Y : Nat → ClassId) (ao aL aC : Nat → Nat) (io_moats : Int32) (io_spades : Int32) (io_tides : Int32) (co_depth : Nat → Int32) (iL_cells : Int32) (x1 : Int32) (res : Int32 × (Nat → Int32)) (hf : fX9_drain co_depth iL_cells x1 = some res) : amf l D Y yX9_drain wsX9_drain rmX9_drain [.ref (ao 0), .int x1] [oX9 ao aL aC io_moats io_spades io_tides, rI Y (ao 2) 12 co_depth, oX5 aL iL_cells] (some (.int res.1)) [oX9 ao aL aC io_moats io_spades io_tides, rI Y (ao 2) 12 res.2, oX5 aL iL_cells] := by
  refine amf.of (cc := cX9_drain) (maxL := 3) (rt := (some .int)) (by decide) rfl RX9 rfl (Nat.le_of_ble_eq_true rfl) [some (.ref (ao 0)), some (.int x1), none] rfl ?_
  intro X C hQ
  unfold fX9_drain at hf
  refine a_iload_n C dX9_drain_0 rfl ?_
  refine a_iconst C (1 : Int32) dX9_drain_1 (by decide) ?_
  refine a_bipush C (99 : Int32) dX9_drain_2 (by decide) ?_
  obtain ⟨r5, h5, hf⟩ := fx_bind hf
  refine a_fN C RX11 (kX11_within l D Y x1 (1 : Int32) (99 : Int32) r5 h5) (gB_X9_128 _) rfl (by decide +kernel) (wB_X9_iX11 _) (wB_X9_sX11_within _) dvX11_within ⟨⟨rfl, rfl⟩, ⟨Nat.le_of_ble_eq_true rfl, Nat.le_of_ble_eq_true rfl⟩, ⟨Nat.le_of_ble_eq_true rfl, Nat.le_of_ble_eq_true rfl⟩⟩ rfl (Nat.le_of_ble_eq_true rfl) dX9_drain_4 [] [0, 1, 2] trivial (by decide +kernel) rfl [oX9 ao aL aC io_moats io_spades io_tides, rI Y (ao 2) 12 co_depth, oX5 aL iL_cells] trivial ⟨rfl, rfl, rfl, trivial⟩ 3 rfl (by decide +kernel) ?_
  refine a_if_ne C 12 dX9_drain_7 (by decide) (fun h6 => ?_) (fun h6 => ?_)
  · have hf := fx_f h6 hf
    refine a_iconst C (0 : Int32) dX9_drain_12 (by decide) ?_
    refine a_istore_n C dX9_drain_13 (by decide) rfl ?_
    exact kX9_drain_b14 C hQ hf
  · have hf := fx_t h6 hf
    refine a_iconst C (-1 : Int32) dX9_drain_10 (by decide) ?_
    obtain rfl := fx_some hf
    exact a_iret C hQ dX9_drain_11 ⟨rfl, rfl⟩
-- X9_buckets
abbrev rmX9_buckets : Room := { frames := 2, cells := 0, slots := 0, locals := 44 }
theorem dvX9_buckets : yX9_buckets.cls = RX9 ∧ yX9_buckets.cls ≠ "java/lang/invoke/MethodHandle" ∧ yX9_buckets.cls ≠ "java/lang/invoke/VarHandle" ∧ (parseMethodDescriptor yX9_buckets.desc).map (fun d => d.parameters.length) = some 1 := by decide +kernel
def fX9_buckets_b59 (io_spades : Int32) (co_mood : Nat → Int32) (co_place : Nat → Int32) (iC_size : Int32) (cC_age : Nat → Int32) (cC_skill : Nat → Int32) (cC_pals : Nat → Int32) (x1 : Int32) (x2 : Int32) : Option (Int32) :=
  if inb x1 8 then (fX9_halved x2 (co_mood (Int32.toNatClampNeg x1)) (cC_age (Int32.toNatClampNeg x1))).bind (fun r2 => some r2) else none
set_option maxHeartbeats 400000 in
set_option maxRecDepth 100000 in
theorem kX9_buckets_b59 {X : cxT} {l : Launch} {D : va_G} {Y : Nat → ClassId} {ao aL aC : Nat → Nat} {io_moats : Int32} {io_spades : Int32} {io_tides : Int32} {co_mood : Nat → Int32} {co_place : Nat → Int32} {iC_size : Int32} {cC_age : Nat → Int32} {cC_skill : Nat → Int32} {cC_pals : Nat → Int32} {x1 : Int32} {x2 : Int32} {res : Int32} (C : axC X l D Y cX9_buckets 3 RX9 wsX9_buckets rmX9_buckets (some .int)) (hQ : axQ X 0 0 (fun r9 w9 => r9 = (some (.int res)) ∧ w9 = [oX9 ao aL aC io_moats io_spades io_tides, rI Y (ao 3) 8 co_mood, rI Y (ao 4) 8 co_place, oX2 aC iC_size, rI Y (aC 1) 8 cC_age, rI Y (aC 2) 8 cC_skill, rI Y (aC 4) 8 cC_pals])) (hf : fX9_buckets_b59 io_spades co_mood co_place iC_size cC_age cC_skill cC_pals x1 x2 = some res) : ax X 0 0 59 [some (.ref (ao 0)), some (.int x1), some (.int x2)] [oX9 ao aL aC io_moats io_spades io_tides, rI Y (ao 3) 8 co_mood, rI Y (ao 4) 8 co_place, oX2 aC iC_size, rI Y (aC 1) 8 cC_age, rI Y (aC 2) 8 cC_skill, rI Y (aC 4) 8 cC_pals] [] := by
  unfold fX9_buckets_b59 at hf
  refine a_iload_n C dX9_buckets_59 rfl ?_
  refine a_aload_n C dX9_buckets_60 rfl ?_
  refine a_get C (eB_X9_18 _) dX9_buckets_61 0 rfl rfl ?_
  refine a_iload_n C dX9_buckets_64 rfl ?_
  obtain ⟨h1, hf⟩ := fx_ite hf
  refine a_iald C dX9_buckets_65 1 rfl h1 ?_
  refine a_aload_n C dX9_buckets_66 rfl ?_
  refine a_get C (eB_X9_28 _) dX9_buckets_67 0 rfl rfl ?_
  refine a_get C (eB_X9_90 _) dX9_buckets_70 3 rfl rfl ?_
  refine a_iload_n C dX9_buckets_73 rfl ?_
  refine a_iald C dX9_buckets_74 4 rfl h1 ?_
  obtain ⟨r2, h2, hf⟩ := fx_bind hf
  refine a_fS C (kX9_halved l D Y x2 (co_mood (Int32.toNatClampNeg x1)) (cC_age (Int32.toNatClampNeg x1)) r2 h2) (gB_X9_93 _) rfl dvX9_halved ⟨⟨rfl, rfl⟩, ⟨Nat.le_of_ble_eq_true rfl, Nat.le_of_ble_eq_true rfl⟩, ⟨Nat.le_of_ble_eq_true rfl, Nat.le_of_ble_eq_true rfl⟩⟩ rfl (Nat.le_of_ble_eq_true rfl) dX9_buckets_75 [] [0, 1, 2, 3, 4, 5, 6] trivial (by decide +kernel) rfl [oX9 ao aL aC io_moats io_spades io_tides, rI Y (ao 3) 8 co_mood, rI Y (ao 4) 8 co_place, oX2 aC iC_size, rI Y (aC 1) 8 cC_age, rI Y (aC 2) 8 cC_skill, rI Y (aC 4) 8 cC_pals] trivial ⟨rfl, rfl, rfl, rfl, rfl, rfl, rfl, trivial⟩ 7 rfl (by decide +kernel) ?_
  obtain rfl := fx_some hf
  exact a_iret C hQ dX9_buckets_78 ⟨rfl, rfl⟩
def fX9_buckets_b36 (io_spades : Int32) (co_mood : Nat → Int32) (co_place : Nat → Int32) (iC_size : Int32) (cC_age : Nat → Int32) (cC_skill : Nat → Int32) (cC_pals : Nat → Int32) (x1 : Int32) (x2 : Int32) : Option (Int32) :=
  if inb x1 8 then if (cC_pals (Int32.toNatClampNeg x1)) = (0 : Int32) then (fX9_buckets_b59 io_spades co_mood co_place iC_size cC_age cC_skill cC_pals x1 x2) else ((fX9_palNear co_place iC_size cC_pals x1).bind (fun r5 => if r5 = (0 : Int32) then (fX9_buckets_b59 io_spades co_mood co_place iC_size cC_age cC_skill cC_pals x1 x2) else (fX9_buckets_b59 io_spades co_mood co_place iC_size cC_age cC_skill cC_pals x1 (x2 + (1 : Int32))))) else none
set_option maxHeartbeats 400000 in
set_option maxRecDepth 100000 in
theorem kX9_buckets_b36 {X : cxT} {l : Launch} {D : va_G} {Y : Nat → ClassId} {ao aL aC : Nat → Nat} {io_moats : Int32} {io_spades : Int32} {io_tides : Int32} {co_mood : Nat → Int32} {co_place : Nat → Int32} {iC_size : Int32} {cC_age : Nat → Int32} {cC_skill : Nat → Int32} {cC_pals : Nat → Int32} {x1 : Int32} {x2 : Int32} {res : Int32} (C : axC X l D Y cX9_buckets 3 RX9 wsX9_buckets rmX9_buckets (some .int)) (hQ : axQ X 0 0 (fun r9 w9 => r9 = (some (.int res)) ∧ w9 = [oX9 ao aL aC io_moats io_spades io_tides, rI Y (ao 3) 8 co_mood, rI Y (ao 4) 8 co_place, oX2 aC iC_size, rI Y (aC 1) 8 cC_age, rI Y (aC 2) 8 cC_skill, rI Y (aC 4) 8 cC_pals])) (hf : fX9_buckets_b36 io_spades co_mood co_place iC_size cC_age cC_skill cC_pals x1 x2 = some res) : ax X 0 0 36 [some (.ref (ao 0)), some (.int x1), some (.int x2)] [oX9 ao aL aC io_moats io_spades io_tides, rI Y (ao 3) 8 co_mood, rI Y (ao 4) 8 co_place, oX2 aC iC_size, rI Y (aC 1) 8 cC_age, rI Y (aC 2) 8 cC_skill, rI Y (aC 4) 8 cC_pals] [] := by
  unfold fX9_buckets_b36 at hf
  refine a_aload_n C dX9_buckets_36 rfl ?_
  refine a_get C (eB_X9_28 _) dX9_buckets_37 0 rfl rfl ?_
  refine a_get C (eB_X9_83 _) dX9_buckets_40 3 rfl rfl ?_
  refine a_iload_n C dX9_buckets_43 rfl ?_
  obtain ⟨h3, hf⟩ := fx_ite hf
  refine a_iald C dX9_buckets_44 6 rfl h3 ?_
  refine a_if_eq C 59 dX9_buckets_45 (by decide) (fun h4 => ?_) (fun h4 => ?_)
  · have hf := fx_t h4 hf
    exact kX9_buckets_b59 C hQ hf
  · have hf := fx_f h4 hf
    refine a_aload_n C dX9_buckets_48 rfl ?_
    refine a_iload_n C dX9_buckets_49 rfl ?_
    obtain ⟨r5, h5, hf⟩ := fx_bind hf
    refine a_fV C (kX9_palNear l D Y ao aL aC io_moats io_spades io_tides co_place iC_size cC_pals x1 r5 h5) (gB_X9_86 _) rfl dvX9_palNear ⟨⟨rfl, rfl⟩, ⟨Nat.le_of_ble_eq_true rfl, Nat.le_of_ble_eq_true rfl⟩, ⟨Nat.le_of_ble_eq_true rfl, Nat.le_of_ble_eq_true rfl⟩⟩ rfl (Nat.le_of_ble_eq_true rfl) dX9_buckets_50 rfl rfl [0, 2, 3, 6] [1, 4, 5] ⟨rfl, rfl, rfl, rfl, trivial⟩ (by decide +kernel) rfl [oX9 ao aL aC io_moats io_spades io_tides, rI Y (ao 3) 8 co_mood, rI Y (ao 4) 8 co_place, oX2 aC iC_size, rI Y (aC 1) 8 cC_age, rI Y (aC 2) 8 cC_skill, rI Y (aC 4) 8 cC_pals] ⟨rfl, rfl, rfl, rfl, trivial⟩ ⟨rfl, rfl, rfl, trivial⟩ 7 rfl (by decide +kernel) ?_
    refine a_if_eq C 59 dX9_buckets_53 (by decide) (fun h6 => ?_) (fun h6 => ?_)
    · have hf := fx_t h6 hf
      exact kX9_buckets_b59 C hQ hf
    · have hf := fx_f h6 hf
      refine a_iinc C (1 : Int32) dX9_buckets_56 (by decide) rfl (by decide) rfl ?_
      exact kX9_buckets_b59 C hQ hf
def fX9_buckets (io_spades : Int32) (co_mood : Nat → Int32) (co_place : Nat → Int32) (iC_size : Int32) (cC_age : Nat → Int32) (cC_skill : Nat → Int32) (cC_pals : Nat → Int32) (x1 : Int32) : Option (Int32) :=
  if inb x1 8 then if (co_place (Int32.toNatClampNeg x1)) = (-1 : Int32) then (some (0 : Int32)) else (if ((jshr io_spades x1) &&& (1 : Int32)) = (0 : Int32) then (fX9_buckets_b36 io_spades co_mood co_place iC_size cC_age cC_skill cC_pals x1 (cC_skill (Int32.toNatClampNeg x1))) else (fX9_buckets_b36 io_spades co_mood co_place iC_size cC_age cC_skill cC_pals x1 ((cC_skill (Int32.toNatClampNeg x1)) + (2 : Int32)))) else none
set_option maxHeartbeats 400000 in
set_option maxRecDepth 100000 in
theorem kX9_buckets (l : Launch) (D : va_G) (Y : Nat → ClassId) (ao aL aC : Nat → Nat) (io_moats : Int32) (io_spades : Int32) (io_tides : Int32) (co_mood : Nat → Int32) (co_place : Nat → Int32) (iC_size : Int32) (cC_age : Nat → Int32) (cC_skill : Nat → Int32) (cC_pals : Nat → Int32) (x1 : Int32) (res : Int32) (hf : fX9_buckets io_spades co_mood co_place iC_size cC_age cC_skill cC_pals x1 = some res) : amf l D Y yX9_buckets wsX9_buckets rmX9_buckets [.ref (ao 0), .int x1] [oX9 ao aL aC io_moats io_spades io_tides, rI Y (ao 3) 8 co_mood, rI Y (ao 4) 8 co_place, oX2 aC iC_size, rI Y (aC 1) 8 cC_age, rI Y (aC 2) 8 cC_skill, rI Y (aC 4) 8 cC_pals] (some (.int res)) [oX9 ao aL aC io_moats io_spades io_tides, rI Y (ao 3) 8 co_mood, rI Y (ao 4) 8 co_place, oX2 aC iC_size, rI Y (aC 1) 8 cC_age, rI Y (aC 2) 8 cC_skill, rI Y (aC 4) 8 cC_pals] := by
  refine amf.of (cc := cX9_buckets) (maxL := 3) (rt := (some .int)) (by decide) rfl RX9 rfl (Nat.le_of_ble_eq_true rfl) [some (.ref (ao 0)), some (.int x1), none] rfl ?_
  intro X C hQ
  unfold fX9_buckets at hf
  refine a_aload_n C dX9_buckets_0 rfl ?_
  refine a_get C (eB_X9_21 _) dX9_buckets_1 0 rfl rfl ?_
  refine a_iload_n C dX9_buckets_4 rfl ?_
  obtain ⟨h7, hf⟩ := fx_ite hf
  refine a_iald C dX9_buckets_5 2 rfl h7 ?_
  refine a_iconst C (-1 : Int32) dX9_buckets_6 (by decide) ?_
  refine a_icmp_ne C 12 dX9_buckets_7 (by decide) (fun h8 => ?_) (fun h8 => ?_)
  · have hf := fx_f h8 hf
    refine a_aload_n C dX9_buckets_12 rfl ?_
    refine a_get C (eB_X9_28 _) dX9_buckets_13 0 rfl rfl ?_
    refine a_get C (eB_X9_80 _) dX9_buckets_16 3 rfl rfl ?_
    refine a_iload_n C dX9_buckets_19 rfl ?_
    refine a_iald C dX9_buckets_20 5 rfl h7 ?_
    refine a_istore_n C dX9_buckets_21 (by decide) rfl ?_
    refine a_aload_n C dX9_buckets_22 rfl ?_
    refine a_get C (eB_X9_42 _) dX9_buckets_23 0 rfl rfl ?_
    refine a_iload_n C dX9_buckets_26 rfl ?_
    refine a_ishr C dX9_buckets_27 ?_
    refine a_iconst C (1 : Int32) dX9_buckets_28 (by decide) ?_
    refine a_iand C dX9_buckets_29 ?_
    refine a_if_eq C 36 dX9_buckets_30 (by decide) (fun h9 => ?_) (fun h9 => ?_)
    · have hf := fx_t h9 hf
      exact kX9_buckets_b36 C hQ hf
    · have hf := fx_f h9 hf
      refine a_iinc C (2 : Int32) dX9_buckets_33 (by decide) rfl (by decide) rfl ?_
      exact kX9_buckets_b36 C hQ hf
  · have hf := fx_t h8 hf
    refine a_iconst C (0 : Int32) dX9_buckets_10 (by decide) ?_
    obtain rfl := fx_some hf
    exact a_iret C hQ dX9_buckets_11 ⟨rfl, rfl⟩
-- X9_bucketsTogether
abbrev rmX9_bucketsTogether : Room := { frames := 3, cells := 0, slots := 0, locals := 66 }
theorem dvX9_bucketsTogether : yX9_bucketsTogether.cls = RX9 ∧ yX9_bucketsTogether.cls ≠ "java/lang/invoke/MethodHandle" ∧ yX9_bucketsTogether.cls ≠ "java/lang/invoke/VarHandle" ∧ (parseMethodDescriptor yX9_bucketsTogether.desc).map (fun d => d.parameters.length) = some 0 := by decide +kernel
def fX9_bucketsTogether_b29 (io_spades : Int32) (co_mood : Nat → Int32) (co_place : Nat → Int32) (iC_size : Int32) (cC_age : Nat → Int32) (cC_skill : Nat → Int32) (cC_pals : Nat → Int32) (x1 : Int32) : Option (Int32) :=
  some x1
set_option maxHeartbeats 400000 in
set_option maxRecDepth 100000 in
theorem kX9_bucketsTogether_b29 {X : cxT} {l : Launch} {D : va_G} {Y : Nat → ClassId} {ao aL aC : Nat → Nat} {io_moats : Int32} {io_spades : Int32} {io_tides : Int32} {co_mood : Nat → Int32} {co_place : Nat → Int32} {iC_size : Int32} {cC_age : Nat → Int32} {cC_skill : Nat → Int32} {cC_pals : Nat → Int32} {x1 : Int32} {res : Int32} (C : axC X l D Y cX9_bucketsTogether 3 RX9 wsX9_bucketsTogether rmX9_bucketsTogether (some .int)) (hQ : axQ X 0 0 (fun r9 w9 => r9 = (some (.int res)) ∧ w9 = [oX9 ao aL aC io_moats io_spades io_tides, rI Y (ao 3) 8 co_mood, rI Y (ao 4) 8 co_place, oX2 aC iC_size, rI Y (aC 1) 8 cC_age, rI Y (aC 2) 8 cC_skill, rI Y (aC 4) 8 cC_pals])) (hf : fX9_bucketsTogether_b29 io_spades co_mood co_place iC_size cC_age cC_skill cC_pals x1 = some res) : ax X 0 0 29 [none, some (.int x1), none] [oX9 ao aL aC io_moats io_spades io_tides, rI Y (ao 3) 8 co_mood, rI Y (ao 4) 8 co_place, oX2 aC iC_size, rI Y (aC 1) 8 cC_age, rI Y (aC 2) 8 cC_skill, rI Y (aC 4) 8 cC_pals] [] := by
  unfold fX9_bucketsTogether_b29 at hf
  refine a_iload_n C dX9_bucketsTogether_29 rfl ?_
  obtain rfl := fx_some hf
  exact a_iret C hQ dX9_bucketsTogether_30 ⟨rfl, rfl⟩
def fX9_bucketsTogether_l4 (io_spades : Int32) (co_mood : Nat → Int32) (co_place : Nat → Int32) (iC_size : Int32) (cC_age : Nat → Int32) (cC_skill : Nat → Int32) (cC_pals : Nat → Int32) (k4 : Int32 × Int32 → Option (Int32)) (x1 : Int32) (x2 : Int32) : Option (Int32) :=
  if iC_size ≤ x2 then (fX9_bucketsTogether_b29 io_spades co_mood co_place iC_size cC_age cC_skill cC_pals x1) else ((fX9_buckets io_spades co_mood co_place iC_size cC_age cC_skill cC_pals x2).bind (fun r2 => k4 ((x1 + r2), (x2 + (1 : Int32)))))
def fX9_bucketsTogether_b4 (io_spades : Int32) (co_mood : Nat → Int32) (co_place : Nat → Int32) (iC_size : Int32) (cC_age : Nat → Int32) (cC_skill : Nat → Int32) (cC_pals : Nat → Int32) (x1 : Int32) (x2 : Int32) : Option (Int32) :=
  loopN (fun (s : Int32 × Int32) k4 => fX9_bucketsTogether_l4 io_spades co_mood co_place iC_size cC_age cC_skill cC_pals k4 s.1 s.2) FUEL (x1, x2)
set_option maxHeartbeats 400000 in
set_option maxRecDepth 100000 in
theorem kX9_bucketsTogether_l4 {X : cxT} {l : Launch} {D : va_G} {Y : Nat → ClassId} {ao aL aC : Nat → Nat} {io_moats : Int32} {io_spades : Int32} {io_tides : Int32} {co_mood : Nat → Int32} {co_place : Nat → Int32} {iC_size : Int32} {cC_age : Nat → Int32} {cC_skill : Nat → Int32} {cC_pals : Nat → Int32} {x1 : Int32} {x2 : Int32} {res : Int32} (C : axC X l D Y cX9_bucketsTogether 3 RX9 wsX9_bucketsTogether rmX9_bucketsTogether (some .int)) (hQ : axQ X 0 0 (fun r9 w9 => r9 = (some (.int res)) ∧ w9 = [oX9 ao aL aC io_moats io_spades io_tides, rI Y (ao 3) 8 co_mood, rI Y (ao 4) 8 co_place, oX2 aC iC_size, rI Y (aC 1) 8 cC_age, rI Y (aC 2) 8 cC_skill, rI Y (aC 4) 8 cC_pals])) {k4 : Int32 × Int32 → Option (Int32)} (hk4 : ∀ s : Int32 × Int32, k4 s = some res → ax X 0 0 4 [some (.ref (ao 0)), some (.int s.1), some (.int s.2)] [oX9 ao aL aC io_moats io_spades io_tides, rI Y (ao 3) 8 co_mood, rI Y (ao 4) 8 co_place, oX2 aC iC_size, rI Y (aC 1) 8 cC_age, rI Y (aC 2) 8 cC_skill, rI Y (aC 4) 8 cC_pals] []) (hf : fX9_bucketsTogether_l4 io_spades co_mood co_place iC_size cC_age cC_skill cC_pals k4 x1 x2 = some res) : ax X 0 0 4 [some (.ref (ao 0)), some (.int x1), some (.int x2)] [oX9 ao aL aC io_moats io_spades io_tides, rI Y (ao 3) 8 co_mood, rI Y (ao 4) 8 co_place, oX2 aC iC_size, rI Y (aC 1) 8 cC_age, rI Y (aC 2) 8 cC_skill, rI Y (aC 4) 8 cC_pals] [] := by
  unfold fX9_bucketsTogether_l4 at hf
  refine a_iload_n C dX9_bucketsTogether_4 rfl ?_
  refine a_aload_n C dX9_bucketsTogether_5 rfl ?_
  refine a_get C (eB_X9_28 _) dX9_bucketsTogether_6 0 rfl rfl ?_
  refine a_get C (eB_X9_54 _) dX9_bucketsTogether_9 3 rfl rfl ?_
  refine a_icmp_ge C 29 dX9_bucketsTogether_12 (by decide) (fun h1 => ?_) (fun h1 => ?_)
  · have hf := fx_t h1 hf
    refine a_kill [0, 2] ?_
    exact kX9_bucketsTogether_b29 C hQ hf
  · have hf := fx_f h1 hf
    refine a_iload_n C dX9_bucketsTogether_15 rfl ?_
    refine a_aload_n C dX9_bucketsTogether_16 rfl ?_
    refine a_iload_n C dX9_bucketsTogether_17 rfl ?_
    obtain ⟨r2, h2, hf⟩ := fx_bind hf
    refine a_fV C (kX9_buckets l D Y ao aL aC io_moats io_spades io_tides co_mood co_place iC_size cC_age cC_skill cC_pals x2 r2 h2) (gB_X9_100 _) rfl dvX9_buckets ⟨⟨rfl, rfl⟩, ⟨Nat.le_of_ble_eq_true rfl, Nat.le_of_ble_eq_true rfl⟩, ⟨Nat.le_of_ble_eq_true rfl, Nat.le_of_ble_eq_true rfl⟩⟩ rfl (Nat.le_of_ble_eq_true rfl) dX9_bucketsTogether_18 rfl rfl [0, 1, 2, 3, 4, 5, 6] [] ⟨rfl, rfl, rfl, rfl, rfl, rfl, rfl, trivial⟩ (by decide +kernel) rfl [oX9 ao aL aC io_moats io_spades io_tides, rI Y (ao 3) 8 co_mood, rI Y (ao 4) 8 co_place, oX2 aC iC_size, rI Y (aC 1) 8 cC_age, rI Y (aC 2) 8 cC_skill, rI Y (aC 4) 8 cC_pals] ⟨rfl, rfl, rfl, rfl, rfl, rfl, rfl, trivial⟩ trivial 7 rfl (by decide +kernel) ?_
    refine a_iadd C dX9_bucketsTogether_21 ?_
    refine a_istore_n C dX9_bucketsTogether_22 (by decide) rfl ?_
    refine a_iinc C (1 : Int32) dX9_bucketsTogether_23 (by decide) rfl (by decide) rfl ?_
    refine a_goto C 4 dX9_bucketsTogether_26 (by decide) ?_
    exact hk4 ((x1 + r2), (x2 + (1 : Int32))) hf
set_option maxHeartbeats 400000 in
set_option maxRecDepth 100000 in
theorem kX9_bucketsTogether_b4 {X : cxT} {l : Launch} {D : va_G} {Y : Nat → ClassId} {ao aL aC : Nat → Nat} {io_moats : Int32} {io_spades : Int32} {io_tides : Int32} {co_mood : Nat → Int32} {co_place : Nat → Int32} {iC_size : Int32} {cC_age : Nat → Int32} {cC_skill : Nat → Int32} {cC_pals : Nat → Int32} {x1 : Int32} {x2 : Int32} {res : Int32} (C : axC X l D Y cX9_bucketsTogether 3 RX9 wsX9_bucketsTogether rmX9_bucketsTogether (some .int)) (hQ : axQ X 0 0 (fun r9 w9 => r9 = (some (.int res)) ∧ w9 = [oX9 ao aL aC io_moats io_spades io_tides, rI Y (ao 3) 8 co_mood, rI Y (ao 4) 8 co_place, oX2 aC iC_size, rI Y (aC 1) 8 cC_age, rI Y (aC 2) 8 cC_skill, rI Y (aC 4) 8 cC_pals])) (hf : fX9_bucketsTogether_b4 io_spades co_mood co_place iC_size cC_age cC_skill cC_pals x1 x2 = some res) : ax X 0 0 4 [some (.ref (ao 0)), some (.int x1), some (.int x2)] [oX9 ao aL aC io_moats io_spades io_tides, rI Y (ao 3) 8 co_mood, rI Y (ao 4) 8 co_place, oX2 aC iC_size, rI Y (aC 1) 8 cC_age, rI Y (aC 2) 8 cC_skill, rI Y (aC 4) 8 cC_pals] [] := by
  unfold fX9_bucketsTogether_b4 at hf
  exact fx_loop (P := fun s : Int32 × Int32 => ax X 0 0 4 [some (.ref (ao 0)), some (.int s.1), some (.int s.2)] [oX9 ao aL aC io_moats io_spades io_tides, rI Y (ao 3) 8 co_mood, rI Y (ao 4) 8 co_place, oX2 aC iC_size, rI Y (aC 1) 8 cC_age, rI Y (aC 2) 8 cC_skill, rI Y (aC 4) 8 cC_pals] []) (fun s k4 hk4 h => kX9_bucketsTogether_l4 C hQ hk4 h) FUEL (x1, x2) hf
def fX9_bucketsTogether (io_spades : Int32) (co_mood : Nat → Int32) (co_place : Nat → Int32) (iC_size : Int32) (cC_age : Nat → Int32) (cC_skill : Nat → Int32) (cC_pals : Nat → Int32) : Option (Int32) :=
  fX9_bucketsTogether_b4 io_spades co_mood co_place iC_size cC_age cC_skill cC_pals (0 : Int32) (0 : Int32)
set_option maxHeartbeats 400000 in
set_option maxRecDepth 100000 in
theorem kX9_bucketsTogether (l : Launch) (D : va_G) (Y : Nat → ClassId) (ao aL aC : Nat → Nat) (io_moats : Int32) (io_spades : Int32) (io_tides : Int32) (co_mood : Nat → Int32) (co_place : Nat → Int32) (iC_size : Int32) (cC_age : Nat → Int32) (cC_skill : Nat → Int32) (cC_pals : Nat → Int32) (res : Int32) (hf : fX9_bucketsTogether io_spades co_mood co_place iC_size cC_age cC_skill cC_pals = some res) : amf l D Y yX9_bucketsTogether wsX9_bucketsTogether rmX9_bucketsTogether [.ref (ao 0)] [oX9 ao aL aC io_moats io_spades io_tides, rI Y (ao 3) 8 co_mood, rI Y (ao 4) 8 co_place, oX2 aC iC_size, rI Y (aC 1) 8 cC_age, rI Y (aC 2) 8 cC_skill, rI Y (aC 4) 8 cC_pals] (some (.int res)) [oX9 ao aL aC io_moats io_spades io_tides, rI Y (ao 3) 8 co_mood, rI Y (ao 4) 8 co_place, oX2 aC iC_size, rI Y (aC 1) 8 cC_age, rI Y (aC 2) 8 cC_skill, rI Y (aC 4) 8 cC_pals] := by
  refine amf.of (cc := cX9_bucketsTogether) (maxL := 3) (rt := (some .int)) (by decide) rfl RX9 rfl (Nat.le_of_ble_eq_true rfl) [some (.ref (ao 0)), none, none] rfl ?_
  intro X C hQ
  unfold fX9_bucketsTogether at hf
  refine a_iconst C (0 : Int32) dX9_bucketsTogether_0 (by decide) ?_
  refine a_istore_n C dX9_bucketsTogether_1 (by decide) rfl ?_
  refine a_iconst C (0 : Int32) dX9_bucketsTogether_2 (by decide) ?_
  refine a_istore_n C dX9_bucketsTogether_3 (by decide) rfl ?_
  exact kX9_bucketsTogether_b4 C hQ hf
-- X9_spell
abbrev rmX9_spell : Room := { frames := 3, cells := 0, slots := 0, locals := 66 }
theorem dvX9_spell : yX9_spell.cls = RX9 ∧ yX9_spell.cls ≠ "java/lang/invoke/MethodHandle" ∧ yX9_spell.cls ≠ "java/lang/invoke/VarHandle" ∧ (parseMethodDescriptor yX9_spell.desc).map (fun d => d.parameters.length) = some 0 := by decide +kernel
def fX9_spell_b124 (io_spades : Int32) (co_wall : Nat → Int32) (co_mood : Nat → Int32) (co_place : Nat → Int32) (iC_size : Int32) (cC_age : Nat → Int32) (cC_skill : Nat → Int32) (cC_pals : Nat → Int32) (iL_cells : Int32) : Option ((Nat → Int32) × (Nat → Int32) × (Nat → Int32)) :=
  some (co_wall, co_mood, co_place)
set_option maxHeartbeats 400000 in
set_option maxRecDepth 100000 in
theorem kX9_spell_b124 {X : cxT} {l : Launch} {D : va_G} {Y : Nat → ClassId} {ao aL aC : Nat → Nat} {io_moats : Int32} {io_spades : Int32} {io_tides : Int32} {co_wall : Nat → Int32} {co_mood : Nat → Int32} {co_place : Nat → Int32} {iC_size : Int32} {cC_age : Nat → Int32} {cC_skill : Nat → Int32} {cC_pals : Nat → Int32} {iL_cells : Int32} {res : (Nat → Int32) × (Nat → Int32) × (Nat → Int32)} (C : axC X l D Y cX9_spell 3 RX9 wsX9_spell rmX9_spell none) (hQ : axQ X 0 0 (fun r9 w9 => r9 = none ∧ w9 = [oX9 ao aL aC io_moats io_spades io_tides, rI Y (ao 1) 12 res.1, rI Y (ao 3) 8 res.2.1, rI Y (ao 4) 8 res.2.2, oX2 aC iC_size, rI Y (aC 1) 8 cC_age, rI Y (aC 2) 8 cC_skill, rI Y (aC 4) 8 cC_pals, oX5 aL iL_cells])) (hf : fX9_spell_b124 io_spades co_wall co_mood co_place iC_size cC_age cC_skill cC_pals iL_cells = some res) : ax X 0 0 124 [none, none, none] [oX9 ao aL aC io_moats io_spades io_tides, rI Y (ao 1) 12 co_wall, rI Y (ao 3) 8 co_mood, rI Y (ao 4) 8 co_place, oX2 aC iC_size, rI Y (aC 1) 8 cC_age, rI Y (aC 2) 8 cC_skill, rI Y (aC 4) 8 cC_pals, oX5 aL iL_cells] [] := by
  unfold fX9_spell_b124 at hf
  obtain rfl := fx_some hf
  exact a_vret C hQ dX9_spell_124 ⟨rfl, rfl⟩
def fX9_spell_b118 (io_spades : Int32) (co_wall : Nat → Int32) (co_mood : Nat → Int32) (co_place : Nat → Int32) (iC_size : Int32) (cC_age : Nat → Int32) (cC_skill : Nat → Int32) (cC_pals : Nat → Int32) (iL_cells : Int32) (x1 : Int32) (k63 : (Nat → Int32) × (Nat → Int32) × Int32 → Option ((Nat → Int32) × (Nat → Int32) × (Nat → Int32))) : Option ((Nat → Int32) × (Nat → Int32) × (Nat → Int32)) :=
  k63 (co_mood, co_place, (x1 + (1 : Int32)))
set_option maxHeartbeats 400000 in
set_option maxRecDepth 100000 in
theorem kX9_spell_b118 {X : cxT} {l : Launch} {D : va_G} {Y : Nat → ClassId} {ao aL aC : Nat → Nat} {io_moats : Int32} {io_spades : Int32} {io_tides : Int32} {co_wall : Nat → Int32} {co_mood : Nat → Int32} {co_place : Nat → Int32} {iC_size : Int32} {cC_age : Nat → Int32} {cC_skill : Nat → Int32} {cC_pals : Nat → Int32} {iL_cells : Int32} {x1 : Int32} {res : (Nat → Int32) × (Nat → Int32) × (Nat → Int32)} (C : axC X l D Y cX9_spell 3 RX9 wsX9_spell rmX9_spell none) (hQ : axQ X 0 0 (fun r9 w9 => r9 = none ∧ w9 = [oX9 ao aL aC io_moats io_spades io_tides, rI Y (ao 1) 12 res.1, rI Y (ao 3) 8 res.2.1, rI Y (ao 4) 8 res.2.2, oX2 aC iC_size, rI Y (aC 1) 8 cC_age, rI Y (aC 2) 8 cC_skill, rI Y (aC 4) 8 cC_pals, oX5 aL iL_cells])) {k63 : (Nat → Int32) × (Nat → Int32) × Int32 → Option ((Nat → Int32) × (Nat → Int32) × (Nat → Int32))} (hk63 : ∀ s : (Nat → Int32) × (Nat → Int32) × Int32, k63 s = some res → ax X 0 0 63 [some (.ref (ao 0)), some (.int s.2.2), none] [oX9 ao aL aC io_moats io_spades io_tides, rI Y (ao 1) 12 co_wall, rI Y (ao 3) 8 s.1, rI Y (ao 4) 8 s.2.1, oX2 aC iC_size, rI Y (aC 1) 8 cC_age, rI Y (aC 2) 8 cC_skill, rI Y (aC 4) 8 cC_pals, oX5 aL iL_cells] []) (hf : fX9_spell_b118 io_spades co_wall co_mood co_place iC_size cC_age cC_skill cC_pals iL_cells x1 k63 = some res) : ax X 0 0 118 [some (.ref (ao 0)), some (.int x1), none] [oX9 ao aL aC io_moats io_spades io_tides, rI Y (ao 1) 12 co_wall, rI Y (ao 3) 8 co_mood, rI Y (ao 4) 8 co_place, oX2 aC iC_size, rI Y (aC 1) 8 cC_age, rI Y (aC 2) 8 cC_skill, rI Y (aC 4) 8 cC_pals, oX5 aL iL_cells] [] := by
  unfold fX9_spell_b118 at hf
  refine a_iinc C (1 : Int32) dX9_spell_118 (by decide) rfl (by decide) rfl ?_
  refine a_goto C 63 dX9_spell_121 (by decide) ?_
  exact hk63 (co_mood, co_place, (x1 + (1 : Int32))) hf
def fX9_spell_l63 (io_spades : Int32) (co_wall : Nat → Int32) (iC_size : Int32) (cC_age : Nat → Int32) (cC_skill : Nat → Int32) (cC_pals : Nat → Int32) (iL_cells : Int32) (k63 : (Nat → Int32) × (Nat → Int32) × Int32 → Option ((Nat → Int32) × (Nat → Int32) × (Nat → Int32))) (co_mood : Nat → Int32) (co_place : Nat → Int32) (x1 : Int32) : Option ((Nat → Int32) × (Nat → Int32) × (Nat → Int32)) :=
  if iC_size ≤ x1 then (fX9_spell_b124 io_spades co_wall co_mood co_place iC_size cC_age cC_skill cC_pals iL_cells) else (if inb x1 8 then if (co_place (Int32.toNatClampNeg x1)) = (-1 : Int32) then (fX9_spell_b118 io_spades co_wall co_mood co_place iC_size cC_age cC_skill cC_pals iL_cells x1 k63) else (if ((upd co_mood (Int32.toNatClampNeg x1) (jmax (0 : Int32) ((co_mood (Int32.toNatClampNeg x1)) - (1 : Int32)))) (Int32.toNatClampNeg x1)) = (0 : Int32) then (fX9_spell_b118 io_spades co_wall (upd co_mood (Int32.toNatClampNeg x1) (jmax (0 : Int32) ((co_mood (Int32.toNatClampNeg x1)) - (1 : Int32)))) (upd co_place (Int32.toNatClampNeg x1) (-1 : Int32)) iC_size cC_age cC_skill cC_pals iL_cells x1 k63) else (fX9_spell_b118 io_spades co_wall (upd co_mood (Int32.toNatClampNeg x1) (jmax (0 : Int32) ((co_mood (Int32.toNatClampNeg x1)) - (1 : Int32)))) co_place iC_size cC_age cC_skill cC_pals iL_cells x1 k63)) else none)
def fX9_spell_b63 (io_spades : Int32) (co_wall : Nat → Int32) (co_mood : Nat → Int32) (co_place : Nat → Int32) (iC_size : Int32) (cC_age : Nat → Int32) (cC_skill : Nat → Int32) (cC_pals : Nat → Int32) (iL_cells : Int32) (x1 : Int32) : Option ((Nat → Int32) × (Nat → Int32) × (Nat → Int32)) :=
  loopN (fun (s : (Nat → Int32) × (Nat → Int32) × Int32) k63 => fX9_spell_l63 io_spades co_wall iC_size cC_age cC_skill cC_pals iL_cells k63 s.1 s.2.1 s.2.2) FUEL (co_mood, co_place, x1)
set_option maxHeartbeats 400000 in
set_option maxRecDepth 100000 in
theorem kX9_spell_l63 {X : cxT} {l : Launch} {D : va_G} {Y : Nat → ClassId} {ao aL aC : Nat → Nat} {io_moats : Int32} {io_spades : Int32} {io_tides : Int32} {co_wall : Nat → Int32} {co_mood : Nat → Int32} {co_place : Nat → Int32} {iC_size : Int32} {cC_age : Nat → Int32} {cC_skill : Nat → Int32} {cC_pals : Nat → Int32} {iL_cells : Int32} {x1 : Int32} {res : (Nat → Int32) × (Nat → Int32) × (Nat → Int32)} (C : axC X l D Y cX9_spell 3 RX9 wsX9_spell rmX9_spell none) (hQ : axQ X 0 0 (fun r9 w9 => r9 = none ∧ w9 = [oX9 ao aL aC io_moats io_spades io_tides, rI Y (ao 1) 12 res.1, rI Y (ao 3) 8 res.2.1, rI Y (ao 4) 8 res.2.2, oX2 aC iC_size, rI Y (aC 1) 8 cC_age, rI Y (aC 2) 8 cC_skill, rI Y (aC 4) 8 cC_pals, oX5 aL iL_cells])) {k63 : (Nat → Int32) × (Nat → Int32) × Int32 → Option ((Nat → Int32) × (Nat → Int32) × (Nat → Int32))} (hk63 : ∀ s : (Nat → Int32) × (Nat → Int32) × Int32, k63 s = some res → ax X 0 0 63 [some (.ref (ao 0)), some (.int s.2.2), none] [oX9 ao aL aC io_moats io_spades io_tides, rI Y (ao 1) 12 co_wall, rI Y (ao 3) 8 s.1, rI Y (ao 4) 8 s.2.1, oX2 aC iC_size, rI Y (aC 1) 8 cC_age, rI Y (aC 2) 8 cC_skill, rI Y (aC 4) 8 cC_pals, oX5 aL iL_cells] []) (hf : fX9_spell_l63 io_spades co_wall iC_size cC_age cC_skill cC_pals iL_cells k63 co_mood co_place x1 = some res) : ax X 0 0 63 [some (.ref (ao 0)), some (.int x1), none] [oX9 ao aL aC io_moats io_spades io_tides, rI Y (ao 1) 12 co_wall, rI Y (ao 3) 8 co_mood, rI Y (ao 4) 8 co_place, oX2 aC iC_size, rI Y (aC 1) 8 cC_age, rI Y (aC 2) 8 cC_skill, rI Y (aC 4) 8 cC_pals, oX5 aL iL_cells] [] := by
  unfold fX9_spell_l63 at hf
  refine a_iload_n C dX9_spell_63 rfl ?_
  refine a_aload_n C dX9_spell_64 rfl ?_
  refine a_get C (eB_X9_28 _) dX9_spell_65 0 rfl rfl ?_
  refine a_get C (eB_X9_54 _) dX9_spell_68 4 rfl rfl ?_
  refine a_icmp_ge C 124 dX9_spell_71 (by decide) (fun h1 => ?_) (fun h1 => ?_)
  · have hf := fx_t h1 hf
    refine a_kill [0, 1] ?_
    exact kX9_spell_b124 C hQ hf
  · have hf := fx_f h1 hf
    refine a_aload_n C dX9_spell_74 rfl ?_
    refine a_get C (eB_X9_21 _) dX9_spell_75 0 rfl rfl ?_
    refine a_iload_n C dX9_spell_78 rfl ?_
    obtain ⟨h2, hf⟩ := fx_ite hf
    refine a_iald C dX9_spell_79 3 rfl h2 ?_
    refine a_iconst C (-1 : Int32) dX9_spell_80 (by decide) ?_
    refine a_icmp_eq C 118 dX9_spell_81 (by decide) (fun h3 => ?_) (fun h3 => ?_)
    · have hf := fx_t h3 hf
      exact kX9_spell_b118 C hQ hk63 hf
    · have hf := fx_f h3 hf
      refine a_aload_n C dX9_spell_84 rfl ?_
      refine a_get C (eB_X9_18 _) dX9_spell_85 0 rfl rfl ?_
      refine a_iload_n C dX9_spell_88 rfl ?_
      refine a_iconst C (0 : Int32) dX9_spell_89 (by decide) ?_
      refine a_aload_n C dX9_spell_90 rfl ?_
      refine a_get C (eB_X9_18 _) dX9_spell_91 0 rfl rfl ?_
      refine a_iload_n C dX9_spell_94 rfl ?_
      refine a_iald C dX9_spell_95 2 rfl h2 ?_
      refine a_iconst C (1 : Int32) dX9_spell_96 (by decide) ?_
      refine a_isub C dX9_spell_97 ?_
      refine a_mmax C dX9_spell_98 (mB_X9_109 _) ⟨⟨Nat.le_of_ble_eq_true rfl, Nat.le_of_ble_eq_true rfl⟩, ⟨Nat.le_of_ble_eq_true rfl, Nat.le_of_ble_eq_true rfl⟩⟩ (Nat.le_of_ble_eq_true rfl) ?_
      refine a_iast C dX9_spell_101 2 rfl h2 ?_
      refine a_aload_n C dX9_spell_102 rfl ?_
      refine a_get C (eB_X9_18 _) dX9_spell_103 0 rfl rfl ?_
      refine a_iload_n C dX9_spell_106 rfl ?_
      refine a_iald C dX9_spell_107 2 rfl h2 ?_
      refine a_if_ne C 118 dX9_spell_108 (by decide) (fun h4 => ?_) (fun h4 => ?_)
      · have hf := fx_f h4 hf
        exact kX9_spell_b118 C hQ hk63 hf
      · have hf := fx_t h4 hf
        refine a_aload_n C dX9_spell_111 rfl ?_
        refine a_get C (eB_X9_21 _) dX9_spell_112 0 rfl rfl ?_
        refine a_iload_n C dX9_spell_115 rfl ?_
        refine a_iconst C (-1 : Int32) dX9_spell_116 (by decide) ?_
        refine a_iast C dX9_spell_117 3 rfl h2 ?_
        exact kX9_spell_b118 C hQ hk63 hf
set_option maxHeartbeats 400000 in
set_option maxRecDepth 100000 in
theorem kX9_spell_b63 {X : cxT} {l : Launch} {D : va_G} {Y : Nat → ClassId} {ao aL aC : Nat → Nat} {io_moats : Int32} {io_spades : Int32} {io_tides : Int32} {co_wall : Nat → Int32} {co_mood : Nat → Int32} {co_place : Nat → Int32} {iC_size : Int32} {cC_age : Nat → Int32} {cC_skill : Nat → Int32} {cC_pals : Nat → Int32} {iL_cells : Int32} {x1 : Int32} {res : (Nat → Int32) × (Nat → Int32) × (Nat → Int32)} (C : axC X l D Y cX9_spell 3 RX9 wsX9_spell rmX9_spell none) (hQ : axQ X 0 0 (fun r9 w9 => r9 = none ∧ w9 = [oX9 ao aL aC io_moats io_spades io_tides, rI Y (ao 1) 12 res.1, rI Y (ao 3) 8 res.2.1, rI Y (ao 4) 8 res.2.2, oX2 aC iC_size, rI Y (aC 1) 8 cC_age, rI Y (aC 2) 8 cC_skill, rI Y (aC 4) 8 cC_pals, oX5 aL iL_cells])) (hf : fX9_spell_b63 io_spades co_wall co_mood co_place iC_size cC_age cC_skill cC_pals iL_cells x1 = some res) : ax X 0 0 63 [some (.ref (ao 0)), some (.int x1), none] [oX9 ao aL aC io_moats io_spades io_tides, rI Y (ao 1) 12 co_wall, rI Y (ao 3) 8 co_mood, rI Y (ao 4) 8 co_place, oX2 aC iC_size, rI Y (aC 1) 8 cC_age, rI Y (aC 2) 8 cC_skill, rI Y (aC 4) 8 cC_pals, oX5 aL iL_cells] [] := by
  unfold fX9_spell_b63 at hf
  exact fx_loop (P := fun s : (Nat → Int32) × (Nat → Int32) × Int32 => ax X 0 0 63 [some (.ref (ao 0)), some (.int s.2.2), none] [oX9 ao aL aC io_moats io_spades io_tides, rI Y (ao 1) 12 co_wall, rI Y (ao 3) 8 s.1, rI Y (ao 4) 8 s.2.1, oX2 aC iC_size, rI Y (aC 1) 8 cC_age, rI Y (aC 2) 8 cC_skill, rI Y (aC 4) 8 cC_pals, oX5 aL iL_cells] []) (fun s k63 hk63 h => kX9_spell_l63 C hQ hk63 h) FUEL (co_mood, co_place, x1) hf
def fX9_spell_b61 (io_spades : Int32) (co_wall : Nat → Int32) (co_mood : Nat → Int32) (co_place : Nat → Int32) (iC_size : Int32) (cC_age : Nat → Int32) (cC_skill : Nat → Int32) (cC_pals : Nat → Int32) (iL_cells : Int32) : Option ((Nat → Int32) × (Nat → Int32) × (Nat → Int32)) :=
  fX9_spell_b63 io_spades co_wall co_mood co_place iC_size cC_age cC_skill cC_pals iL_cells (0 : Int32)
set_option maxHeartbeats 400000 in
set_option maxRecDepth 100000 in
theorem kX9_spell_b61 {X : cxT} {l : Launch} {D : va_G} {Y : Nat → ClassId} {ao aL aC : Nat → Nat} {io_moats : Int32} {io_spades : Int32} {io_tides : Int32} {co_wall : Nat → Int32} {co_mood : Nat → Int32} {co_place : Nat → Int32} {iC_size : Int32} {cC_age : Nat → Int32} {cC_skill : Nat → Int32} {cC_pals : Nat → Int32} {iL_cells : Int32} {res : (Nat → Int32) × (Nat → Int32) × (Nat → Int32)} (C : axC X l D Y cX9_spell 3 RX9 wsX9_spell rmX9_spell none) (hQ : axQ X 0 0 (fun r9 w9 => r9 = none ∧ w9 = [oX9 ao aL aC io_moats io_spades io_tides, rI Y (ao 1) 12 res.1, rI Y (ao 3) 8 res.2.1, rI Y (ao 4) 8 res.2.2, oX2 aC iC_size, rI Y (aC 1) 8 cC_age, rI Y (aC 2) 8 cC_skill, rI Y (aC 4) 8 cC_pals, oX5 aL iL_cells])) (hf : fX9_spell_b61 io_spades co_wall co_mood co_place iC_size cC_age cC_skill cC_pals iL_cells = some res) : ax X 0 0 61 [some (.ref (ao 0)), none, none] [oX9 ao aL aC io_moats io_spades io_tides, rI Y (ao 1) 12 co_wall, rI Y (ao 3) 8 co_mood, rI Y (ao 4) 8 co_place, oX2 aC iC_size, rI Y (aC 1) 8 cC_age, rI Y (aC 2) 8 cC_skill, rI Y (aC 4) 8 cC_pals, oX5 aL iL_cells] [] := by
  unfold fX9_spell_b61 at hf
  refine a_iconst C (0 : Int32) dX9_spell_61 (by decide) ?_
  refine a_istore_n C dX9_spell_62 (by decide) rfl ?_
  exact kX9_spell_b63 C hQ hf
def fX9_spell_b55 (io_spades : Int32) (co_wall : Nat → Int32) (co_mood : Nat → Int32) (co_place : Nat → Int32) (iC_size : Int32) (cC_age : Nat → Int32) (cC_skill : Nat → Int32) (cC_pals : Nat → Int32) (iL_cells : Int32) (x1 : Int32) (k2 : (Nat → Int32) × Int32 → Option ((Nat → Int32) × (Nat → Int32) × (Nat → Int32))) : Option ((Nat → Int32) × (Nat → Int32) × (Nat → Int32)) :=
  k2 (co_wall, (x1 + (1 : Int32)))
set_option maxHeartbeats 400000 in
set_option maxRecDepth 100000 in
theorem kX9_spell_b55 {X : cxT} {l : Launch} {D : va_G} {Y : Nat → ClassId} {ao aL aC : Nat → Nat} {io_moats : Int32} {io_spades : Int32} {io_tides : Int32} {co_wall : Nat → Int32} {co_mood : Nat → Int32} {co_place : Nat → Int32} {iC_size : Int32} {cC_age : Nat → Int32} {cC_skill : Nat → Int32} {cC_pals : Nat → Int32} {iL_cells : Int32} {x1 : Int32} {res : (Nat → Int32) × (Nat → Int32) × (Nat → Int32)} (C : axC X l D Y cX9_spell 3 RX9 wsX9_spell rmX9_spell none) (hQ : axQ X 0 0 (fun r9 w9 => r9 = none ∧ w9 = [oX9 ao aL aC io_moats io_spades io_tides, rI Y (ao 1) 12 res.1, rI Y (ao 3) 8 res.2.1, rI Y (ao 4) 8 res.2.2, oX2 aC iC_size, rI Y (aC 1) 8 cC_age, rI Y (aC 2) 8 cC_skill, rI Y (aC 4) 8 cC_pals, oX5 aL iL_cells])) {k2 : (Nat → Int32) × Int32 → Option ((Nat → Int32) × (Nat → Int32) × (Nat → Int32))} (hk2 : ∀ s : (Nat → Int32) × Int32, k2 s = some res → ax X 0 0 2 [some (.ref (ao 0)), some (.int s.2), none] [oX9 ao aL aC io_moats io_spades io_tides, rI Y (ao 1) 12 s.1, rI Y (ao 3) 8 co_mood, rI Y (ao 4) 8 co_place, oX2 aC iC_size, rI Y (aC 1) 8 cC_age, rI Y (aC 2) 8 cC_skill, rI Y (aC 4) 8 cC_pals, oX5 aL iL_cells] []) (hf : fX9_spell_b55 io_spades co_wall co_mood co_place iC_size cC_age cC_skill cC_pals iL_cells x1 k2 = some res) : ax X 0 0 55 [some (.ref (ao 0)), some (.int x1), none] [oX9 ao aL aC io_moats io_spades io_tides, rI Y (ao 1) 12 co_wall, rI Y (ao 3) 8 co_mood, rI Y (ao 4) 8 co_place, oX2 aC iC_size, rI Y (aC 1) 8 cC_age, rI Y (aC 2) 8 cC_skill, rI Y (aC 4) 8 cC_pals, oX5 aL iL_cells] [] := by
  unfold fX9_spell_b55 at hf
  refine a_iinc C (1 : Int32) dX9_spell_55 (by decide) rfl (by decide) rfl ?_
  refine a_goto C 2 dX9_spell_58 (by decide) ?_
  exact hk2 (co_wall, (x1 + (1 : Int32))) hf
def fX9_spell_l2 (io_spades : Int32) (co_mood : Nat → Int32) (co_place : Nat → Int32) (iC_size : Int32) (cC_age : Nat → Int32) (cC_skill : Nat → Int32) (cC_pals : Nat → Int32) (iL_cells : Int32) (k2 : (Nat → Int32) × Int32 → Option ((Nat → Int32) × (Nat → Int32) × (Nat → Int32))) (co_wall : Nat → Int32) (x1 : Int32) : Option ((Nat → Int32) × (Nat → Int32) × (Nat → Int32)) :=
  if iC_size ≤ x1 then (fX9_spell_b61 io_spades co_wall co_mood co_place iC_size cC_age cC_skill cC_pals iL_cells) else (if inb x1 8 then (fX5_has iL_cells (co_place (Int32.toNatClampNeg x1))).bind (fun r7 => if r7 = (0 : Int32) then (fX9_spell_b55 io_spades co_wall co_mood co_place iC_size cC_age cC_skill cC_pals iL_cells x1 k2) else (if inb (co_place (Int32.toNatClampNeg x1)) 12 then (fX9_buckets io_spades co_mood co_place iC_size cC_age cC_skill cC_pals x1).bind (fun r10 => fX9_spell_b55 io_spades (upd co_wall (Int32.toNatClampNeg (co_place (Int32.toNatClampNeg x1))) (jmin (999 : Int32) ((co_wall (Int32.toNatClampNeg (co_place (Int32.toNatClampNeg x1)))) + r10))) co_mood co_place iC_size cC_age cC_skill cC_pals iL_cells x1 k2) else none)) else none)
def fX9_spell_b2 (io_spades : Int32) (co_wall : Nat → Int32) (co_mood : Nat → Int32) (co_place : Nat → Int32) (iC_size : Int32) (cC_age : Nat → Int32) (cC_skill : Nat → Int32) (cC_pals : Nat → Int32) (iL_cells : Int32) (x1 : Int32) : Option ((Nat → Int32) × (Nat → Int32) × (Nat → Int32)) :=
  loopN (fun (s : (Nat → Int32) × Int32) k2 => fX9_spell_l2 io_spades co_mood co_place iC_size cC_age cC_skill cC_pals iL_cells k2 s.1 s.2) FUEL (co_wall, x1)
set_option maxHeartbeats 400000 in
set_option maxRecDepth 100000 in
theorem kX9_spell_l2 {X : cxT} {l : Launch} {D : va_G} {Y : Nat → ClassId} {ao aL aC : Nat → Nat} {io_moats : Int32} {io_spades : Int32} {io_tides : Int32} {co_wall : Nat → Int32} {co_mood : Nat → Int32} {co_place : Nat → Int32} {iC_size : Int32} {cC_age : Nat → Int32} {cC_skill : Nat → Int32} {cC_pals : Nat → Int32} {iL_cells : Int32} {x1 : Int32} {res : (Nat → Int32) × (Nat → Int32) × (Nat → Int32)} (C : axC X l D Y cX9_spell 3 RX9 wsX9_spell rmX9_spell none) (hQ : axQ X 0 0 (fun r9 w9 => r9 = none ∧ w9 = [oX9 ao aL aC io_moats io_spades io_tides, rI Y (ao 1) 12 res.1, rI Y (ao 3) 8 res.2.1, rI Y (ao 4) 8 res.2.2, oX2 aC iC_size, rI Y (aC 1) 8 cC_age, rI Y (aC 2) 8 cC_skill, rI Y (aC 4) 8 cC_pals, oX5 aL iL_cells])) {k2 : (Nat → Int32) × Int32 → Option ((Nat → Int32) × (Nat → Int32) × (Nat → Int32))} (hk2 : ∀ s : (Nat → Int32) × Int32, k2 s = some res → ax X 0 0 2 [some (.ref (ao 0)), some (.int s.2), none] [oX9 ao aL aC io_moats io_spades io_tides, rI Y (ao 1) 12 s.1, rI Y (ao 3) 8 co_mood, rI Y (ao 4) 8 co_place, oX2 aC iC_size, rI Y (aC 1) 8 cC_age, rI Y (aC 2) 8 cC_skill, rI Y (aC 4) 8 cC_pals, oX5 aL iL_cells] []) (hf : fX9_spell_l2 io_spades co_mood co_place iC_size cC_age cC_skill cC_pals iL_cells k2 co_wall x1 = some res) : ax X 0 0 2 [some (.ref (ao 0)), some (.int x1), none] [oX9 ao aL aC io_moats io_spades io_tides, rI Y (ao 1) 12 co_wall, rI Y (ao 3) 8 co_mood, rI Y (ao 4) 8 co_place, oX2 aC iC_size, rI Y (aC 1) 8 cC_age, rI Y (aC 2) 8 cC_skill, rI Y (aC 4) 8 cC_pals, oX5 aL iL_cells] [] := by
  unfold fX9_spell_l2 at hf
  refine a_iload_n C dX9_spell_2 rfl ?_
  refine a_aload_n C dX9_spell_3 rfl ?_
  refine a_get C (eB_X9_28 _) dX9_spell_4 0 rfl rfl ?_
  refine a_get C (eB_X9_54 _) dX9_spell_7 4 rfl rfl ?_
  refine a_icmp_ge C 61 dX9_spell_10 (by decide) (fun h5 => ?_) (fun h5 => ?_)
  · have hf := fx_t h5 hf
    refine a_kill [1] ?_
    exact kX9_spell_b61 C hQ hf
  · have hf := fx_f h5 hf
    refine a_aload_n C dX9_spell_13 rfl ?_
    refine a_get C (eB_X9_21 _) dX9_spell_14 0 rfl rfl ?_
    refine a_iload_n C dX9_spell_17 rfl ?_
    obtain ⟨h6, hf⟩ := fx_ite hf
    refine a_iald C dX9_spell_18 3 rfl h6 ?_
    refine a_istore_n C dX9_spell_19 (by decide) rfl ?_
    refine a_aload_n C dX9_spell_20 rfl ?_
    refine a_get C (eB_X9_24 _) dX9_spell_21 0 rfl rfl ?_
    refine a_iload_n C dX9_spell_24 rfl ?_
    obtain ⟨r7, h7, hf⟩ := fx_bind hf
    refine a_fV C (kX5_has l D Y aL iL_cells (co_place (Int32.toNatClampNeg x1)) r7 h7) (gB_X9_106 _) rfl dvX5_has ⟨⟨rfl, rfl⟩, ⟨Nat.le_of_ble_eq_true rfl, Nat.le_of_ble_eq_true rfl⟩, ⟨Nat.le_of_ble_eq_true rfl, Nat.le_of_ble_eq_true rfl⟩⟩ rfl (Nat.le_of_ble_eq_true rfl) dX9_spell_25 rfl rfl [8] [0, 1, 2, 3, 4, 5, 6, 7] ⟨rfl, trivial⟩ (by decide +kernel) rfl [oX9 ao aL aC io_moats io_spades io_tides, rI Y (ao 1) 12 co_wall, rI Y (ao 3) 8 co_mood, rI Y (ao 4) 8 co_place, oX2 aC iC_size, rI Y (aC 1) 8 cC_age, rI Y (aC 2) 8 cC_skill, rI Y (aC 4) 8 cC_pals, oX5 aL iL_cells] ⟨rfl, trivial⟩ ⟨rfl, rfl, rfl, rfl, rfl, rfl, rfl, rfl, trivial⟩ 9 rfl (by decide +kernel) ?_
    refine a_if_eq C 55 dX9_spell_28 (by decide) (fun h8 => ?_) (fun h8 => ?_)
    · have hf := fx_t h8 hf
      refine a_kill [2] ?_
      exact kX9_spell_b55 C hQ hk2 hf
    · have hf := fx_f h8 hf
      refine a_aload_n C dX9_spell_31 rfl ?_
      refine a_get C (eB_X9_9 _) dX9_spell_32 0 rfl rfl ?_
      refine a_iload_n C dX9_spell_35 rfl ?_
      refine a_sipush C (999 : Int32) dX9_spell_36 (by decide) ?_
      refine a_aload_n C dX9_spell_39 rfl ?_
      refine a_get C (eB_X9_9 _) dX9_spell_40 0 rfl rfl ?_
      refine a_iload_n C dX9_spell_43 rfl ?_
      obtain ⟨h9, hf⟩ := fx_ite hf
      refine a_iald C dX9_spell_44 1 rfl h9 ?_
      refine a_aload_n C dX9_spell_45 rfl ?_
      refine a_iload_n C dX9_spell_46 rfl ?_
      obtain ⟨r10, h10, hf⟩ := fx_bind hf
      refine a_fV C (kX9_buckets l D Y ao aL aC io_moats io_spades io_tides co_mood co_place iC_size cC_age cC_skill cC_pals x1 r10 h10) (gB_X9_100 _) rfl dvX9_buckets ⟨⟨rfl, rfl⟩, ⟨Nat.le_of_ble_eq_true rfl, Nat.le_of_ble_eq_true rfl⟩, ⟨Nat.le_of_ble_eq_true rfl, Nat.le_of_ble_eq_true rfl⟩⟩ rfl (Nat.le_of_ble_eq_true rfl) dX9_spell_47 rfl rfl [0, 2, 3, 4, 5, 6, 7] [1, 8] ⟨rfl, rfl, rfl, rfl, rfl, rfl, rfl, trivial⟩ (by decide +kernel) rfl [oX9 ao aL aC io_moats io_spades io_tides, rI Y (ao 1) 12 co_wall, rI Y (ao 3) 8 co_mood, rI Y (ao 4) 8 co_place, oX2 aC iC_size, rI Y (aC 1) 8 cC_age, rI Y (aC 2) 8 cC_skill, rI Y (aC 4) 8 cC_pals, oX5 aL iL_cells] ⟨rfl, rfl, rfl, rfl, rfl, rfl, rfl, trivial⟩ ⟨rfl, rfl, trivial⟩ 9 rfl (by decide +kernel) ?_
      refine a_iadd C dX9_spell_50 ?_
      refine a_mmin C dX9_spell_51 (mB_X9_71 _) ⟨⟨Nat.le_of_ble_eq_true rfl, Nat.le_of_ble_eq_true rfl⟩, ⟨Nat.le_of_ble_eq_true rfl, Nat.le_of_ble_eq_true rfl⟩⟩ (Nat.le_of_ble_eq_true rfl) ?_
      refine a_iast C dX9_spell_54 1 rfl h9 ?_
      refine a_kill [2] ?_
      exact kX9_spell_b55 C hQ hk2 hf
set_option maxHeartbeats 400000 in
set_option maxRecDepth 100000 in
theorem kX9_spell_b2 {X : cxT} {l : Launch} {D : va_G} {Y : Nat → ClassId} {ao aL aC : Nat → Nat} {io_moats : Int32} {io_spades : Int32} {io_tides : Int32} {co_wall : Nat → Int32} {co_mood : Nat → Int32} {co_place : Nat → Int32} {iC_size : Int32} {cC_age : Nat → Int32} {cC_skill : Nat → Int32} {cC_pals : Nat → Int32} {iL_cells : Int32} {x1 : Int32} {res : (Nat → Int32) × (Nat → Int32) × (Nat → Int32)} (C : axC X l D Y cX9_spell 3 RX9 wsX9_spell rmX9_spell none) (hQ : axQ X 0 0 (fun r9 w9 => r9 = none ∧ w9 = [oX9 ao aL aC io_moats io_spades io_tides, rI Y (ao 1) 12 res.1, rI Y (ao 3) 8 res.2.1, rI Y (ao 4) 8 res.2.2, oX2 aC iC_size, rI Y (aC 1) 8 cC_age, rI Y (aC 2) 8 cC_skill, rI Y (aC 4) 8 cC_pals, oX5 aL iL_cells])) (hf : fX9_spell_b2 io_spades co_wall co_mood co_place iC_size cC_age cC_skill cC_pals iL_cells x1 = some res) : ax X 0 0 2 [some (.ref (ao 0)), some (.int x1), none] [oX9 ao aL aC io_moats io_spades io_tides, rI Y (ao 1) 12 co_wall, rI Y (ao 3) 8 co_mood, rI Y (ao 4) 8 co_place, oX2 aC iC_size, rI Y (aC 1) 8 cC_age, rI Y (aC 2) 8 cC_skill, rI Y (aC 4) 8 cC_pals, oX5 aL iL_cells] [] := by
  unfold fX9_spell_b2 at hf
  exact fx_loop (P := fun s : (Nat → Int32) × Int32 => ax X 0 0 2 [some (.ref (ao 0)), some (.int s.2), none] [oX9 ao aL aC io_moats io_spades io_tides, rI Y (ao 1) 12 s.1, rI Y (ao 3) 8 co_mood, rI Y (ao 4) 8 co_place, oX2 aC iC_size, rI Y (aC 1) 8 cC_age, rI Y (aC 2) 8 cC_skill, rI Y (aC 4) 8 cC_pals, oX5 aL iL_cells] []) (fun s k2 hk2 h => kX9_spell_l2 C hQ hk2 h) FUEL (co_wall, x1) hf
def fX9_spell (io_spades : Int32) (co_wall : Nat → Int32) (co_mood : Nat → Int32) (co_place : Nat → Int32) (iC_size : Int32) (cC_age : Nat → Int32) (cC_skill : Nat → Int32) (cC_pals : Nat → Int32) (iL_cells : Int32) : Option ((Nat → Int32) × (Nat → Int32) × (Nat → Int32)) :=
  fX9_spell_b2 io_spades co_wall co_mood co_place iC_size cC_age cC_skill cC_pals iL_cells (0 : Int32)
set_option maxHeartbeats 400000 in
set_option maxRecDepth 100000 in
theorem kX9_spell (l : Launch) (D : va_G) (Y : Nat → ClassId) (ao aL aC : Nat → Nat) (io_moats : Int32) (io_spades : Int32) (io_tides : Int32) (co_wall : Nat → Int32) (co_mood : Nat → Int32) (co_place : Nat → Int32) (iC_size : Int32) (cC_age : Nat → Int32) (cC_skill : Nat → Int32) (cC_pals : Nat → Int32) (iL_cells : Int32) (res : (Nat → Int32) × (Nat → Int32) × (Nat → Int32)) (hf : fX9_spell io_spades co_wall co_mood co_place iC_size cC_age cC_skill cC_pals iL_cells = some res) : amf l D Y yX9_spell wsX9_spell rmX9_spell [.ref (ao 0)] [oX9 ao aL aC io_moats io_spades io_tides, rI Y (ao 1) 12 co_wall, rI Y (ao 3) 8 co_mood, rI Y (ao 4) 8 co_place, oX2 aC iC_size, rI Y (aC 1) 8 cC_age, rI Y (aC 2) 8 cC_skill, rI Y (aC 4) 8 cC_pals, oX5 aL iL_cells] none [oX9 ao aL aC io_moats io_spades io_tides, rI Y (ao 1) 12 res.1, rI Y (ao 3) 8 res.2.1, rI Y (ao 4) 8 res.2.2, oX2 aC iC_size, rI Y (aC 1) 8 cC_age, rI Y (aC 2) 8 cC_skill, rI Y (aC 4) 8 cC_pals, oX5 aL iL_cells] := by
  refine amf.of (cc := cX9_spell) (maxL := 3) (rt := none) (by decide) rfl RX9 rfl (Nat.le_of_ble_eq_true rfl) [some (.ref (ao 0)), none, none] rfl ?_
  intro X C hQ
  unfold fX9_spell at hf
  refine a_iconst C (0 : Int32) dX9_spell_0 (by decide) ?_
  refine a_istore_n C dX9_spell_1 (by decide) rfl ?_
  exact kX9_spell_b2 C hQ hf
-- X9_surge
abbrev rmX9_surge : Room := { frames := 2, cells := 0, slots := 0, locals := 43 }
theorem dvX9_surge : yX9_surge.cls = RX9 ∧ yX9_surge.cls ≠ "java/lang/invoke/MethodHandle" ∧ yX9_surge.cls ≠ "java/lang/invoke/VarHandle" ∧ (parseMethodDescriptor yX9_surge.desc).map (fun d => d.parameters.length) = some 1 := by decide +kernel
def fX9_surge_b125 (io_moats : Int32) (io_tides : Int32) (co_wall : Nat → Int32) (co_depth : Nat → Int32) (iL_cells : Int32) (cL_base : Nat → Int32) (cL_dyke : Nat → Int32) (x2 : Int32) : Option (Int32 × Int32 × Int32 × (Nat → Int32) × (Nat → Int32)) :=
  (fX9_spread co_depth iL_cells cL_dyke).bind (fun r1 => some (x2, (io_moats &&& (x2 ^^^ (-1 : Int32))), (io_tides + (1 : Int32)), co_wall, r1))
set_option maxHeartbeats 400000 in
set_option maxRecDepth 100000 in
theorem kX9_surge_b125 {X : cxT} {l : Launch} {D : va_G} {Y : Nat → ClassId} {ao aL aC : Nat → Nat} {io_moats : Int32} {io_spades : Int32} {io_tides : Int32} {co_wall : Nat → Int32} {co_depth : Nat → Int32} {iL_cells : Int32} {cL_base : Nat → Int32} {cL_dyke : Nat → Int32} {x2 : Int32} {res : Int32 × Int32 × Int32 × (Nat → Int32) × (Nat → Int32)} (C : axC X l D Y cX9_surge 6 RX9 wsX9_surge rmX9_surge (some .int)) (hQ : axQ X 0 0 (fun r9 w9 => r9 = (some (.int res.1)) ∧ w9 = [oX9 ao aL aC res.2.1 io_spades res.2.2.1, rI Y (ao 1) 12 res.2.2.2.1, rI Y (ao 2) 12 res.2.2.2.2, oX5 aL iL_cells, rI Y (aL 1) 12 cL_base, rI Y (aL 2) 12 cL_dyke])) (hf : fX9_surge_b125 io_moats io_tides co_wall co_depth iL_cells cL_base cL_dyke x2 = some res) : ax X 0 0 125 [some (.ref (ao 0)), none, some (.int x2), none, none, none] [oX9 ao aL aC io_moats io_spades io_tides, rI Y (ao 1) 12 co_wall, rI Y (ao 2) 12 co_depth, oX5 aL iL_cells, rI Y (aL 1) 12 cL_base, rI Y (aL 2) 12 cL_dyke] [] := by
  unfold fX9_surge_b125 at hf
  refine a_aload_n C dX9_surge_125 rfl ?_
  refine a_dup C dX9_surge_126 rfl ?_
  refine a_get C (eB_X9_38 _) dX9_surge_127 0 rfl rfl ?_
  refine a_iload_n C dX9_surge_130 rfl ?_
  refine a_iconst C (-1 : Int32) dX9_surge_131 (by decide) ?_
  refine a_ixor C dX9_surge_132 ?_
  refine a_iand C dX9_surge_133 ?_
  refine a_put C (eB_X9_38 _) tfX9_6 dX9_surge_134 0 rfl rfl rfl (Nat.le_of_ble_eq_true rfl) ?_
  refine a_aload_n C dX9_surge_137 rfl ?_
  obtain ⟨r1, h1, hf⟩ := fx_bind hf
  refine a_fV C (kX9_spread l D Y ao aL aC (io_moats &&& (x2 ^^^ (-1 : Int32))) io_spades io_tides co_depth iL_cells cL_dyke r1 h1) (gB_X9_116 _) rfl dvX9_spread ⟨⟨rfl, rfl⟩, ⟨Nat.le_of_ble_eq_true rfl, Nat.le_of_ble_eq_true rfl⟩, ⟨Nat.le_of_ble_eq_true rfl, Nat.le_of_ble_eq_true rfl⟩⟩ rfl (Nat.le_of_ble_eq_true rfl) dX9_surge_138 rfl rfl [0, 2, 3, 5] [1, 4] ⟨rfl, rfl, rfl, rfl, trivial⟩ (by decide +kernel) rfl [oX9 ao aL aC (io_moats &&& (x2 ^^^ (-1 : Int32))) io_spades io_tides, rI Y (ao 1) 12 co_wall, rI Y (ao 2) 12 r1, oX5 aL iL_cells, rI Y (aL 1) 12 cL_base, rI Y (aL 2) 12 cL_dyke] ⟨rfl, rfl, rfl, rfl, trivial⟩ ⟨rfl, rfl, trivial⟩ 6 rfl (by decide +kernel) ?_
  refine a_aload_n C dX9_surge_141 rfl ?_
  refine a_dup C dX9_surge_142 rfl ?_
  refine a_get C (eB_X9_45 _) dX9_surge_143 0 rfl rfl ?_
  refine a_iconst C (1 : Int32) dX9_surge_146 (by decide) ?_
  refine a_iadd C dX9_surge_147 ?_
  refine a_put C (eB_X9_45 _) tfX9_8 dX9_surge_148 0 rfl rfl rfl (Nat.le_of_ble_eq_true rfl) ?_
  refine a_iload_n C dX9_surge_151 rfl ?_
  obtain rfl := fx_some hf
  exact a_iret C hQ dX9_surge_152 ⟨rfl, rfl⟩
def fX9_surge_b119 (io_moats : Int32) (io_tides : Int32) (co_wall : Nat → Int32) (co_depth : Nat → Int32) (iL_cells : Int32) (cL_base : Nat → Int32) (cL_dyke : Nat → Int32) (x1 : Int32) (x2 : Int32) (x3 : Int32) (k4 : (Nat → Int32) × (Nat → Int32) × Int32 × Int32 → Option (Int32 × Int32 × Int32 × (Nat → Int32) × (Nat → Int32))) : Option (Int32 × Int32 × Int32 × (Nat → Int32) × (Nat → Int32)) :=
  k4 (co_wall, co_depth, x2, (x3 + (1 : Int32)))
set_option maxHeartbeats 400000 in
set_option maxRecDepth 100000 in
theorem kX9_surge_b119 {X : cxT} {l : Launch} {D : va_G} {Y : Nat → ClassId} {ao aL aC : Nat → Nat} {io_moats : Int32} {io_spades : Int32} {io_tides : Int32} {co_wall : Nat → Int32} {co_depth : Nat → Int32} {iL_cells : Int32} {cL_base : Nat → Int32} {cL_dyke : Nat → Int32} {x1 : Int32} {x2 : Int32} {x3 : Int32} {res : Int32 × Int32 × Int32 × (Nat → Int32) × (Nat → Int32)} (C : axC X l D Y cX9_surge 6 RX9 wsX9_surge rmX9_surge (some .int)) (hQ : axQ X 0 0 (fun r9 w9 => r9 = (some (.int res.1)) ∧ w9 = [oX9 ao aL aC res.2.1 io_spades res.2.2.1, rI Y (ao 1) 12 res.2.2.2.1, rI Y (ao 2) 12 res.2.2.2.2, oX5 aL iL_cells, rI Y (aL 1) 12 cL_base, rI Y (aL 2) 12 cL_dyke])) {k4 : (Nat → Int32) × (Nat → Int32) × Int32 × Int32 → Option (Int32 × Int32 × Int32 × (Nat → Int32) × (Nat → Int32))} (hk4 : ∀ s : (Nat → Int32) × (Nat → Int32) × Int32 × Int32, k4 s = some res → ax X 0 0 4 [some (.ref (ao 0)), some (.int x1), some (.int s.2.2.1), some (.int s.2.2.2), none, none] [oX9 ao aL aC io_moats io_spades io_tides, rI Y (ao 1) 12 s.1, rI Y (ao 2) 12 s.2.1, oX5 aL iL_cells, rI Y (aL 1) 12 cL_base, rI Y (aL 2) 12 cL_dyke] []) (hf : fX9_surge_b119 io_moats io_tides co_wall co_depth iL_cells cL_base cL_dyke x1 x2 x3 k4 = some res) : ax X 0 0 119 [some (.ref (ao 0)), some (.int x1), some (.int x2), some (.int x3), none, none] [oX9 ao aL aC io_moats io_spades io_tides, rI Y (ao 1) 12 co_wall, rI Y (ao 2) 12 co_depth, oX5 aL iL_cells, rI Y (aL 1) 12 cL_base, rI Y (aL 2) 12 cL_dyke] [] := by
  unfold fX9_surge_b119 at hf
  refine a_iinc C (1 : Int32) dX9_surge_119 (by decide) rfl (by decide) rfl ?_
  refine a_goto C 4 dX9_surge_122 (by decide) ?_
  exact hk4 (co_wall, co_depth, x2, (x3 + (1 : Int32))) hf
def fX9_surge_b85 (io_moats : Int32) (io_tides : Int32) (co_wall : Nat → Int32) (co_depth : Nat → Int32) (iL_cells : Int32) (cL_base : Nat → Int32) (cL_dyke : Nat → Int32) (x1 : Int32) (x2 : Int32) (x3 : Int32) (s0 : Int32) (k4 : (Nat → Int32) × (Nat → Int32) × Int32 × Int32 → Option (Int32 × Int32 × Int32 × (Nat → Int32) × (Nat → Int32))) : Option (Int32 × Int32 × Int32 × (Nat → Int32) × (Nat → Int32)) :=
  if inb x3 12 then (fX11_wash x1 (cL_base (Int32.toNatClampNeg x3)) s0).bind (fun r3 => fX9_surge_b119 io_moats io_tides (upd co_wall (Int32.toNatClampNeg x3) (jmax (0 : Int32) ((co_wall (Int32.toNatClampNeg x3)) - r3))) co_depth iL_cells cL_base cL_dyke x1 x2 x3 k4) else none
set_option maxHeartbeats 400000 in
set_option maxRecDepth 100000 in
theorem kX9_surge_b85 {X : cxT} {l : Launch} {D : va_G} {Y : Nat → ClassId} {ao aL aC : Nat → Nat} {io_moats : Int32} {io_spades : Int32} {io_tides : Int32} {co_wall : Nat → Int32} {co_depth : Nat → Int32} {iL_cells : Int32} {cL_base : Nat → Int32} {cL_dyke : Nat → Int32} {x1 : Int32} {x2 : Int32} {x3 : Int32} {s0 : Int32} {res : Int32 × Int32 × Int32 × (Nat → Int32) × (Nat → Int32)} (C : axC X l D Y cX9_surge 6 RX9 wsX9_surge rmX9_surge (some .int)) (hQ : axQ X 0 0 (fun r9 w9 => r9 = (some (.int res.1)) ∧ w9 = [oX9 ao aL aC res.2.1 io_spades res.2.2.1, rI Y (ao 1) 12 res.2.2.2.1, rI Y (ao 2) 12 res.2.2.2.2, oX5 aL iL_cells, rI Y (aL 1) 12 cL_base, rI Y (aL 2) 12 cL_dyke])) {k4 : (Nat → Int32) × (Nat → Int32) × Int32 × Int32 → Option (Int32 × Int32 × Int32 × (Nat → Int32) × (Nat → Int32))} (hk4 : ∀ s : (Nat → Int32) × (Nat → Int32) × Int32 × Int32, k4 s = some res → ax X 0 0 4 [some (.ref (ao 0)), some (.int x1), some (.int s.2.2.1), some (.int s.2.2.2), none, none] [oX9 ao aL aC io_moats io_spades io_tides, rI Y (ao 1) 12 s.1, rI Y (ao 2) 12 s.2.1, oX5 aL iL_cells, rI Y (aL 1) 12 cL_base, rI Y (aL 2) 12 cL_dyke] []) (hf : fX9_surge_b85 io_moats io_tides co_wall co_depth iL_cells cL_base cL_dyke x1 x2 x3 s0 k4 = some res) : ax X 0 0 85 [some (.ref (ao 0)), some (.int x1), some (.int x2), some (.int x3), none, none] [oX9 ao aL aC io_moats io_spades io_tides, rI Y (ao 1) 12 co_wall, rI Y (ao 2) 12 co_depth, oX5 aL iL_cells, rI Y (aL 1) 12 cL_base, rI Y (aL 2) 12 cL_dyke] [.int s0] := by
  unfold fX9_surge_b85 at hf
  refine a_istore C dX9_surge_85 (by decide) rfl ?_
  refine a_aload_n C dX9_surge_87 rfl ?_
  refine a_get C (eB_X9_9 _) dX9_surge_88 0 rfl rfl ?_
  refine a_iload_n C dX9_surge_91 rfl ?_
  refine a_iconst C (0 : Int32) dX9_surge_92 (by decide) ?_
  refine a_aload_n C dX9_surge_93 rfl ?_
  refine a_get C (eB_X9_9 _) dX9_surge_94 0 rfl rfl ?_
  refine a_iload_n C dX9_surge_97 rfl ?_
  obtain ⟨h2, hf⟩ := fx_ite hf
  refine a_iald C dX9_surge_98 1 rfl h2 ?_
  refine a_iload_n C dX9_surge_99 rfl ?_
  refine a_aload_n C dX9_surge_100 rfl ?_
  refine a_get C (eB_X9_24 _) dX9_surge_101 0 rfl rfl ?_
  refine a_get C (eB_X9_59 _) dX9_surge_104 3 rfl rfl ?_
  refine a_iload_n C dX9_surge_107 rfl ?_
  refine a_iald C dX9_surge_108 4 rfl h2 ?_
  refine a_iload C dX9_surge_109 rfl ?_
  obtain ⟨r3, h3, hf⟩ := fx_bind hf
  refine a_fN C RX11 (kX11_wash l D Y x1 (cL_base (Int32.toNatClampNeg x3)) s0 r3 h3) (gB_X9_112 _) rfl (by decide +kernel) (wB_X9_iX11 _) (wB_X9_sX11_wash _) dvX11_wash ⟨⟨rfl, rfl⟩, ⟨Nat.le_of_ble_eq_true rfl, Nat.le_of_ble_eq_true rfl⟩, ⟨Nat.le_of_ble_eq_true rfl, Nat.le_of_ble_eq_true rfl⟩⟩ rfl (Nat.le_of_ble_eq_true rfl) dX9_surge_111 [] [0, 1, 2, 3, 4, 5] trivial (by decide +kernel) rfl [oX9 ao aL aC io_moats io_spades io_tides, rI Y (ao 1) 12 co_wall, rI Y (ao 2) 12 co_depth, oX5 aL iL_cells, rI Y (aL 1) 12 cL_base, rI Y (aL 2) 12 cL_dyke] trivial ⟨rfl, rfl, rfl, rfl, rfl, rfl, trivial⟩ 6 rfl (by decide +kernel) ?_
  refine a_isub C dX9_surge_114 ?_
  refine a_mmax C dX9_surge_115 (mB_X9_109 _) ⟨⟨Nat.le_of_ble_eq_true rfl, Nat.le_of_ble_eq_true rfl⟩, ⟨Nat.le_of_ble_eq_true rfl, Nat.le_of_ble_eq_true rfl⟩⟩ (Nat.le_of_ble_eq_true rfl) ?_
  refine a_iast C dX9_surge_118 1 rfl h2 ?_
  refine a_kill [5] ?_
  exact kX9_surge_b119 C hQ hk4 hf
def fX9_surge_l4 (io_moats : Int32) (io_tides : Int32) (iL_cells : Int32) (cL_base : Nat → Int32) (cL_dyke : Nat → Int32) (x1 : Int32) (k4 : (Nat → Int32) × (Nat → Int32) × Int32 × Int32 → Option (Int32 × Int32 × Int32 × (Nat → Int32) × (Nat → Int32))) (co_wall : Nat → Int32) (co_depth : Nat → Int32) (x2 : Int32) (x3 : Int32) : Option (Int32 × Int32 × Int32 × (Nat → Int32) × (Nat → Int32)) :=
  if iL_cells ≤ x3 then (fX9_surge_b125 io_moats io_tides co_wall co_depth iL_cells cL_base cL_dyke x2) else ((fX9_top co_wall cL_base x3).bind (fun r5 => if (x1 - r5) ≤ (0 : Int32) then (if ((jshr io_moats x3) &&& (1 : Int32)) = (0 : Int32) then (fX9_surge_b85 io_moats io_tides co_wall co_depth iL_cells cL_base cL_dyke x1 x2 x3 (0 : Int32) k4) else (fX9_surge_b85 io_moats io_tides co_wall co_depth iL_cells cL_base cL_dyke x1 x2 x3 (1 : Int32) k4)) else (if inb x3 12 then fX9_surge_b119 io_moats io_tides (upd co_wall (Int32.toNatClampNeg x3) ((co_wall (Int32.toNatClampNeg x3)) / (2 : Int32))) (upd co_depth (Int32.toNatClampNeg x3) (jmin (999 : Int32) ((co_depth (Int32.toNatClampNeg x3)) + (x1 - r5)))) iL_cells cL_base cL_dyke x1 (x2 ||| (jshl (1 : Int32) x3)) x3 k4 else none)))
def fX9_surge_b4 (io_moats : Int32) (io_tides : Int32) (co_wall : Nat → Int32) (co_depth : Nat → Int32) (iL_cells : Int32) (cL_base : Nat → Int32) (cL_dyke : Nat → Int32) (x1 : Int32) (x2 : Int32) (x3 : Int32) : Option (Int32 × Int32 × Int32 × (Nat → Int32) × (Nat → Int32)) :=
  loopN (fun (s : (Nat → Int32) × (Nat → Int32) × Int32 × Int32) k4 => fX9_surge_l4 io_moats io_tides iL_cells cL_base cL_dyke x1 k4 s.1 s.2.1 s.2.2.1 s.2.2.2) FUEL (co_wall, co_depth, x2, x3)
set_option maxHeartbeats 400000 in
set_option maxRecDepth 100000 in
theorem kX9_surge_l4 {X : cxT} {l : Launch} {D : va_G} {Y : Nat → ClassId} {ao aL aC : Nat → Nat} {io_moats : Int32} {io_spades : Int32} {io_tides : Int32} {co_wall : Nat → Int32} {co_depth : Nat → Int32} {iL_cells : Int32} {cL_base : Nat → Int32} {cL_dyke : Nat → Int32} {x1 : Int32} {x2 : Int32} {x3 : Int32} {res : Int32 × Int32 × Int32 × (Nat → Int32) × (Nat → Int32)} (C : axC X l D Y cX9_surge 6 RX9 wsX9_surge rmX9_surge (some .int)) (hQ : axQ X 0 0 (fun r9 w9 => r9 = (some (.int res.1)) ∧ w9 = [oX9 ao aL aC res.2.1 io_spades res.2.2.1, rI Y (ao 1) 12 res.2.2.2.1, rI Y (ao 2) 12 res.2.2.2.2, oX5 aL iL_cells, rI Y (aL 1) 12 cL_base, rI Y (aL 2) 12 cL_dyke])) {k4 : (Nat → Int32) × (Nat → Int32) × Int32 × Int32 → Option (Int32 × Int32 × Int32 × (Nat → Int32) × (Nat → Int32))} (hk4 : ∀ s : (Nat → Int32) × (Nat → Int32) × Int32 × Int32, k4 s = some res → ax X 0 0 4 [some (.ref (ao 0)), some (.int x1), some (.int s.2.2.1), some (.int s.2.2.2), none, none] [oX9 ao aL aC io_moats io_spades io_tides, rI Y (ao 1) 12 s.1, rI Y (ao 2) 12 s.2.1, oX5 aL iL_cells, rI Y (aL 1) 12 cL_base, rI Y (aL 2) 12 cL_dyke] []) (hf : fX9_surge_l4 io_moats io_tides iL_cells cL_base cL_dyke x1 k4 co_wall co_depth x2 x3 = some res) : ax X 0 0 4 [some (.ref (ao 0)), some (.int x1), some (.int x2), some (.int x3), none, none] [oX9 ao aL aC io_moats io_spades io_tides, rI Y (ao 1) 12 co_wall, rI Y (ao 2) 12 co_depth, oX5 aL iL_cells, rI Y (aL 1) 12 cL_base, rI Y (aL 2) 12 cL_dyke] [] := by
  unfold fX9_surge_l4 at hf
  refine a_iload_n C dX9_surge_4 rfl ?_
  refine a_aload_n C dX9_surge_5 rfl ?_
  refine a_get C (eB_X9_24 _) dX9_surge_6 0 rfl rfl ?_
  refine a_get C (eB_X9_68 _) dX9_surge_9 3 rfl rfl ?_
  refine a_icmp_ge C 125 dX9_surge_12 (by decide) (fun h4 => ?_) (fun h4 => ?_)
  · have hf := fx_t h4 hf
    refine a_kill [1, 3] ?_
    exact kX9_surge_b125 C hQ hf
  · have hf := fx_f h4 hf
    refine a_iload_n C dX9_surge_15 rfl ?_
    refine a_aload_n C dX9_surge_16 rfl ?_
    refine a_iload_n C dX9_surge_17 rfl ?_
    obtain ⟨r5, h5, hf⟩ := fx_bind hf
    refine a_fV C (kX9_top l D Y ao aL aC io_moats io_spades io_tides co_wall iL_cells cL_base x3 r5 h5) (gB_X9_64 _) rfl dvX9_top ⟨⟨rfl, rfl⟩, ⟨Nat.le_of_ble_eq_true rfl, Nat.le_of_ble_eq_true rfl⟩, ⟨Nat.le_of_ble_eq_true rfl, Nat.le_of_ble_eq_true rfl⟩⟩ rfl (Nat.le_of_ble_eq_true rfl) dX9_surge_18 rfl rfl [0, 1, 3, 4] [2, 5] ⟨rfl, rfl, rfl, rfl, trivial⟩ (by decide +kernel) rfl [oX9 ao aL aC io_moats io_spades io_tides, rI Y (ao 1) 12 co_wall, rI Y (ao 2) 12 co_depth, oX5 aL iL_cells, rI Y (aL 1) 12 cL_base, rI Y (aL 2) 12 cL_dyke] ⟨rfl, rfl, rfl, rfl, trivial⟩ ⟨rfl, rfl, trivial⟩ 6 rfl (by decide +kernel) ?_
    refine a_isub C dX9_surge_21 ?_
    refine a_istore C dX9_surge_22 (by decide) rfl ?_
    refine a_iload C dX9_surge_24 rfl ?_
    refine a_if_le C 69 dX9_surge_26 (by decide) (fun h6 => ?_) (fun h6 => ?_)
    · have hf := fx_t h6 hf
      refine a_aload_n C dX9_surge_69 rfl ?_
      refine a_get C (eB_X9_38 _) dX9_surge_70 0 rfl rfl ?_
      refine a_iload_n C dX9_surge_73 rfl ?_
      refine a_ishr C dX9_surge_74 ?_
      refine a_iconst C (1 : Int32) dX9_surge_75 (by decide) ?_
      refine a_iand C dX9_surge_76 ?_
      refine a_if_eq C 84 dX9_surge_77 (by decide) (fun h7 => ?_) (fun h7 => ?_)
      · have hf := fx_t h7 hf
        refine a_iconst C (0 : Int32) dX9_surge_84 (by decide) ?_
        refine a_kill [4] ?_
        exact kX9_surge_b85 C hQ hk4 hf
      · have hf := fx_f h7 hf
        refine a_iconst C (1 : Int32) dX9_surge_80 (by decide) ?_
        refine a_goto C 85 dX9_surge_81 (by decide) ?_
        refine a_kill [4] ?_
        exact kX9_surge_b85 C hQ hk4 hf
    · have hf := fx_f h6 hf
      refine a_iload_n C dX9_surge_29 rfl ?_
      refine a_iconst C (1 : Int32) dX9_surge_30 (by decide) ?_
      refine a_iload_n C dX9_surge_31 rfl ?_
      refine a_ishl C dX9_surge_32 ?_
      refine a_ior C dX9_surge_33 ?_
      refine a_istore_n C dX9_surge_34 (by decide) rfl ?_
      refine a_aload_n C dX9_surge_35 rfl ?_
      refine a_get C (eB_X9_15 _) dX9_surge_36 0 rfl rfl ?_
      refine a_iload_n C dX9_surge_39 rfl ?_
      refine a_sipush C (999 : Int32) dX9_surge_40 (by decide) ?_
      refine a_aload_n C dX9_surge_43 rfl ?_
      refine a_get C (eB_X9_15 _) dX9_surge_44 0 rfl rfl ?_
      refine a_iload_n C dX9_surge_47 rfl ?_
      obtain ⟨h8, hf⟩ := fx_ite hf
      refine a_iald C dX9_surge_48 2 rfl h8 ?_
      refine a_iload C dX9_surge_49 rfl ?_
      refine a_iadd C dX9_surge_51 ?_
      refine a_mmin C dX9_surge_52 (mB_X9_71 _) ⟨⟨Nat.le_of_ble_eq_true rfl, Nat.le_of_ble_eq_true rfl⟩, ⟨Nat.le_of_ble_eq_true rfl, Nat.le_of_ble_eq_true rfl⟩⟩ (Nat.le_of_ble_eq_true rfl) ?_
      refine a_iast C dX9_surge_55 2 rfl h8 ?_
      refine a_aload_n C dX9_surge_56 rfl ?_
      refine a_get C (eB_X9_9 _) dX9_surge_57 0 rfl rfl ?_
      refine a_iload_n C dX9_surge_60 rfl ?_
      refine a_dup2 C dX9_surge_61 rfl rfl ?_
      refine a_iald C dX9_surge_62 1 rfl h8 ?_
      refine a_iconst C (2 : Int32) dX9_surge_63 (by decide) ?_
      refine a_idiv C dX9_surge_64 (by decide) ?_
      refine a_iast C dX9_surge_65 1 rfl h8 ?_
      refine a_goto C 119 dX9_surge_66 (by decide) ?_
      refine a_kill [4] ?_
      exact kX9_surge_b119 C hQ hk4 hf
set_option maxHeartbeats 400000 in
set_option maxRecDepth 100000 in
theorem kX9_surge_b4 {X : cxT} {l : Launch} {D : va_G} {Y : Nat → ClassId} {ao aL aC : Nat → Nat} {io_moats : Int32} {io_spades : Int32} {io_tides : Int32} {co_wall : Nat → Int32} {co_depth : Nat → Int32} {iL_cells : Int32} {cL_base : Nat → Int32} {cL_dyke : Nat → Int32} {x1 : Int32} {x2 : Int32} {x3 : Int32} {res : Int32 × Int32 × Int32 × (Nat → Int32) × (Nat → Int32)} (C : axC X l D Y cX9_surge 6 RX9 wsX9_surge rmX9_surge (some .int)) (hQ : axQ X 0 0 (fun r9 w9 => r9 = (some (.int res.1)) ∧ w9 = [oX9 ao aL aC res.2.1 io_spades res.2.2.1, rI Y (ao 1) 12 res.2.2.2.1, rI Y (ao 2) 12 res.2.2.2.2, oX5 aL iL_cells, rI Y (aL 1) 12 cL_base, rI Y (aL 2) 12 cL_dyke])) (hf : fX9_surge_b4 io_moats io_tides co_wall co_depth iL_cells cL_base cL_dyke x1 x2 x3 = some res) : ax X 0 0 4 [some (.ref (ao 0)), some (.int x1), some (.int x2), some (.int x3), none, none] [oX9 ao aL aC io_moats io_spades io_tides, rI Y (ao 1) 12 co_wall, rI Y (ao 2) 12 co_depth, oX5 aL iL_cells, rI Y (aL 1) 12 cL_base, rI Y (aL 2) 12 cL_dyke] [] := by
  unfold fX9_surge_b4 at hf
  exact fx_loop (P := fun s : (Nat → Int32) × (Nat → Int32) × Int32 × Int32 => ax X 0 0 4 [some (.ref (ao 0)), some (.int x1), some (.int s.2.2.1), some (.int s.2.2.2), none, none] [oX9 ao aL aC io_moats io_spades io_tides, rI Y (ao 1) 12 s.1, rI Y (ao 2) 12 s.2.1, oX5 aL iL_cells, rI Y (aL 1) 12 cL_base, rI Y (aL 2) 12 cL_dyke] []) (fun s k4 hk4 h => kX9_surge_l4 C hQ hk4 h) FUEL (co_wall, co_depth, x2, x3) hf
def fX9_surge (io_moats : Int32) (io_tides : Int32) (co_wall : Nat → Int32) (co_depth : Nat → Int32) (iL_cells : Int32) (cL_base : Nat → Int32) (cL_dyke : Nat → Int32) (x1 : Int32) : Option (Int32 × Int32 × Int32 × (Nat → Int32) × (Nat → Int32)) :=
  fX9_surge_b4 io_moats io_tides co_wall co_depth iL_cells cL_base cL_dyke x1 (0 : Int32) (0 : Int32)
set_option maxHeartbeats 400000 in
set_option maxRecDepth 100000 in
theorem kX9_surge (l : Launch) (D : va_G) (Y : Nat → ClassId) (ao aL aC : Nat → Nat) (io_moats : Int32) (io_spades : Int32) (io_tides : Int32) (co_wall : Nat → Int32) (co_depth : Nat → Int32) (iL_cells : Int32) (cL_base : Nat → Int32) (cL_dyke : Nat → Int32) (x1 : Int32) (res : Int32 × Int32 × Int32 × (Nat → Int32) × (Nat → Int32)) (hf : fX9_surge io_moats io_tides co_wall co_depth iL_cells cL_base cL_dyke x1 = some res) : amf l D Y yX9_surge wsX9_surge rmX9_surge [.ref (ao 0), .int x1] [oX9 ao aL aC io_moats io_spades io_tides, rI Y (ao 1) 12 co_wall, rI Y (ao 2) 12 co_depth, oX5 aL iL_cells, rI Y (aL 1) 12 cL_base, rI Y (aL 2) 12 cL_dyke] (some (.int res.1)) [oX9 ao aL aC res.2.1 io_spades res.2.2.1, rI Y (ao 1) 12 res.2.2.2.1, rI Y (ao 2) 12 res.2.2.2.2, oX5 aL iL_cells, rI Y (aL 1) 12 cL_base, rI Y (aL 2) 12 cL_dyke] := by
  refine amf.of (cc := cX9_surge) (maxL := 6) (rt := (some .int)) (by decide) rfl RX9 rfl (Nat.le_of_ble_eq_true rfl) [some (.ref (ao 0)), some (.int x1), none, none, none, none] rfl ?_
  intro X C hQ
  unfold fX9_surge at hf
  refine a_iconst C (0 : Int32) dX9_surge_0 (by decide) ?_
  refine a_istore_n C dX9_surge_1 (by decide) rfl ?_
  refine a_iconst C (0 : Int32) dX9_surge_2 (by decide) ?_
  refine a_istore_n C dX9_surge_3 (by decide) rfl ?_
  exact kX9_surge_b4 C hQ hf
-- X9_buildOn
abbrev rmX9_buildOn : Room := { frames := 4, cells := 0, slots := 0, locals := 88 }
theorem dvX9_buildOn : yX9_buildOn.cls = RX9 ∧ yX9_buildOn.cls ≠ "java/lang/invoke/MethodHandle" ∧ yX9_buildOn.cls ≠ "java/lang/invoke/VarHandle" ∧ (parseMethodDescriptor yX9_buildOn.desc).map (fun d => d.parameters.length) = some 1 := by decide +kernel
def fX9_buildOn_b17 (io_spades : Int32) (co_wall : Nat → Int32) (co_mood : Nat → Int32) (co_place : Nat → Int32) (iC_size : Int32) (cC_age : Nat → Int32) (cC_skill : Nat → Int32) (cC_pals : Nat → Int32) (iL_cells : Int32) : Option ((Nat → Int32) × (Nat → Int32) × (Nat → Int32)) :=
  some (co_wall, co_mood, co_place)
set_option maxHeartbeats 400000 in
set_option maxRecDepth 100000 in
theorem kX9_buildOn_b17 {X : cxT} {l : Launch} {D : va_G} {Y : Nat → ClassId} {ao aL aC : Nat → Nat} {io_moats : Int32} {io_spades : Int32} {io_tides : Int32} {co_wall : Nat → Int32} {co_mood : Nat → Int32} {co_place : Nat → Int32} {iC_size : Int32} {cC_age : Nat → Int32} {cC_skill : Nat → Int32} {cC_pals : Nat → Int32} {iL_cells : Int32} {res : (Nat → Int32) × (Nat → Int32) × (Nat → Int32)} (C : axC X l D Y cX9_buildOn 3 RX9 wsX9_buildOn rmX9_buildOn none) (hQ : axQ X 0 0 (fun r9 w9 => r9 = none ∧ w9 = [oX9 ao aL aC io_moats io_spades io_tides, rI Y (ao 1) 12 res.1, rI Y (ao 3) 8 res.2.1, rI Y (ao 4) 8 res.2.2, oX2 aC iC_size, rI Y (aC 1) 8 cC_age, rI Y (aC 2) 8 cC_skill, rI Y (aC 4) 8 cC_pals, oX5 aL iL_cells])) (hf : fX9_buildOn_b17 io_spades co_wall co_mood co_place iC_size cC_age cC_skill cC_pals iL_cells = some res) : ax X 0 0 17 [none, none, none] [oX9 ao aL aC io_moats io_spades io_tides, rI Y (ao 1) 12 co_wall, rI Y (ao 3) 8 co_mood, rI Y (ao 4) 8 co_place, oX2 aC iC_size, rI Y (aC 1) 8 cC_age, rI Y (aC 2) 8 cC_skill, rI Y (aC 4) 8 cC_pals, oX5 aL iL_cells] [] := by
  unfold fX9_buildOn_b17 at hf
  obtain rfl := fx_some hf
  exact a_vret C hQ dX9_buildOn_17 ⟨rfl, rfl⟩
def fX9_buildOn_l2 (io_spades : Int32) (iC_size : Int32) (cC_age : Nat → Int32) (cC_skill : Nat → Int32) (cC_pals : Nat → Int32) (iL_cells : Int32) (x1 : Int32) (k2 : (Nat → Int32) × (Nat → Int32) × (Nat → Int32) × Int32 → Option ((Nat → Int32) × (Nat → Int32) × (Nat → Int32))) (co_wall : Nat → Int32) (co_mood : Nat → Int32) (co_place : Nat → Int32) (x2 : Int32) : Option ((Nat → Int32) × (Nat → Int32) × (Nat → Int32)) :=
  if x1 ≤ x2 then (fX9_buildOn_b17 io_spades co_wall co_mood co_place iC_size cC_age cC_skill cC_pals iL_cells) else ((fX9_spell io_spades co_wall co_mood co_place iC_size cC_age cC_skill cC_pals iL_cells).bind (fun r2 => k2 (r2.1, r2.2.1, r2.2.2, (x2 + (1 : Int32)))))
def fX9_buildOn_b2 (io_spades : Int32) (co_wall : Nat → Int32) (co_mood : Nat → Int32) (co_place : Nat → Int32) (iC_size : Int32) (cC_age : Nat → Int32) (cC_skill : Nat → Int32) (cC_pals : Nat → Int32) (iL_cells : Int32) (x1 : Int32) (x2 : Int32) : Option ((Nat → Int32) × (Nat → Int32) × (Nat → Int32)) :=
  loopN (fun (s : (Nat → Int32) × (Nat → Int32) × (Nat → Int32) × Int32) k2 => fX9_buildOn_l2 io_spades iC_size cC_age cC_skill cC_pals iL_cells x1 k2 s.1 s.2.1 s.2.2.1 s.2.2.2) FUEL (co_wall, co_mood, co_place, x2)
set_option maxHeartbeats 400000 in
set_option maxRecDepth 100000 in
theorem kX9_buildOn_l2 {X : cxT} {l : Launch} {D : va_G} {Y : Nat → ClassId} {ao aL aC : Nat → Nat} {io_moats : Int32} {io_spades : Int32} {io_tides : Int32} {co_wall : Nat → Int32} {co_mood : Nat → Int32} {co_place : Nat → Int32} {iC_size : Int32} {cC_age : Nat → Int32} {cC_skill : Nat → Int32} {cC_pals : Nat → Int32} {iL_cells : Int32} {x1 : Int32} {x2 : Int32} {res : (Nat → Int32) × (Nat → Int32) × (Nat → Int32)} (C : axC X l D Y cX9_buildOn 3 RX9 wsX9_buildOn rmX9_buildOn none) (hQ : axQ X 0 0 (fun r9 w9 => r9 = none ∧ w9 = [oX9 ao aL aC io_moats io_spades io_tides, rI Y (ao 1) 12 res.1, rI Y (ao 3) 8 res.2.1, rI Y (ao 4) 8 res.2.2, oX2 aC iC_size, rI Y (aC 1) 8 cC_age, rI Y (aC 2) 8 cC_skill, rI Y (aC 4) 8 cC_pals, oX5 aL iL_cells])) {k2 : (Nat → Int32) × (Nat → Int32) × (Nat → Int32) × Int32 → Option ((Nat → Int32) × (Nat → Int32) × (Nat → Int32))} (hk2 : ∀ s : (Nat → Int32) × (Nat → Int32) × (Nat → Int32) × Int32, k2 s = some res → ax X 0 0 2 [some (.ref (ao 0)), some (.int x1), some (.int s.2.2.2)] [oX9 ao aL aC io_moats io_spades io_tides, rI Y (ao 1) 12 s.1, rI Y (ao 3) 8 s.2.1, rI Y (ao 4) 8 s.2.2.1, oX2 aC iC_size, rI Y (aC 1) 8 cC_age, rI Y (aC 2) 8 cC_skill, rI Y (aC 4) 8 cC_pals, oX5 aL iL_cells] []) (hf : fX9_buildOn_l2 io_spades iC_size cC_age cC_skill cC_pals iL_cells x1 k2 co_wall co_mood co_place x2 = some res) : ax X 0 0 2 [some (.ref (ao 0)), some (.int x1), some (.int x2)] [oX9 ao aL aC io_moats io_spades io_tides, rI Y (ao 1) 12 co_wall, rI Y (ao 3) 8 co_mood, rI Y (ao 4) 8 co_place, oX2 aC iC_size, rI Y (aC 1) 8 cC_age, rI Y (aC 2) 8 cC_skill, rI Y (aC 4) 8 cC_pals, oX5 aL iL_cells] [] := by
  unfold fX9_buildOn_l2 at hf
  refine a_iload_n C dX9_buildOn_2 rfl ?_
  refine a_iload_n C dX9_buildOn_3 rfl ?_
  refine a_icmp_ge C 17 dX9_buildOn_4 (by decide) (fun h1 => ?_) (fun h1 => ?_)
  · have hf := fx_t h1 hf
    refine a_kill [0, 1, 2] ?_
    exact kX9_buildOn_b17 C hQ hf
  · have hf := fx_f h1 hf
    refine a_aload_n C dX9_buildOn_7 rfl ?_
    obtain ⟨r2, h2, hf⟩ := fx_bind hf
    refine a_fV C (kX9_spell l D Y ao aL aC io_moats io_spades io_tides co_wall co_mood co_place iC_size cC_age cC_skill cC_pals iL_cells r2 h2) (gB_X9_103 _) rfl dvX9_spell ⟨⟨rfl, rfl⟩, ⟨Nat.le_of_ble_eq_true rfl, Nat.le_of_ble_eq_true rfl⟩, ⟨Nat.le_of_ble_eq_true rfl, Nat.le_of_ble_eq_true rfl⟩⟩ rfl (Nat.le_of_ble_eq_true rfl) dX9_buildOn_8 rfl rfl [0, 1, 2, 3, 4, 5, 6, 7, 8] [] ⟨rfl, rfl, rfl, rfl, rfl, rfl, rfl, rfl, rfl, trivial⟩ (by decide +kernel) rfl [oX9 ao aL aC io_moats io_spades io_tides, rI Y (ao 1) 12 r2.1, rI Y (ao 3) 8 r2.2.1, rI Y (ao 4) 8 r2.2.2, oX2 aC iC_size, rI Y (aC 1) 8 cC_age, rI Y (aC 2) 8 cC_skill, rI Y (aC 4) 8 cC_pals, oX5 aL iL_cells] ⟨rfl, rfl, rfl, rfl, rfl, rfl, rfl, rfl, rfl, trivial⟩ trivial 9 rfl (by decide +kernel) ?_
    refine a_iinc C (1 : Int32) dX9_buildOn_11 (by decide) rfl (by decide) rfl ?_
    refine a_goto C 2 dX9_buildOn_14 (by decide) ?_
    exact hk2 (r2.1, r2.2.1, r2.2.2, (x2 + (1 : Int32))) hf
set_option maxHeartbeats 400000 in
set_option maxRecDepth 100000 in
theorem kX9_buildOn_b2 {X : cxT} {l : Launch} {D : va_G} {Y : Nat → ClassId} {ao aL aC : Nat → Nat} {io_moats : Int32} {io_spades : Int32} {io_tides : Int32} {co_wall : Nat → Int32} {co_mood : Nat → Int32} {co_place : Nat → Int32} {iC_size : Int32} {cC_age : Nat → Int32} {cC_skill : Nat → Int32} {cC_pals : Nat → Int32} {iL_cells : Int32} {x1 : Int32} {x2 : Int32} {res : (Nat → Int32) × (Nat → Int32) × (Nat → Int32)} (C : axC X l D Y cX9_buildOn 3 RX9 wsX9_buildOn rmX9_buildOn none) (hQ : axQ X 0 0 (fun r9 w9 => r9 = none ∧ w9 = [oX9 ao aL aC io_moats io_spades io_tides, rI Y (ao 1) 12 res.1, rI Y (ao 3) 8 res.2.1, rI Y (ao 4) 8 res.2.2, oX2 aC iC_size, rI Y (aC 1) 8 cC_age, rI Y (aC 2) 8 cC_skill, rI Y (aC 4) 8 cC_pals, oX5 aL iL_cells])) (hf : fX9_buildOn_b2 io_spades co_wall co_mood co_place iC_size cC_age cC_skill cC_pals iL_cells x1 x2 = some res) : ax X 0 0 2 [some (.ref (ao 0)), some (.int x1), some (.int x2)] [oX9 ao aL aC io_moats io_spades io_tides, rI Y (ao 1) 12 co_wall, rI Y (ao 3) 8 co_mood, rI Y (ao 4) 8 co_place, oX2 aC iC_size, rI Y (aC 1) 8 cC_age, rI Y (aC 2) 8 cC_skill, rI Y (aC 4) 8 cC_pals, oX5 aL iL_cells] [] := by
  unfold fX9_buildOn_b2 at hf
  exact fx_loop (P := fun s : (Nat → Int32) × (Nat → Int32) × (Nat → Int32) × Int32 => ax X 0 0 2 [some (.ref (ao 0)), some (.int x1), some (.int s.2.2.2)] [oX9 ao aL aC io_moats io_spades io_tides, rI Y (ao 1) 12 s.1, rI Y (ao 3) 8 s.2.1, rI Y (ao 4) 8 s.2.2.1, oX2 aC iC_size, rI Y (aC 1) 8 cC_age, rI Y (aC 2) 8 cC_skill, rI Y (aC 4) 8 cC_pals, oX5 aL iL_cells] []) (fun s k2 hk2 h => kX9_buildOn_l2 C hQ hk2 h) FUEL (co_wall, co_mood, co_place, x2) hf
def fX9_buildOn (io_spades : Int32) (co_wall : Nat → Int32) (co_mood : Nat → Int32) (co_place : Nat → Int32) (iC_size : Int32) (cC_age : Nat → Int32) (cC_skill : Nat → Int32) (cC_pals : Nat → Int32) (iL_cells : Int32) (x1 : Int32) : Option ((Nat → Int32) × (Nat → Int32) × (Nat → Int32)) :=
  fX9_buildOn_b2 io_spades co_wall co_mood co_place iC_size cC_age cC_skill cC_pals iL_cells x1 (0 : Int32)
set_option maxHeartbeats 400000 in
set_option maxRecDepth 100000 in
theorem kX9_buildOn (l : Launch) (D : va_G) (Y : Nat → ClassId) (ao aL aC : Nat → Nat) (io_moats : Int32) (io_spades : Int32) (io_tides : Int32) (co_wall : Nat → Int32) (co_mood : Nat → Int32) (co_place : Nat → Int32) (iC_size : Int32) (cC_age : Nat → Int32) (cC_skill : Nat → Int32) (cC_pals : Nat → Int32) (iL_cells : Int32) (x1 : Int32) (res : (Nat → Int32) × (Nat → Int32) × (Nat → Int32)) (hf : fX9_buildOn io_spades co_wall co_mood co_place iC_size cC_age cC_skill cC_pals iL_cells x1 = some res) : amf l D Y yX9_buildOn wsX9_buildOn rmX9_buildOn [.ref (ao 0), .int x1] [oX9 ao aL aC io_moats io_spades io_tides, rI Y (ao 1) 12 co_wall, rI Y (ao 3) 8 co_mood, rI Y (ao 4) 8 co_place, oX2 aC iC_size, rI Y (aC 1) 8 cC_age, rI Y (aC 2) 8 cC_skill, rI Y (aC 4) 8 cC_pals, oX5 aL iL_cells] none [oX9 ao aL aC io_moats io_spades io_tides, rI Y (ao 1) 12 res.1, rI Y (ao 3) 8 res.2.1, rI Y (ao 4) 8 res.2.2, oX2 aC iC_size, rI Y (aC 1) 8 cC_age, rI Y (aC 2) 8 cC_skill, rI Y (aC 4) 8 cC_pals, oX5 aL iL_cells] := by
  refine amf.of (cc := cX9_buildOn) (maxL := 3) (rt := none) (by decide) rfl RX9 rfl (Nat.le_of_ble_eq_true rfl) [some (.ref (ao 0)), some (.int x1), none] rfl ?_
  intro X C hQ
  unfold fX9_buildOn at hf
  refine a_iconst C (0 : Int32) dX9_buildOn_0 (by decide) ?_
  refine a_istore_n C dX9_buildOn_1 (by decide) rfl ?_
  exact kX9_buildOn_b2 C hQ hf
