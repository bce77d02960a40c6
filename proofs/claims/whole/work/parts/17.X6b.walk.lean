-- X7_find
abbrev rmX7_find : Room := { frames := 3, cells := 0, slots := 0, locals := 69 }
theorem dvX7_find : yX7_find.cls = RX7 ∧ yX7_find.cls ≠ "java/lang/invoke/MethodHandle" ∧ yX7_find.cls ≠ "java/lang/invoke/VarHandle" ∧ (parseMethodDescriptor yX7_find.desc).map (fun d => d.parameters.length) = some 4 := by decide +kernel
def fX7_find_b151 (io_chosen : Int32) (co_heights : Nat → Int32) (co_bare : Nat → Int32) (co_moated : Nat → Int32) (ip1_tides : Int32) (cp1_wall : Nat → Int32) (ip2_length : Int32) (cp2_codes : Nat → Int32) (cp2_stack : Nat → Int32) (iL_cells : Int32) (cL_base : Nat → Int32) (x5 : Int32) : Option (Int32 × Int32 × (Nat → Int32) × (Nat → Int32) × (Nat → Int32) × (Nat → Int32)) :=
  some (x5, io_chosen, co_heights, co_bare, co_moated, cp2_stack)
set_option maxHeartbeats 400000 in
set_option maxRecDepth 100000 in
theorem kX7_find_b151 {X : cxT} {l : Launch} {D : va_G} {Y : Nat → ClassId} {ao aL ap1 aC ap2 : Nat → Nat} {io_chosen : Int32} {co_heights : Nat → Int32} {co_bare : Nat → Int32} {co_moated : Nat → Int32} {ip1_moats : Int32} {ip1_spades : Int32} {ip1_tides : Int32} {cp1_wall : Nat → Int32} {ip2_length : Int32} {ip2_at : Int32} {ip2_sign : Int32} {ip2_bad : Int32} {cp2_codes : Nat → Int32} {cp2_stack : Nat → Int32} {iL_cells : Int32} {cL_base : Nat → Int32} {x5 : Int32} {res : Int32 × Int32 × (Nat → Int32) × (Nat → Int32) × (Nat → Int32) × (Nat → Int32)} (C : axC X l D Y cX7_find 8 RX7 wsX7_find rmX7_find (some .int)) (hQ : axQ X 0 0 (fun r9 w9 => r9 = (some (.int res.1)) ∧ w9 = [oX7 ao aL res.2.1, rI Y (ao 1) 8 res.2.2.1, rI Y (ao 2) 12 res.2.2.2.1, rI Y (ao 3) 12 res.2.2.2.2.1, oX9 ap1 aL aC ip1_moats ip1_spades ip1_tides, rI Y (ap1 1) 12 cp1_wall, oX6 ap2 ip2_length ip2_at ip2_sign ip2_bad, rI Y (ap2 1) 40 cp2_codes, rI Y (ap2 2) 40 res.2.2.2.2.2, oX5 aL iL_cells, rI Y (aL 1) 12 cL_base])) (hf : fX7_find_b151 io_chosen co_heights co_bare co_moated ip1_tides cp1_wall ip2_length cp2_codes cp2_stack iL_cells cL_base x5 = some res) : ax X 0 0 151 [none, none, none, none, none, some (.int x5), none, none] [oX7 ao aL io_chosen, rI Y (ao 1) 8 co_heights, rI Y (ao 2) 12 co_bare, rI Y (ao 3) 12 co_moated, oX9 ap1 aL aC ip1_moats ip1_spades ip1_tides, rI Y (ap1 1) 12 cp1_wall, oX6 ap2 ip2_length ip2_at ip2_sign ip2_bad, rI Y (ap2 1) 40 cp2_codes, rI Y (ap2 2) 40 cp2_stack, oX5 aL iL_cells, rI Y (aL 1) 12 cL_base] [] := by
  unfold fX7_find_b151 at hf
  refine a_iload C dX7_find_151 rfl ?_
  obtain rfl := fx_some hf
  exact a_iret C hQ dX7_find_153 ⟨rfl, rfl⟩
def fX7_find_b145 (io_chosen : Int32) (co_heights : Nat → Int32) (co_bare : Nat → Int32) (co_moated : Nat → Int32) (ip1_tides : Int32) (cp1_wall : Nat → Int32) (ip2_length : Int32) (cp2_codes : Nat → Int32) (cp2_stack : Nat → Int32) (iL_cells : Int32) (cL_base : Nat → Int32) (x4 : Int32) (x5 : Int32) (x6 : Int32) (k96 : Int32 × Int32 × Int32 → Option (Int32 × Int32 × (Nat → Int32) × (Nat → Int32) × (Nat → Int32) × (Nat → Int32))) : Option (Int32 × Int32 × (Nat → Int32) × (Nat → Int32) × (Nat → Int32) × (Nat → Int32)) :=
  k96 (io_chosen, x5, (x6 + (1 : Int32)))
set_option maxHeartbeats 400000 in
set_option maxRecDepth 100000 in
theorem kX7_find_b145 {X : cxT} {l : Launch} {D : va_G} {Y : Nat → ClassId} {ao aL ap1 aC ap2 : Nat → Nat} {io_chosen : Int32} {co_heights : Nat → Int32} {co_bare : Nat → Int32} {co_moated : Nat → Int32} {ip1_moats : Int32} {ip1_spades : Int32} {ip1_tides : Int32} {cp1_wall : Nat → Int32} {ip2_length : Int32} {ip2_at : Int32} {ip2_sign : Int32} {ip2_bad : Int32} {cp2_codes : Nat → Int32} {cp2_stack : Nat → Int32} {iL_cells : Int32} {cL_base : Nat → Int32} {x4 : Int32} {x5 : Int32} {x6 : Int32} {res : Int32 × Int32 × (Nat → Int32) × (Nat → Int32) × (Nat → Int32) × (Nat → Int32)} (C : axC X l D Y cX7_find 8 RX7 wsX7_find rmX7_find (some .int)) (hQ : axQ X 0 0 (fun r9 w9 => r9 = (some (.int res.1)) ∧ w9 = [oX7 ao aL res.2.1, rI Y (ao 1) 8 res.2.2.1, rI Y (ao 2) 12 res.2.2.2.1, rI Y (ao 3) 12 res.2.2.2.2.1, oX9 ap1 aL aC ip1_moats ip1_spades ip1_tides, rI Y (ap1 1) 12 cp1_wall, oX6 ap2 ip2_length ip2_at ip2_sign ip2_bad, rI Y (ap2 1) 40 cp2_codes, rI Y (ap2 2) 40 res.2.2.2.2.2, oX5 aL iL_cells, rI Y (aL 1) 12 cL_base])) {k96 : Int32 × Int32 × Int32 → Option (Int32 × Int32 × (Nat → Int32) × (Nat → Int32) × (Nat → Int32) × (Nat → Int32))} (hk96 : ∀ s : Int32 × Int32 × Int32, k96 s = some res → ax X 0 0 96 [some (.ref (ao 0)), none, none, none, some (.int x4), some (.int s.2.1), some (.int s.2.2), none] [oX7 ao aL s.1, rI Y (ao 1) 8 co_heights, rI Y (ao 2) 12 co_bare, rI Y (ao 3) 12 co_moated, oX9 ap1 aL aC ip1_moats ip1_spades ip1_tides, rI Y (ap1 1) 12 cp1_wall, oX6 ap2 ip2_length ip2_at ip2_sign ip2_bad, rI Y (ap2 1) 40 cp2_codes, rI Y (ap2 2) 40 cp2_stack, oX5 aL iL_cells, rI Y (aL 1) 12 cL_base] []) (hf : fX7_find_b145 io_chosen co_heights co_bare co_moated ip1_tides cp1_wall ip2_length cp2_codes cp2_stack iL_cells cL_base x4 x5 x6 k96 = some res) : ax X 0 0 145 [some (.ref (ao 0)), none, none, none, some (.int x4), some (.int x5), some (.int x6), none] [oX7 ao aL io_chosen, rI Y (ao 1) 8 co_heights, rI Y (ao 2) 12 co_bare, rI Y (ao 3) 12 co_moated, oX9 ap1 aL aC ip1_moats ip1_spades ip1_tides, rI Y (ap1 1) 12 cp1_wall, oX6 ap2 ip2_length ip2_at ip2_sign ip2_bad, rI Y (ap2 1) 40 cp2_codes, rI Y (ap2 2) 40 cp2_stack, oX5 aL iL_cells, rI Y (aL 1) 12 cL_base] [] := by
  unfold fX7_find_b145 at hf
  refine a_iinc C (1 : Int32) dX7_find_145 (by decide) rfl (by decide) rfl ?_
  refine a_goto C 96 dX7_find_148 (by decide) ?_
  exact hk96 (io_chosen, x5, (x6 + (1 : Int32))) hf
def fX7_find_l96 (co_heights : Nat → Int32) (co_bare : Nat → Int32) (co_moated : Nat → Int32) (ip1_tides : Int32) (cp1_wall : Nat → Int32) (ip2_length : Int32) (cp2_codes : Nat → Int32) (cp2_stack : Nat → Int32) (iL_cells : Int32) (cL_base : Nat → Int32) (x4 : Int32) (k96 : Int32 × Int32 × Int32 → Option (Int32 × Int32 × (Nat → Int32) × (Nat → Int32) × (Nat → Int32) × (Nat → Int32))) (io_chosen : Int32) (x5 : Int32) (x6 : Int32) : Option (Int32 × Int32 × (Nat → Int32) × (Nat → Int32) × (Nat → Int32) × (Nat → Int32)) :=
  if (jshl (1 : Int32) iL_cells) ≤ x6 then (fX7_find_b151 io_chosen co_heights co_bare co_moated ip1_tides cp1_wall ip2_length cp2_codes cp2_stack iL_cells cL_base x5) else ((fJ6_bitCount_0f7a4 x6).bind (fun r2 => if r2 = x4 then ((fX7_firstBreak co_bare co_moated iL_cells x6).bind (fun r4 => if r4 ≤ x5 then (fX7_find_b145 io_chosen co_heights co_bare co_moated ip1_tides cp1_wall ip2_length cp2_codes cp2_stack iL_cells cL_base x4 x5 x6 k96) else (fX7_find_b145 x6 co_heights co_bare co_moated ip1_tides cp1_wall ip2_length cp2_codes cp2_stack iL_cells cL_base x4 r4 x6 k96))) else (fX7_find_b145 io_chosen co_heights co_bare co_moated ip1_tides cp1_wall ip2_length cp2_codes cp2_stack iL_cells cL_base x4 x5 x6 k96)))
def fX7_find_b96 (io_chosen : Int32) (co_heights : Nat → Int32) (co_bare : Nat → Int32) (co_moated : Nat → Int32) (ip1_tides : Int32) (cp1_wall : Nat → Int32) (ip2_length : Int32) (cp2_codes : Nat → Int32) (cp2_stack : Nat → Int32) (iL_cells : Int32) (cL_base : Nat → Int32) (x4 : Int32) (x5 : Int32) (x6 : Int32) : Option (Int32 × Int32 × (Nat → Int32) × (Nat → Int32) × (Nat → Int32) × (Nat → Int32)) :=
  loopN (fun (s : Int32 × Int32 × Int32) k96 => fX7_find_l96 co_heights co_bare co_moated ip1_tides cp1_wall ip2_length cp2_codes cp2_stack iL_cells cL_base x4 k96 s.1 s.2.1 s.2.2) FUEL (io_chosen, x5, x6)
set_option maxHeartbeats 400000 in
set_option maxRecDepth 100000 in
theorem kX7_find_l96 {X : cxT} {l : Launch} {D : va_G} {Y : Nat → ClassId} {ao aL ap1 aC ap2 : Nat → Nat} {io_chosen : Int32} {co_heights : Nat → Int32} {co_bare : Nat → Int32} {co_moated : Nat → Int32} {ip1_moats : Int32} {ip1_spades : Int32} {ip1_tides : Int32} {cp1_wall : Nat → Int32} {ip2_length : Int32} {ip2_at : Int32} {ip2_sign : Int32} {ip2_bad : Int32} {cp2_codes : Nat → Int32} {cp2_stack : Nat → Int32} {iL_cells : Int32} {cL_base : Nat → Int32} {x4 : Int32} {x5 : Int32} {x6 : Int32} {res : Int32 × Int32 × (Nat → Int32) × (Nat → Int32) × (Nat → Int32) × (Nat → Int32)} (C : axC X l D Y cX7_find 8 RX7 wsX7_find rmX7_find (some .int)) (hQ : axQ X 0 0 (fun r9 w9 => r9 = (some (.int res.1)) ∧ w9 = [oX7 ao aL res.2.1, rI Y (ao 1) 8 res.2.2.1, rI Y (ao 2) 12 res.2.2.2.1, rI Y (ao 3) 12 res.2.2.2.2.1, oX9 ap1 aL aC ip1_moats ip1_spades ip1_tides, rI Y (ap1 1) 12 cp1_wall, oX6 ap2 ip2_length ip2_at ip2_sign ip2_bad, rI Y (ap2 1) 40 cp2_codes, rI Y (ap2 2) 40 res.2.2.2.2.2, oX5 aL iL_cells, rI Y (aL 1) 12 cL_base])) {k96 : Int32 × Int32 × Int32 → Option (Int32 × Int32 × (Nat → Int32) × (Nat → Int32) × (Nat → Int32) × (Nat → Int32))} (hk96 : ∀ s : Int32 × Int32 × Int32, k96 s = some res → ax X 0 0 96 [some (.ref (ao 0)), none, none, none, some (.int x4), some (.int s.2.1), some (.int s.2.2), none] [oX7 ao aL s.1, rI Y (ao 1) 8 co_heights, rI Y (ao 2) 12 co_bare, rI Y (ao 3) 12 co_moated, oX9 ap1 aL aC ip1_moats ip1_spades ip1_tides, rI Y (ap1 1) 12 cp1_wall, oX6 ap2 ip2_length ip2_at ip2_sign ip2_bad, rI Y (ap2 1) 40 cp2_codes, rI Y (ap2 2) 40 cp2_stack, oX5 aL iL_cells, rI Y (aL 1) 12 cL_base] []) (hf : fX7_find_l96 co_heights co_bare co_moated ip1_tides cp1_wall ip2_length cp2_codes cp2_stack iL_cells cL_base x4 k96 io_chosen x5 x6 = some res) : ax X 0 0 96 [some (.ref (ao 0)), none, none, none, some (.int x4), some (.int x5), some (.int x6), none] [oX7 ao aL io_chosen, rI Y (ao 1) 8 co_heights, rI Y (ao 2) 12 co_bare, rI Y (ao 3) 12 co_moated, oX9 ap1 aL aC ip1_moats ip1_spades ip1_tides, rI Y (ap1 1) 12 cp1_wall, oX6 ap2 ip2_length ip2_at ip2_sign ip2_bad, rI Y (ap2 1) 40 cp2_codes, rI Y (ap2 2) 40 cp2_stack, oX5 aL iL_cells, rI Y (aL 1) 12 cL_base] [] := by
  unfold fX7_find_l96 at hf
  refine a_iload C dX7_find_96 rfl ?_
  refine a_iconst C (1 : Int32) dX7_find_98 (by decide) ?_
  refine a_aload_n C dX7_find_99 rfl ?_
  refine a_get C (eB_X7_21 _) dX7_find_100 0 rfl rfl ?_
  refine a_get C (eB_X7_25 _) dX7_find_103 9 rfl rfl ?_
  refine a_ishl C dX7_find_106 ?_
  refine a_icmp_ge C 151 dX7_find_107 (by decide) (fun h1 => ?_) (fun h1 => ?_)
  · have hf := fx_t h1 hf
    refine a_kill [0, 4, 6] ?_
    exact kX7_find_b151 C hQ hf
  · have hf := fx_f h1 hf
    refine a_iload C dX7_find_110 rfl ?_
    obtain ⟨r2, h2, hf⟩ := fx_bind hf
    refine a_fS C (kJ6_bitCount_0f7a4 l D Y x6 r2 h2) (gB_X7_41 _) rfl dvJ6_bitCount_0f7a4 ⟨⟨rfl, rfl⟩, ⟨Nat.le_of_ble_eq_true rfl, Nat.le_of_ble_eq_true rfl⟩, ⟨Nat.le_of_ble_eq_true rfl, Nat.le_of_ble_eq_true rfl⟩⟩ rfl (Nat.le_of_ble_eq_true rfl) dX7_find_112 [] [0, 1, 2, 3, 4, 5, 6, 7, 8, 9, 10] trivial (by decide +kernel) rfl [oX7 ao aL io_chosen, rI Y (ao 1) 8 co_heights, rI Y (ao 2) 12 co_bare, rI Y (ao 3) 12 co_moated, oX9 ap1 aL aC ip1_moats ip1_spades ip1_tides, rI Y (ap1 1) 12 cp1_wall, oX6 ap2 ip2_length ip2_at ip2_sign ip2_bad, rI Y (ap2 1) 40 cp2_codes, rI Y (ap2 2) 40 cp2_stack, oX5 aL iL_cells, rI Y (aL 1) 12 cL_base] trivial ⟨rfl, rfl, rfl, rfl, rfl, rfl, rfl, rfl, rfl, rfl, rfl, trivial⟩ 11 rfl (by decide +kernel) ?_
    refine a_iload C dX7_find_115 rfl ?_
    refine a_icmp_ne C 145 dX7_find_117 (by decide) (fun h3 => ?_) (fun h3 => ?_)
    · have hf := fx_f h3 hf
      exact kX7_find_b145 C hQ hk96 hf
    · have hf := fx_t h3 hf
      refine a_aload_n C dX7_find_120 rfl ?_
      refine a_iload C dX7_find_121 rfl ?_
      obtain ⟨r4, h4, hf⟩ := fx_bind hf
      refine a_fV C (kX7_firstBreak l D Y ao aL io_chosen co_bare co_moated iL_cells x6 r4 h4) (gB_X7_47 _) rfl dvX7_firstBreak ⟨⟨rfl, rfl⟩, ⟨Nat.le_of_ble_eq_true rfl, Nat.le_of_ble_eq_true rfl⟩, ⟨Nat.le_of_ble_eq_true rfl, Nat.le_of_ble_eq_true rfl⟩⟩ rfl (Nat.le_of_ble_eq_true rfl) dX7_find_123 rfl rfl [0, 2, 3, 9] [1, 4, 5, 6, 7, 8, 10] ⟨rfl, rfl, rfl, rfl, trivial⟩ (by decide +kernel) rfl [oX7 ao aL io_chosen, rI Y (ao 1) 8 co_heights, rI Y (ao 2) 12 co_bare, rI Y (ao 3) 12 co_moated, oX9 ap1 aL aC ip1_moats ip1_spades ip1_tides, rI Y (ap1 1) 12 cp1_wall, oX6 ap2 ip2_length ip2_at ip2_sign ip2_bad, rI Y (ap2 1) 40 cp2_codes, rI Y (ap2 2) 40 cp2_stack, oX5 aL iL_cells, rI Y (aL 1) 12 cL_base] ⟨rfl, rfl, rfl, rfl, trivial⟩ ⟨rfl, rfl, rfl, rfl, rfl, rfl, rfl, trivial⟩ 11 rfl (by decide +kernel) ?_
      refine a_istore C dX7_find_126 (by decide) rfl ?_
      refine a_iload C dX7_find_128 rfl ?_
      refine a_iload C dX7_find_130 rfl ?_
      refine a_icmp_le C 145 dX7_find_132 (by decide) (fun h5 => ?_) (fun h5 => ?_)
      · have hf := fx_t h5 hf
        refine a_kill [7] ?_
        exact kX7_find_b145 C hQ hk96 hf
      · have hf := fx_f h5 hf
        refine a_iload C dX7_find_135 rfl ?_
        refine a_istore C dX7_find_137 (by decide) rfl ?_
        refine a_aload_n C dX7_find_139 rfl ?_
        refine a_iload C dX7_find_140 rfl ?_
        refine a_put C (eB_X7_50 _) tfX7_4 dX7_find_142 0 rfl rfl rfl (Nat.le_of_ble_eq_true rfl) ?_
        refine a_kill [7] ?_
        exact kX7_find_b145 C hQ hk96 hf
set_option maxHeartbeats 400000 in
set_option maxRecDepth 100000 in
theorem kX7_find_b96 {X : cxT} {l : Launch} {D : va_G} {Y : Nat → ClassId} {ao aL ap1 aC ap2 : Nat → Nat} {io_chosen : Int32} {co_heights : Nat → Int32} {co_bare : Nat → Int32} {co_moated : Nat → Int32} {ip1_moats : Int32} {ip1_spades : Int32} {ip1_tides : Int32} {cp1_wall : Nat → Int32} {ip2_length : Int32} {ip2_at : Int32} {ip2_sign : Int32} {ip2_bad : Int32} {cp2_codes : Nat → Int32} {cp2_stack : Nat → Int32} {iL_cells : Int32} {cL_base : Nat → Int32} {x4 : Int32} {x5 : Int32} {x6 : Int32} {res : Int32 × Int32 × (Nat → Int32) × (Nat → Int32) × (Nat → Int32) × (Nat → Int32)} (C : axC X l D Y cX7_find 8 RX7 wsX7_find rmX7_find (some .int)) (hQ : axQ X 0 0 (fun r9 w9 => r9 = (some (.int res.1)) ∧ w9 = [oX7 ao aL res.2.1, rI Y (ao 1) 8 res.2.2.1, rI Y (ao 2) 12 res.2.2.2.1, rI Y (ao 3) 12 res.2.2.2.2.1, oX9 ap1 aL aC ip1_moats ip1_spades ip1_tides, rI Y (ap1 1) 12 cp1_wall, oX6 ap2 ip2_length ip2_at ip2_sign ip2_bad, rI Y (ap2 1) 40 cp2_codes, rI Y (ap2 2) 40 res.2.2.2.2.2, oX5 aL iL_cells, rI Y (aL 1) 12 cL_base])) (hf : fX7_find_b96 io_chosen co_heights co_bare co_moated ip1_tides cp1_wall ip2_length cp2_codes cp2_stack iL_cells cL_base x4 x5 x6 = some res) : ax X 0 0 96 [some (.ref (ao 0)), none, none, none, some (.int x4), some (.int x5), some (.int x6), none] [oX7 ao aL io_chosen, rI Y (ao 1) 8 co_heights, rI Y (ao 2) 12 co_bare, rI Y (ao 3) 12 co_moated, oX9 ap1 aL aC ip1_moats ip1_spades ip1_tides, rI Y (ap1 1) 12 cp1_wall, oX6 ap2 ip2_length ip2_at ip2_sign ip2_bad, rI Y (ap2 1) 40 cp2_codes, rI Y (ap2 2) 40 cp2_stack, oX5 aL iL_cells, rI Y (aL 1) 12 cL_base] [] := by
  unfold fX7_find_b96 at hf
  exact fx_loop (P := fun s : Int32 × Int32 × Int32 => ax X 0 0 96 [some (.ref (ao 0)), none, none, none, some (.int x4), some (.int s.2.1), some (.int s.2.2), none] [oX7 ao aL s.1, rI Y (ao 1) 8 co_heights, rI Y (ao 2) 12 co_bare, rI Y (ao 3) 12 co_moated, oX9 ap1 aL aC ip1_moats ip1_spades ip1_tides, rI Y (ap1 1) 12 cp1_wall, oX6 ap2 ip2_length ip2_at ip2_sign ip2_bad, rI Y (ap2 1) 40 cp2_codes, rI Y (ap2 2) 40 cp2_stack, oX5 aL iL_cells, rI Y (aL 1) 12 cL_base] []) (fun s k96 hk96 h => kX7_find_l96 C hQ hk96 h) FUEL (io_chosen, x5, x6) hf
def fX7_find_b90 (io_chosen : Int32) (co_heights : Nat → Int32) (co_bare : Nat → Int32) (co_moated : Nat → Int32) (ip1_tides : Int32) (cp1_wall : Nat → Int32) (ip2_length : Int32) (cp2_codes : Nat → Int32) (cp2_stack : Nat → Int32) (iL_cells : Int32) (cL_base : Nat → Int32) (x4 : Int32) : Option (Int32 × Int32 × (Nat → Int32) × (Nat → Int32) × (Nat → Int32) × (Nat → Int32)) :=
  fX7_find_b96 io_chosen co_heights co_bare co_moated ip1_tides cp1_wall ip2_length cp2_codes cp2_stack iL_cells cL_base x4 (0 : Int32) (0 : Int32)
set_option maxHeartbeats 400000 in
set_option maxRecDepth 100000 in
theorem kX7_find_b90 {X : cxT} {l : Launch} {D : va_G} {Y : Nat → ClassId} {ao aL ap1 aC ap2 : Nat → Nat} {io_chosen : Int32} {co_heights : Nat → Int32} {co_bare : Nat → Int32} {co_moated : Nat → Int32} {ip1_moats : Int32} {ip1_spades : Int32} {ip1_tides : Int32} {cp1_wall : Nat → Int32} {ip2_length : Int32} {ip2_at : Int32} {ip2_sign : Int32} {ip2_bad : Int32} {cp2_codes : Nat → Int32} {cp2_stack : Nat → Int32} {iL_cells : Int32} {cL_base : Nat → Int32} {x4 : Int32} {res : Int32 × Int32 × (Nat → Int32) × (Nat → Int32) × (Nat → Int32) × (Nat → Int32)} (C : axC X l D Y cX7_find 8 RX7 wsX7_find rmX7_find (some .int)) (hQ : axQ X 0 0 (fun r9 w9 => r9 = (some (.int res.1)) ∧ w9 = [oX7 ao aL res.2.1, rI Y (ao 1) 8 res.2.2.1, rI Y (ao 2) 12 res.2.2.2.1, rI Y (ao 3) 12 res.2.2.2.2.1, oX9 ap1 aL aC ip1_moats ip1_spades ip1_tides, rI Y (ap1 1) 12 cp1_wall, oX6 ap2 ip2_length ip2_at ip2_sign ip2_bad, rI Y (ap2 1) 40 cp2_codes, rI Y (ap2 2) 40 res.2.2.2.2.2, oX5 aL iL_cells, rI Y (aL 1) 12 cL_base])) (hf : fX7_find_b90 io_chosen co_heights co_bare co_moated ip1_tides cp1_wall ip2_length cp2_codes cp2_stack iL_cells cL_base x4 = some res) : ax X 0 0 90 [some (.ref (ao 0)), none, none, none, some (.int x4), none, none, none] [oX7 ao aL io_chosen, rI Y (ao 1) 8 co_heights, rI Y (ao 2) 12 co_bare, rI Y (ao 3) 12 co_moated, oX9 ap1 aL aC ip1_moats ip1_spades ip1_tides, rI Y (ap1 1) 12 cp1_wall, oX6 ap2 ip2_length ip2_at ip2_sign ip2_bad, rI Y (ap2 1) 40 cp2_codes, rI Y (ap2 2) 40 cp2_stack, oX5 aL iL_cells, rI Y (aL 1) 12 cL_base] [] := by
  unfold fX7_find_b90 at hf
  refine a_iconst C (0 : Int32) dX7_find_90 (by decide) ?_
  refine a_istore C dX7_find_91 (by decide) rfl ?_
  refine a_iconst C (0 : Int32) dX7_find_93 (by decide) ?_
  refine a_istore C dX7_find_94 (by decide) rfl ?_
  exact kX7_find_b96 C hQ hf
def fX7_find_l42 (io_chosen : Int32) (co_heights : Nat → Int32) (ip1_tides : Int32) (cp1_wall : Nat → Int32) (ip2_length : Int32) (cp2_codes : Nat → Int32) (cp2_stack : Nat → Int32) (iL_cells : Int32) (cL_base : Nat → Int32) (x4 : Int32) (k42 : (Nat → Int32) × (Nat → Int32) × Int32 → Option (Int32 × Int32 × (Nat → Int32) × (Nat → Int32) × (Nat → Int32) × (Nat → Int32))) (co_bare : Nat → Int32) (co_moated : Nat → Int32) (x5 : Int32) : Option (Int32 × Int32 × (Nat → Int32) × (Nat → Int32) × (Nat → Int32) × (Nat → Int32)) :=
  if iL_cells ≤ x5 then (fX7_find_b90 io_chosen co_heights co_bare co_moated ip1_tides cp1_wall ip2_length cp2_codes cp2_stack iL_cells cL_base x4) else ((fX7_lasts co_heights ip1_tides cp1_wall cL_base x5 (0 : Int32)).bind (fun r7 => if inb x5 12 then (fX7_lasts co_heights ip1_tides cp1_wall cL_base x5 (1 : Int32)).bind (fun r9 => k42 ((upd co_bare (Int32.toNatClampNeg x5) r7), (upd co_moated (Int32.toNatClampNeg x5) r9), (x5 + (1 : Int32)))) else none))
def fX7_find_b42 (io_chosen : Int32) (co_heights : Nat → Int32) (co_bare : Nat → Int32) (co_moated : Nat → Int32) (ip1_tides : Int32) (cp1_wall : Nat → Int32) (ip2_length : Int32) (cp2_codes : Nat → Int32) (cp2_stack : Nat → Int32) (iL_cells : Int32) (cL_base : Nat → Int32) (x4 : Int32) (x5 : Int32) : Option (Int32 × Int32 × (Nat → Int32) × (Nat → Int32) × (Nat → Int32) × (Nat → Int32)) :=
  loopN (fun (s : (Nat → Int32) × (Nat → Int32) × Int32) k42 => fX7_find_l42 io_chosen co_heights ip1_tides cp1_wall ip2_length cp2_codes cp2_stack iL_cells cL_base x4 k42 s.1 s.2.1 s.2.2) FUEL (co_bare, co_moated, x5)
set_option maxHeartbeats 400000 in
set_option maxRecDepth 100000 in
theorem kX7_find_l42 {X : cxT} {l : Launch} {D : va_G} {Y : Nat → ClassId} {ao aL ap1 aC ap2 : Nat → Nat} {io_chosen : Int32} {co_heights : Nat → Int32} {co_bare : Nat → Int32} {co_moated : Nat → Int32} {ip1_moats : Int32} {ip1_spades : Int32} {ip1_tides : Int32} {cp1_wall : Nat → Int32} {ip2_length : Int32} {ip2_at : Int32} {ip2_sign : Int32} {ip2_bad : Int32} {cp2_codes : Nat → Int32} {cp2_stack : Nat → Int32} {iL_cells : Int32} {cL_base : Nat → Int32} {x4 : Int32} {x5 : Int32} {res : Int32 × Int32 × (Nat → Int32) × (Nat → Int32) × (Nat → Int32) × (Nat → Int32)} (C : axC X l D Y cX7_find 8 RX7 wsX7_find rmX7_find (some .int)) (hQ : axQ X 0 0 (fun r9 w9 => r9 = (some (.int res.1)) ∧ w9 = [oX7 ao aL res.2.1, rI Y (ao 1) 8 res.2.2.1, rI Y (ao 2) 12 res.2.2.2.1, rI Y (ao 3) 12 res.2.2.2.2.1, oX9 ap1 aL aC ip1_moats ip1_spades ip1_tides, rI Y (ap1 1) 12 cp1_wall, oX6 ap2 ip2_length ip2_at ip2_sign ip2_bad, rI Y (ap2 1) 40 cp2_codes, rI Y (ap2 2) 40 res.2.2.2.2.2, oX5 aL iL_cells, rI Y (aL 1) 12 cL_base])) {k42 : (Nat → Int32) × (Nat → Int32) × Int32 → Option (Int32 × Int32 × (Nat → Int32) × (Nat → Int32) × (Nat → Int32) × (Nat → Int32))} (hk42 : ∀ s : (Nat → Int32) × (Nat → Int32) × Int32, k42 s = some res → ax X 0 0 42 [some (.ref (ao 0)), some (.ref (ap1 0)), none, none, some (.int x4), some (.int s.2.2), none, none] [oX7 ao aL io_chosen, rI Y (ao 1) 8 co_heights, rI Y (ao 2) 12 s.1, rI Y (ao 3) 12 s.2.1, oX9 ap1 aL aC ip1_moats ip1_spades ip1_tides, rI Y (ap1 1) 12 cp1_wall, oX6 ap2 ip2_length ip2_at ip2_sign ip2_bad, rI Y (ap2 1) 40 cp2_codes, rI Y (ap2 2) 40 cp2_stack, oX5 aL iL_cells, rI Y (aL 1) 12 cL_base] []) (hf : fX7_find_l42 io_chosen co_heights ip1_tides cp1_wall ip2_length cp2_codes cp2_stack iL_cells cL_base x4 k42 co_bare co_moated x5 = some res) : ax X 0 0 42 [some (.ref (ao 0)), some (.ref (ap1 0)), none, none, some (.int x4), some (.int x5), none, none] [oX7 ao aL io_chosen, rI Y (ao 1) 8 co_heights, rI Y (ao 2) 12 co_bare, rI Y (ao 3) 12 co_moated, oX9 ap1 aL aC ip1_moats ip1_spades ip1_tides, rI Y (ap1 1) 12 cp1_wall, oX6 ap2 ip2_length ip2_at ip2_sign ip2_bad, rI Y (ap2 1) 40 cp2_codes, rI Y (ap2 2) 40 cp2_stack, oX5 aL iL_cells, rI Y (aL 1) 12 cL_base] [] := by
  unfold fX7_find_l42 at hf
  refine a_iload C dX7_find_42 rfl ?_
  refine a_aload_n C dX7_find_44 rfl ?_
  refine a_get C (eB_X7_21 _) dX7_find_45 0 rfl rfl ?_
  refine a_get C (eB_X7_25 _) dX7_find_48 9 rfl rfl ?_
  refine a_icmp_ge C 90 dX7_find_51 (by decide) (fun h6 => ?_) (fun h6 => ?_)
  · have hf := fx_t h6 hf
    refine a_kill [1, 5] ?_
    exact kX7_find_b90 C hQ hf
  · have hf := fx_f h6 hf
    refine a_aload_n C dX7_find_54 rfl ?_
    refine a_get C (eB_X7_15 _) dX7_find_55 0 rfl rfl ?_
    refine a_iload C dX7_find_58 rfl ?_
    refine a_aload_n C dX7_find_60 rfl ?_
    refine a_aload_n C dX7_find_61 rfl ?_
    refine a_iload C dX7_find_62 rfl ?_
    refine a_iconst C (0 : Int32) dX7_find_64 (by decide) ?_
    obtain ⟨r7, h7, hf⟩ := fx_bind hf
    refine a_fV C (kX7_lasts l D Y ao aL ap1 aC io_chosen co_heights ip1_moats ip1_spades ip1_tides cp1_wall iL_cells cL_base x5 (0 : Int32) r7 h7) (gB_X7_37 _) rfl dvX7_lasts ⟨⟨rfl, rfl⟩, ⟨Nat.le_of_ble_eq_true rfl, Nat.le_of_ble_eq_true rfl⟩, ⟨Nat.le_of_ble_eq_true rfl, Nat.le_of_ble_eq_true rfl⟩⟩ rfl (Nat.le_of_ble_eq_true rfl) dX7_find_65 rfl rfl [0, 1, 4, 5, 9, 10] [2, 3, 6, 7, 8] ⟨rfl, rfl, rfl, rfl, rfl, rfl, trivial⟩ (by decide +kernel) rfl [oX7 ao aL io_chosen, rI Y (ao 1) 8 co_heights, rI Y (ao 2) 12 co_bare, rI Y (ao 3) 12 co_moated, oX9 ap1 aL aC ip1_moats ip1_spades ip1_tides, rI Y (ap1 1) 12 cp1_wall, oX6 ap2 ip2_length ip2_at ip2_sign ip2_bad, rI Y (ap2 1) 40 cp2_codes, rI Y (ap2 2) 40 cp2_stack, oX5 aL iL_cells, rI Y (aL 1) 12 cL_base] ⟨rfl, rfl, rfl, rfl, rfl, rfl, trivial⟩ ⟨rfl, rfl, rfl, rfl, rfl, trivial⟩ 11 rfl (by decide +kernel) ?_
    obtain ⟨h8, hf⟩ := fx_ite hf
    refine a_iast C dX7_find_68 2 rfl h8 ?_
    refine a_aload_n C dX7_find_69 rfl ?_
    refine a_get C (eB_X7_18 _) dX7_find_70 0 rfl rfl ?_
    refine a_iload C dX7_find_73 rfl ?_
    refine a_aload_n C dX7_find_75 rfl ?_
    refine a_aload_n C dX7_find_76 rfl ?_
    refine a_iload C dX7_find_77 rfl ?_
    refine a_iconst C (1 : Int32) dX7_find_79 (by decide) ?_
    obtain ⟨r9, h9, hf⟩ := fx_bind hf
    refine a_fV C (kX7_lasts l D Y ao aL ap1 aC io_chosen co_heights ip1_moats ip1_spades ip1_tides cp1_wall iL_cells cL_base x5 (1 : Int32) r9 h9) (gB_X7_37 _) rfl dvX7_lasts ⟨⟨rfl, rfl⟩, ⟨Nat.le_of_ble_eq_true rfl, Nat.le_of_ble_eq_true rfl⟩, ⟨Nat.le_of_ble_eq_true rfl, Nat.le_of_ble_eq_true rfl⟩⟩ rfl (Nat.le_of_ble_eq_true rfl) dX7_find_80 rfl rfl [0, 1, 4, 5, 9, 10] [2, 3, 6, 7, 8] ⟨rfl, rfl, rfl, rfl, rfl, rfl, trivial⟩ (by decide +kernel) rfl [oX7 ao aL io_chosen, rI Y (ao 1) 8 co_heights, rI Y (ao 2) 12 (upd co_bare (Int32.toNatClampNeg x5) r7), rI Y (ao 3) 12 co_moated, oX9 ap1 aL aC ip1_moats ip1_spades ip1_tides, rI Y (ap1 1) 12 cp1_wall, oX6 ap2 ip2_length ip2_at ip2_sign ip2_bad, rI Y (ap2 1) 40 cp2_codes, rI Y (ap2 2) 40 cp2_stack, oX5 aL iL_cells, rI Y (aL 1) 12 cL_base] ⟨rfl, rfl, rfl, rfl, rfl, rfl, trivial⟩ ⟨rfl, rfl, rfl, rfl, rfl, trivial⟩ 11 rfl (by decide +kernel) ?_
    refine a_iast C dX7_find_83 3 rfl h8 ?_
    refine a_iinc C (1 : Int32) dX7_find_84 (by decide) rfl (by decide) rfl ?_
    refine a_goto C 42 dX7_find_87 (by decide) ?_
    exact hk42 ((upd co_bare (Int32.toNatClampNeg x5) r7), (upd co_moated (Int32.toNatClampNeg x5) r9), (x5 + (1 : Int32))) hf
set_option maxHeartbeats 400000 in
set_option maxRecDepth 100000 in
theorem kX7_find_b42 {X : cxT} {l : Launch} {D : va_G} {Y : Nat → ClassId} {ao aL ap1 aC ap2 : Nat → Nat} {io_chosen : Int32} {co_heights : Nat → Int32} {co_bare : Nat → Int32} {co_moated : Nat → Int32} {ip1_moats : Int32} {ip1_spades : Int32} {ip1_tides : Int32} {cp1_wall : Nat → Int32} {ip2_length : Int32} {ip2_at : Int32} {ip2_sign : Int32} {ip2_bad : Int32} {cp2_codes : Nat → Int32} {cp2_stack : Nat → Int32} {iL_cells : Int32} {cL_base : Nat → Int32} {x4 : Int32} {x5 : Int32} {res : Int32 × Int32 × (Nat → Int32) × (Nat → Int32) × (Nat → Int32) × (Nat → Int32)} (C : axC X l D Y cX7_find 8 RX7 wsX7_find rmX7_find (some .int)) (hQ : axQ X 0 0 (fun r9 w9 => r9 = (some (.int res.1)) ∧ w9 = [oX7 ao aL res.2.1, rI Y (ao 1) 8 res.2.2.1, rI Y (ao 2) 12 res.2.2.2.1, rI Y (ao 3) 12 res.2.2.2.2.1, oX9 ap1 aL aC ip1_moats ip1_spades ip1_tides, rI Y (ap1 1) 12 cp1_wall, oX6 ap2 ip2_length ip2_at ip2_sign ip2_bad, rI Y (ap2 1) 40 cp2_codes, rI Y (ap2 2) 40 res.2.2.2.2.2, oX5 aL iL_cells, rI Y (aL 1) 12 cL_base])) (hf : fX7_find_b42 io_chosen co_heights co_bare co_moated ip1_tides cp1_wall ip2_length cp2_codes cp2_stack iL_cells cL_base x4 x5 = some res) : ax X 0 0 42 [some (.ref (ao 0)), some (.ref (ap1 0)), none, none, some (.int x4), some (.int x5), none, none] [oX7 ao aL io_chosen, rI Y (ao 1) 8 co_heights, rI Y (ao 2) 12 co_bare, rI Y (ao 3) 12 co_moated, oX9 ap1 aL aC ip1_moats ip1_spades ip1_tides, rI Y (ap1 1) 12 cp1_wall, oX6 ap2 ip2_length ip2_at ip2_sign ip2_bad, rI Y (ap2 1) 40 cp2_codes, rI Y (ap2 2) 40 cp2_stack, oX5 aL iL_cells, rI Y (aL 1) 12 cL_base] [] := by
  unfold fX7_find_b42 at hf
  exact fx_loop (P := fun s : (Nat → Int32) × (Nat → Int32) × Int32 => ax X 0 0 42 [some (.ref (ao 0)), some (.ref (ap1 0)), none, none, some (.int x4), some (.int s.2.2), none, none] [oX7 ao aL io_chosen, rI Y (ao 1) 8 co_heights, rI Y (ao 2) 12 s.1, rI Y (ao 3) 12 s.2.1, oX9 ap1 aL aC ip1_moats ip1_spades ip1_tides, rI Y (ap1 1) 12 cp1_wall, oX6 ap2 ip2_length ip2_at ip2_sign ip2_bad, rI Y (ap2 1) 40 cp2_codes, rI Y (ap2 2) 40 cp2_stack, oX5 aL iL_cells, rI Y (aL 1) 12 cL_base] []) (fun s k42 hk42 h => kX7_find_l42 C hQ hk42 h) FUEL (co_bare, co_moated, x5) hf
def fX7_find_b39 (io_chosen : Int32) (co_heights : Nat → Int32) (co_bare : Nat → Int32) (co_moated : Nat → Int32) (ip1_tides : Int32) (cp1_wall : Nat → Int32) (ip2_length : Int32) (cp2_codes : Nat → Int32) (cp2_stack : Nat → Int32) (iL_cells : Int32) (cL_base : Nat → Int32) (x4 : Int32) : Option (Int32 × Int32 × (Nat → Int32) × (Nat → Int32) × (Nat → Int32) × (Nat → Int32)) :=
  fX7_find_b42 io_chosen co_heights co_bare co_moated ip1_tides cp1_wall ip2_length cp2_codes cp2_stack iL_cells cL_base x4 (0 : Int32)
set_option maxHeartbeats 400000 in
set_option maxRecDepth 100000 in
theorem kX7_find_b39 {X : cxT} {l : Launch} {D : va_G} {Y : Nat → ClassId} {ao aL ap1 aC ap2 : Nat → Nat} {io_chosen : Int32} {co_heights : Nat → Int32} {co_bare : Nat → Int32} {co_moated : Nat → Int32} {ip1_moats : Int32} {ip1_spades : Int32} {ip1_tides : Int32} {cp1_wall : Nat → Int32} {ip2_length : Int32} {ip2_at : Int32} {ip2_sign : Int32} {ip2_bad : Int32} {cp2_codes : Nat → Int32} {cp2_stack : Nat → Int32} {iL_cells : Int32} {cL_base : Nat → Int32} {x4 : Int32} {res : Int32 × Int32 × (Nat → Int32) × (Nat → Int32) × (Nat → Int32) × (Nat → Int32)} (C : axC X l D Y cX7_find 8 RX7 wsX7_find rmX7_find (some .int)) (hQ : axQ X 0 0 (fun r9 w9 => r9 = (some (.int res.1)) ∧ w9 = [oX7 ao aL res.2.1, rI Y (ao 1) 8 res.2.2.1, rI Y (ao 2) 12 res.2.2.2.1, rI Y (ao 3) 12 res.2.2.2.2.1, oX9 ap1 aL aC ip1_moats ip1_spades ip1_tides, rI Y (ap1 1) 12 cp1_wall, oX6 ap2 ip2_length ip2_at ip2_sign ip2_bad, rI Y (ap2 1) 40 cp2_codes, rI Y (ap2 2) 40 res.2.2.2.2.2, oX5 aL iL_cells, rI Y (aL 1) 12 cL_base])) (hf : fX7_find_b39 io_chosen co_heights co_bare co_moated ip1_tides cp1_wall ip2_length cp2_codes cp2_stack iL_cells cL_base x4 = some res) : ax X 0 0 39 [some (.ref (ao 0)), some (.ref (ap1 0)), none, none, some (.int x4), none, none, none] [oX7 ao aL io_chosen, rI Y (ao 1) 8 co_heights, rI Y (ao 2) 12 co_bare, rI Y (ao 3) 12 co_moated, oX9 ap1 aL aC ip1_moats ip1_spades ip1_tides, rI Y (ap1 1) 12 cp1_wall, oX6 ap2 ip2_length ip2_at ip2_sign ip2_bad, rI Y (ap2 1) 40 cp2_codes, rI Y (ap2 2) 40 cp2_stack, oX5 aL iL_cells, rI Y (aL 1) 12 cL_base] [] := by
  unfold fX7_find_b39 at hf
  refine a_iconst C (0 : Int32) dX7_find_39 (by decide) ?_
  refine a_istore C dX7_find_40 (by decide) rfl ?_
  exact kX7_find_b42 C hQ hf
def fX7_find_l3 (io_chosen : Int32) (co_bare : Nat → Int32) (co_moated : Nat → Int32) (ip1_tides : Int32) (cp1_wall : Nat → Int32) (ip2_length : Int32) (cp2_codes : Nat → Int32) (iL_cells : Int32) (cL_base : Nat → Int32) (x3 : Int32) (x4 : Int32) (k3 : (Nat → Int32) × (Nat → Int32) × Int32 → Option (Int32 × Int32 × (Nat → Int32) × (Nat → Int32) × (Nat → Int32) × (Nat → Int32))) (co_heights : Nat → Int32) (cp2_stack : Nat → Int32) (x5 : Int32) : Option (Int32 × Int32 × (Nat → Int32) × (Nat → Int32) × (Nat → Int32) × (Nat → Int32)) :=
  if (8 : Int32) ≤ x5 then (fX7_find_b39 io_chosen co_heights co_bare co_moated ip1_tides cp1_wall ip2_length cp2_codes cp2_stack iL_cells cL_base x4) else ((fX6_value ip2_length cp2_codes cp2_stack x5 x3 iL_cells x4).bind (fun r11 => if inb x5 8 then k3 ((upd co_heights (Int32.toNatClampNeg x5) r11.1), r11.2, (x5 + (1 : Int32))) else none))
def fX7_find_b3 (io_chosen : Int32) (co_heights : Nat → Int32) (co_bare : Nat → Int32) (co_moated : Nat → Int32) (ip1_tides : Int32) (cp1_wall : Nat → Int32) (ip2_length : Int32) (cp2_codes : Nat → Int32) (cp2_stack : Nat → Int32) (iL_cells : Int32) (cL_base : Nat → Int32) (x3 : Int32) (x4 : Int32) (x5 : Int32) : Option (Int32 × Int32 × (Nat → Int32) × (Nat → Int32) × (Nat → Int32) × (Nat → Int32)) :=
  loopN (fun (s : (Nat → Int32) × (Nat → Int32) × Int32) k3 => fX7_find_l3 io_chosen co_bare co_moated ip1_tides cp1_wall ip2_length cp2_codes iL_cells cL_base x3 x4 k3 s.1 s.2.1 s.2.2) FUEL (co_heights, cp2_stack, x5)
set_option maxHeartbeats 400000 in
set_option maxRecDepth 100000 in
theorem kX7_find_l3 {X : cxT} {l : Launch} {D : va_G} {Y : Nat → ClassId} {ao aL ap1 aC ap2 : Nat → Nat} {io_chosen : Int32} {co_heights : Nat → Int32} {co_bare : Nat → Int32} {co_moated : Nat → Int32} {ip1_moats : Int32} {ip1_spades : Int32} {ip1_tides : Int32} {cp1_wall : Nat → Int32} {ip2_length : Int32} {ip2_at : Int32} {ip2_sign : Int32} {ip2_bad : Int32} {cp2_codes : Nat → Int32} {cp2_stack : Nat → Int32} {iL_cells : Int32} {cL_base : Nat → Int32} {x3 : Int32} {x4 : Int32} {x5 : Int32} {res : Int32 × Int32 × (Nat → Int32) × (Nat → Int32) × (Nat → Int32) × (Nat → Int32)} (C : axC X l D Y cX7_find 8 RX7 wsX7_find rmX7_find (some .int)) (hQ : axQ X 0 0 (fun r9 w9 => r9 = (some (.int res.1)) ∧ w9 = [oX7 ao aL res.2.1, rI Y (ao 1) 8 res.2.2.1, rI Y (ao 2) 12 res.2.2.2.1, rI Y (ao 3) 12 res.2.2.2.2.1, oX9 ap1 aL aC ip1_moats ip1_spades ip1_tides, rI Y (ap1 1) 12 cp1_wall, oX6 ap2 ip2_length ip2_at ip2_sign ip2_bad, rI Y (ap2 1) 40 cp2_codes, rI Y (ap2 2) 40 res.2.2.2.2.2, oX5 aL iL_cells, rI Y (aL 1) 12 cL_base])) {k3 : (Nat → Int32) × (Nat → Int32) × Int32 → Option (Int32 × Int32 × (Nat → Int32) × (Nat → Int32) × (Nat → Int32) × (Nat → Int32))} (hk3 : ∀ s : (Nat → Int32) × (Nat → Int32) × Int32, k3 s = some res → ax X 0 0 3 [some (.ref (ao 0)), some (.ref (ap1 0)), some (.ref (ap2 0)), some (.int x3), some (.int x4), some (.int s.2.2), none, none] [oX7 ao aL io_chosen, rI Y (ao 1) 8 s.1, rI Y (ao 2) 12 co_bare, rI Y (ao 3) 12 co_moated, oX9 ap1 aL aC ip1_moats ip1_spades ip1_tides, rI Y (ap1 1) 12 cp1_wall, oX6 ap2 ip2_length ip2_at ip2_sign ip2_bad, rI Y (ap2 1) 40 cp2_codes, rI Y (ap2 2) 40 s.2.1, oX5 aL iL_cells, rI Y (aL 1) 12 cL_base] []) (hf : fX7_find_l3 io_chosen co_bare co_moated ip1_tides cp1_wall ip2_length cp2_codes iL_cells cL_base x3 x4 k3 co_heights cp2_stack x5 = some res) : ax X 0 0 3 [some (.ref (ao 0)), some (.ref (ap1 0)), some (.ref (ap2 0)), some (.int x3), some (.int x4), some (.int x5), none, none] [oX7 ao aL io_chosen, rI Y (ao 1) 8 co_heights, rI Y (ao 2) 12 co_bare, rI Y (ao 3) 12 co_moated, oX9 ap1 aL aC ip1_moats ip1_spades ip1_tides, rI Y (ap1 1) 12 cp1_wall, oX6 ap2 ip2_length ip2_at ip2_sign ip2_bad, rI Y (ap2 1) 40 cp2_codes, rI Y (ap2 2) 40 cp2_stack, oX5 aL iL_cells, rI Y (aL 1) 12 cL_base] [] := by
  unfold fX7_find_l3 at hf
  refine a_iload C dX7_find_3 rfl ?_
  refine a_bipush C (8 : Int32) dX7_find_5 (by decide) ?_
  refine a_icmp_ge C 39 dX7_find_7 (by decide) (fun h10 => ?_) (fun h10 => ?_)
  · have hf := fx_t h10 hf
    refine a_kill [2, 3, 5] ?_
    exact kX7_find_b39 C hQ hf
  · have hf := fx_f h10 hf
    refine a_aload_n C dX7_find_10 rfl ?_
    refine a_get C (eB_X7_9 _) dX7_find_11 0 rfl rfl ?_
    refine a_iload C dX7_find_14 rfl ?_
    refine a_aload_n C dX7_find_16 rfl ?_
    refine a_iload C dX7_find_17 rfl ?_
    refine a_iload_n C dX7_find_19 rfl ?_
    refine a_aload_n C dX7_find_20 rfl ?_
    refine a_get C (eB_X7_21 _) dX7_find_21 0 rfl rfl ?_
    refine a_get C (eB_X7_25 _) dX7_find_24 9 rfl rfl ?_
    refine a_iload C dX7_find_27 rfl ?_
    obtain ⟨r11, h11, hf⟩ := fx_bind hf
    refine a_fV C (kX6_value l D Y ap2 ip2_length ip2_at ip2_sign ip2_bad cp2_codes cp2_stack x5 x3 iL_cells x4 r11 h11) (gB_X7_31 _) rfl dvX6_value ⟨⟨rfl, rfl⟩, ⟨Nat.le_of_ble_eq_true rfl, Nat.le_of_ble_eq_true rfl⟩, ⟨Nat.le_of_ble_eq_true rfl, Nat.le_of_ble_eq_true rfl⟩⟩ rfl (Nat.le_of_ble_eq_true rfl) dX7_find_29 rfl rfl [6, 7, 8] [0, 1, 2, 3, 4, 5, 9, 10] ⟨rfl, rfl, rfl, trivial⟩ (by decide +kernel) rfl [oX7 ao aL io_chosen, rI Y (ao 1) 8 co_heights, rI Y (ao 2) 12 co_bare, rI Y (ao 3) 12 co_moated, oX9 ap1 aL aC ip1_moats ip1_spades ip1_tides, rI Y (ap1 1) 12 cp1_wall, oX6 ap2 ip2_length ip2_at ip2_sign ip2_bad, rI Y (ap2 1) 40 cp2_codes, rI Y (ap2 2) 40 r11.2, oX5 aL iL_cells, rI Y (aL 1) 12 cL_base] ⟨rfl, rfl, rfl, trivial⟩ ⟨rfl, rfl, rfl, rfl, rfl, rfl, rfl, rfl, trivial⟩ 11 rfl (by decide +kernel) ?_
    obtain ⟨h12, hf⟩ := fx_ite hf
    refine a_iast C dX7_find_32 1 rfl h12 ?_
    refine a_iinc C (1 : Int32) dX7_find_33 (by decide) rfl (by decide) rfl ?_
    refine a_goto C 3 dX7_find_36 (by decide) ?_
    exact hk3 ((upd co_heights (Int32.toNatClampNeg x5) r11.1), r11.2, (x5 + (1 : Int32))) hf
set_option maxHeartbeats 400000 in
set_option maxRecDepth 100000 in
theorem kX7_find_b3 {X : cxT} {l : Launch} {D : va_G} {Y : Nat → ClassId} {ao aL ap1 aC ap2 : Nat → Nat} {io_chosen : Int32} {co_heights : Nat → Int32} {co_bare : Nat → Int32} {co_moated : Nat → Int32} {ip1_moats : Int32} {ip1_spades : Int32} {ip1_tides : Int32} {cp1_wall : Nat → Int32} {ip2_length : Int32} {ip2_at : Int32} {ip2_sign : Int32} {ip2_bad : Int32} {cp2_codes : Nat → Int32} {cp2_stack : Nat → Int32} {iL_cells : Int32} {cL_base : Nat → Int32} {x3 : Int32} {x4 : Int32} {x5 : Int32} {res : Int32 × Int32 × (Nat → Int32) × (Nat → Int32) × (Nat → Int32) × (Nat → Int32)} (C : axC X l D Y cX7_find 8 RX7 wsX7_find rmX7_find (some .int)) (hQ : axQ X 0 0 (fun r9 w9 => r9 = (some (.int res.1)) ∧ w9 = [oX7 ao aL res.2.1, rI Y (ao 1) 8 res.2.2.1, rI Y (ao 2) 12 res.2.2.2.1, rI Y (ao 3) 12 res.2.2.2.2.1, oX9 ap1 aL aC ip1_moats ip1_spades ip1_tides, rI Y (ap1 1) 12 cp1_wall, oX6 ap2 ip2_length ip2_at ip2_sign ip2_bad, rI Y (ap2 1) 40 cp2_codes, rI Y (ap2 2) 40 res.2.2.2.2.2, oX5 aL iL_cells, rI Y (aL 1) 12 cL_base])) (hf : fX7_find_b3 io_chosen co_heights co_bare co_moated ip1_tides cp1_wall ip2_length cp2_codes cp2_stack iL_cells cL_base x3 x4 x5 = some res) : ax X 0 0 3 [some (.ref (ao 0)), some (.ref (ap1 0)), some (.ref (ap2 0)), some (.int x3), some (.int x4), some (.int x5), none, none] [oX7 ao aL io_chosen, rI Y (ao 1) 8 co_heights, rI Y (ao 2) 12 co_bare, rI Y (ao 3) 12 co_moated, oX9 ap1 aL aC ip1_moats ip1_spades ip1_tides, rI Y (ap1 1) 12 cp1_wall, oX6 ap2 ip2_length ip2_at ip2_sign ip2_bad, rI Y (ap2 1) 40 cp2_codes, rI Y (ap2 2) 40 cp2_stack, oX5 aL iL_cells, rI Y (aL 1) 12 cL_base] [] := by
  unfold fX7_find_b3 at hf
  exact fx_loop (P := fun s : (Nat → Int32) × (Nat → Int32) × Int32 => ax X 0 0 3 [some (.ref (ao 0)), some (.ref (ap1 0)), some (.ref (ap2 0)), some (.int x3), some (.int x4), some (.int s.2.2), none, none] [oX7 ao aL io_chosen, rI Y (ao 1) 8 s.1, rI Y (ao 2) 12 co_bare, rI Y (ao 3) 12 co_moated, oX9 ap1 aL aC ip1_moats ip1_spades ip1_tides, rI Y (ap1 1) 12 cp1_wall, oX6 ap2 ip2_length ip2_at ip2_sign ip2_bad, rI Y (ap2 1) 40 cp2_codes, rI Y (ap2 2) 40 s.2.1, oX5 aL iL_cells, rI Y (aL 1) 12 cL_base] []) (fun s k3 hk3 h => kX7_find_l3 C hQ hk3 h) FUEL (co_heights, cp2_stack, x5) hf
def fX7_find (io_chosen : Int32) (co_heights : Nat → Int32) (co_bare : Nat → Int32) (co_moated : Nat → Int32) (ip1_tides : Int32) (cp1_wall : Nat → Int32) (ip2_length : Int32) (cp2_codes : Nat → Int32) (cp2_stack : Nat → Int32) (iL_cells : Int32) (cL_base : Nat → Int32) (x3 : Int32) (x4 : Int32) : Option (Int32 × Int32 × (Nat → Int32) × (Nat → Int32) × (Nat → Int32) × (Nat → Int32)) :=
  fX7_find_b3 io_chosen co_heights co_bare co_moated ip1_tides cp1_wall ip2_length cp2_codes cp2_stack iL_cells cL_base x3 x4 (0 : Int32)
set_option maxHeartbeats 400000 in
set_option maxRecDepth 100000 in
theorem kX7_find (l : Launch) (D : va_G) (Y : Nat → ClassId) (ao aL ap1 aC ap2 : Nat → Nat) (io_chosen : Int32) (co_heights : Nat → Int32) (co_bare : Nat → Int32) (co_moated : Nat → Int32) (ip1_moats : Int32) (ip1_spades : Int32) (ip1_tides : Int32) (cp1_wall : Nat → Int32) (ip2_length : Int32) (ip2_at : Int32) (ip2_sign : Int32) (ip2_bad : Int32) (cp2_codes : Nat → Int32) (cp2_stack : Nat → Int32) (iL_cells : Int32) (cL_base : Nat → Int32) (x3 : Int32) (x4 : Int32) (res : Int32 × Int32 × (Nat → Int32) × (Nat → Int32) × (Nat → Int32) × (Nat → Int32)) (hf : fX7_find io_chosen co_heights co_bare co_moated ip1_tides cp1_wall ip2_length cp2_codes cp2_stack iL_cells cL_base x3 x4 = some res) : amf l D Y yX7_find wsX7_find rmX7_find [.ref (ao 0), .ref (ap1 0), .ref (ap2 0), .int x3, .int x4] [oX7 ao aL io_chosen, rI Y (ao 1) 8 co_heights, rI Y (ao 2) 12 co_bare, rI Y (ao 3) 12 co_moated, oX9 ap1 aL aC ip1_moats ip1_spades ip1_tides, rI Y (ap1 1) 12 cp1_wall, oX6 ap2 ip2_length ip2_at ip2_sign ip2_bad, rI Y (ap2 1) 40 cp2_codes, rI Y (ap2 2) 40 cp2_stack, oX5 aL iL_cells, rI Y (aL 1) 12 cL_base] (some (.int res.1)) [oX7 ao aL res.2.1, rI Y (ao 1) 8 res.2.2.1, rI Y (ao 2) 12 res.2.2.2.1, rI Y (ao 3) 12 res.2.2.2.2.1, oX9 ap1 aL aC ip1_moats ip1_spades ip1_tides, rI Y (ap1 1) 12 cp1_wall, oX6 ap2 ip2_length ip2_at ip2_sign ip2_bad, rI Y (ap2 1) 40 cp2_codes, rI Y (ap2 2) 40 res.2.2.2.2.2, oX5 aL iL_cells, rI Y (aL 1) 12 cL_base] := by
  refine amf.of (cc := cX7_find) (maxL := 8) (rt := (some .int)) (by decide) rfl RX7 rfl (Nat.le_of_ble_eq_true rfl) [some (.ref (ao 0)), some (.ref (ap1 0)), some (.ref (ap2 0)), some (.int x3), some (.int x4), none, none, none] rfl ?_
  intro X C hQ
  unfold fX7_find at hf
  refine a_iconst C (0 : Int32) dX7_find_0 (by decide) ?_
  refine a_istore C dX7_find_1 (by decide) rfl ?_
  exact kX7_find_b3 C hQ hf
-- X6_readThing
theorem dvX6_readThing : yX6_readThing.cls = RX6 ∧ yX6_readThing.cls ≠ "java/lang/invoke/MethodHandle" ∧ yX6_readThing.cls ≠ "java/lang/invoke/VarHandle" ∧ (parseMethodDescriptor yX6_readThing.desc).map (fun d => d.parameters.length) = some 2 := by decide +kernel
theorem dvX6_readProduct : yX6_readProduct.cls = RX6 ∧ yX6_readProduct.cls ≠ "java/lang/invoke/MethodHandle" ∧ yX6_readProduct.cls ≠ "java/lang/invoke/VarHandle" ∧ (parseMethodDescriptor yX6_readProduct.desc).map (fun d => d.parameters.length) = some 2 := by decide +kernel
theorem dvX6_readSum : yX6_readSum.cls = RX6 ∧ yX6_readSum.cls ≠ "java/lang/invoke/MethodHandle" ∧ yX6_readSum.cls ≠ "java/lang/invoke/VarHandle" ∧ (parseMethodDescriptor yX6_readSum.desc).map (fun d => d.parameters.length) = some 2 := by decide +kernel
theorem dvX6_readComparison : yX6_readComparison.cls = RX6 ∧ yX6_readComparison.cls ≠ "java/lang/invoke/MethodHandle" ∧ yX6_readComparison.cls ≠ "java/lang/invoke/VarHandle" ∧ (parseMethodDescriptor yX6_readComparison.desc).map (fun d => d.parameters.length) = some 2 := by decide +kernel
def HX6_readComparison (l : Launch) (D : va_G) (Y : Nat → ClassId) (rm : Room) (fn : Int32 → Int32 → Int32 → Int32 → (Nat → Int32) → Int32 → (Nat → Int32) → Int32 → Option (Int32 × Int32 × Int32 × Int32 × (Nat → Int32))) : Prop := ∀ (ao ap1 : Nat → Nat) (io_length : Int32) (io_at : Int32) (io_sign : Int32) (io_bad : Int32) (co_codes : Nat → Int32) (ip1_length : Int32) (cp1_signs : Nat → Int32) (x2 : Int32) (res : Int32 × Int32 × Int32 × Int32 × (Nat → Int32)), fn io_length io_at io_sign io_bad co_codes ip1_length cp1_signs x2 = some res → amf l D Y yX6_readComparison wsX6_readComparison rm [.ref (ao 0), .ref (ap1 0), .int x2] [oX6 ao io_length io_at io_sign io_bad, rI Y (ao 1) 40 co_codes, oX10 ap1 ip1_length, rC Y (ap1 1) 80 cp1_signs] none [oX6 ao res.1 res.2.1 res.2.2.1 res.2.2.2.1, rI Y (ao 1) 40 res.2.2.2.2, oX10 ap1 ip1_length, rC Y (ap1 1) 80 cp1_signs]
abbrev rmX6_readThing (f9 l9 : Nat) : Room := { frames := f9 + 3, cells := 0, slots := 0, locals := l9 + 66 }
def fX6_readThing_b156 (rec_X6_readComparison : Int32 → Int32 → Int32 → Int32 → (Nat → Int32) → Int32 → (Nat → Int32) → Int32 → Option (Int32 × Int32 × Int32 × Int32 × (Nat → Int32))) (io_length : Int32) (io_at : Int32) (io_sign : Int32) (io_bad : Int32) (co_codes : Nat → Int32) (ip1_length : Int32) (cp1_signs : Nat → Int32) : Option (Int32 × Int32 × Int32 × Int32 × (Nat → Int32)) :=
  some (io_length, io_at, io_sign, io_bad, co_codes)
set_option maxHeartbeats 400000 in
set_option maxRecDepth 100000 in
theorem kX6_readThing_b156 {X : cxT} {l : Launch} {D : va_G} {Y : Nat → ClassId} {ao ap1 : Nat → Nat} {io_length : Int32} {io_at : Int32} {io_sign : Int32} {io_bad : Int32} {co_codes : Nat → Int32} {ip1_length : Int32} {cp1_signs : Nat → Int32} {res : Int32 × Int32 × Int32 × Int32 × (Nat → Int32)} {f9 l9 : Nat} {rec_X6_readComparison : Int32 → Int32 → Int32 → Int32 → (Nat → Int32) → Int32 → (Nat → Int32) → Int32 → Option (Int32 × Int32 × Int32 × Int32 × (Nat → Int32))} (hrec_X6_readComparison : HX6_readComparison l D Y { frames := f9, cells := 0, slots := 0, locals := l9 } rec_X6_readComparison) (C : axC X l D Y cX6_readThing 5 RX6 wsX6_readThing (rmX6_readThing f9 l9) none) (hQ : axQ X 0 0 (fun r9 w9 => r9 = none ∧ w9 = [oX6 ao res.1 res.2.1 res.2.2.1 res.2.2.2.1, rI Y (ao 1) 40 res.2.2.2.2, oX10 ap1 ip1_length, rC Y (ap1 1) 80 cp1_signs])) (hf : fX6_readThing_b156 rec_X6_readComparison io_length io_at io_sign io_bad co_codes ip1_length cp1_signs = some res) : ax X 0 0 156 [none, none, none, none, none] [oX6 ao io_length io_at io_sign io_bad, rI Y (ao 1) 40 co_codes, oX10 ap1 ip1_length, rC Y (ap1 1) 80 cp1_signs] [] := by
  unfold fX6_readThing_b156 at hf
  obtain rfl := fx_some hf
  exact a_vret C hQ dX6_readThing_156 ⟨rfl, rfl⟩
def fX6_readThing_b146 (rec_X6_readComparison : Int32 → Int32 → Int32 → Int32 → (Nat → Int32) → Int32 → (Nat → Int32) → Int32 → Option (Int32 × Int32 × Int32 × Int32 × (Nat → Int32))) (io_length : Int32) (io_at : Int32) (io_sign : Int32) (io_bad : Int32) (co_codes : Nat → Int32) (ip1_length : Int32) (cp1_signs : Nat → Int32) (x3 : Int32) : Option (Int32 × Int32 × Int32 × Int32 × (Nat → Int32)) :=
  if x3 = (0 : Int32) then (fX6_readThing_b156 rec_X6_readComparison io_length io_at io_sign io_bad co_codes ip1_length cp1_signs) else ((fX6_put io_length co_codes (-8 : Int32)).bind (fun r2 => fX6_readThing_b156 rec_X6_readComparison r2.1 io_at io_sign io_bad r2.2 ip1_length cp1_signs))
set_option maxHeartbeats 400000 in
set_option maxRecDepth 100000 in
theorem kX6_readThing_b146 {X : cxT} {l : Launch} {D : va_G} {Y : Nat → ClassId} {ao ap1 : Nat → Nat} {io_length : Int32} {io_at : Int32} {io_sign : Int32} {io_bad : Int32} {co_codes : Nat → Int32} {ip1_length : Int32} {cp1_signs : Nat → Int32} {x3 : Int32} {res : Int32 × Int32 × Int32 × Int32 × (Nat → Int32)} {f9 l9 : Nat} {rec_X6_readComparison : Int32 → Int32 → Int32 → Int32 → (Nat → Int32) → Int32 → (Nat → Int32) → Int32 → Option (Int32 × Int32 × Int32 × Int32 × (Nat → Int32))} (hrec_X6_readComparison : HX6_readComparison l D Y { frames := f9, cells := 0, slots := 0, locals := l9 } rec_X6_readComparison) (C : axC X l D Y cX6_readThing 5 RX6 wsX6_readThing (rmX6_readThing f9 l9) none) (hQ : axQ X 0 0 (fun r9 w9 => r9 = none ∧ w9 = [oX6 ao res.1 res.2.1 res.2.2.1 res.2.2.2.1, rI Y (ao 1) 40 res.2.2.2.2, oX10 ap1 ip1_length, rC Y (ap1 1) 80 cp1_signs])) (hf : fX6_readThing_b146 rec_X6_readComparison io_length io_at io_sign io_bad co_codes ip1_length cp1_signs x3 = some res) : ax X 0 0 146 [some (.ref (ao 0)), none, none, some (.int x3), none] [oX6 ao io_length io_at io_sign io_bad, rI Y (ao 1) 40 co_codes, oX10 ap1 ip1_length, rC Y (ap1 1) 80 cp1_signs] [] := by
  unfold fX6_readThing_b146 at hf
  refine a_iload_n C dX6_readThing_146 rfl ?_
  refine a_if_eq C 156 dX6_readThing_147 (by decide) (fun h1 => ?_) (fun h1 => ?_)
  · have hf := fx_t h1 hf
    refine a_kill [0, 3] ?_
    exact kX6_readThing_b156 hrec_X6_readComparison C hQ hf
  · have hf := fx_f h1 hf
    refine a_aload_n C dX6_readThing_150 rfl ?_
    refine a_bipush C (-8 : Int32) dX6_readThing_151 (by decide) ?_
    obtain ⟨r2, h2, hf⟩ := fx_bind hf
    refine a_fV C (kX6_put l D Y ao io_length io_at io_sign io_bad co_codes (-8 : Int32) r2 h2) (gB_X6_57 _) rfl dvX6_put ⟨⟨rfl, rfl⟩, ⟨by dsimp only; omega, by dsimp only; omega⟩, ⟨Nat.le_of_ble_eq_true rfl, Nat.le_of_ble_eq_true rfl⟩⟩ rfl (Nat.le_of_ble_eq_true rfl) dX6_readThing_153 rfl rfl [0, 1] [2, 3] ⟨rfl, rfl, trivial⟩ (by decide +kernel) rfl [oX6 ao r2.1 io_at io_sign io_bad, rI Y (ao 1) 40 r2.2, oX10 ap1 ip1_length, rC Y (ap1 1) 80 cp1_signs] ⟨rfl, rfl, trivial⟩ ⟨rfl, rfl, trivial⟩ 4 rfl (by decide +kernel) ?_
    refine a_kill [0, 3] ?_
    exact kX6_readThing_b156 hrec_X6_readComparison C hQ hf
def fX6_readThing_b142 (rec_X6_readComparison : Int32 → Int32 → Int32 → Int32 → (Nat → Int32) → Int32 → (Nat → Int32) → Int32 → Option (Int32 × Int32 × Int32 × Int32 × (Nat → Int32))) (io_length : Int32) (io_at : Int32) (io_sign : Int32) (io_bad : Int32) (co_codes : Nat → Int32) (ip1_length : Int32) (cp1_signs : Nat → Int32) (x3 : Int32) : Option (Int32 × Int32 × Int32 × Int32 × (Nat → Int32)) :=
  (fX6_fail io_at io_sign io_bad).bind (fun r3 => fX6_readThing_b146 rec_X6_readComparison io_length io_at r3.1 r3.2 co_codes ip1_length cp1_signs x3)
set_option maxHeartbeats 400000 in
set_option maxRecDepth 100000 in
theorem kX6_readThing_b142 {X : cxT} {l : Launch} {D : va_G} {Y : Nat → ClassId} {ao ap1 : Nat → Nat} {io_length : Int32} {io_at : Int32} {io_sign : Int32} {io_bad : Int32} {co_codes : Nat → Int32} {ip1_length : Int32} {cp1_signs : Nat → Int32} {x3 : Int32} {res : Int32 × Int32 × Int32 × Int32 × (Nat → Int32)} {f9 l9 : Nat} {rec_X6_readComparison : Int32 → Int32 → Int32 → Int32 → (Nat → Int32) → Int32 → (Nat → Int32) → Int32 → Option (Int32 × Int32 × Int32 × Int32 × (Nat → Int32))} (hrec_X6_readComparison : HX6_readComparison l D Y { frames := f9, cells := 0, slots := 0, locals := l9 } rec_X6_readComparison) (C : axC X l D Y cX6_readThing 5 RX6 wsX6_readThing (rmX6_readThing f9 l9) none) (hQ : axQ X 0 0 (fun r9 w9 => r9 = none ∧ w9 = [oX6 ao res.1 res.2.1 res.2.2.1 res.2.2.2.1, rI Y (ao 1) 40 res.2.2.2.2, oX10 ap1 ip1_length, rC Y (ap1 1) 80 cp1_signs])) (hf : fX6_readThing_b142 rec_X6_readComparison io_length io_at io_sign io_bad co_codes ip1_length cp1_signs x3 = some res) : ax X 0 0 142 [some (.ref (ao 0)), none, none, some (.int x3), none] [oX6 ao io_length io_at io_sign io_bad, rI Y (ao 1) 40 co_codes, oX10 ap1 ip1_length, rC Y (ap1 1) 80 cp1_signs] [] := by
  unfold fX6_readThing_b142 at hf
  refine a_aload_n C dX6_readThing_142 rfl ?_
  obtain ⟨r3, h3, hf⟩ := fx_bind hf
  refine a_fV C (kX6_fail l D Y ao io_length io_at io_sign io_bad r3 h3) (gB_X6_78 _) rfl dvX6_fail ⟨⟨rfl, rfl⟩, ⟨by dsimp only; omega, by dsimp only; omega⟩, ⟨Nat.le_of_ble_eq_true rfl, Nat.le_of_ble_eq_true rfl⟩⟩ rfl (Nat.le_of_ble_eq_true rfl) dX6_readThing_143 rfl rfl [0] [1, 2, 3] ⟨rfl, trivial⟩ (by decide +kernel) rfl [oX6 ao io_length io_at r3.1 r3.2, rI Y (ao 1) 40 co_codes, oX10 ap1 ip1_length, rC Y (ap1 1) 80 cp1_signs] ⟨rfl, trivial⟩ ⟨rfl, rfl, rfl, trivial⟩ 4 rfl (by decide +kernel) ?_
  exact kX6_readThing_b146 hrec_X6_readComparison C hQ hf
def fX6_readThing_b42 (rec_X6_readComparison : Int32 → Int32 → Int32 → Int32 → (Nat → Int32) → Int32 → (Nat → Int32) → Int32 → Option (Int32 × Int32 × Int32 × Int32 × (Nat → Int32))) (io_length : Int32) (io_at : Int32) (io_sign : Int32) (io_bad : Int32) (co_codes : Nat → Int32) (ip1_length : Int32) (cp1_signs : Nat → Int32) (x2 : Int32) (x3 : Int32) : Option (Int32 × Int32 × Int32 × Int32 × (Nat → Int32)) :=
  (fX11_isDigit io_sign).bind (fun r4 => if r4 = (0 : Int32) then ((fX6_variable io_sign).bind (fun r6 => if r6 = (-9 : Int32) then (if io_sign = (40 : Int32) then (if (4 : Int32) ≤ x2 then (fX6_readThing_b142 rec_X6_readComparison io_length io_at io_sign io_bad co_codes ip1_length cp1_signs x3) else ((fX6_step io_at io_sign ip1_length cp1_signs).bind (fun r10 => (rec_X6_readComparison io_length r10.1 r10.2 io_bad co_codes ip1_length cp1_signs (x2 + (1 : Int32))).bind (fun r11 => if r11.2.2.1 = (41 : Int32) then ((fX6_step r11.2.1 r11.2.2.1 ip1_length cp1_signs).bind (fun r14 => fX6_readThing_b146 rec_X6_readComparison r11.1 r14.1 r14.2 r11.2.2.2.1 r11.2.2.2.2 ip1_length cp1_signs x3)) else ((fX6_fail r11.2.1 r11.2.2.1 r11.2.2.2.1).bind (fun r13 => fX6_readThing_b146 rec_X6_readComparison r11.1 r11.2.1 r13.1 r13.2 r11.2.2.2.2 ip1_length cp1_signs x3)))))) else (fX6_readThing_b142 rec_X6_readComparison io_length io_at io_sign io_bad co_codes ip1_length cp1_signs x3)) else ((fX6_variable io_sign).bind (fun r15 => (fX6_put io_length co_codes r15).bind (fun r16 => (fX6_step io_at io_sign ip1_length cp1_signs).bind (fun r17 => fX6_readThing_b146 rec_X6_readComparison r16.1 r17.1 r17.2 io_bad r16.2 ip1_length cp1_signs x3)))))) else ((fX6_readNumber io_length io_at io_sign co_codes ip1_length cp1_signs).bind (fun r18 => fX6_readThing_b146 rec_X6_readComparison r18.1 r18.2.1 r18.2.2.1 io_bad r18.2.2.2 ip1_length cp1_signs x3)))
set_option maxHeartbeats 400000 in
set_option maxRecDepth 100000 in
theorem kX6_readThing_b42 {X : cxT} {l : Launch} {D : va_G} {Y : Nat → ClassId} {ao ap1 : Nat → Nat} {io_length : Int32} {io_at : Int32} {io_sign : Int32} {io_bad : Int32} {co_codes : Nat → Int32} {ip1_length : Int32} {cp1_signs : Nat → Int32} {x2 : Int32} {x3 : Int32} {res : Int32 × Int32 × Int32 × Int32 × (Nat → Int32)} {f9 l9 : Nat} {rec_X6_readComparison : Int32 → Int32 → Int32 → Int32 → (Nat → Int32) → Int32 → (Nat → Int32) → Int32 → Option (Int32 × Int32 × Int32 × Int32 × (Nat → Int32))} (hrec_X6_readComparison : HX6_readComparison l D Y { frames := f9, cells := 0, slots := 0, locals := l9 } rec_X6_readComparison) (C : axC X l D Y cX6_readThing 5 RX6 wsX6_readThing (rmX6_readThing f9 l9) none) (hQ : axQ X 0 0 (fun r9 w9 => r9 = none ∧ w9 = [oX6 ao res.1 res.2.1 res.2.2.1 res.2.2.2.1, rI Y (ao 1) 40 res.2.2.2.2, oX10 ap1 ip1_length, rC Y (ap1 1) 80 cp1_signs])) (hf : fX6_readThing_b42 rec_X6_readComparison io_length io_at io_sign io_bad co_codes ip1_length cp1_signs x2 x3 = some res) : ax X 0 0 42 [some (.ref (ao 0)), some (.ref (ap1 0)), some (.int x2), some (.int x3), none] [oX6 ao io_length io_at io_sign io_bad, rI Y (ao 1) 40 co_codes, oX10 ap1 ip1_length, rC Y (ap1 1) 80 cp1_signs] [] := by
  unfold fX6_readThing_b42 at hf
  refine a_aload_n C dX6_readThing_42 rfl ?_
  refine a_get C (eB_X6_54 _) dX6_readThing_43 0 rfl rfl ?_
  obtain ⟨r4, h4, hf⟩ := fx_bind hf
  refine a_fN C RX11 (kX11_isDigit l D Y io_sign r4 h4) (gB_X6_67 _) rfl (by decide +kernel) (wB_X6_iX11 _) (wB_X6_sX11_isDigit _) dvX11_isDigit ⟨⟨rfl, rfl⟩, ⟨by dsimp only; omega, by dsimp only; omega⟩, ⟨Nat.le_of_ble_eq_true rfl, Nat.le_of_ble_eq_true rfl⟩⟩ rfl (Nat.le_of_ble_eq_true rfl) dX6_readThing_46 [] [0, 1, 2, 3] trivial (by decide +kernel) rfl [oX6 ao io_length io_at io_sign io_bad, rI Y (ao 1) 40 co_codes, oX10 ap1 ip1_length, rC Y (ap1 1) 80 cp1_signs] trivial ⟨rfl, rfl, rfl, rfl, trivial⟩ 4 rfl (by decide +kernel) ?_
  refine a_if_eq C 60 dX6_readThing_49 (by decide) (fun h5 => ?_) (fun h5 => ?_)
  · have hf := fx_t h5 hf
    refine a_aload_n C dX6_readThing_60 rfl ?_
    refine a_get C (eB_X6_54 _) dX6_readThing_61 0 rfl rfl ?_
    obtain ⟨r6, h6, hf⟩ := fx_bind hf
    refine a_fS C (kX6_variable l D Y io_sign r6 h6) (gB_X6_74 _) rfl dvX6_variable ⟨⟨rfl, rfl⟩, ⟨by dsimp only; omega, by dsimp only; omega⟩, ⟨Nat.le_of_ble_eq_true rfl, Nat.le_of_ble_eq_true rfl⟩⟩ rfl (Nat.le_of_ble_eq_true rfl) dX6_readThing_64 [] [0, 1, 2, 3] trivial (by decide +kernel) rfl [oX6 ao io_length io_at io_sign io_bad, rI Y (ao 1) 40 co_codes, oX10 ap1 ip1_length, rC Y (ap1 1) 80 cp1_signs] trivial ⟨rfl, rfl, rfl, rfl, trivial⟩ 4 rfl (by decide +kernel) ?_
    refine a_bipush C (-9 : Int32) dX6_readThing_67 (by decide) ?_
    refine a_icmp_eq C 91 dX6_readThing_69 (by decide) (fun h7 => ?_) (fun h7 => ?_)
    · have hf := fx_t h7 hf
      refine a_aload_n C dX6_readThing_91 rfl ?_
      refine a_get C (eB_X6_54 _) dX6_readThing_92 0 rfl rfl ?_
      refine a_bipush C (40 : Int32) dX6_readThing_95 (by decide) ?_
      refine a_icmp_ne C 142 dX6_readThing_97 (by decide) (fun h8 => ?_) (fun h8 => ?_)
      · have hf := fx_f h8 hf
        refine a_kill [1, 2] ?_
        exact kX6_readThing_b142 hrec_X6_readComparison C hQ hf
      · have hf := fx_t h8 hf
        refine a_iload_n C dX6_readThing_100 rfl ?_
        refine a_iconst C (4 : Int32) dX6_readThing_101 (by decide) ?_
        refine a_icmp_ge C 142 dX6_readThing_102 (by decide) (fun h9 => ?_) (fun h9 => ?_)
        · have hf := fx_t h9 hf
          refine a_kill [1, 2] ?_
          exact kX6_readThing_b142 hrec_X6_readComparison C hQ hf
        · have hf := fx_f h9 hf
          refine a_aload_n C dX6_readThing_105 rfl ?_
          refine a_aload_n C dX6_readThing_106 rfl ?_
          obtain ⟨r10, h10, hf⟩ := fx_bind hf
          refine a_fV C (kX6_step l D Y ao ap1 io_length io_at io_sign io_bad ip1_length cp1_signs r10 h10) (gB_X6_43 _) rfl dvX6_step ⟨⟨rfl, rfl⟩, ⟨by dsimp only; omega, by dsimp only; omega⟩, ⟨Nat.le_of_ble_eq_true rfl, Nat.le_of_ble_eq_true rfl⟩⟩ rfl (Nat.le_of_ble_eq_true rfl) dX6_readThing_107 rfl rfl [0, 2, 3] [1] ⟨rfl, rfl, rfl, trivial⟩ (by decide +kernel) rfl [oX6 ao io_length r10.1 r10.2 io_bad, rI Y (ao 1) 40 co_codes, oX10 ap1 ip1_length, rC Y (ap1 1) 80 cp1_signs] ⟨rfl, rfl, rfl, trivial⟩ ⟨rfl, trivial⟩ 4 rfl (by decide +kernel) ?_
          refine a_aload_n C dX6_readThing_110 rfl ?_
          refine a_aload_n C dX6_readThing_111 rfl ?_
          refine a_iload_n C dX6_readThing_112 rfl ?_
          refine a_iconst C (1 : Int32) dX6_readThing_113 (by decide) ?_
          refine a_iadd C dX6_readThing_114 ?_
          obtain ⟨r11, h11, hf⟩ := fx_bind hf
          refine a_fV C (hrec_X6_readComparison ao ap1 io_length r10.1 r10.2 io_bad co_codes ip1_length cp1_signs (x2 + (1 : Int32)) r11 h11) (gB_X6_47 _) rfl dvX6_readComparison ⟨⟨rfl, rfl⟩, ⟨by dsimp only; omega, by dsimp only; omega⟩, ⟨Nat.le_of_ble_eq_true rfl, Nat.le_of_ble_eq_true rfl⟩⟩ rfl (Nat.le_of_ble_eq_true rfl) dX6_readThing_115 rfl rfl [0, 1, 2, 3] [] ⟨rfl, rfl, rfl, rfl, trivial⟩ (by decide +kernel) rfl [oX6 ao r11.1 r11.2.1 r11.2.2.1 r11.2.2.2.1, rI Y (ao 1) 40 r11.2.2.2.2, oX10 ap1 ip1_length, rC Y (ap1 1) 80 cp1_signs] ⟨rfl, rfl, rfl, rfl, trivial⟩ trivial 4 rfl (by decide +kernel) ?_
          refine a_aload_n C dX6_readThing_118 rfl ?_
          refine a_get C (eB_X6_54 _) dX6_readThing_119 0 rfl rfl ?_
          refine a_bipush C (41 : Int32) dX6_readThing_122 (by decide) ?_
          refine a_icmp_ne C 135 dX6_readThing_124 (by decide) (fun h12 => ?_) (fun h12 => ?_)
          · have hf := fx_f h12 hf
            refine a_aload_n C dX6_readThing_135 rfl ?_
            obtain ⟨r13, h13, hf⟩ := fx_bind hf
            refine a_fV C (kX6_fail l D Y ao r11.1 r11.2.1 r11.2.2.1 r11.2.2.2.1 r13 h13) (gB_X6_78 _) rfl dvX6_fail ⟨⟨rfl, rfl⟩, ⟨by dsimp only; omega, by dsimp only; omega⟩, ⟨Nat.le_of_ble_eq_true rfl, Nat.le_of_ble_eq_true rfl⟩⟩ rfl (Nat.le_of_ble_eq_true rfl) dX6_readThing_136 rfl rfl [0] [1, 2, 3] ⟨rfl, trivial⟩ (by decide +kernel) rfl [oX6 ao r11.1 r11.2.1 r13.1 r13.2, rI Y (ao 1) 40 r11.2.2.2.2, oX10 ap1 ip1_length, rC Y (ap1 1) 80 cp1_signs] ⟨rfl, trivial⟩ ⟨rfl, rfl, rfl, trivial⟩ 4 rfl (by decide +kernel) ?_
            refine a_goto C 146 dX6_readThing_139 (by decide) ?_
            refine a_kill [1, 2] ?_
            exact kX6_readThing_b146 hrec_X6_readComparison C hQ hf
          · have hf := fx_t h12 hf
            refine a_aload_n C dX6_readThing_127 rfl ?_
            refine a_aload_n C dX6_readThing_128 rfl ?_
            obtain ⟨r14, h14, hf⟩ := fx_bind hf
            refine a_fV C (kX6_step l D Y ao ap1 r11.1 r11.2.1 r11.2.2.1 r11.2.2.2.1 ip1_length cp1_signs r14 h14) (gB_X6_43 _) rfl dvX6_step ⟨⟨rfl, rfl⟩, ⟨by dsimp only; omega, by dsimp only; omega⟩, ⟨Nat.le_of_ble_eq_true rfl, Nat.le_of_ble_eq_true rfl⟩⟩ rfl (Nat.le_of_ble_eq_true rfl) dX6_readThing_129 rfl rfl [0, 2, 3] [1] ⟨rfl, rfl, rfl, trivial⟩ (by decide +kernel) rfl [oX6 ao r11.1 r14.1 r14.2 r11.2.2.2.1, rI Y (ao 1) 40 r11.2.2.2.2, oX10 ap1 ip1_length, rC Y (ap1 1) 80 cp1_signs] ⟨rfl, rfl, rfl, trivial⟩ ⟨rfl, trivial⟩ 4 rfl (by decide +kernel) ?_
            refine a_goto C 146 dX6_readThing_132 (by decide) ?_
            refine a_kill [1, 2] ?_
            exact kX6_readThing_b146 hrec_X6_readComparison C hQ hf
    · have hf := fx_f h7 hf
      refine a_aload_n C dX6_readThing_72 rfl ?_
      refine a_aload_n C dX6_readThing_73 rfl ?_
      refine a_get C (eB_X6_54 _) dX6_readThing_74 0 rfl rfl ?_
      obtain ⟨r15, h15, hf⟩ := fx_bind hf
      refine a_fS C (kX6_variable l D Y io_sign r15 h15) (gB_X6_74 _) rfl dvX6_variable ⟨⟨rfl, rfl⟩, ⟨by dsimp only; omega, by dsimp only; omega⟩, ⟨Nat.le_of_ble_eq_true rfl, Nat.le_of_ble_eq_true rfl⟩⟩ rfl (Nat.le_of_ble_eq_true rfl) dX6_readThing_77 [] [0, 1, 2, 3] trivial (by decide +kernel) rfl [oX6 ao io_length io_at io_sign io_bad, rI Y (ao 1) 40 co_codes, oX10 ap1 ip1_length, rC Y (ap1 1) 80 cp1_signs] trivial ⟨rfl, rfl, rfl, rfl, trivial⟩ 4 rfl (by decide +kernel) ?_
      obtain ⟨r16, h16, hf⟩ := fx_bind hf
      refine a_fV C (kX6_put l D Y ao io_length io_at io_sign io_bad co_codes r15 r16 h16) (gB_X6_57 _) rfl dvX6_put ⟨⟨rfl, rfl⟩, ⟨by dsimp only; omega, by dsimp only; omega⟩, ⟨Nat.le_of_ble_eq_true rfl, Nat.le_of_ble_eq_true rfl⟩⟩ rfl (Nat.le_of_ble_eq_true rfl) dX6_readThing_80 rfl rfl [0, 1] [2, 3] ⟨rfl, rfl, trivial⟩ (by decide +kernel) rfl [oX6 ao r16.1 io_at io_sign io_bad, rI Y (ao 1) 40 r16.2, oX10 ap1 ip1_length, rC Y (ap1 1) 80 cp1_signs] ⟨rfl, rfl, trivial⟩ ⟨rfl, rfl, trivial⟩ 4 rfl (by decide +kernel) ?_
      refine a_aload_n C dX6_readThing_83 rfl ?_
      refine a_aload_n C dX6_readThing_84 rfl ?_
      obtain ⟨r17, h17, hf⟩ := fx_bind hf
      refine a_fV C (kX6_step l D Y ao ap1 r16.1 io_at io_sign io_bad ip1_length cp1_signs r17 h17) (gB_X6_43 _) rfl dvX6_step ⟨⟨rfl, rfl⟩, ⟨by dsimp only; omega, by dsimp only; omega⟩, ⟨Nat.le_of_ble_eq_true rfl, Nat.le_of_ble_eq_true rfl⟩⟩ rfl (Nat.le_of_ble_eq_true rfl) dX6_readThing_85 rfl rfl [0, 2, 3] [1] ⟨rfl, rfl, rfl, trivial⟩ (by decide +kernel) rfl [oX6 ao r16.1 r17.1 r17.2 io_bad, rI Y (ao 1) 40 r16.2, oX10 ap1 ip1_length, rC Y (ap1 1) 80 cp1_signs] ⟨rfl, rfl, rfl, trivial⟩ ⟨rfl, trivial⟩ 4 rfl (by decide +kernel) ?_
      refine a_goto C 146 dX6_readThing_88 (by decide) ?_
      refine a_kill [1, 2] ?_
      exact kX6_readThing_b146 hrec_X6_readComparison C hQ hf
  · have hf := fx_f h5 hf
    refine a_aload_n C dX6_readThing_52 rfl ?_
    refine a_aload_n C dX6_readThing_53 rfl ?_
    obtain ⟨r18, h18, hf⟩ := fx_bind hf
    refine a_fV C (kX6_readNumber l D Y ao ap1 io_length io_at io_sign io_bad co_codes ip1_length cp1_signs r18 h18) (gB_X6_71 _) rfl dvX6_readNumber ⟨⟨rfl, rfl⟩, ⟨by dsimp only; omega, by dsimp only; omega⟩, ⟨Nat.le_of_ble_eq_true rfl, Nat.le_of_ble_eq_true rfl⟩⟩ rfl (Nat.le_of_ble_eq_true rfl) dX6_readThing_54 rfl rfl [0, 1, 2, 3] [] ⟨rfl, rfl, rfl, rfl, trivial⟩ (by decide +kernel) rfl [oX6 ao r18.1 r18.2.1 r18.2.2.1 io_bad, rI Y (ao 1) 40 r18.2.2.2, oX10 ap1 ip1_length, rC Y (ap1 1) 80 cp1_signs] ⟨rfl, rfl, rfl, rfl, trivial⟩ trivial 4 rfl (by decide +kernel) ?_
    refine a_goto C 146 dX6_readThing_57 (by decide) ?_
    refine a_kill [1, 2] ?_
    exact kX6_readThing_b146 hrec_X6_readComparison C hQ hf
def fX6_readThing_b35 (rec_X6_readComparison : Int32 → Int32 → Int32 → Int32 → (Nat → Int32) → Int32 → (Nat → Int32) → Int32 → Option (Int32 × Int32 × Int32 × Int32 × (Nat → Int32))) (io_length : Int32) (io_at : Int32) (io_sign : Int32) (io_bad : Int32) (co_codes : Nat → Int32) (ip1_length : Int32) (cp1_signs : Nat → Int32) (x2 : Int32) (x4 : Int32) (s0 : Int32) (k5 : Int32 × Int32 × Int32 × Int32 → Option (Int32 × Int32 × Int32 × Int32 × (Nat → Int32))) : Option (Int32 × Int32 × Int32 × Int32 × (Nat → Int32)) :=
  k5 (io_at, io_sign, s0, (x4 + (1 : Int32)))
set_option maxHeartbeats 400000 in
set_option maxRecDepth 100000 in
theorem kX6_readThing_b35 {X : cxT} {l : Launch} {D : va_G} {Y : Nat → ClassId} {ao ap1 : Nat → Nat} {io_length : Int32} {io_at : Int32} {io_sign : Int32} {io_bad : Int32} {co_codes : Nat → Int32} {ip1_length : Int32} {cp1_signs : Nat → Int32} {x2 : Int32} {x4 : Int32} {s0 : Int32} {res : Int32 × Int32 × Int32 × Int32 × (Nat → Int32)} {f9 l9 : Nat} {rec_X6_readComparison : Int32 → Int32 → Int32 → Int32 → (Nat → Int32) → Int32 → (Nat → Int32) → Int32 → Option (Int32 × Int32 × Int32 × Int32 × (Nat → Int32))} (hrec_X6_readComparison : HX6_readComparison l D Y { frames := f9, cells := 0, slots := 0, locals := l9 } rec_X6_readComparison) (C : axC X l D Y cX6_readThing 5 RX6 wsX6_readThing (rmX6_readThing f9 l9) none) (hQ : axQ X 0 0 (fun r9 w9 => r9 = none ∧ w9 = [oX6 ao res.1 res.2.1 res.2.2.1 res.2.2.2.1, rI Y (ao 1) 40 res.2.2.2.2, oX10 ap1 ip1_length, rC Y (ap1 1) 80 cp1_signs])) {k5 : Int32 × Int32 × Int32 × Int32 → Option (Int32 × Int32 × Int32 × Int32 × (Nat → Int32))} (hk5 : ∀ s : Int32 × Int32 × Int32 × Int32, k5 s = some res → ax X 0 0 5 [some (.ref (ao 0)), some (.ref (ap1 0)), some (.int x2), some (.int s.2.2.1), some (.int s.2.2.2)] [oX6 ao io_length s.1 s.2.1 io_bad, rI Y (ao 1) 40 co_codes, oX10 ap1 ip1_length, rC Y (ap1 1) 80 cp1_signs] []) (hf : fX6_readThing_b35 rec_X6_readComparison io_length io_at io_sign io_bad co_codes ip1_length cp1_signs x2 x4 s0 k5 = some res) : ax X 0 0 35 [some (.ref (ao 0)), some (.ref (ap1 0)), some (.int x2), none, some (.int x4)] [oX6 ao io_length io_at io_sign io_bad, rI Y (ao 1) 40 co_codes, oX10 ap1 ip1_length, rC Y (ap1 1) 80 cp1_signs] [.int s0] := by
  unfold fX6_readThing_b35 at hf
  refine a_istore_n C dX6_readThing_35 (by decide) rfl ?_
  refine a_iinc C (1 : Int32) dX6_readThing_36 (by decide) rfl (by decide) rfl ?_
  refine a_goto C 5 dX6_readThing_39 (by decide) ?_
  exact hk5 (io_at, io_sign, s0, (x4 + (1 : Int32))) hf
def fX6_readThing_l5 (rec_X6_readComparison : Int32 → Int32 → Int32 → Int32 → (Nat → Int32) → Int32 → (Nat → Int32) → Int32 → Option (Int32 × Int32 × Int32 × Int32 × (Nat → Int32))) (io_length : Int32) (io_bad : Int32) (co_codes : Nat → Int32) (ip1_length : Int32) (cp1_signs : Nat → Int32) (x2 : Int32) (k5 : Int32 × Int32 × Int32 × Int32 → Option (Int32 × Int32 × Int32 × Int32 × (Nat → Int32))) (io_at : Int32) (io_sign : Int32) (x3 : Int32) (x4 : Int32) : Option (Int32 × Int32 × Int32 × Int32 × (Nat → Int32)) :=
  if (40 : Int32) ≤ x4 then (fX6_readThing_b42 rec_X6_readComparison io_length io_at io_sign io_bad co_codes ip1_length cp1_signs x2 x3) else (if io_sign = (45 : Int32) then ((fX6_step io_at io_sign ip1_length cp1_signs).bind (fun r21 => if x3 = (0 : Int32) then (fX6_readThing_b35 rec_X6_readComparison io_length r21.1 r21.2 io_bad co_codes ip1_length cp1_signs x2 x4 (1 : Int32) k5) else (fX6_readThing_b35 rec_X6_readComparison io_length r21.1 r21.2 io_bad co_codes ip1_length cp1_signs x2 x4 (0 : Int32) k5))) else (fX6_readThing_b42 rec_X6_readComparison io_length io_at io_sign io_bad co_codes ip1_length cp1_signs x2 x3))
def fX6_readThing_b5 (rec_X6_readComparison : Int32 → Int32 → Int32 → Int32 → (Nat → Int32) → Int32 → (Nat → Int32) → Int32 → Option (Int32 × Int32 × Int32 × Int32 × (Nat → Int32))) (io_length : Int32) (io_at : Int32) (io_sign : Int32) (io_bad : Int32) (co_codes : Nat → Int32) (ip1_length : Int32) (cp1_signs : Nat → Int32) (x2 : Int32) (x3 : Int32) (x4 : Int32) : Option (Int32 × Int32 × Int32 × Int32 × (Nat → Int32)) :=
  loopN (fun (s : Int32 × Int32 × Int32 × Int32) k5 => fX6_readThing_l5 rec_X6_readComparison io_length io_bad co_codes ip1_length cp1_signs x2 k5 s.1 s.2.1 s.2.2.1 s.2.2.2) FUEL (io_at, io_sign, x3, x4)
set_option maxHeartbeats 400000 in
set_option maxRecDepth 100000 in
theorem kX6_readThing_l5 {X : cxT} {l : Launch} {D : va_G} {Y : Nat → ClassId} {ao ap1 : Nat → Nat} {io_length : Int32} {io_at : Int32} {io_sign : Int32} {io_bad : Int32} {co_codes : Nat → Int32} {ip1_length : Int32} {cp1_signs : Nat → Int32} {x2 : Int32} {x3 : Int32} {x4 : Int32} {res : Int32 × Int32 × Int32 × Int32 × (Nat → Int32)} {f9 l9 : Nat} {rec_X6_readComparison : Int32 → Int32 → Int32 → Int32 → (Nat → Int32) → Int32 → (Nat → Int32) → Int32 → Option (Int32 × Int32 × Int32 × Int32 × (Nat → Int32))} (hrec_X6_readComparison : HX6_readComparison l D Y { frames := f9, cells := 0, slots := 0, locals := l9 } rec_X6_readComparison) (C : axC X l D Y cX6_readThing 5 RX6 wsX6_readThing (rmX6_readThing f9 l9) none) (hQ : axQ X 0 0 (fun r9 w9 => r9 = none ∧ w9 = [oX6 ao res.1 res.2.1 res.2.2.1 res.2.2.2.1, rI Y (ao 1) 40 res.2.2.2.2, oX10 ap1 ip1_length, rC Y (ap1 1) 80 cp1_signs])) {k5 : Int32 × Int32 × Int32 × Int32 → Option (Int32 × Int32 × Int32 × Int32 × (Nat → Int32))} (hk5 : ∀ s : Int32 × Int32 × Int32 × Int32, k5 s = some res → ax X 0 0 5 [some (.ref (ao 0)), some (.ref (ap1 0)), some (.int x2), some (.int s.2.2.1), some (.int s.2.2.2)] [oX6 ao io_length s.1 s.2.1 io_bad, rI Y (ao 1) 40 co_codes, oX10 ap1 ip1_length, rC Y (ap1 1) 80 cp1_signs] []) (hf : fX6_readThing_l5 rec_X6_readComparison io_length io_bad co_codes ip1_length cp1_signs x2 k5 io_at io_sign x3 x4 = some res) : ax X 0 0 5 [some (.ref (ao 0)), some (.ref (ap1 0)), some (.int x2), some (.int x3), some (.int x4)] [oX6 ao io_length io_at io_sign io_bad, rI Y (ao 1) 40 co_codes, oX10 ap1 ip1_length, rC Y (ap1 1) 80 cp1_signs] [] := by
  unfold fX6_readThing_l5 at hf
  refine a_iload C dX6_readThing_5 rfl ?_
  refine a_bipush C (40 : Int32) dX6_readThing_7 (by decide) ?_
  refine a_icmp_ge C 42 dX6_readThing_9 (by decide) (fun h19 => ?_) (fun h19 => ?_)
  · have hf := fx_t h19 hf
    refine a_kill [4] ?_
    exact kX6_readThing_b42 hrec_X6_readComparison C hQ hf
  · have hf := fx_f h19 hf
    refine a_aload_n C dX6_readThing_12 rfl ?_
    refine a_get C (eB_X6_54 _) dX6_readThing_13 0 rfl rfl ?_
    refine a_bipush C (45 : Int32) dX6_readThing_16 (by decide) ?_
    refine a_icmp_ne C 42 dX6_readThing_18 (by decide) (fun h20 => ?_) (fun h20 => ?_)
    · have hf := fx_f h20 hf
      refine a_kill [4] ?_
      exact kX6_readThing_b42 hrec_X6_readComparison C hQ hf
    · have hf := fx_t h20 hf
      refine a_aload_n C dX6_readThing_21 rfl ?_
      refine a_aload_n C dX6_readThing_22 rfl ?_
      obtain ⟨r21, h21, hf⟩ := fx_bind hf
      refine a_fV C (kX6_step l D Y ao ap1 io_length io_at io_sign io_bad ip1_length cp1_signs r21 h21) (gB_X6_43 _) rfl dvX6_step ⟨⟨rfl, rfl⟩, ⟨by dsimp only; omega, by dsimp only; omega⟩, ⟨Nat.le_of_ble_eq_true rfl, Nat.le_of_ble_eq_true rfl⟩⟩ rfl (Nat.le_of_ble_eq_true rfl) dX6_readThing_23 rfl rfl [0, 2, 3] [1] ⟨rfl, rfl, rfl, trivial⟩ (by decide +kernel) rfl [oX6 ao io_length r21.1 r21.2 io_bad, rI Y (ao 1) 40 co_codes, oX10 ap1 ip1_length, rC Y (ap1 1) 80 cp1_signs] ⟨rfl, rfl, rfl, trivial⟩ ⟨rfl, trivial⟩ 4 rfl (by decide +kernel) ?_
      refine a_iload_n C dX6_readThing_26 rfl ?_
      refine a_if_ne C 34 dX6_readThing_27 (by decide) (fun h22 => ?_) (fun h22 => ?_)
      · have hf := fx_f h22 hf
        refine a_iconst C (0 : Int32) dX6_readThing_34 (by decide) ?_
        refine a_kill [3] ?_
        exact kX6_readThing_b35 hrec_X6_readComparison C hQ hk5 hf
      · have hf := fx_t h22 hf
        refine a_iconst C (1 : Int32) dX6_readThing_30 (by decide) ?_
        refine a_goto C 35 dX6_readThing_31 (by decide) ?_
        refine a_kill [3] ?_
        exact kX6_readThing_b35 hrec_X6_readComparison C hQ hk5 hf
set_option maxHeartbeats 400000 in
set_option maxRecDepth 100000 in
theorem kX6_readThing_b5 {X : cxT} {l : Launch} {D : va_G} {Y : Nat → ClassId} {ao ap1 : Nat → Nat} {io_length : Int32} {io_at : Int32} {io_sign : Int32} {io_bad : Int32} {co_codes : Nat → Int32} {ip1_length : Int32} {cp1_signs : Nat → Int32} {x2 : Int32} {x3 : Int32} {x4 : Int32} {res : Int32 × Int32 × Int32 × Int32 × (Nat → Int32)} {f9 l9 : Nat} {rec_X6_readComparison : Int32 → Int32 → Int32 → Int32 → (Nat → Int32) → Int32 → (Nat → Int32) → Int32 → Option (Int32 × Int32 × Int32 × Int32 × (Nat → Int32))} (hrec_X6_readComparison : HX6_readComparison l D Y { frames := f9, cells := 0, slots := 0, locals := l9 } rec_X6_readComparison) (C : axC X l D Y cX6_readThing 5 RX6 wsX6_readThing (rmX6_readThing f9 l9) none) (hQ : axQ X 0 0 (fun r9 w9 => r9 = none ∧ w9 = [oX6 ao res.1 res.2.1 res.2.2.1 res.2.2.2.1, rI Y (ao 1) 40 res.2.2.2.2, oX10 ap1 ip1_length, rC Y (ap1 1) 80 cp1_signs])) (hf : fX6_readThing_b5 rec_X6_readComparison io_length io_at io_sign io_bad co_codes ip1_length cp1_signs x2 x3 x4 = some res) : ax X 0 0 5 [some (.ref (ao 0)), some (.ref (ap1 0)), some (.int x2), some (.int x3), some (.int x4)] [oX6 ao io_length io_at io_sign io_bad, rI Y (ao 1) 40 co_codes, oX10 ap1 ip1_length, rC Y (ap1 1) 80 cp1_signs] [] := by
  unfold fX6_readThing_b5 at hf
  exact fx_loop (P := fun s : Int32 × Int32 × Int32 × Int32 => ax X 0 0 5 [some (.ref (ao 0)), some (.ref (ap1 0)), some (.int x2), some (.int s.2.2.1), some (.int s.2.2.2)] [oX6 ao io_length s.1 s.2.1 io_bad, rI Y (ao 1) 40 co_codes, oX10 ap1 ip1_length, rC Y (ap1 1) 80 cp1_signs] []) (fun s k5 hk5 h => kX6_readThing_l5 hrec_X6_readComparison C hQ hk5 h) FUEL (io_at, io_sign, x3, x4) hf
def fX6_readThing (rec_X6_readComparison : Int32 → Int32 → Int32 → Int32 → (Nat → Int32) → Int32 → (Nat → Int32) → Int32 → Option (Int32 × Int32 × Int32 × Int32 × (Nat → Int32))) (io_length : Int32) (io_at : Int32) (io_sign : Int32) (io_bad : Int32) (co_codes : Nat → Int32) (ip1_length : Int32) (cp1_signs : Nat → Int32) (x2 : Int32) : Option (Int32 × Int32 × Int32 × Int32 × (Nat → Int32)) :=
  fX6_readThing_b5 rec_X6_readComparison io_length io_at io_sign io_bad co_codes ip1_length cp1_signs x2 (0 : Int32) (0 : Int32)
set_option maxHeartbeats 400000 in
set_option maxRecDepth 100000 in
theorem kX6_readThing (l : Launch) (D : va_G) (Y : Nat → ClassId) (f9 l9 : Nat) (rec_X6_readComparison : Int32 → Int32 → Int32 → Int32 → (Nat → Int32) → Int32 → (Nat → Int32) → Int32 → Option (Int32 × Int32 × Int32 × Int32 × (Nat → Int32))) (hrec_X6_readComparison : HX6_readComparison l D Y { frames := f9, cells := 0, slots := 0, locals := l9 } rec_X6_readComparison) (ao ap1 : Nat → Nat) (io_length : Int32) (io_at : Int32) (io_sign : Int32) (io_bad : Int32) (co_codes : Nat → Int32) (ip1_length : Int32) (cp1_signs : Nat → Int32) (x2 : Int32) (res : Int32 × Int32 × Int32 × Int32 × (Nat → Int32)) (hf : fX6_readThing rec_X6_readComparison io_length io_at io_sign io_bad co_codes ip1_length cp1_signs x2 = some res) : amf l D Y yX6_readThing wsX6_readThing (rmX6_readThing f9 l9) [.ref (ao 0), .ref (ap1 0), .int x2] [oX6 ao io_length io_at io_sign io_bad, rI Y (ao 1) 40 co_codes, oX10 ap1 ip1_length, rC Y (ap1 1) 80 cp1_signs] none [oX6 ao res.1 res.2.1 res.2.2.1 res.2.2.2.1, rI Y (ao 1) 40 res.2.2.2.2, oX10 ap1 ip1_length, rC Y (ap1 1) 80 cp1_signs] := by
  refine amf.of (cc := cX6_readThing) (maxL := 5) (rt := none) (by decide) rfl RX6 rfl (Nat.le_of_ble_eq_true rfl) [some (.ref (ao 0)), some (.ref (ap1 0)), some (.int x2), none, none] rfl ?_
  intro X C hQ
  unfold fX6_readThing at hf
  refine a_iconst C (0 : Int32) dX6_readThing_0 (by decide) ?_
  refine a_istore_n C dX6_readThing_1 (by decide) rfl ?_
  refine a_iconst C (0 : Int32) dX6_readThing_2 (by decide) ?_
  refine a_istore C dX6_readThing_3 (by decide) rfl ?_
  exact kX6_readThing_b5 hrec_X6_readComparison C hQ hf
abbrev rmX6_readProduct (f9 l9 : Nat) : Room := { frames := f9 + 4, cells := 0, slots := 0, locals := l9 + 90 }
def fX6_readProduct_b73 (rec_X6_readComparison : Int32 → Int32 → Int32 → Int32 → (Nat → Int32) → Int32 → (Nat → Int32) → Int32 → Option (Int32 × Int32 × Int32 × Int32 × (Nat → Int32))) (io_length : Int32) (io_at : Int32) (io_sign : Int32) (io_bad : Int32) (co_codes : Nat → Int32) (ip1_length : Int32) (cp1_signs : Nat → Int32) : Option (Int32 × Int32 × Int32 × Int32 × (Nat → Int32)) :=
  some (io_length, io_at, io_sign, io_bad, co_codes)
set_option maxHeartbeats 400000 in
set_option maxRecDepth 100000 in
theorem kX6_readProduct_b73 {X : cxT} {l : Launch} {D : va_G} {Y : Nat → ClassId} {ao ap1 : Nat → Nat} {io_length : Int32} {io_at : Int32} {io_sign : Int32} {io_bad : Int32} {co_codes : Nat → Int32} {ip1_length : Int32} {cp1_signs : Nat → Int32} {res : Int32 × Int32 × Int32 × Int32 × (Nat → Int32)} {f9 l9 : Nat} {rec_X6_readComparison : Int32 → Int32 → Int32 → Int32 → (Nat → Int32) → Int32 → (Nat → Int32) → Int32 → Option (Int32 × Int32 × Int32 × Int32 × (Nat → Int32))} (hrec_X6_readComparison : HX6_readComparison l D Y { frames := f9, cells := 0, slots := 0, locals := l9 } rec_X6_readComparison) (C : axC X l D Y cX6_readProduct 5 RX6 wsX6_readProduct (rmX6_readProduct f9 l9) none) (hQ : axQ X 0 0 (fun r9 w9 => r9 = none ∧ w9 = [oX6 ao res.1 res.2.1 res.2.2.1 res.2.2.2.1, rI Y (ao 1) 40 res.2.2.2.2, oX10 ap1 ip1_length, rC Y (ap1 1) 80 cp1_signs])) (hf : fX6_readProduct_b73 rec_X6_readComparison io_length io_at io_sign io_bad co_codes ip1_length cp1_signs = some res) : ax X 0 0 73 [none, none, none, none, none] [oX6 ao io_length io_at io_sign io_bad, rI Y (ao 1) 40 co_codes, oX10 ap1 ip1_length, rC Y (ap1 1) 80 cp1_signs] [] := by
  unfold fX6_readProduct_b73 at hf
  obtain rfl := fx_some hf
  exact a_vret C hQ dX6_readProduct_73 ⟨rfl, rfl⟩
def fX6_readProduct_b64 (rec_X6_readComparison : Int32 → Int32 → Int32 → Int32 → (Nat → Int32) → Int32 → (Nat → Int32) → Int32 → Option (Int32 × Int32 × Int32 × Int32 × (Nat → Int32))) (io_length : Int32) (io_at : Int32) (io_sign : Int32) (io_bad : Int32) (co_codes : Nat → Int32) (ip1_length : Int32) (cp1_signs : Nat → Int32) (x2 : Int32) (x3 : Int32) (s1 : Int32) (k8 : Int32 × Int32 × Int32 × Int32 × (Nat → Int32) × Int32 → Option (Int32 × Int32 × Int32 × Int32 × (Nat → Int32))) : Option (Int32 × Int32 × Int32 × Int32 × (Nat → Int32)) :=
  (fX6_put io_length co_codes s1).bind (fun r1 => k8 (r1.1, io_at, io_sign, io_bad, r1.2, (x3 + (1 : Int32))))
set_option maxHeartbeats 400000 in
set_option maxRecDepth 100000 in
theorem kX6_readProduct_b64 {X : cxT} {l : Launch} {D : va_G} {Y : Nat → ClassId} {ao ap1 : Nat → Nat} {io_length : Int32} {io_at : Int32} {io_sign : Int32} {io_bad : Int32} {co_codes : Nat → Int32} {ip1_length : Int32} {cp1_signs : Nat → Int32} {x2 : Int32} {x3 : Int32} {s1 : Int32} {res : Int32 × Int32 × Int32 × Int32 × (Nat → Int32)} {f9 l9 : Nat} {rec_X6_readComparison : Int32 → Int32 → Int32 → Int32 → (Nat → Int32) → Int32 → (Nat → Int32) → Int32 → Option (Int32 × Int32 × Int32 × Int32 × (Nat → Int32))} (hrec_X6_readComparison : HX6_readComparison l D Y { frames := f9, cells := 0, slots := 0, locals := l9 } rec_X6_readComparison) (C : axC X l D Y cX6_readProduct 5 RX6 wsX6_readProduct (rmX6_readProduct f9 l9) none) (hQ : axQ X 0 0 (fun r9 w9 => r9 = none ∧ w9 = [oX6 ao res.1 res.2.1 res.2.2.1 res.2.2.2.1, rI Y (ao 1) 40 res.2.2.2.2, oX10 ap1 ip1_length, rC Y (ap1 1) 80 cp1_signs])) {k8 : Int32 × Int32 × Int32 × Int32 × (Nat → Int32) × Int32 → Option (Int32 × Int32 × Int32 × Int32 × (Nat → Int32))} (hk8 : ∀ s : Int32 × Int32 × Int32 × Int32 × (Nat → Int32) × Int32, k8 s = some res → ax X 0 0 8 [some (.ref (ao 0)), some (.ref (ap1 0)), some (.int x2), some (.int s.2.2.2.2.2), none] [oX6 ao s.1 s.2.1 s.2.2.1 s.2.2.2.1, rI Y (ao 1) 40 s.2.2.2.2.1, oX10 ap1 ip1_length, rC Y (ap1 1) 80 cp1_signs] []) (hf : fX6_readProduct_b64 rec_X6_readComparison io_length io_at io_sign io_bad co_codes ip1_length cp1_signs x2 x3 s1 k8 = some res) : ax X 0 0 64 [some (.ref (ao 0)), some (.ref (ap1 0)), some (.int x2), some (.int x3), none] [oX6 ao io_length io_at io_sign io_bad, rI Y (ao 1) 40 co_codes, oX10 ap1 ip1_length, rC Y (ap1 1) 80 cp1_signs] [.int s1, .ref (ao 0)] := by
  unfold fX6_readProduct_b64 at hf
  obtain ⟨r1, h1, hf⟩ := fx_bind hf
  refine a_fV C (kX6_put l D Y ao io_length io_at io_sign io_bad co_codes s1 r1 h1) (gB_X6_57 _) rfl dvX6_put ⟨⟨rfl, rfl⟩, ⟨by dsimp only; omega, by dsimp only; omega⟩, ⟨Nat.le_of_ble_eq_true rfl, Nat.le_of_ble_eq_true rfl⟩⟩ rfl (Nat.le_of_ble_eq_true rfl) dX6_readProduct_64 rfl rfl [0, 1] [2, 3] ⟨rfl, rfl, trivial⟩ (by decide +kernel) rfl [oX6 ao r1.1 io_at io_sign io_bad, rI Y (ao 1) 40 r1.2, oX10 ap1 ip1_length, rC Y (ap1 1) 80 cp1_signs] ⟨rfl, rfl, trivial⟩ ⟨rfl, rfl, trivial⟩ 4 rfl (by decide +kernel) ?_
  refine a_iinc C (1 : Int32) dX6_readProduct_67 (by decide) rfl (by decide) rfl ?_
  refine a_goto C 8 dX6_readProduct_70 (by decide) ?_
  exact hk8 (r1.1, io_at, io_sign, io_bad, r1.2, (x3 + (1 : Int32))) hf
def fX6_readProduct_b32 (rec_X6_readComparison : Int32 → Int32 → Int32 → Int32 → (Nat → Int32) → Int32 → (Nat → Int32) → Int32 → Option (Int32 × Int32 × Int32 × Int32 × (Nat → Int32))) (io_length : Int32) (io_at : Int32) (io_sign : Int32) (io_bad : Int32) (co_codes : Nat → Int32) (ip1_length : Int32) (cp1_signs : Nat → Int32) (x2 : Int32) (x3 : Int32) (k8 : Int32 × Int32 × Int32 × Int32 × (Nat → Int32) × Int32 → Option (Int32 × Int32 × Int32 × Int32 × (Nat → Int32))) : Option (Int32 × Int32 × Int32 × Int32 × (Nat → Int32)) :=
  (fX6_step io_at io_sign ip1_length cp1_signs).bind (fun r2 => (fX6_readThing rec_X6_readComparison io_length r2.1 r2.2 io_bad co_codes ip1_length cp1_signs x2).bind (fun r3 => if io_sign = (42 : Int32) then (fX6_readProduct_b64 rec_X6_readComparison r3.1 r3.2.1 r3.2.2.1 r3.2.2.2.1 r3.2.2.2.2 ip1_length cp1_signs x2 x3 (-3 : Int32) k8) else (fX6_readProduct_b64 rec_X6_readComparison r3.1 r3.2.1 r3.2.2.1 r3.2.2.2.1 r3.2.2.2.2 ip1_length cp1_signs x2 x3 (-4 : Int32) k8)))
set_option maxHeartbeats 400000 in
set_option maxRecDepth 100000 in
theorem kX6_readProduct_b32 {X : cxT} {l : Launch} {D : va_G} {Y : Nat → ClassId} {ao ap1 : Nat → Nat} {io_length : Int32} {io_at : Int32} {io_sign : Int32} {io_bad : Int32} {co_codes : Nat → Int32} {ip1_length : Int32} {cp1_signs : Nat → Int32} {x2 : Int32} {x3 : Int32} {res : Int32 × Int32 × Int32 × Int32 × (Nat → Int32)} {f9 l9 : Nat} {rec_X6_readComparison : Int32 → Int32 → Int32 → Int32 → (Nat → Int32) → Int32 → (Nat → Int32) → Int32 → Option (Int32 × Int32 × Int32 × Int32 × (Nat → Int32))} (hrec_X6_readComparison : HX6_readComparison l D Y { frames := f9, cells := 0, slots := 0, locals := l9 } rec_X6_readComparison) (C : axC X l D Y cX6_readProduct 5 RX6 wsX6_readProduct (rmX6_readProduct f9 l9) none) (hQ : axQ X 0 0 (fun r9 w9 => r9 = none ∧ w9 = [oX6 ao res.1 res.2.1 res.2.2.1 res.2.2.2.1, rI Y (ao 1) 40 res.2.2.2.2, oX10 ap1 ip1_length, rC Y (ap1 1) 80 cp1_signs])) {k8 : Int32 × Int32 × Int32 × Int32 × (Nat → Int32) × Int32 → Option (Int32 × Int32 × Int32 × Int32 × (Nat → Int32))} (hk8 : ∀ s : Int32 × Int32 × Int32 × Int32 × (Nat → Int32) × Int32, k8 s = some res → ax X 0 0 8 [some (.ref (ao 0)), some (.ref (ap1 0)), some (.int x2), some (.int s.2.2.2.2.2), none] [oX6 ao s.1 s.2.1 s.2.2.1 s.2.2.2.1, rI Y (ao 1) 40 s.2.2.2.2.1, oX10 ap1 ip1_length, rC Y (ap1 1) 80 cp1_signs] []) (hf : fX6_readProduct_b32 rec_X6_readComparison io_length io_at io_sign io_bad co_codes ip1_length cp1_signs x2 x3 k8 = some res) : ax X 0 0 32 [some (.ref (ao 0)), some (.ref (ap1 0)), some (.int x2), some (.int x3), none] [oX6 ao io_length io_at io_sign io_bad, rI Y (ao 1) 40 co_codes, oX10 ap1 ip1_length, rC Y (ap1 1) 80 cp1_signs] [] := by
  unfold fX6_readProduct_b32 at hf
  refine a_aload_n C dX6_readProduct_32 rfl ?_
  refine a_get C (eB_X6_54 _) dX6_readProduct_33 0 rfl rfl ?_
  refine a_istore C dX6_readProduct_36 (by decide) rfl ?_
  refine a_aload_n C dX6_readProduct_38 rfl ?_
  refine a_aload_n C dX6_readProduct_39 rfl ?_
  obtain ⟨r2, h2, hf⟩ := fx_bind hf
  refine a_fV C (kX6_step l D Y ao ap1 io_length io_at io_sign io_bad ip1_length cp1_signs r2 h2) (gB_X6_43 _) rfl dvX6_step ⟨⟨rfl, rfl⟩, ⟨by dsimp only; omega, by dsimp only; omega⟩, ⟨Nat.le_of_ble_eq_true rfl, Nat.le_of_ble_eq_true rfl⟩⟩ rfl (Nat.le_of_ble_eq_true rfl) dX6_readProduct_40 rfl rfl [0, 2, 3] [1] ⟨rfl, rfl, rfl, trivial⟩ (by decide +kernel) rfl [oX6 ao io_length r2.1 r2.2 io_bad, rI Y (ao 1) 40 co_codes, oX10 ap1 ip1_length, rC Y (ap1 1) 80 cp1_signs] ⟨rfl, rfl, rfl, trivial⟩ ⟨rfl, trivial⟩ 4 rfl (by decide +kernel) ?_
  refine a_aload_n C dX6_readProduct_43 rfl ?_
  refine a_aload_n C dX6_readProduct_44 rfl ?_
  refine a_iload_n C dX6_readProduct_45 rfl ?_
  obtain ⟨r3, h3, hf⟩ := fx_bind hf
  refine a_fV C (kX6_readThing l D Y f9 l9 rec_X6_readComparison hrec_X6_readComparison ao ap1 io_length r2.1 r2.2 io_bad co_codes ip1_length cp1_signs x2 r3 h3) (gB_X6_64 _) rfl dvX6_readThing ⟨⟨rfl, rfl⟩, ⟨by dsimp only; omega, by dsimp only; omega⟩, ⟨Nat.le_of_ble_eq_true rfl, Nat.le_of_ble_eq_true rfl⟩⟩ rfl (Nat.le_of_ble_eq_true rfl) dX6_readProduct_46 rfl rfl [0, 1, 2, 3] [] ⟨rfl, rfl, rfl, rfl, trivial⟩ (by decide +kernel) rfl [oX6 ao r3.1 r3.2.1 r3.2.2.1 r3.2.2.2.1, rI Y (ao 1) 40 r3.2.2.2.2, oX10 ap1 ip1_length, rC Y (ap1 1) 80 cp1_signs] ⟨rfl, rfl, rfl, rfl, trivial⟩ trivial 4 rfl (by decide +kernel) ?_
  refine a_aload_n C dX6_readProduct_49 rfl ?_
  refine a_iload C dX6_readProduct_50 rfl ?_
  refine a_bipush C (42 : Int32) dX6_readProduct_52 (by decide) ?_
  refine a_icmp_ne C 62 dX6_readProduct_54 (by decide) (fun h4 => ?_) (fun h4 => ?_)
  · have hf := fx_f h4 hf
    refine a_bipush C (-4 : Int32) dX6_readProduct_62 (by decide) ?_
    refine a_kill [4] ?_
    exact kX6_readProduct_b64 hrec_X6_readComparison C hQ hk8 hf
  · have hf := fx_t h4 hf
    refine a_bipush C (-3 : Int32) dX6_readProduct_57 (by decide) ?_
    refine a_goto C 64 dX6_readProduct_59 (by decide) ?_
    refine a_kill [4] ?_
    exact kX6_readProduct_b64 hrec_X6_readComparison C hQ hk8 hf
def fX6_readProduct_l8 (rec_X6_readComparison : Int32 → Int32 → Int32 → Int32 → (Nat → Int32) → Int32 → (Nat → Int32) → Int32 → Option (Int32 × Int32 × Int32 × Int32 × (Nat → Int32))) (ip1_length : Int32) (cp1_signs : Nat → Int32) (x2 : Int32) (k8 : Int32 × Int32 × Int32 × Int32 × (Nat → Int32) × Int32 → Option (Int32 × Int32 × Int32 × Int32 × (Nat → Int32))) (io_length : Int32) (io_at : Int32) (io_sign : Int32) (io_bad : Int32) (co_codes : Nat → Int32) (x3 : Int32) : Option (Int32 × Int32 × Int32 × Int32 × (Nat → Int32)) :=
  if (40 : Int32) ≤ x3 then (fX6_readProduct_b73 rec_X6_readComparison io_length io_at io_sign io_bad co_codes ip1_length cp1_signs) else (if io_sign = (42 : Int32) then (fX6_readProduct_b32 rec_X6_readComparison io_length io_at io_sign io_bad co_codes ip1_length cp1_signs x2 x3 k8) else (if io_sign = (47 : Int32) then (fX6_readProduct_b32 rec_X6_readComparison io_length io_at io_sign io_bad co_codes ip1_length cp1_signs x2 x3 k8) else (fX6_readProduct_b73 rec_X6_readComparison io_length io_at io_sign io_bad co_codes ip1_length cp1_signs)))
def fX6_readProduct_b8 (rec_X6_readComparison : Int32 → Int32 → Int32 → Int32 → (Nat → Int32) → Int32 → (Nat → Int32) → Int32 → Option (Int32 × Int32 × Int32 × Int32 × (Nat → Int32))) (io_length : Int32) (io_at : Int32) (io_sign : Int32) (io_bad : Int32) (co_codes : Nat → Int32) (ip1_length : Int32) (cp1_signs : Nat → Int32) (x2 : Int32) (x3 : Int32) : Option (Int32 × Int32 × Int32 × Int32 × (Nat → Int32)) :=
  loopN (fun (s : Int32 × Int32 × Int32 × Int32 × (Nat → Int32) × Int32) k8 => fX6_readProduct_l8 rec_X6_readComparison ip1_length cp1_signs x2 k8 s.1 s.2.1 s.2.2.1 s.2.2.2.1 s.2.2.2.2.1 s.2.2.2.2.2) FUEL (io_length, io_at, io_sign, io_bad, co_codes, x3)
set_option maxHeartbeats 400000 in
set_option maxRecDepth 100000 in
theorem kX6_readProduct_l8 {X : cxT} {l : Launch} {D : va_G} {Y : Nat → ClassId} {ao ap1 : Nat → Nat} {io_length : Int32} {io_at : Int32} {io_sign : Int32} {io_bad : Int32} {co_codes : Nat → Int32} {ip1_length : Int32} {cp1_signs : Nat → Int32} {x2 : Int32} {x3 : Int32} {res : Int32 × Int32 × Int32 × Int32 × (Nat → Int32)} {f9 l9 : Nat} {rec_X6_readComparison : Int32 → Int32 → Int32 → Int32 → (Nat → Int32) → Int32 → (Nat → Int32) → Int32 → Option (Int32 × Int32 × Int32 × Int32 × (Nat → Int32))} (hrec_X6_readComparison : HX6_readComparison l D Y { frames := f9, cells := 0, slots := 0, locals := l9 } rec_X6_readComparison) (C : axC X l D Y cX6_readProduct 5 RX6 wsX6_readProduct (rmX6_readProduct f9 l9) none) (hQ : axQ X 0 0 (fun r9 w9 => r9 = none ∧ w9 = [oX6 ao res.1 res.2.1 res.2.2.1 res.2.2.2.1, rI Y (ao 1) 40 res.2.2.2.2, oX10 ap1 ip1_length, rC Y (ap1 1) 80 cp1_signs])) {k8 : Int32 × Int32 × Int32 × Int32 × (Nat → Int32) × Int32 → Option (Int32 × Int32 × Int32 × Int32 × (Nat → Int32))} (hk8 : ∀ s : Int32 × Int32 × Int32 × Int32 × (Nat → Int32) × Int32, k8 s = some res → ax X 0 0 8 [some (.ref (ao 0)), some (.ref (ap1 0)), some (.int x2), some (.int s.2.2.2.2.2), none] [oX6 ao s.1 s.2.1 s.2.2.1 s.2.2.2.1, rI Y (ao 1) 40 s.2.2.2.2.1, oX10 ap1 ip1_length, rC Y (ap1 1) 80 cp1_signs] []) (hf : fX6_readProduct_l8 rec_X6_readComparison ip1_length cp1_signs x2 k8 io_length io_at io_sign io_bad co_codes x3 = some res) : ax X 0 0 8 [some (.ref (ao 0)), some (.ref (ap1 0)), some (.int x2), some (.int x3), none] [oX6 ao io_length io_at io_sign io_bad, rI Y (ao 1) 40 co_codes, oX10 ap1 ip1_length, rC Y (ap1 1) 80 cp1_signs] [] := by
  unfold fX6_readProduct_l8 at hf
  refine a_iload_n C dX6_readProduct_8 rfl ?_
  refine a_bipush C (40 : Int32) dX6_readProduct_9 (by decide) ?_
  refine a_icmp_ge C 73 dX6_readProduct_11 (by decide) (fun h5 => ?_) (fun h5 => ?_)
  · have hf := fx_t h5 hf
    refine a_kill [0, 1, 2, 3] ?_
    exact kX6_readProduct_b73 hrec_X6_readComparison C hQ hf
  · have hf := fx_f h5 hf
    refine a_aload_n C dX6_readProduct_14 rfl ?_
    refine a_get C (eB_X6_54 _) dX6_readProduct_15 0 rfl rfl ?_
    refine a_bipush C (42 : Int32) dX6_readProduct_18 (by decide) ?_
    refine a_icmp_eq C 32 dX6_readProduct_20 (by decide) (fun h6 => ?_) (fun h6 => ?_)
    · have hf := fx_t h6 hf
      exact kX6_readProduct_b32 hrec_X6_readComparison C hQ hk8 hf
    · have hf := fx_f h6 hf
      refine a_aload_n C dX6_readProduct_23 rfl ?_
      refine a_get C (eB_X6_54 _) dX6_readProduct_24 0 rfl rfl ?_
      refine a_bipush C (47 : Int32) dX6_readProduct_27 (by decide) ?_
      refine a_icmp_ne C 73 dX6_readProduct_29 (by decide) (fun h7 => ?_) (fun h7 => ?_)
      · have hf := fx_f h7 hf
        refine a_kill [0, 1, 2, 3] ?_
        exact kX6_readProduct_b73 hrec_X6_readComparison C hQ hf
      · have hf := fx_t h7 hf
        exact kX6_readProduct_b32 hrec_X6_readComparison C hQ hk8 hf
set_option maxHeartbeats 400000 in
set_option maxRecDepth 100000 in
theorem kX6_readProduct_b8 {X : cxT} {l : Launch} {D : va_G} {Y : Nat → ClassId} {ao ap1 : Nat → Nat} {io_length : Int32} {io_at : Int32} {io_sign : Int32} {io_bad : Int32} {co_codes : Nat → Int32} {ip1_length : Int32} {cp1_signs : Nat → Int32} {x2 : Int32} {x3 : Int32} {res : Int32 × Int32 × Int32 × Int32 × (Nat → Int32)} {f9 l9 : Nat} {rec_X6_readComparison : Int32 → Int32 → Int32 → Int32 → (Nat → Int32) → Int32 → (Nat → Int32) → Int32 → Option (Int32 × Int32 × Int32 × Int32 × (Nat → Int32))} (hrec_X6_readComparison : HX6_readComparison l D Y { frames := f9, cells := 0, slots := 0, locals := l9 } rec_X6_readComparison) (C : axC X l D Y cX6_readProduct 5 RX6 wsX6_readProduct (rmX6_readProduct f9 l9) none) (hQ : axQ X 0 0 (fun r9 w9 => r9 = none ∧ w9 = [oX6 ao res.1 res.2.1 res.2.2.1 res.2.2.2.1, rI Y (ao 1) 40 res.2.2.2.2, oX10 ap1 ip1_length, rC Y (ap1 1) 80 cp1_signs])) (hf : fX6_readProduct_b8 rec_X6_readComparison io_length io_at io_sign io_bad co_codes ip1_length cp1_signs x2 x3 = some res) : ax X 0 0 8 [some (.ref (ao 0)), some (.ref (ap1 0)), some (.int x2), some (.int x3), none] [oX6 ao io_length io_at io_sign io_bad, rI Y (ao 1) 40 co_codes, oX10 ap1 ip1_length, rC Y (ap1 1) 80 cp1_signs] [] := by
  unfold fX6_readProduct_b8 at hf
  exact fx_loop (P := fun s : Int32 × Int32 × Int32 × Int32 × (Nat → Int32) × Int32 => ax X 0 0 8 [some (.ref (ao 0)), some (.ref (ap1 0)), some (.int x2), some (.int s.2.2.2.2.2), none] [oX6 ao s.1 s.2.1 s.2.2.1 s.2.2.2.1, rI Y (ao 1) 40 s.2.2.2.2.1, oX10 ap1 ip1_length, rC Y (ap1 1) 80 cp1_signs] []) (fun s k8 hk8 h => kX6_readProduct_l8 hrec_X6_readComparison C hQ hk8 h) FUEL (io_length, io_at, io_sign, io_bad, co_codes, x3) hf
def fX6_readProduct (rec_X6_readComparison : Int32 → Int32 → Int32 → Int32 → (Nat → Int32) → Int32 → (Nat → Int32) → Int32 → Option (Int32 × Int32 × Int32 × Int32 × (Nat → Int32))) (io_length : Int32) (io_at : Int32) (io_sign : Int32) (io_bad : Int32) (co_codes : Nat → Int32) (ip1_length : Int32) (cp1_signs : Nat → Int32) (x2 : Int32) : Option (Int32 × Int32 × Int32 × Int32 × (Nat → Int32)) :=
  (fX6_readThing rec_X6_readComparison io_length io_at io_sign io_bad co_codes ip1_length cp1_signs x2).bind (fun r8 => fX6_readProduct_b8 rec_X6_readComparison r8.1 r8.2.1 r8.2.2.1 r8.2.2.2.1 r8.2.2.2.2 ip1_length cp1_signs x2 (0 : Int32))
set_option maxHeartbeats 400000 in
set_option maxRecDepth 100000 in
theorem kX6_readProduct (l : Launch) (D : va_G) (Y : Nat → ClassId) (f9 l9 : Nat) (rec_X6_readComparison : Int32 → Int32 → Int32 → Int32 → (Nat → Int32) → Int32 → (Nat → Int32) → Int32 → Option (Int32 × Int32 × Int32 × Int32 × (Nat → Int32))) (hrec_X6_readComparison : HX6_readComparison l D Y { frames := f9, cells := 0, slots := 0, locals := l9 } rec_X6_readComparison) (ao ap1 : Nat → Nat) (io_length : Int32) (io_at : Int32) (io_sign : Int32) (io_bad : Int32) (co_codes : Nat → Int32) (ip1_length : Int32) (cp1_signs : Nat → Int32) (x2 : Int32) (res : Int32 × Int32 × Int32 × Int32 × (Nat → Int32)) (hf : fX6_readProduct rec_X6_readComparison io_length io_at io_sign io_bad co_codes ip1_length cp1_signs x2 = some res) : amf l D Y yX6_readProduct wsX6_readProduct (rmX6_readProduct f9 l9) [.ref (ao 0), .ref (ap1 0), .int x2] [oX6 ao io_length io_at io_sign io_bad, rI Y (ao 1) 40 co_codes, oX10 ap1 ip1_length, rC Y (ap1 1) 80 cp1_signs] none [oX6 ao res.1 res.2.1 res.2.2.1 res.2.2.2.1, rI Y (ao 1) 40 res.2.2.2.2, oX10 ap1 ip1_length, rC Y (ap1 1) 80 cp1_signs] := by
  refine amf.of (cc := cX6_readProduct) (maxL := 5) (rt := none) (by decide) rfl RX6 rfl (Nat.le_of_ble_eq_true rfl) [some (.ref (ao 0)), some (.ref (ap1 0)), some (.int x2), none, none] rfl ?_
  intro X C hQ
  unfold fX6_readProduct at hf
  refine a_aload_n C dX6_readProduct_0 rfl ?_
  refine a_aload_n C dX6_readProduct_1 rfl ?_
  refine a_iload_n C dX6_readProduct_2 rfl ?_
  obtain ⟨r8, h8, hf⟩ := fx_bind hf
  refine a_fV C (kX6_readThing l D Y f9 l9 rec_X6_readComparison hrec_X6_readComparison ao ap1 io_length io_at io_sign io_bad co_codes ip1_length cp1_signs x2 r8 h8) (gB_X6_64 _) rfl dvX6_readThing ⟨⟨rfl, rfl⟩, ⟨by dsimp only; omega, by dsimp only; omega⟩, ⟨Nat.le_of_ble_eq_true rfl, Nat.le_of_ble_eq_true rfl⟩⟩ rfl (Nat.le_of_ble_eq_true rfl) dX6_readProduct_3 rfl rfl [0, 1, 2, 3] [] ⟨rfl, rfl, rfl, rfl, trivial⟩ (by decide +kernel) rfl [oX6 ao r8.1 r8.2.1 r8.2.2.1 r8.2.2.2.1, rI Y (ao 1) 40 r8.2.2.2.2, oX10 ap1 ip1_length, rC Y (ap1 1) 80 cp1_signs] ⟨rfl, rfl, rfl, rfl, trivial⟩ trivial 4 rfl (by decide +kernel) ?_
  refine a_iconst C (0 : Int32) dX6_readProduct_6 (by decide) ?_
  refine a_istore_n C dX6_readProduct_7 (by decide) rfl ?_
  exact kX6_readProduct_b8 hrec_X6_readComparison C hQ hf
abbrev rmX6_readSum (f9 l9 : Nat) : Room := { frames := f9 + 5, cells := 0, slots := 0, locals := l9 + 114 }
def fX6_readSum_b72 (rec_X6_readComparison : Int32 → Int32 → Int32 → Int32 → (Nat → Int32) → Int32 → (Nat → Int32) → Int32 → Option (Int32 × Int32 × Int32 × Int32 × (Nat → Int32))) (io_length : Int32) (io_at : Int32) (io_sign : Int32) (io_bad : Int32) (co_codes : Nat → Int32) (ip1_length : Int32) (cp1_signs : Nat → Int32) : Option (Int32 × Int32 × Int32 × Int32 × (Nat → Int32)) :=
  some (io_length, io_at, io_sign, io_bad, co_codes)
set_option maxHeartbeats 400000 in
set_option maxRecDepth 100000 in
theorem kX6_readSum_b72 {X : cxT} {l : Launch} {D : va_G} {Y : Nat → ClassId} {ao ap1 : Nat → Nat} {io_length : Int32} {io_at : Int32} {io_sign : Int32} {io_bad : Int32} {co_codes : Nat → Int32} {ip1_length : Int32} {cp1_signs : Nat → Int32} {res : Int32 × Int32 × Int32 × Int32 × (Nat → Int32)} {f9 l9 : Nat} {rec_X6_readComparison : Int32 → Int32 → Int32 → Int32 → (Nat → Int32) → Int32 → (Nat → Int32) → Int32 → Option (Int32 × Int32 × Int32 × Int32 × (Nat → Int32))} (hrec_X6_readComparison : HX6_readComparison l D Y { frames := f9, cells := 0, slots := 0, locals := l9 } rec_X6_readComparison) (C : axC X l D Y cX6_readSum 5 RX6 wsX6_readSum (rmX6_readSum f9 l9) none) (hQ : axQ X 0 0 (fun r9 w9 => r9 = none ∧ w9 = [oX6 ao res.1 res.2.1 res.2.2.1 res.2.2.2.1, rI Y (ao 1) 40 res.2.2.2.2, oX10 ap1 ip1_length, rC Y (ap1 1) 80 cp1_signs])) (hf : fX6_readSum_b72 rec_X6_readComparison io_length io_at io_sign io_bad co_codes ip1_length cp1_signs = some res) : ax X 0 0 72 [none, none, none, none, none] [oX6 ao io_length io_at io_sign io_bad, rI Y (ao 1) 40 co_codes, oX10 ap1 ip1_length, rC Y (ap1 1) 80 cp1_signs] [] := by
  unfold fX6_readSum_b72 at hf
  obtain rfl := fx_some hf
  exact a_vret C hQ dX6_readSum_72 ⟨rfl, rfl⟩
def fX6_readSum_b63 (rec_X6_readComparison : Int32 → Int32 → Int32 → Int32 → (Nat → Int32) → Int32 → (Nat → Int32) → Int32 → Option (Int32 × Int32 × Int32 × Int32 × (Nat → Int32))) (io_length : Int32) (io_at : Int32) (io_sign : Int32) (io_bad : Int32) (co_codes : Nat → Int32) (ip1_length : Int32) (cp1_signs : Nat → Int32) (x2 : Int32) (x3 : Int32) (s1 : Int32) (k8 : Int32 × Int32 × Int32 × Int32 × (Nat → Int32) × Int32 → Option (Int32 × Int32 × Int32 × Int32 × (Nat → Int32))) : Option (Int32 × Int32 × Int32 × Int32 × (Nat → Int32)) :=
  (fX6_put io_length co_codes s1).bind (fun r1 => k8 (r1.1, io_at, io_sign, io_bad, r1.2, (x3 + (1 : Int32))))
set_option maxHeartbeats 400000 in
set_option maxRecDepth 100000 in
theorem kX6_readSum_b63 {X : cxT} {l : Launch} {D : va_G} {Y : Nat → ClassId} {ao ap1 : Nat → Nat} {io_length : Int32} {io_at : Int32} {io_sign : Int32} {io_bad : Int32} {co_codes : Nat → Int32} {ip1_length : Int32} {cp1_signs : Nat → Int32} {x2 : Int32} {x3 : Int32} {s1 : Int32} {res : Int32 × Int32 × Int32 × Int32 × (Nat → Int32)} {f9 l9 : Nat} {rec_X6_readComparison : Int32 → Int32 → Int32 → Int32 → (Nat → Int32) → Int32 → (Nat → Int32) → Int32 → Option (Int32 × Int32 × Int32 × Int32 × (Nat → Int32))} (hrec_X6_readComparison : HX6_readComparison l D Y { frames := f9, cells := 0, slots := 0, locals := l9 } rec_X6_readComparison) (C : axC X l D Y cX6_readSum 5 RX6 wsX6_readSum (rmX6_readSum f9 l9) none) (hQ : axQ X 0 0 (fun r9 w9 => r9 = none ∧ w9 = [oX6 ao res.1 res.2.1 res.2.2.1 res.2.2.2.1, rI Y (ao 1) 40 res.2.2.2.2, oX10 ap1 ip1_length, rC Y (ap1 1) 80 cp1_signs])) {k8 : Int32 × Int32 × Int32 × Int32 × (Nat → Int32) × Int32 → Option (Int32 × Int32 × Int32 × Int32 × (Nat → Int32))} (hk8 : ∀ s : Int32 × Int32 × Int32 × Int32 × (Nat → Int32) × Int32, k8 s = some res → ax X 0 0 8 [some (.ref (ao 0)), some (.ref (ap1 0)), some (.int x2), some (.int s.2.2.2.2.2), none] [oX6 ao s.1 s.2.1 s.2.2.1 s.2.2.2.1, rI Y (ao 1) 40 s.2.2.2.2.1, oX10 ap1 ip1_length, rC Y (ap1 1) 80 cp1_signs] []) (hf : fX6_readSum_b63 rec_X6_readComparison io_length io_at io_sign io_bad co_codes ip1_length cp1_signs x2 x3 s1 k8 = some res) : ax X 0 0 63 [some (.ref (ao 0)), some (.ref (ap1 0)), some (.int x2), some (.int x3), none] [oX6 ao io_length io_at io_sign io_bad, rI Y (ao 1) 40 co_codes, oX10 ap1 ip1_length, rC Y (ap1 1) 80 cp1_signs] [.int s1, .ref (ao 0)] := by
  unfold fX6_readSum_b63 at hf
  obtain ⟨r1, h1, hf⟩ := fx_bind hf
  refine a_fV C (kX6_put l D Y ao io_length io_at io_sign io_bad co_codes s1 r1 h1) (gB_X6_57 _) rfl dvX6_put ⟨⟨rfl, rfl⟩, ⟨by dsimp only; omega, by dsimp only; omega⟩, ⟨Nat.le_of_ble_eq_true rfl, Nat.le_of_ble_eq_true rfl⟩⟩ rfl (Nat.le_of_ble_eq_true rfl) dX6_readSum_63 rfl rfl [0, 1] [2, 3] ⟨rfl, rfl, trivial⟩ (by decide +kernel) rfl [oX6 ao r1.1 io_at io_sign io_bad, rI Y (ao 1) 40 r1.2, oX10 ap1 ip1_length, rC Y (ap1 1) 80 cp1_signs] ⟨rfl, rfl, trivial⟩ ⟨rfl, rfl, trivial⟩ 4 rfl (by decide +kernel) ?_
  refine a_iinc C (1 : Int32) dX6_readSum_66 (by decide) rfl (by decide) rfl ?_
  refine a_goto C 8 dX6_readSum_69 (by decide) ?_
  exact hk8 (r1.1, io_at, io_sign, io_bad, r1.2, (x3 + (1 : Int32))) hf
def fX6_readSum_b32 (rec_X6_readComparison : Int32 → Int32 → Int32 → Int32 → (Nat → Int32) → Int32 → (Nat → Int32) → Int32 → Option (Int32 × Int32 × Int32 × Int32 × (Nat → Int32))) (io_length : Int32) (io_at : Int32) (io_sign : Int32) (io_bad : Int32) (co_codes : Nat → Int32) (ip1_length : Int32) (cp1_signs : Nat → Int32) (x2 : Int32) (x3 : Int32) (k8 : Int32 × Int32 × Int32 × Int32 × (Nat → Int32) × Int32 → Option (Int32 × Int32 × Int32 × Int32 × (Nat → Int32))) : Option (Int32 × Int32 × Int32 × Int32 × (Nat → Int32)) :=
  (fX6_step io_at io_sign ip1_length cp1_signs).bind (fun r2 => (fX6_readProduct rec_X6_readComparison io_length r2.1 r2.2 io_bad co_codes ip1_length cp1_signs x2).bind (fun r3 => if io_sign = (43 : Int32) then (fX6_readSum_b63 rec_X6_readComparison r3.1 r3.2.1 r3.2.2.1 r3.2.2.2.1 r3.2.2.2.2 ip1_length cp1_signs x2 x3 (-1 : Int32) k8) else (fX6_readSum_b63 rec_X6_readComparison r3.1 r3.2.1 r3.2.2.1 r3.2.2.2.1 r3.2.2.2.2 ip1_length cp1_signs x2 x3 (-2 : Int32) k8)))
set_option maxHeartbeats 400000 in
set_option maxRecDepth 100000 in
theorem kX6_readSum_b32 {X : cxT} {l : Launch} {D : va_G} {Y : Nat → ClassId} {ao ap1 : Nat → Nat} {io_length : Int32} {io_at : Int32} {io_sign : Int32} {io_bad : Int32} {co_codes : Nat → Int32} {ip1_length : Int32} {cp1_signs : Nat → Int32} {x2 : Int32} {x3 : Int32} {res : Int32 × Int32 × Int32 × Int32 × (Nat → Int32)} {f9 l9 : Nat} {rec_X6_readComparison : Int32 → Int32 → Int32 → Int32 → (Nat → Int32) → Int32 → (Nat → Int32) → Int32 → Option (Int32 × Int32 × Int32 × Int32 × (Nat → Int32))} (hrec_X6_readComparison : HX6_readComparison l D Y { frames := f9, cells := 0, slots := 0, locals := l9 } rec_X6_readComparison) (C : axC X l D Y cX6_readSum 5 RX6 wsX6_readSum (rmX6_readSum f9 l9) none) (hQ : axQ X 0 0 (fun r9 w9 => r9 = none ∧ w9 = [oX6 ao res.1 res.2.1 res.2.2.1 res.2.2.2.1, rI Y (ao 1) 40 res.2.2.2.2, oX10 ap1 ip1_length, rC Y (ap1 1) 80 cp1_signs])) {k8 : Int32 × Int32 × Int32 × Int32 × (Nat → Int32) × Int32 → Option (Int32 × Int32 × Int32 × Int32 × (Nat → Int32))} (hk8 : ∀ s : Int32 × Int32 × Int32 × Int32 × (Nat → Int32) × Int32, k8 s = some res → ax X 0 0 8 [some (.ref (ao 0)), some (.ref (ap1 0)), some (.int x2), some (.int s.2.2.2.2.2), none] [oX6 ao s.1 s.2.1 s.2.2.1 s.2.2.2.1, rI Y (ao 1) 40 s.2.2.2.2.1, oX10 ap1 ip1_length, rC Y (ap1 1) 80 cp1_signs] []) (hf : fX6_readSum_b32 rec_X6_readComparison io_length io_at io_sign io_bad co_codes ip1_length cp1_signs x2 x3 k8 = some res) : ax X 0 0 32 [some (.ref (ao 0)), some (.ref (ap1 0)), some (.int x2), some (.int x3), none] [oX6 ao io_length io_at io_sign io_bad, rI Y (ao 1) 40 co_codes, oX10 ap1 ip1_length, rC Y (ap1 1) 80 cp1_signs] [] := by
  unfold fX6_readSum_b32 at hf
  refine a_aload_n C dX6_readSum_32 rfl ?_
  refine a_get C (eB_X6_54 _) dX6_readSum_33 0 rfl rfl ?_
  refine a_istore C dX6_readSum_36 (by decide) rfl ?_
  refine a_aload_n C dX6_readSum_38 rfl ?_
  refine a_aload_n C dX6_readSum_39 rfl ?_
  obtain ⟨r2, h2, hf⟩ := fx_bind hf
  refine a_fV C (kX6_step l D Y ao ap1 io_length io_at io_sign io_bad ip1_length cp1_signs r2 h2) (gB_X6_43 _) rfl dvX6_step ⟨⟨rfl, rfl⟩, ⟨by dsimp only; omega, by dsimp only; omega⟩, ⟨Nat.le_of_ble_eq_true rfl, Nat.le_of_ble_eq_true rfl⟩⟩ rfl (Nat.le_of_ble_eq_true rfl) dX6_readSum_40 rfl rfl [0, 2, 3] [1] ⟨rfl, rfl, rfl, trivial⟩ (by decide +kernel) rfl [oX6 ao io_length r2.1 r2.2 io_bad, rI Y (ao 1) 40 co_codes, oX10 ap1 ip1_length, rC Y (ap1 1) 80 cp1_signs] ⟨rfl, rfl, rfl, trivial⟩ ⟨rfl, trivial⟩ 4 rfl (by decide +kernel) ?_
  refine a_aload_n C dX6_readSum_43 rfl ?_
  refine a_aload_n C dX6_readSum_44 rfl ?_
  refine a_iload_n C dX6_readSum_45 rfl ?_
  obtain ⟨r3, h3, hf⟩ := fx_bind hf
  refine a_fV C (kX6_readProduct l D Y f9 l9 rec_X6_readComparison hrec_X6_readComparison ao ap1 io_length r2.1 r2.2 io_bad co_codes ip1_length cp1_signs x2 r3 h3) (gB_X6_61 _) rfl dvX6_readProduct ⟨⟨rfl, rfl⟩, ⟨by dsimp only; omega, by dsimp only; omega⟩, ⟨Nat.le_of_ble_eq_true rfl, Nat.le_of_ble_eq_true rfl⟩⟩ rfl (Nat.le_of_ble_eq_true rfl) dX6_readSum_46 rfl rfl [0, 1, 2, 3] [] ⟨rfl, rfl, rfl, rfl, trivial⟩ (by decide +kernel) rfl [oX6 ao r3.1 r3.2.1 r3.2.2.1 r3.2.2.2.1, rI Y (ao 1) 40 r3.2.2.2.2, oX10 ap1 ip1_length, rC Y (ap1 1) 80 cp1_signs] ⟨rfl, rfl, rfl, rfl, trivial⟩ trivial 4 rfl (by decide +kernel) ?_
  refine a_aload_n C dX6_readSum_49 rfl ?_
  refine a_iload C dX6_readSum_50 rfl ?_
  refine a_bipush C (43 : Int32) dX6_readSum_52 (by decide) ?_
  refine a_icmp_ne C 61 dX6_readSum_54 (by decide) (fun h4 => ?_) (fun h4 => ?_)
  · have hf := fx_f h4 hf
    refine a_bipush C (-2 : Int32) dX6_readSum_61 (by decide) ?_
    refine a_kill [4] ?_
    exact kX6_readSum_b63 hrec_X6_readComparison C hQ hk8 hf
  · have hf := fx_t h4 hf
    refine a_iconst C (-1 : Int32) dX6_readSum_57 (by decide) ?_
    refine a_goto C 63 dX6_readSum_58 (by decide) ?_
    refine a_kill [4] ?_
    exact kX6_readSum_b63 hrec_X6_readComparison C hQ hk8 hf
def fX6_readSum_l8 (rec_X6_readComparison : Int32 → Int32 → Int32 → Int32 → (Nat → Int32) → Int32 → (Nat → Int32) → Int32 → Option (Int32 × Int32 × Int32 × Int32 × (Nat → Int32))) (ip1_length : Int32) (cp1_signs : Nat → Int32) (x2 : Int32) (k8 : Int32 × Int32 × Int32 × Int32 × (Nat → Int32) × Int32 → Option (Int32 × Int32 × Int32 × Int32 × (Nat → Int32))) (io_length : Int32) (io_at : Int32) (io_sign : Int32) (io_bad : Int32) (co_codes : Nat → Int32) (x3 : Int32) : Option (Int32 × Int32 × Int32 × Int32 × (Nat → Int32)) :=
  if (40 : Int32) ≤ x3 then (fX6_readSum_b72 rec_X6_readComparison io_length io_at io_sign io_bad co_codes ip1_length cp1_signs) else (if io_sign = (43 : Int32) then (fX6_readSum_b32 rec_X6_readComparison io_length io_at io_sign io_bad co_codes ip1_length cp1_signs x2 x3 k8) else (if io_sign = (45 : Int32) then (fX6_readSum_b32 rec_X6_readComparison io_length io_at io_sign io_bad co_codes ip1_length cp1_signs x2 x3 k8) else (fX6_readSum_b72 rec_X6_readComparison io_length io_at io_sign io_bad co_codes ip1_length cp1_signs)))
def fX6_readSum_b8 (rec_X6_readComparison : Int32 → Int32 → Int32 → Int32 → (Nat → Int32) → Int32 → (Nat → Int32) → Int32 → Option (Int32 × Int32 × Int32 × Int32 × (Nat → Int32))) (io_length : Int32) (io_at : Int32) (io_sign : Int32) (io_bad : Int32) (co_codes : Nat → Int32) (ip1_length : Int32) (cp1_signs : Nat → Int32) (x2 : Int32) (x3 : Int32) : Option (Int32 × Int32 × Int32 × Int32 × (Nat → Int32)) :=
  loopN (fun (s : Int32 × Int32 × Int32 × Int32 × (Nat → Int32) × Int32) k8 => fX6_readSum_l8 rec_X6_readComparison ip1_length cp1_signs x2 k8 s.1 s.2.1 s.2.2.1 s.2.2.2.1 s.2.2.2.2.1 s.2.2.2.2.2) FUEL (io_length, io_at, io_sign, io_bad, co_codes, x3)
set_option maxHeartbeats 400000 in
set_option maxRecDepth 100000 in
theorem kX6_readSum_l8 {X : cxT} {l : Launch} {D : va_G} {Y : Nat → ClassId} {ao ap1 : Nat → Nat} {io_length : Int32} {io_at : Int32} {io_sign : Int32} {io_bad : Int32} {co_codes : Nat → Int32} {ip1_length : Int32} {cp1_signs : Nat → Int32} {x2 : Int32} {x3 : Int32} {res : Int32 × Int32 × Int32 × Int32 × (Nat → Int32)} {f9 l9 : Nat} {rec_X6_readComparison : Int32 → Int32 → Int32 → Int32 → (Nat → Int32) → Int32 → (Nat → Int32) → Int32 → Option (Int32 × Int32 × Int32 × Int32 × (Nat → Int32))} (hrec_X6_readComparison : HX6_readComparison l D Y { frames := f9, cells := 0, slots := 0, locals := l9 } rec_X6_readComparison) (C : axC X l D Y cX6_readSum 5 RX6 wsX6_readSum (rmX6_readSum f9 l9) none) (hQ : axQ X 0 0 (fun r9 w9 => r9 = none ∧ w9 = [oX6 ao res.1 res.2.1 res.2.2.1 res.2.2.2.1, rI Y (ao 1) 40 res.2.2.2.2, oX10 ap1 ip1_length, rC Y (ap1 1) 80 cp1_signs])) {k8 : Int32 × Int32 × Int32 × Int32 × (Nat → Int32) × Int32 → Option (Int32 × Int32 × Int32 × Int32 × (Nat → Int32))} (hk8 : ∀ s : Int32 × Int32 × Int32 × Int32 × (Nat → Int32) × Int32, k8 s = some res → ax X 0 0 8 [some (.ref (ao 0)), some (.ref (ap1 0)), some (.int x2), some (.int s.2.2.2.2.2), none] [oX6 ao s.1 s.2.1 s.2.2.1 s.2.2.2.1, rI Y (ao 1) 40 s.2.2.2.2.1, oX10 ap1 ip1_length, rC Y (ap1 1) 80 cp1_signs] []) (hf : fX6_readSum_l8 rec_X6_readComparison ip1_length cp1_signs x2 k8 io_length io_at io_sign io_bad co_codes x3 = some res) : ax X 0 0 8 [some (.ref (ao 0)), some (.ref (ap1 0)), some (.int x2), some (.int x3), none] [oX6 ao io_length io_at io_sign io_bad, rI Y (ao 1) 40 co_codes, oX10 ap1 ip1_length, rC Y (ap1 1) 80 cp1_signs] [] := by
  unfold fX6_readSum_l8 at hf
  refine a_iload_n C dX6_readSum_8 rfl ?_
  refine a_bipush C (40 : Int32) dX6_readSum_9 (by decide) ?_
  refine a_icmp_ge C 72 dX6_readSum_11 (by decide) (fun h5 => ?_) (fun h5 => ?_)
  · have hf := fx_t h5 hf
    refine a_kill [0, 1, 2, 3] ?_
    exact kX6_readSum_b72 hrec_X6_readComparison C hQ hf
  · have hf := fx_f h5 hf
    refine a_aload_n C dX6_readSum_14 rfl ?_
    refine a_get C (eB_X6_54 _) dX6_readSum_15 0 rfl rfl ?_
    refine a_bipush C (43 : Int32) dX6_readSum_18 (by decide) ?_
    refine a_icmp_eq C 32 dX6_readSum_20 (by decide) (fun h6 => ?_) (fun h6 => ?_)
    · have hf := fx_t h6 hf
      exact kX6_readSum_b32 hrec_X6_readComparison C hQ hk8 hf
    · have hf := fx_f h6 hf
      refine a_aload_n C dX6_readSum_23 rfl ?_
      refine a_get C (eB_X6_54 _) dX6_readSum_24 0 rfl rfl ?_
      refine a_bipush C (45 : Int32) dX6_readSum_27 (by decide) ?_
      refine a_icmp_ne C 72 dX6_readSum_29 (by decide) (fun h7 => ?_) (fun h7 => ?_)
      · have hf := fx_f h7 hf
        refine a_kill [0, 1, 2, 3] ?_
        exact kX6_readSum_b72 hrec_X6_readComparison C hQ hf
      · have hf := fx_t h7 hf
        exact kX6_readSum_b32 hrec_X6_readComparison C hQ hk8 hf
set_option maxHeartbeats 400000 in
set_option maxRecDepth 100000 in
theorem kX6_readSum_b8 {X : cxT} {l : Launch} {D : va_G} {Y : Nat → ClassId} {ao ap1 : Nat → Nat} {io_length : Int32} {io_at : Int32} {io_sign : Int32} {io_bad : Int32} {co_codes : Nat → Int32} {ip1_length : Int32} {cp1_signs : Nat → Int32} {x2 : Int32} {x3 : Int32} {res : Int32 × Int32 × Int32 × Int32 × (Nat → Int32)} {f9 l9 : Nat} {rec_X6_readComparison : Int32 → Int32 → Int32 → Int32 → (Nat → Int32) → Int32 → (Nat → Int32) → Int32 → Option (Int32 × Int32 × Int32 × Int32 × (Nat → Int32))} (hrec_X6_readComparison : HX6_readComparison l D Y { frames := f9, cells := 0, slots := 0, locals := l9 } rec_X6_readComparison) (C : axC X l D Y cX6_readSum 5 RX6 wsX6_readSum (rmX6_readSum f9 l9) none) (hQ : axQ X 0 0 (fun r9 w9 => r9 = none ∧ w9 = [oX6 ao res.1 res.2.1 res.2.2.1 res.2.2.2.1, rI Y (ao 1) 40 res.2.2.2.2, oX10 ap1 ip1_length, rC Y (ap1 1) 80 cp1_signs])) (hf : fX6_readSum_b8 rec_X6_readComparison io_length io_at io_sign io_bad co_codes ip1_length cp1_signs x2 x3 = some res) : ax X 0 0 8 [some (.ref (ao 0)), some (.ref (ap1 0)), some (.int x2), some (.int x3), none] [oX6 ao io_length io_at io_sign io_bad, rI Y (ao 1) 40 co_codes, oX10 ap1 ip1_length, rC Y (ap1 1) 80 cp1_signs] [] := by
  unfold fX6_readSum_b8 at hf
  exact fx_loop (P := fun s : Int32 × Int32 × Int32 × Int32 × (Nat → Int32) × Int32 => ax X 0 0 8 [some (.ref (ao 0)), some (.ref (ap1 0)), some (.int x2), some (.int s.2.2.2.2.2), none] [oX6 ao s.1 s.2.1 s.2.2.1 s.2.2.2.1, rI Y (ao 1) 40 s.2.2.2.2.1, oX10 ap1 ip1_length, rC Y (ap1 1) 80 cp1_signs] []) (fun s k8 hk8 h => kX6_readSum_l8 hrec_X6_readComparison C hQ hk8 h) FUEL (io_length, io_at, io_sign, io_bad, co_codes, x3) hf
def fX6_readSum (rec_X6_readComparison : Int32 → Int32 → Int32 → Int32 → (Nat → Int32) → Int32 → (Nat → Int32) → Int32 → Option (Int32 × Int32 × Int32 × Int32 × (Nat → Int32))) (io_length : Int32) (io_at : Int32) (io_sign : Int32) (io_bad : Int32) (co_codes : Nat → Int32) (ip1_length : Int32) (cp1_signs : Nat → Int32) (x2 : Int32) : Option (Int32 × Int32 × Int32 × Int32 × (Nat → Int32)) :=
  (fX6_readProduct rec_X6_readComparison io_length io_at io_sign io_bad co_codes ip1_length cp1_signs x2).bind (fun r8 => fX6_readSum_b8 rec_X6_readComparison r8.1 r8.2.1 r8.2.2.1 r8.2.2.2.1 r8.2.2.2.2 ip1_length cp1_signs x2 (0 : Int32))
set_option maxHeartbeats 400000 in
set_option maxRecDepth 100000 in
theorem kX6_readSum (l : Launch) (D : va_G) (Y : Nat → ClassId) (f9 l9 : Nat) (rec_X6_readComparison : Int32 → Int32 → Int32 → Int32 → (Nat → Int32) → Int32 → (Nat → Int32) → Int32 → Option (Int32 × Int32 × Int32 × Int32 × (Nat → Int32))) (hrec_X6_readComparison : HX6_readComparison l D Y { frames := f9, cells := 0, slots := 0, locals := l9 } rec_X6_readComparison) (ao ap1 : Nat → Nat) (io_length : Int32) (io_at : Int32) (io_sign : Int32) (io_bad : Int32) (co_codes : Nat → Int32) (ip1_length : Int32) (cp1_signs : Nat → Int32) (x2 : Int32) (res : Int32 × Int32 × Int32 × Int32 × (Nat → Int32)) (hf : fX6_readSum rec_X6_readComparison io_length io_at io_sign io_bad co_codes ip1_length cp1_signs x2 = some res) : amf l D Y yX6_readSum wsX6_readSum (rmX6_readSum f9 l9) [.ref (ao 0), .ref (ap1 0), .int x2] [oX6 ao io_length io_at io_sign io_bad, rI Y (ao 1) 40 co_codes, oX10 ap1 ip1_length, rC Y (ap1 1) 80 cp1_signs] none [oX6 ao res.1 res.2.1 res.2.2.1 res.2.2.2.1, rI Y (ao 1) 40 res.2.2.2.2, oX10 ap1 ip1_length, rC Y (ap1 1) 80 cp1_signs] := by
  refine amf.of (cc := cX6_readSum) (maxL := 5) (rt := none) (by decide) rfl RX6 rfl (Nat.le_of_ble_eq_true rfl) [some (.ref (ao 0)), some (.ref (ap1 0)), some (.int x2), none, none] rfl ?_
  intro X C hQ
  unfold fX6_readSum at hf
  refine a_aload_n C dX6_readSum_0 rfl ?_
  refine a_aload_n C dX6_readSum_1 rfl ?_
  refine a_iload_n C dX6_readSum_2 rfl ?_
  obtain ⟨r8, h8, hf⟩ := fx_bind hf
  refine a_fV C (kX6_readProduct l D Y f9 l9 rec_X6_readComparison hrec_X6_readComparison ao ap1 io_length io_at io_sign io_bad co_codes ip1_length cp1_signs x2 r8 h8) (gB_X6_61 _) rfl dvX6_readProduct ⟨⟨rfl, rfl⟩, ⟨by dsimp only; omega, by dsimp only; omega⟩, ⟨Nat.le_of_ble_eq_true rfl, Nat.le_of_ble_eq_true rfl⟩⟩ rfl (Nat.le_of_ble_eq_true rfl) dX6_readSum_3 rfl rfl [0, 1, 2, 3] [] ⟨rfl, rfl, rfl, rfl, trivial⟩ (by decide +kernel) rfl [oX6 ao r8.1 r8.2.1 r8.2.2.1 r8.2.2.2.1, rI Y (ao 1) 40 r8.2.2.2.2, oX10 ap1 ip1_length, rC Y (ap1 1) 80 cp1_signs] ⟨rfl, rfl, rfl, rfl, trivial⟩ trivial 4 rfl (by decide +kernel) ?_
  refine a_iconst C (0 : Int32) dX6_readSum_6 (by decide) ?_
  refine a_istore_n C dX6_readSum_7 (by decide) rfl ?_
  exact kX6_readSum_b8 hrec_X6_readComparison C hQ hf
abbrev rmX6_readComparison (f9 l9 : Nat) : Room := { frames := f9 + 6, cells := 0, slots := 0, locals := l9 + 138 }
def fX6_readComparison_b68 (rec_X6_readComparison : Int32 → Int32 → Int32 → Int32 → (Nat → Int32) → Int32 → (Nat → Int32) → Int32 → Option (Int32 × Int32 × Int32 × Int32 × (Nat → Int32))) (io_length : Int32) (io_at : Int32) (io_sign : Int32) (io_bad : Int32) (co_codes : Nat → Int32) (ip1_length : Int32) (cp1_signs : Nat → Int32) : Option (Int32 × Int32 × Int32 × Int32 × (Nat → Int32)) :=
  some (io_length, io_at, io_sign, io_bad, co_codes)
set_option maxHeartbeats 400000 in
set_option maxRecDepth 100000 in
theorem kX6_readComparison_b68 {X : cxT} {l : Launch} {D : va_G} {Y : Nat → ClassId} {ao ap1 : Nat → Nat} {io_length : Int32} {io_at : Int32} {io_sign : Int32} {io_bad : Int32} {co_codes : Nat → Int32} {ip1_length : Int32} {cp1_signs : Nat → Int32} {res : Int32 × Int32 × Int32 × Int32 × (Nat → Int32)} {f9 l9 : Nat} {rec_X6_readComparison : Int32 → Int32 → Int32 → Int32 → (Nat → Int32) → Int32 → (Nat → Int32) → Int32 → Option (Int32 × Int32 × Int32 × Int32 × (Nat → Int32))} (hrec_X6_readComparison : HX6_readComparison l D Y { frames := f9, cells := 0, slots := 0, locals := l9 } rec_X6_readComparison) (C : axC X l D Y cX6_readComparison 4 RX6 wsX6_readComparison (rmX6_readComparison f9 l9) none) (hQ : axQ X 0 0 (fun r9 w9 => r9 = none ∧ w9 = [oX6 ao res.1 res.2.1 res.2.2.1 res.2.2.2.1, rI Y (ao 1) 40 res.2.2.2.2, oX10 ap1 ip1_length, rC Y (ap1 1) 80 cp1_signs])) (hf : fX6_readComparison_b68 rec_X6_readComparison io_length io_at io_sign io_bad co_codes ip1_length cp1_signs = some res) : ax X 0 0 68 [none, none, none, none] [oX6 ao io_length io_at io_sign io_bad, rI Y (ao 1) 40 co_codes, oX10 ap1 ip1_length, rC Y (ap1 1) 80 cp1_signs] [] := by
  unfold fX6_readComparison_b68 at hf
  obtain rfl := fx_some hf
  exact a_vret C hQ dX6_readComparison_68 ⟨rfl, rfl⟩
def fX6_readComparison_b65 (rec_X6_readComparison : Int32 → Int32 → Int32 → Int32 → (Nat → Int32) → Int32 → (Nat → Int32) → Int32 → Option (Int32 × Int32 × Int32 × Int32 × (Nat → Int32))) (io_length : Int32) (io_at : Int32) (io_sign : Int32) (io_bad : Int32) (co_codes : Nat → Int32) (ip1_length : Int32) (cp1_signs : Nat → Int32) (s1 : Int32) : Option (Int32 × Int32 × Int32 × Int32 × (Nat → Int32)) :=
  (fX6_put io_length co_codes s1).bind (fun r1 => fX6_readComparison_b68 rec_X6_readComparison r1.1 io_at io_sign io_bad r1.2 ip1_length cp1_signs)
set_option maxHeartbeats 400000 in
set_option maxRecDepth 100000 in
theorem kX6_readComparison_b65 {X : cxT} {l : Launch} {D : va_G} {Y : Nat → ClassId} {ao ap1 : Nat → Nat} {io_length : Int32} {io_at : Int32} {io_sign : Int32} {io_bad : Int32} {co_codes : Nat → Int32} {ip1_length : Int32} {cp1_signs : Nat → Int32} {s1 : Int32} {res : Int32 × Int32 × Int32 × Int32 × (Nat → Int32)} {f9 l9 : Nat} {rec_X6_readComparison : Int32 → Int32 → Int32 → Int32 → (Nat → Int32) → Int32 → (Nat → Int32) → Int32 → Option (Int32 × Int32 × Int32 × Int32 × (Nat → Int32))} (hrec_X6_readComparison : HX6_readComparison l D Y { frames := f9, cells := 0, slots := 0, locals := l9 } rec_X6_readComparison) (C : axC X l D Y cX6_readComparison 4 RX6 wsX6_readComparison (rmX6_readComparison f9 l9) none) (hQ : axQ X 0 0 (fun r9 w9 => r9 = none ∧ w9 = [oX6 ao res.1 res.2.1 res.2.2.1 res.2.2.2.1, rI Y (ao 1) 40 res.2.2.2.2, oX10 ap1 ip1_length, rC Y (ap1 1) 80 cp1_signs])) (hf : fX6_readComparison_b65 rec_X6_readComparison io_length io_at io_sign io_bad co_codes ip1_length cp1_signs s1 = some res) : ax X 0 0 65 [none, none, none, none] [oX6 ao io_length io_at io_sign io_bad, rI Y (ao 1) 40 co_codes, oX10 ap1 ip1_length, rC Y (ap1 1) 80 cp1_signs] [.int s1, .ref (ao 0)] := by
  unfold fX6_readComparison_b65 at hf
  obtain ⟨r1, h1, hf⟩ := fx_bind hf
  refine a_fV C (kX6_put l D Y ao io_length io_at io_sign io_bad co_codes s1 r1 h1) (gB_X6_57 _) rfl dvX6_put ⟨⟨rfl, rfl⟩, ⟨by dsimp only; omega, by dsimp only; omega⟩, ⟨Nat.le_of_ble_eq_true rfl, Nat.le_of_ble_eq_true rfl⟩⟩ rfl (Nat.le_of_ble_eq_true rfl) dX6_readComparison_65 rfl rfl [0, 1] [2, 3] ⟨rfl, rfl, trivial⟩ (by decide +kernel) rfl [oX6 ao r1.1 io_at io_sign io_bad, rI Y (ao 1) 40 r1.2, oX10 ap1 ip1_length, rC Y (ap1 1) 80 cp1_signs] ⟨rfl, rfl, trivial⟩ ⟨rfl, rfl, trivial⟩ 4 rfl (by decide +kernel) ?_
  exact kX6_readComparison_b68 hrec_X6_readComparison C hQ hf
def fX6_readComparison_b29 (rec_X6_readComparison : Int32 → Int32 → Int32 → Int32 → (Nat → Int32) → Int32 → (Nat → Int32) → Int32 → Option (Int32 × Int32 × Int32 × Int32 × (Nat → Int32))) (io_length : Int32) (io_at : Int32) (io_sign : Int32) (io_bad : Int32) (co_codes : Nat → Int32) (ip1_length : Int32) (cp1_signs : Nat → Int32) (x2 : Int32) (x3 : Int32) : Option (Int32 × Int32 × Int32 × Int32 × (Nat → Int32)) :=
  (fX6_step io_at io_sign ip1_length cp1_signs).bind (fun r2 => (fX6_readSum rec_X6_readComparison io_length r2.1 r2.2 io_bad co_codes ip1_length cp1_signs x2).bind (fun r3 => if x3 = (60 : Int32) then (fX6_readComparison_b65 rec_X6_readComparison r3.1 r3.2.1 r3.2.2.1 r3.2.2.2.1 r3.2.2.2.2 ip1_length cp1_signs (-5 : Int32)) else (if x3 = (62 : Int32) then (fX6_readComparison_b65 rec_X6_readComparison r3.1 r3.2.1 r3.2.2.1 r3.2.2.2.1 r3.2.2.2.2 ip1_length cp1_signs (-6 : Int32)) else (fX6_readComparison_b65 rec_X6_readComparison r3.1 r3.2.1 r3.2.2.1 r3.2.2.2.1 r3.2.2.2.2 ip1_length cp1_signs (-7 : Int32)))))
set_option maxHeartbeats 400000 in
set_option maxRecDepth 100000 in
theorem kX6_readComparison_b29 {X : cxT} {l : Launch} {D : va_G} {Y : Nat → ClassId} {ao ap1 : Nat → Nat} {io_length : Int32} {io_at : Int32} {io_sign : Int32} {io_bad : Int32} {co_codes : Nat → Int32} {ip1_length : Int32} {cp1_signs : Nat → Int32} {x2 : Int32} {x3 : Int32} {res : Int32 × Int32 × Int32 × Int32 × (Nat → Int32)} {f9 l9 : Nat} {rec_X6_readComparison : Int32 → Int32 → Int32 → Int32 → (Nat → Int32) → Int32 → (Nat → Int32) → Int32 → Option (Int32 × Int32 × Int32 × Int32 × (Nat → Int32))} (hrec_X6_readComparison : HX6_readComparison l D Y { frames := f9, cells := 0, slots := 0, locals := l9 } rec_X6_readComparison) (C : axC X l D Y cX6_readComparison 4 RX6 wsX6_readComparison (rmX6_readComparison f9 l9) none) (hQ : axQ X 0 0 (fun r9 w9 => r9 = none ∧ w9 = [oX6 ao res.1 res.2.1 res.2.2.1 res.2.2.2.1, rI Y (ao 1) 40 res.2.2.2.2, oX10 ap1 ip1_length, rC Y (ap1 1) 80 cp1_signs])) (hf : fX6_readComparison_b29 rec_X6_readComparison io_length io_at io_sign io_bad co_codes ip1_length cp1_signs x2 x3 = some res) : ax X 0 0 29 [some (.ref (ao 0)), some (.ref (ap1 0)), some (.int x2), some (.int x3)] [oX6 ao io_length io_at io_sign io_bad, rI Y (ao 1) 40 co_codes, oX10 ap1 ip1_length, rC Y (ap1 1) 80 cp1_signs] [] := by
  unfold fX6_readComparison_b29 at hf
  refine a_aload_n C dX6_readComparison_29 rfl ?_
  refine a_aload_n C dX6_readComparison_30 rfl ?_
  obtain ⟨r2, h2, hf⟩ := fx_bind hf
  refine a_fV C (kX6_step l D Y ao ap1 io_length io_at io_sign io_bad ip1_length cp1_signs r2 h2) (gB_X6_43 _) rfl dvX6_step ⟨⟨rfl, rfl⟩, ⟨by dsimp only; omega, by dsimp only; omega⟩, ⟨Nat.le_of_ble_eq_true rfl, Nat.le_of_ble_eq_true rfl⟩⟩ rfl (Nat.le_of_ble_eq_true rfl) dX6_readComparison_31 rfl rfl [0, 2, 3] [1] ⟨rfl, rfl, rfl, trivial⟩ (by decide +kernel) rfl [oX6 ao io_length r2.1 r2.2 io_bad, rI Y (ao 1) 40 co_codes, oX10 ap1 ip1_length, rC Y (ap1 1) 80 cp1_signs] ⟨rfl, rfl, rfl, trivial⟩ ⟨rfl, trivial⟩ 4 rfl (by decide +kernel) ?_
  refine a_aload_n C dX6_readComparison_34 rfl ?_
  refine a_aload_n C dX6_readComparison_35 rfl ?_
  refine a_iload_n C dX6_readComparison_36 rfl ?_
  obtain ⟨r3, h3, hf⟩ := fx_bind hf
  refine a_fV C (kX6_readSum l D Y f9 l9 rec_X6_readComparison hrec_X6_readComparison ao ap1 io_length r2.1 r2.2 io_bad co_codes ip1_length cp1_signs x2 r3 h3) (gB_X6_51 _) rfl dvX6_readSum ⟨⟨rfl, rfl⟩, ⟨by dsimp only; omega, by dsimp only; omega⟩, ⟨Nat.le_of_ble_eq_true rfl, Nat.le_of_ble_eq_true rfl⟩⟩ rfl (Nat.le_of_ble_eq_true rfl) dX6_readComparison_37 rfl rfl [0, 1, 2, 3] [] ⟨rfl, rfl, rfl, rfl, trivial⟩ (by decide +kernel) rfl [oX6 ao r3.1 r3.2.1 r3.2.2.1 r3.2.2.2.1, rI Y (ao 1) 40 r3.2.2.2.2, oX10 ap1 ip1_length, rC Y (ap1 1) 80 cp1_signs] ⟨rfl, rfl, rfl, rfl, trivial⟩ trivial 4 rfl (by decide +kernel) ?_
  refine a_aload_n C dX6_readComparison_40 rfl ?_
  refine a_iload_n C dX6_readComparison_41 rfl ?_
  refine a_bipush C (60 : Int32) dX6_readComparison_42 (by decide) ?_
  refine a_icmp_ne C 52 dX6_readComparison_44 (by decide) (fun h4 => ?_) (fun h4 => ?_)
  · have hf := fx_f h4 hf
    refine a_iload_n C dX6_readComparison_52 rfl ?_
    refine a_bipush C (62 : Int32) dX6_readComparison_53 (by decide) ?_
    refine a_icmp_ne C 63 dX6_readComparison_55 (by decide) (fun h5 => ?_) (fun h5 => ?_)
    · have hf := fx_f h5 hf
      refine a_bipush C (-7 : Int32) dX6_readComparison_63 (by decide) ?_
      refine a_kill [0, 1, 2, 3] ?_
      exact kX6_readComparison_b65 hrec_X6_readComparison C hQ hf
    · have hf := fx_t h5 hf
      refine a_bipush C (-6 : Int32) dX6_readComparison_58 (by decide) ?_
      refine a_goto C 65 dX6_readComparison_60 (by decide) ?_
      refine a_kill [0, 1, 2, 3] ?_
      exact kX6_readComparison_b65 hrec_X6_readComparison C hQ hf
  · have hf := fx_t h4 hf
    refine a_bipush C (-5 : Int32) dX6_readComparison_47 (by decide) ?_
    refine a_goto C 65 dX6_readComparison_49 (by decide) ?_
    refine a_kill [0, 1, 2, 3] ?_
    exact kX6_readComparison_b65 hrec_X6_readComparison C hQ hf
def fX6_readComparison_s (rec_X6_readComparison : Int32 → Int32 → Int32 → Int32 → (Nat → Int32) → Int32 → (Nat → Int32) → Int32 → Option (Int32 × Int32 × Int32 × Int32 × (Nat → Int32))) (io_length : Int32) (io_at : Int32) (io_sign : Int32) (io_bad : Int32) (co_codes : Nat → Int32) (ip1_length : Int32) (cp1_signs : Nat → Int32) (x2 : Int32) : Option (Int32 × Int32 × Int32 × Int32 × (Nat → Int32)) :=
  (fX6_readSum rec_X6_readComparison io_length io_at io_sign io_bad co_codes ip1_length cp1_signs x2).bind (fun r6 => if r6.2.2.1 = (60 : Int32) then (fX6_readComparison_b29 rec_X6_readComparison r6.1 r6.2.1 r6.2.2.1 r6.2.2.2.1 r6.2.2.2.2 ip1_length cp1_signs x2 r6.2.2.1) else (if r6.2.2.1 = (62 : Int32) then (fX6_readComparison_b29 rec_X6_readComparison r6.1 r6.2.1 r6.2.2.1 r6.2.2.2.1 r6.2.2.2.2 ip1_length cp1_signs x2 r6.2.2.1) else (if r6.2.2.1 = (61 : Int32) then (fX6_readComparison_b29 rec_X6_readComparison r6.1 r6.2.1 r6.2.2.1 r6.2.2.2.1 r6.2.2.2.2 ip1_length cp1_signs x2 r6.2.2.1) else (fX6_readComparison_b68 rec_X6_readComparison r6.1 r6.2.1 r6.2.2.1 r6.2.2.2.1 r6.2.2.2.2 ip1_length cp1_signs))))
set_option maxHeartbeats 400000 in
set_option maxRecDepth 100000 in
theorem kX6_readComparison_s (l : Launch) (D : va_G) (Y : Nat → ClassId) (f9 l9 : Nat) (rec_X6_readComparison : Int32 → Int32 → Int32 → Int32 → (Nat → Int32) → Int32 → (Nat → Int32) → Int32 → Option (Int32 × Int32 × Int32 × Int32 × (Nat → Int32))) (hrec_X6_readComparison : HX6_readComparison l D Y { frames := f9, cells := 0, slots := 0, locals := l9 } rec_X6_readComparison) (ao ap1 : Nat → Nat) (io_length : Int32) (io_at : Int32) (io_sign : Int32) (io_bad : Int32) (co_codes : Nat → Int32) (ip1_length : Int32) (cp1_signs : Nat → Int32) (x2 : Int32) (res : Int32 × Int32 × Int32 × Int32 × (Nat → Int32)) (hf : fX6_readComparison_s rec_X6_readComparison io_length io_at io_sign io_bad co_codes ip1_length cp1_signs x2 = some res) : amf l D Y yX6_readComparison wsX6_readComparison (rmX6_readComparison f9 l9) [.ref (ao 0), .ref (ap1 0), .int x2] [oX6 ao io_length io_at io_sign io_bad, rI Y (ao 1) 40 co_codes, oX10 ap1 ip1_length, rC Y (ap1 1) 80 cp1_signs] none [oX6 ao res.1 res.2.1 res.2.2.1 res.2.2.2.1, rI Y (ao 1) 40 res.2.2.2.2, oX10 ap1 ip1_length, rC Y (ap1 1) 80 cp1_signs] := by
  refine amf.of (cc := cX6_readComparison) (maxL := 4) (rt := none) (by decide) rfl RX6 rfl (Nat.le_of_ble_eq_true rfl) [some (.ref (ao 0)), some (.ref (ap1 0)), some (.int x2), none] rfl ?_
  intro X C hQ
  unfold fX6_readComparison_s at hf
  refine a_aload_n C dX6_readComparison_0 rfl ?_
  refine a_aload_n C dX6_readComparison_1 rfl ?_
  refine a_iload_n C dX6_readComparison_2 rfl ?_
  obtain ⟨r6, h6, hf⟩ := fx_bind hf
  refine a_fV C (kX6_readSum l D Y f9 l9 rec_X6_readComparison hrec_X6_readComparison ao ap1 io_length io_at io_sign io_bad co_codes ip1_length cp1_signs x2 r6 h6) (gB_X6_51 _) rfl dvX6_readSum ⟨⟨rfl, rfl⟩, ⟨by dsimp only; omega, by dsimp only; omega⟩, ⟨Nat.le_of_ble_eq_true rfl, Nat.le_of_ble_eq_true rfl⟩⟩ rfl (Nat.le_of_ble_eq_true rfl) dX6_readComparison_3 rfl rfl [0, 1, 2, 3] [] ⟨rfl, rfl, rfl, rfl, trivial⟩ (by decide +kernel) rfl [oX6 ao r6.1 r6.2.1 r6.2.2.1 r6.2.2.2.1, rI Y (ao 1) 40 r6.2.2.2.2, oX10 ap1 ip1_length, rC Y (ap1 1) 80 cp1_signs] ⟨rfl, rfl, rfl, rfl, trivial⟩ trivial 4 rfl (by decide +kernel) ?_
  refine a_aload_n C dX6_readComparison_6 rfl ?_
  refine a_get C (eB_X6_54 _) dX6_readComparison_7 0 rfl rfl ?_
  refine a_istore_n C dX6_readComparison_10 (by decide) rfl ?_
  refine a_iload_n C dX6_readComparison_11 rfl ?_
  refine a_bipush C (60 : Int32) dX6_readComparison_12 (by decide) ?_
  refine a_icmp_eq C 29 dX6_readComparison_14 (by decide) (fun h7 => ?_) (fun h7 => ?_)
  · have hf := fx_t h7 hf
    exact kX6_readComparison_b29 hrec_X6_readComparison C hQ hf
  · have hf := fx_f h7 hf
    refine a_iload_n C dX6_readComparison_17 rfl ?_
    refine a_bipush C (62 : Int32) dX6_readComparison_18 (by decide) ?_
    refine a_icmp_eq C 29 dX6_readComparison_20 (by decide) (fun h8 => ?_) (fun h8 => ?_)
    · have hf := fx_t h8 hf
      exact kX6_readComparison_b29 hrec_X6_readComparison C hQ hf
    · have hf := fx_f h8 hf
      refine a_iload_n C dX6_readComparison_23 rfl ?_
      refine a_bipush C (61 : Int32) dX6_readComparison_24 (by decide) ?_
      refine a_icmp_ne C 68 dX6_readComparison_26 (by decide) (fun h9 => ?_) (fun h9 => ?_)
      · have hf := fx_f h9 hf
        refine a_kill [0, 1, 2, 3] ?_
        exact kX6_readComparison_b68 hrec_X6_readComparison C hQ hf
      · have hf := fx_t h9 hf
        exact kX6_readComparison_b29 hrec_X6_readComparison C hQ hf
abbrev RMX6_readComparison (d : Nat) : Room := { frames := 6 * d, cells := 0, slots := 0, locals := 138 * d }
def fX6_readComparison : Nat → Int32 → Int32 → Int32 → Int32 → (Nat → Int32) → Int32 → (Nat → Int32) → Int32 → Option (Int32 × Int32 × Int32 × Int32 × (Nat → Int32))
  | 0 => fun _ _ _ _ _ _ _ _ => none
  | d + 1 => fX6_readComparison_s (fX6_readComparison d)
theorem hX6_readComparison (l : Launch) (D : va_G) (Y : Nat → ClassId) : ∀ d : Nat, HX6_readComparison l D Y (RMX6_readComparison d) (fX6_readComparison d)
  | 0 => fun _ _ _ _ _ _ _ _ _ _ _ h => by cases h
  | d + 1 => fun ao ap1 io_length io_at io_sign io_bad co_codes ip1_length cp1_signs x2 res h => kX6_readComparison_s l D Y (6 * d) (138 * d) (fX6_readComparison d) (hX6_readComparison l D Y d) ao ap1 io_length io_at io_sign io_bad co_codes ip1_length cp1_signs x2 res h
abbrev rmX6_readComparison_8 : Room := RMX6_readComparison 8
theorem kX6_readComparison (l : Launch) (D : va_G) (Y : Nat → ClassId) (d : Nat) : HX6_readComparison l D Y (RMX6_readComparison d) (fX6_readComparison d) := hX6_readComparison l D Y d
-- X6_read
abbrev rmX6_read : Room := { frames := 49, cells := 0, slots := 0, locals := 1127 }
theorem dvX6_read : yX6_read.cls = RX6 ∧ yX6_read.cls ≠ "java/lang/invoke/MethodHandle" ∧ yX6_read.cls ≠ "java/lang/invoke/VarHandle" ∧ (parseMethodDescriptor yX6_read.desc).map (fun d => d.parameters.length) = some 1 := by decide +kernel
def fX6_read_b66 (io_length : Int32) (io_at : Int32) (io_sign : Int32) (io_bad : Int32) (co_codes : Nat → Int32) (ip1_length : Int32) (cp1_signs : Nat → Int32) : Option (Int32 × Int32 × Int32 × Int32 × Int32 × (Nat → Int32)) :=
  some (io_bad, io_length, io_at, io_sign, io_bad, co_codes)
set_option maxHeartbeats 400000 in
set_option maxRecDepth 100000 in
theorem kX6_read_b66 {X : cxT} {l : Launch} {D : va_G} {Y : Nat → ClassId} {ao ap1 : Nat → Nat} {io_length : Int32} {io_at : Int32} {io_sign : Int32} {io_bad : Int32} {co_codes : Nat → Int32} {ip1_length : Int32} {cp1_signs : Nat → Int32} {res : Int32 × Int32 × Int32 × Int32 × Int32 × (Nat → Int32)} (C : axC X l D Y cX6_read 2 RX6 wsX6_read rmX6_read (some .int)) (hQ : axQ X 0 0 (fun r9 w9 => r9 = (some (.int res.1)) ∧ w9 = [oX6 ao res.2.1 res.2.2.1 res.2.2.2.1 res.2.2.2.2.1, rI Y (ao 1) 40 res.2.2.2.2.2, oX10 ap1 ip1_length, rC Y (ap1 1) 80 cp1_signs])) (hf : fX6_read_b66 io_length io_at io_sign io_bad co_codes ip1_length cp1_signs = some res) : ax X 0 0 66 [some (.ref (ao 0)), none] [oX6 ao io_length io_at io_sign io_bad, rI Y (ao 1) 40 co_codes, oX10 ap1 ip1_length, rC Y (ap1 1) 80 cp1_signs] [] := by
  unfold fX6_read_b66 at hf
  refine a_aload_n C dX6_read_66 rfl ?_
  refine a_get C (eB_X6_37 _) dX6_read_67 0 rfl rfl ?_
  obtain rfl := fx_some hf
  exact a_iret C hQ dX6_read_70 ⟨rfl, rfl⟩
def fX6_read (io_length : Int32) (io_at : Int32) (io_sign : Int32) (io_bad : Int32) (co_codes : Nat → Int32) (ip1_length : Int32) (cp1_signs : Nat → Int32) : Option (Int32 × Int32 × Int32 × Int32 × Int32 × (Nat → Int32)) :=
  if ip1_length = (0 : Int32) then ((fX6_usePlain io_length co_codes).bind (fun r6 => some ((-1 : Int32), r6.1, io_at, io_sign, io_bad, r6.2))) else ((fX6_step (-1 : Int32) io_sign ip1_length cp1_signs).bind (fun r2 => (fX6_readComparison 8 (0 : Int32) r2.1 r2.2 (-1 : Int32) co_codes ip1_length cp1_signs (0 : Int32)).bind (fun r3 => if r3.2.2.2.1 = (-1 : Int32) then (if ip1_length ≤ r3.2.1 then (fX6_read_b66 r3.1 r3.2.1 r3.2.2.1 r3.2.2.2.1 r3.2.2.2.2 ip1_length cp1_signs) else (fX6_read_b66 r3.1 r3.2.1 r3.2.2.1 r3.2.1 r3.2.2.2.2 ip1_length cp1_signs)) else (fX6_read_b66 r3.1 r3.2.1 r3.2.2.1 r3.2.2.2.1 r3.2.2.2.2 ip1_length cp1_signs))))
set_option maxHeartbeats 400000 in
set_option maxRecDepth 100000 in
theorem kX6_read (l : Launch) (D : va_G) (Y : Nat → ClassId) (ao ap1 : Nat → Nat) (io_length : Int32) (io_at : Int32) (io_sign : Int32) (io_bad : Int32) (co_codes : Nat → Int32) (ip1_length : Int32) (cp1_signs : Nat → Int32) (res : Int32 × Int32 × Int32 × Int32 × Int32 × (Nat → Int32)) (hf : fX6_read io_length io_at io_sign io_bad co_codes ip1_length cp1_signs = some res) : amf l D Y yX6_read wsX6_read rmX6_read [.ref (ao 0), .ref (ap1 0)] [oX6 ao io_length io_at io_sign io_bad, rI Y (ao 1) 40 co_codes, oX10 ap1 ip1_length, rC Y (ap1 1) 80 cp1_signs] (some (.int res.1)) [oX6 ao res.2.1 res.2.2.1 res.2.2.2.1 res.2.2.2.2.1, rI Y (ao 1) 40 res.2.2.2.2.2, oX10 ap1 ip1_length, rC Y (ap1 1) 80 cp1_signs] := by
  refine amf.of (cc := cX6_read) (maxL := 2) (rt := (some .int)) (by decide) rfl RX6 rfl (Nat.le_of_ble_eq_true rfl) [some (.ref (ao 0)), some (.ref (ap1 0))] rfl ?_
  intro X C hQ
  unfold fX6_read at hf
  refine a_aload_n C dX6_read_0 rfl ?_
  refine a_get C (eB_X6_34 _) dX6_read_1 2 rfl rfl ?_
  refine a_if_ne C 13 dX6_read_4 (by decide) (fun h1 => ?_) (fun h1 => ?_)
  · have hf := fx_f h1 hf
    refine a_aload_n C dX6_read_13 rfl ?_
    refine a_iconst C (0 : Int32) dX6_read_14 (by decide) ?_
    refine a_put C (eB_X6_30 _) tfX6_2 dX6_read_15 0 rfl rfl rfl (Nat.le_of_ble_eq_true rfl) ?_
    refine a_aload_n C dX6_read_18 rfl ?_
    refine a_iconst C (-1 : Int32) dX6_read_19 (by decide) ?_
    refine a_put C (eB_X6_37 _) tfX6_5 dX6_read_20 0 rfl rfl rfl (Nat.le_of_ble_eq_true rfl) ?_
    refine a_aload_n C dX6_read_23 rfl ?_
    refine a_iconst C (-1 : Int32) dX6_read_24 (by decide) ?_
    refine a_put C (eB_X6_40 _) tfX6_3 dX6_read_25 0 rfl rfl rfl (Nat.le_of_ble_eq_true rfl) ?_
    refine a_aload_n C dX6_read_28 rfl ?_
    refine a_aload_n C dX6_read_29 rfl ?_
    obtain ⟨r2, h2, hf⟩ := fx_bind hf
    refine a_fV C (kX6_step l D Y ao ap1 (0 : Int32) (-1 : Int32) io_sign (-1 : Int32) ip1_length cp1_signs r2 h2) (gB_X6_43 _) rfl dvX6_step ⟨⟨rfl, rfl⟩, ⟨Nat.le_of_ble_eq_true rfl, Nat.le_of_ble_eq_true rfl⟩, ⟨Nat.le_of_ble_eq_true rfl, Nat.le_of_ble_eq_true rfl⟩⟩ rfl (Nat.le_of_ble_eq_true rfl) dX6_read_30 rfl rfl [0, 2, 3] [1] ⟨rfl, rfl, rfl, trivial⟩ (by decide +kernel) rfl [oX6 ao (0 : Int32) r2.1 r2.2 (-1 : Int32), rI Y (ao 1) 40 co_codes, oX10 ap1 ip1_length, rC Y (ap1 1) 80 cp1_signs] ⟨rfl, rfl, rfl, trivial⟩ ⟨rfl, trivial⟩ 4 rfl (by decide +kernel) ?_
    refine a_aload_n C dX6_read_33 rfl ?_
    refine a_aload_n C dX6_read_34 rfl ?_
    refine a_iconst C (0 : Int32) dX6_read_35 (by decide) ?_
    obtain ⟨r3, h3, hf⟩ := fx_bind hf
    refine a_fV C (kX6_readComparison l D Y 8 ao ap1 (0 : Int32) r2.1 r2.2 (-1 : Int32) co_codes ip1_length cp1_signs (0 : Int32) r3 h3) (gB_X6_47 _) rfl dvX6_readComparison ⟨⟨rfl, rfl⟩, ⟨Nat.le_of_ble_eq_true rfl, Nat.le_of_ble_eq_true rfl⟩, ⟨Nat.le_of_ble_eq_true rfl, Nat.le_of_ble_eq_true rfl⟩⟩ rfl (Nat.le_of_ble_eq_true rfl) dX6_read_36 rfl rfl [0, 1, 2, 3] [] ⟨rfl, rfl, rfl, rfl, trivial⟩ (by decide +kernel) rfl [oX6 ao r3.1 r3.2.1 r3.2.2.1 r3.2.2.2.1, rI Y (ao 1) 40 r3.2.2.2.2, oX10 ap1 ip1_length, rC Y (ap1 1) 80 cp1_signs] ⟨rfl, rfl, rfl, rfl, trivial⟩ trivial 4 rfl (by decide +kernel) ?_
    refine a_aload_n C dX6_read_39 rfl ?_
    refine a_get C (eB_X6_37 _) dX6_read_40 0 rfl rfl ?_
    refine a_iconst C (-1 : Int32) dX6_read_43 (by decide) ?_
    refine a_icmp_ne C 66 dX6_read_44 (by decide) (fun h4 => ?_) (fun h4 => ?_)
    · have hf := fx_f h4 hf
      refine a_kill [1] ?_
      exact kX6_read_b66 C hQ hf
    · have hf := fx_t h4 hf
      refine a_aload_n C dX6_read_47 rfl ?_
      refine a_get C (eB_X6_40 _) dX6_read_48 0 rfl rfl ?_
      refine a_aload_n C dX6_read_51 rfl ?_
      refine a_get C (eB_X6_34 _) dX6_read_52 2 rfl rfl ?_
      refine a_icmp_ge C 66 dX6_read_55 (by decide) (fun h5 => ?_) (fun h5 => ?_)
      · have hf := fx_t h5 hf
        refine a_kill [1] ?_
        exact kX6_read_b66 C hQ hf
      · have hf := fx_f h5 hf
        refine a_aload_n C dX6_read_58 rfl ?_
        refine a_aload_n C dX6_read_59 rfl ?_
        refine a_get C (eB_X6_40 _) dX6_read_60 0 rfl rfl ?_
        refine a_put C (eB_X6_37 _) tfX6_5 dX6_read_63 0 rfl rfl rfl (Nat.le_of_ble_eq_true rfl) ?_
        refine a_kill [1] ?_
        exact kX6_read_b66 C hQ hf
  · have hf := fx_t h1 hf
    refine a_aload_n C dX6_read_7 rfl ?_
    obtain ⟨r6, h6, hf⟩ := fx_bind hf
    refine a_fV C (kX6_usePlain l D Y ao io_length io_at io_sign io_bad co_codes r6 h6) (gB_X6_18 _) rfl dvX6_usePlain ⟨⟨rfl, rfl⟩, ⟨Nat.le_of_ble_eq_true rfl, Nat.le_of_ble_eq_true rfl⟩, ⟨Nat.le_of_ble_eq_true rfl, Nat.le_of_ble_eq_true rfl⟩⟩ rfl (Nat.le_of_ble_eq_true rfl) dX6_read_8 rfl rfl [0, 1] [2, 3] ⟨rfl, rfl, trivial⟩ (by decide +kernel) rfl [oX6 ao r6.1 io_at io_sign io_bad, rI Y (ao 1) 40 r6.2, oX10 ap1 ip1_length, rC Y (ap1 1) 80 cp1_signs] ⟨rfl, rfl, trivial⟩ ⟨rfl, rfl, trivial⟩ 4 rfl (by decide +kernel) ?_
    refine a_iconst C (-1 : Int32) dX6_read_11 (by decide) ?_
    obtain rfl := fx_some hf
    exact a_iret C hQ dX6_read_12 ⟨rfl, rfl⟩
