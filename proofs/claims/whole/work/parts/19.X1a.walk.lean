-- X1_mostOf
abbrev rmX1_mostOf : Room := { frames := 1, cells := 0, slots := 0, locals := 23 }
theorem dvX1_mostOf : yX1_mostOf.cls = RX1 ∧ yX1_mostOf.cls ≠ "java/lang/invoke/MethodHandle" ∧ yX1_mostOf.cls ≠ "java/lang/invoke/VarHandle" ∧ (parseMethodDescriptor yX1_mostOf.desc).map (fun d => d.parameters.length) = some 3 := by decide +kernel
theorem eX1_mostOf_inX9 : ∀ w ∈ wsX90, w ∈ wsX1_mostOf := by decide +kernel
theorem eX1_mostOf_68 : aF wsX1_mostOf RX1 68 9 4 := ⟨RX9, TX9, 9, rfl, eX1_mostOf_inX9, by decide, by decide +kernel⟩
theorem eX1_mostOf_inX1 : ∀ w ∈ wsX10, w ∈ wsX1_mostOf := by decide +kernel
theorem eX1_mostOf_29 : aF wsX1_mostOf RX1 29 1 6 := ⟨RX1, TX1, 8, rfl, eX1_mostOf_inX1, by decide, by decide +kernel⟩
theorem eX1_mostOf_25 : aF wsX1_mostOf RX1 25 1 1 := ⟨RX1, TX1, 8, rfl, eX1_mostOf_inX1, by decide, by decide +kernel⟩
theorem eX1_mostOf_inX2 : ∀ w ∈ wsX20, w ∈ wsX1_mostOf := by decide +kernel
theorem eX1_mostOf_84 : aF wsX1_mostOf RX1 84 2 1 := ⟨RX2, TX2, 5, rfl, eX1_mostOf_inX2, by decide, by decide +kernel⟩
theorem eX1_mostOf_78 : aF wsX1_mostOf RX1 78 2 2 := ⟨RX2, TX2, 5, rfl, eX1_mostOf_inX2, by decide, by decide +kernel⟩
theorem eX1_mostOf_81 : aF wsX1_mostOf RX1 81 9 7 := ⟨RX9, TX9, 9, rfl, eX1_mostOf_inX9, by decide, by decide +kernel⟩
def fX1_mostOf_b97 (io_spells : Int32) (ip1_spades : Int32) (cp1_mood : Nat → Int32) (cC_age : Nat → Int32) (cC_skill : Nat → Int32) (x5 : Int32) : Option (Int32) :=
  some x5
set_option maxHeartbeats 400000 in
set_option maxRecDepth 100000 in
theorem kX1_mostOf_b97 {X : cxT} {l : Launch} {D : va_G} {Y : Nat → ClassId} {ao aL aC ap1 : Nat → Nat} {io_able : Int32} {io_spells : Int32} {io_height : Int32} {ip1_moats : Int32} {ip1_spades : Int32} {ip1_tides : Int32} {cp1_mood : Nat → Int32} {iC_size : Int32} {cC_age : Nat → Int32} {cC_skill : Nat → Int32} {x5 : Int32} {res : Int32} (C : axC X l D Y cX1_mostOf 7 RX1 wsX1_mostOf rmX1_mostOf (some .int)) (hQ : axQ X 0 0 (fun r9 w9 => r9 = (some (.int res)) ∧ w9 = [oX1 ao aL aC io_able io_spells io_height, oX9 ap1 aL aC ip1_moats ip1_spades ip1_tides, rI Y (ap1 3) 8 cp1_mood, oX2 aC iC_size, rI Y (aC 1) 8 cC_age, rI Y (aC 2) 8 cC_skill])) (hf : fX1_mostOf_b97 io_spells ip1_spades cp1_mood cC_age cC_skill x5 = some res) : ax X 0 0 97 [none, none, none, none, none, some (.int x5), none] [oX1 ao aL aC io_able io_spells io_height, oX9 ap1 aL aC ip1_moats ip1_spades ip1_tides, rI Y (ap1 3) 8 cp1_mood, oX2 aC iC_size, rI Y (aC 1) 8 cC_age, rI Y (aC 2) 8 cC_skill] [] := by
  unfold fX1_mostOf_b97 at hf
  refine a_iload C dX1_mostOf_97 rfl ?_
  obtain rfl := fx_some hf
  exact a_iret C hQ dX1_mostOf_99 ⟨rfl, rfl⟩
def fX1_mostOf_l49 (io_spells : Int32) (ip1_spades : Int32) (cp1_mood : Nat → Int32) (cC_age : Nat → Int32) (cC_skill : Nat → Int32) (x2 : Int32) (x4 : Int32) (k49 : Int32 × Int32 → Option (Int32)) (x5 : Int32) (x6 : Int32) : Option (Int32) :=
  if x6 ≤ (0 : Int32) then (fX1_mostOf_b97 io_spells ip1_spades cp1_mood cC_age cC_skill x5) else (if inb x2 8 then if x6 ≤ ((cp1_mood (Int32.toNatClampNeg x2)) - io_spells) then (fX1_mostOf_b97 io_spells ip1_spades cp1_mood cC_age cC_skill x5) else ((fX9_halved x4 x6 (cC_age (Int32.toNatClampNeg x2))).bind (fun r4 => k49 ((x5 + r4), (x6 + (-1 : Int32))))) else none)
def fX1_mostOf_b49 (io_spells : Int32) (ip1_spades : Int32) (cp1_mood : Nat → Int32) (cC_age : Nat → Int32) (cC_skill : Nat → Int32) (x2 : Int32) (x4 : Int32) (x5 : Int32) (x6 : Int32) : Option (Int32) :=
  loopN (fun (s : Int32 × Int32) k49 => fX1_mostOf_l49 io_spells ip1_spades cp1_mood cC_age cC_skill x2 x4 k49 s.1 s.2) FUEL (x5, x6)
set_option maxHeartbeats 400000 in
set_option maxRecDepth 100000 in
theorem kX1_mostOf_l49 {X : cxT} {l : Launch} {D : va_G} {Y : Nat → ClassId} {ao aL aC ap1 : Nat → Nat} {io_able : Int32} {io_spells : Int32} {io_height : Int32} {ip1_moats : Int32} {ip1_spades : Int32} {ip1_tides : Int32} {cp1_mood : Nat → Int32} {iC_size : Int32} {cC_age : Nat → Int32} {cC_skill : Nat → Int32} {x2 : Int32} {x4 : Int32} {x5 : Int32} {x6 : Int32} {res : Int32} (C : axC X l D Y cX1_mostOf 7 RX1 wsX1_mostOf rmX1_mostOf (some .int)) (hQ : axQ X 0 0 (fun r9 w9 => r9 = (some (.int res)) ∧ w9 = [oX1 ao aL aC io_able io_spells io_height, oX9 ap1 aL aC ip1_moats ip1_spades ip1_tides, rI Y (ap1 3) 8 cp1_mood, oX2 aC iC_size, rI Y (aC 1) 8 cC_age, rI Y (aC 2) 8 cC_skill])) {k49 : Int32 × Int32 → Option (Int32)} (hk49 : ∀ s : Int32 × Int32, k49 s = some res → ax X 0 0 49 [some (.ref (ao 0)), some (.ref (ap1 0)), some (.int x2), none, some (.int x4), some (.int s.1), some (.int s.2)] [oX1 ao aL aC io_able io_spells io_height, oX9 ap1 aL aC ip1_moats ip1_spades ip1_tides, rI Y (ap1 3) 8 cp1_mood, oX2 aC iC_size, rI Y (aC 1) 8 cC_age, rI Y (aC 2) 8 cC_skill] []) (hf : fX1_mostOf_l49 io_spells ip1_spades cp1_mood cC_age cC_skill x2 x4 k49 x5 x6 = some res) : ax X 0 0 49 [some (.ref (ao 0)), some (.ref (ap1 0)), some (.int x2), none, some (.int x4), some (.int x5), some (.int x6)] [oX1 ao aL aC io_able io_spells io_height, oX9 ap1 aL aC ip1_moats ip1_spades ip1_tides, rI Y (ap1 3) 8 cp1_mood, oX2 aC iC_size, rI Y (aC 1) 8 cC_age, rI Y (aC 2) 8 cC_skill] [] := by
  unfold fX1_mostOf_l49 at hf
  refine a_iload C dX1_mostOf_49 rfl ?_
  refine a_if_le C 97 dX1_mostOf_51 (by decide) (fun h1 => ?_) (fun h1 => ?_)
  · have hf := fx_t h1 hf
    refine a_kill [0, 1, 2, 4, 6] ?_
    exact kX1_mostOf_b97 C hQ hf
  · have hf := fx_f h1 hf
    refine a_iload C dX1_mostOf_54 rfl ?_
    refine a_aload_n C dX1_mostOf_56 rfl ?_
    refine a_get C eX1_mostOf_68 dX1_mostOf_57 1 rfl rfl ?_
    refine a_iload_n C dX1_mostOf_60 rfl ?_
    obtain ⟨h2, hf⟩ := fx_ite hf
    refine a_iald C dX1_mostOf_61 2 rfl h2 ?_
    refine a_aload_n C dX1_mostOf_62 rfl ?_
    refine a_get C eX1_mostOf_29 dX1_mostOf_63 0 rfl rfl ?_
    refine a_isub C dX1_mostOf_66 ?_
    refine a_icmp_le C 97 dX1_mostOf_67 (by decide) (fun h3 => ?_) (fun h3 => ?_)
    · have hf := fx_t h3 hf
      refine a_kill [0, 1, 2, 4, 6] ?_
      exact kX1_mostOf_b97 C hQ hf
    · have hf := fx_f h3 hf
      refine a_iload C dX1_mostOf_70 rfl ?_
      refine a_iload C dX1_mostOf_72 rfl ?_
      refine a_iload C dX1_mostOf_74 rfl ?_
      refine a_aload_n C dX1_mostOf_76 rfl ?_
      refine a_get C eX1_mostOf_25 dX1_mostOf_77 0 rfl rfl ?_
      refine a_get C eX1_mostOf_84 dX1_mostOf_80 3 rfl rfl ?_
      refine a_iload_n C dX1_mostOf_83 rfl ?_
      refine a_iald C dX1_mostOf_84 4 rfl h2 ?_
      obtain ⟨r4, h4, hf⟩ := fx_bind hf
      refine a_fS C (kX9_halved l D Y x4 x6 (cC_age (Int32.toNatClampNeg x2)) r4 h4) gX1_mostOf_X9_halved rfl dvX9_halved ⟨⟨rfl, rfl⟩, ⟨Nat.le_of_ble_eq_true rfl, Nat.le_of_ble_eq_true rfl⟩, ⟨Nat.le_of_ble_eq_true rfl, Nat.le_of_ble_eq_true rfl⟩⟩ rfl (Nat.le_of_ble_eq_true rfl) dX1_mostOf_85 [] [0, 1, 2, 3, 4, 5] trivial rfl rfl [oX1 ao aL aC io_able io_spells io_height, oX9 ap1 aL aC ip1_moats ip1_spades ip1_tides, rI Y (ap1 3) 8 cp1_mood, oX2 aC iC_size, rI Y (aC 1) 8 cC_age, rI Y (aC 2) 8 cC_skill] trivial ⟨rfl, rfl, rfl, rfl, rfl, rfl, trivial⟩ rfl ?_
      refine a_iadd C dX1_mostOf_88 ?_
      refine a_istore C dX1_mostOf_89 (by decide) rfl ?_
      refine a_iinc C (-1 : Int32) dX1_mostOf_91 (by decide) rfl (by decide) rfl ?_
      refine a_goto C 49 dX1_mostOf_94 (by decide) ?_
      exact hk49 ((x5 + r4), (x6 + (-1 : Int32))) hf
set_option maxHeartbeats 400000 in
set_option maxRecDepth 100000 in
theorem kX1_mostOf_b49 {X : cxT} {l : Launch} {D : va_G} {Y : Nat → ClassId} {ao aL aC ap1 : Nat → Nat} {io_able : Int32} {io_spells : Int32} {io_height : Int32} {ip1_moats : Int32} {ip1_spades : Int32} {ip1_tides : Int32} {cp1_mood : Nat → Int32} {iC_size : Int32} {cC_age : Nat → Int32} {cC_skill : Nat → Int32} {x2 : Int32} {x4 : Int32} {x5 : Int32} {x6 : Int32} {res : Int32} (C : axC X l D Y cX1_mostOf 7 RX1 wsX1_mostOf rmX1_mostOf (some .int)) (hQ : axQ X 0 0 (fun r9 w9 => r9 = (some (.int res)) ∧ w9 = [oX1 ao aL aC io_able io_spells io_height, oX9 ap1 aL aC ip1_moats ip1_spades ip1_tides, rI Y (ap1 3) 8 cp1_mood, oX2 aC iC_size, rI Y (aC 1) 8 cC_age, rI Y (aC 2) 8 cC_skill])) (hf : fX1_mostOf_b49 io_spells ip1_spades cp1_mood cC_age cC_skill x2 x4 x5 x6 = some res) : ax X 0 0 49 [some (.ref (ao 0)), some (.ref (ap1 0)), some (.int x2), none, some (.int x4), some (.int x5), some (.int x6)] [oX1 ao aL aC io_able io_spells io_height, oX9 ap1 aL aC ip1_moats ip1_spades ip1_tides, rI Y (ap1 3) 8 cp1_mood, oX2 aC iC_size, rI Y (aC 1) 8 cC_age, rI Y (aC 2) 8 cC_skill] [] := by
  unfold fX1_mostOf_b49 at hf
  exact fx_loop (P := fun s : Int32 × Int32 => ax X 0 0 49 [some (.ref (ao 0)), some (.ref (ap1 0)), some (.int x2), none, some (.int x4), some (.int s.1), some (.int s.2)] [oX1 ao aL aC io_able io_spells io_height, oX9 ap1 aL aC ip1_moats ip1_spades ip1_tides, rI Y (ap1 3) 8 cp1_mood, oX2 aC iC_size, rI Y (aC 1) 8 cC_age, rI Y (aC 2) 8 cC_skill] []) (fun s k49 hk49 h => kX1_mostOf_l49 C hQ hk49 h) FUEL (x5, x6) hf
def fX1_mostOf_b35 (io_spells : Int32) (ip1_spades : Int32) (cp1_mood : Nat → Int32) (cC_age : Nat → Int32) (cC_skill : Nat → Int32) (x2 : Int32) (s0 : Int32) (s1 : Int32) : Option (Int32) :=
  if inb x2 8 then fX1_mostOf_b49 io_spells ip1_spades cp1_mood cC_age cC_skill x2 (s0 + s1) (0 : Int32) (cp1_mood (Int32.toNatClampNeg x2)) else none
set_option maxHeartbeats 400000 in
set_option maxRecDepth 100000 in
theorem kX1_mostOf_b35 {X : cxT} {l : Launch} {D : va_G} {Y : Nat → ClassId} {ao aL aC ap1 : Nat → Nat} {io_able : Int32} {io_spells : Int32} {io_height : Int32} {ip1_moats : Int32} {ip1_spades : Int32} {ip1_tides : Int32} {cp1_mood : Nat → Int32} {iC_size : Int32} {cC_age : Nat → Int32} {cC_skill : Nat → Int32} {x2 : Int32} {s0 : Int32} {s1 : Int32} {res : Int32} (C : axC X l D Y cX1_mostOf 7 RX1 wsX1_mostOf rmX1_mostOf (some .int)) (hQ : axQ X 0 0 (fun r9 w9 => r9 = (some (.int res)) ∧ w9 = [oX1 ao aL aC io_able io_spells io_height, oX9 ap1 aL aC ip1_moats ip1_spades ip1_tides, rI Y (ap1 3) 8 cp1_mood, oX2 aC iC_size, rI Y (aC 1) 8 cC_age, rI Y (aC 2) 8 cC_skill])) (hf : fX1_mostOf_b35 io_spells ip1_spades cp1_mood cC_age cC_skill x2 s0 s1 = some res) : ax X 0 0 35 [some (.ref (ao 0)), some (.ref (ap1 0)), some (.int x2), none, none, none, none] [oX1 ao aL aC io_able io_spells io_height, oX9 ap1 aL aC ip1_moats ip1_spades ip1_tides, rI Y (ap1 3) 8 cp1_mood, oX2 aC iC_size, rI Y (aC 1) 8 cC_age, rI Y (aC 2) 8 cC_skill] [.int s1, .int s0] := by
  unfold fX1_mostOf_b35 at hf
  refine a_iadd C dX1_mostOf_35 ?_
  refine a_istore C dX1_mostOf_36 (by decide) rfl ?_
  refine a_iconst C (0 : Int32) dX1_mostOf_38 (by decide) ?_
  refine a_istore C dX1_mostOf_39 (by decide) rfl ?_
  refine a_aload_n C dX1_mostOf_41 rfl ?_
  refine a_get C eX1_mostOf_68 dX1_mostOf_42 1 rfl rfl ?_
  refine a_iload_n C dX1_mostOf_45 rfl ?_
  obtain ⟨h5, hf⟩ := fx_ite hf
  refine a_iald C dX1_mostOf_46 2 rfl h5 ?_
  refine a_istore C dX1_mostOf_47 (by decide) rfl ?_
  exact kX1_mostOf_b49 C hQ hf
def fX1_mostOf_b25 (io_spells : Int32) (ip1_spades : Int32) (cp1_mood : Nat → Int32) (cC_age : Nat → Int32) (cC_skill : Nat → Int32) (x2 : Int32) (x3 : Int32) (s0 : Int32) (s1 : Int32) : Option (Int32) :=
  if x3 = (0 : Int32) then (fX1_mostOf_b35 io_spells ip1_spades cp1_mood cC_age cC_skill x2 (s0 + s1) (0 : Int32)) else (fX1_mostOf_b35 io_spells ip1_spades cp1_mood cC_age cC_skill x2 (s0 + s1) (1 : Int32))
set_option maxHeartbeats 400000 in
set_option maxRecDepth 100000 in
theorem kX1_mostOf_b25 {X : cxT} {l : Launch} {D : va_G} {Y : Nat → ClassId} {ao aL aC ap1 : Nat → Nat} {io_able : Int32} {io_spells : Int32} {io_height : Int32} {ip1_moats : Int32} {ip1_spades : Int32} {ip1_tides : Int32} {cp1_mood : Nat → Int32} {iC_size : Int32} {cC_age : Nat → Int32} {cC_skill : Nat → Int32} {x2 : Int32} {x3 : Int32} {s0 : Int32} {s1 : Int32} {res : Int32} (C : axC X l D Y cX1_mostOf 7 RX1 wsX1_mostOf rmX1_mostOf (some .int)) (hQ : axQ X 0 0 (fun r9 w9 => r9 = (some (.int res)) ∧ w9 = [oX1 ao aL aC io_able io_spells io_height, oX9 ap1 aL aC ip1_moats ip1_spades ip1_tides, rI Y (ap1 3) 8 cp1_mood, oX2 aC iC_size, rI Y (aC 1) 8 cC_age, rI Y (aC 2) 8 cC_skill])) (hf : fX1_mostOf_b25 io_spells ip1_spades cp1_mood cC_age cC_skill x2 x3 s0 s1 = some res) : ax X 0 0 25 [some (.ref (ao 0)), some (.ref (ap1 0)), some (.int x2), some (.int x3), none, none, none] [oX1 ao aL aC io_able io_spells io_height, oX9 ap1 aL aC ip1_moats ip1_spades ip1_tides, rI Y (ap1 3) 8 cp1_mood, oX2 aC iC_size, rI Y (aC 1) 8 cC_age, rI Y (aC 2) 8 cC_skill] [.int s1, .int s0] := by
  unfold fX1_mostOf_b25 at hf
  refine a_iadd C dX1_mostOf_25 ?_
  refine a_iload_n C dX1_mostOf_26 rfl ?_
  refine a_if_eq C 34 dX1_mostOf_27 (by decide) (fun h6 => ?_) (fun h6 => ?_)
  · have hf := fx_t h6 hf
    refine a_iconst C (0 : Int32) dX1_mostOf_34 (by decide) ?_
    refine a_kill [3] ?_
    exact kX1_mostOf_b35 C hQ hf
  · have hf := fx_f h6 hf
    refine a_iconst C (1 : Int32) dX1_mostOf_30 (by decide) ?_
    refine a_goto C 35 dX1_mostOf_31 (by decide) ?_
    refine a_kill [3] ?_
    exact kX1_mostOf_b35 C hQ hf
def fX1_mostOf (io_spells : Int32) (ip1_spades : Int32) (cp1_mood : Nat → Int32) (cC_age : Nat → Int32) (cC_skill : Nat → Int32) (x2 : Int32) (x3 : Int32) : Option (Int32) :=
  if inb x2 8 then if ((jshr ip1_spades x2) &&& (1 : Int32)) = (0 : Int32) then (fX1_mostOf_b25 io_spells ip1_spades cp1_mood cC_age cC_skill x2 x3 (cC_skill (Int32.toNatClampNeg x2)) (0 : Int32)) else (fX1_mostOf_b25 io_spells ip1_spades cp1_mood cC_age cC_skill x2 x3 (cC_skill (Int32.toNatClampNeg x2)) (2 : Int32)) else none
set_option maxHeartbeats 400000 in
set_option maxRecDepth 100000 in
theorem kX1_mostOf (l : Launch) (D : va_G) (Y : Nat → ClassId) (ao aL aC ap1 : Nat → Nat) (io_able : Int32) (io_spells : Int32) (io_height : Int32) (ip1_moats : Int32) (ip1_spades : Int32) (ip1_tides : Int32) (cp1_mood : Nat → Int32) (iC_size : Int32) (cC_age : Nat → Int32) (cC_skill : Nat → Int32) (x2 : Int32) (x3 : Int32) (res : Int32) (hf : fX1_mostOf io_spells ip1_spades cp1_mood cC_age cC_skill x2 x3 = some res) : amf l D Y yX1_mostOf wsX1_mostOf rmX1_mostOf [.ref (ao 0), .ref (ap1 0), .int x2, .int x3] [oX1 ao aL aC io_able io_spells io_height, oX9 ap1 aL aC ip1_moats ip1_spades ip1_tides, rI Y (ap1 3) 8 cp1_mood, oX2 aC iC_size, rI Y (aC 1) 8 cC_age, rI Y (aC 2) 8 cC_skill] (some (.int res)) [oX1 ao aL aC io_able io_spells io_height, oX9 ap1 aL aC ip1_moats ip1_spades ip1_tides, rI Y (ap1 3) 8 cp1_mood, oX2 aC iC_size, rI Y (aC 1) 8 cC_age, rI Y (aC 2) 8 cC_skill] := by
  refine amf.of (cc := cX1_mostOf) (maxL := 7) (rt := (some .int)) (by decide) rfl RX1 rfl (Nat.le_of_ble_eq_true rfl) [some (.ref (ao 0)), some (.ref (ap1 0)), some (.int x2), some (.int x3), none, none, none] rfl ?_
  intro X C hQ
  unfold fX1_mostOf at hf
  refine a_aload_n C dX1_mostOf_0 rfl ?_
  refine a_get C eX1_mostOf_25 dX1_mostOf_1 0 rfl rfl ?_
  refine a_get C eX1_mostOf_78 dX1_mostOf_4 3 rfl rfl ?_
  refine a_iload_n C dX1_mostOf_7 rfl ?_
  obtain ⟨h7, hf⟩ := fx_ite hf
  refine a_iald C dX1_mostOf_8 5 rfl h7 ?_
  refine a_aload_n C dX1_mostOf_9 rfl ?_
  refine a_get C eX1_mostOf_81 dX1_mostOf_10 1 rfl rfl ?_
  refine a_iload_n C dX1_mostOf_13 rfl ?_
  refine a_ishr C dX1_mostOf_14 ?_
  refine a_iconst C (1 : Int32) dX1_mostOf_15 (by decide) ?_
  refine a_iand C dX1_mostOf_16 ?_
  refine a_if_eq C 24 dX1_mostOf_17 (by decide) (fun h8 => ?_) (fun h8 => ?_)
  · have hf := fx_t h8 hf
    refine a_iconst C (0 : Int32) dX1_mostOf_24 (by decide) ?_
    exact kX1_mostOf_b25 C hQ hf
  · have hf := fx_f h8 hf
    refine a_iconst C (2 : Int32) dX1_mostOf_20 (by decide) ?_
    refine a_goto C 25 dX1_mostOf_21 (by decide) ?_
    exact kX1_mostOf_b25 C hQ hf
-- X1_hopeless
abbrev rmX1_hopeless : Room := { frames := 1, cells := 0, slots := 0, locals := 20 }
theorem dvX1_hopeless : yX1_hopeless.cls = RX1 ∧ yX1_hopeless.cls ≠ "java/lang/invoke/MethodHandle" ∧ yX1_hopeless.cls ≠ "java/lang/invoke/VarHandle" ∧ (parseMethodDescriptor yX1_hopeless.desc).map (fun d => d.parameters.length) = some 2 := by decide +kernel
theorem eX1_hopeless_inX1 : ∀ w ∈ wsX10, w ∈ wsX1_hopeless := by decide +kernel
theorem eX1_hopeless_25 : aF wsX1_hopeless RX1 25 1 1 := ⟨RX1, TX1, 8, rfl, eX1_hopeless_inX1, by decide, by decide +kernel⟩
theorem eX1_hopeless_inX2 : ∀ w ∈ wsX20, w ∈ wsX1_hopeless := by decide +kernel
theorem eX1_hopeless_63 : aF wsX1_hopeless RX1 63 2 0 := ⟨RX2, TX2, 5, rfl, eX1_hopeless_inX2, by decide, by decide +kernel⟩
theorem eX1_hopeless_18 : aF wsX1_hopeless RX1 18 1 4 := ⟨RX1, TX1, 8, rfl, eX1_hopeless_inX1, by decide, by decide +kernel⟩
theorem eX1_hopeless_21 : aF wsX1_hopeless RX1 21 1 0 := ⟨RX1, TX1, 8, rfl, eX1_hopeless_inX1, by decide, by decide +kernel⟩
theorem eX1_hopeless_inX5 : ∀ w ∈ wsX50, w ∈ wsX1_hopeless := by decide +kernel
theorem eX1_hopeless_53 : aF wsX1_hopeless RX1 53 5 0 := ⟨RX5, TX5, 5, rfl, eX1_hopeless_inX5, by decide, by decide +kernel⟩
theorem eX1_hopeless_15 : aF wsX1_hopeless RX1 15 1 3 := ⟨RX1, TX1, 8, rfl, eX1_hopeless_inX1, by decide, by decide +kernel⟩
theorem eX1_hopeless_40 : aF wsX1_hopeless RX1 40 1 5 := ⟨RX1, TX1, 8, rfl, eX1_hopeless_inX1, by decide, by decide +kernel⟩
def fX1_hopeless_b118 (io_able : Int32) (co_lack : Nat → Int32) (co_most : Nat → Int32) (iC_size : Int32) (iL_cells : Int32) (s0 : Int32) : Option (Int32) :=
  if s0 = 0 ∨ s0 = 1 then some s0 else none
set_option maxHeartbeats 400000 in
set_option maxRecDepth 100000 in
theorem kX1_hopeless_b118 {X : cxT} {l : Launch} {D : va_G} {Y : Nat → ClassId} {ao aL aC : Nat → Nat} {io_able : Int32} {io_spells : Int32} {io_height : Int32} {co_lack : Nat → Int32} {co_most : Nat → Int32} {iC_size : Int32} {iL_cells : Int32} {s0 : Int32} {res : Int32} (C : axC X l D Y cX1_hopeless 6 RX1 wsX1_hopeless rmX1_hopeless (some .boolean)) (hQ : axQ X 0 0 (fun r9 w9 => r9 = (some (.int res)) ∧ w9 = [oX1 ao aL aC io_able io_spells io_height, rI Y (ao 2) 12 co_lack, rI Y (ao 3) 8 co_most, oX2 aC iC_size, oX5 aL iL_cells])) (hf : fX1_hopeless_b118 io_able co_lack co_most iC_size iL_cells s0 = some res) : ax X 0 0 118 [none, none, none, none, none, none] [oX1 ao aL aC io_able io_spells io_height, rI Y (ao 2) 12 co_lack, rI Y (ao 3) 8 co_most, oX2 aC iC_size, oX5 aL iL_cells] [.int s0] := by
  unfold fX1_hopeless_b118 at hf
  obtain ⟨h1, hf⟩ := fx_ite hf
  obtain rfl := fx_some hf
  exact a_zret C hQ h1 dX1_hopeless_118 ⟨rfl, rfl⟩
def fX1_hopeless_b113 (io_able : Int32) (co_lack : Nat → Int32) (co_most : Nat → Int32) (iC_size : Int32) (iL_cells : Int32) : Option (Int32) :=
  fX1_hopeless_b118 io_able co_lack co_most iC_size iL_cells (1 : Int32)
set_option maxHeartbeats 400000 in
set_option maxRecDepth 100000 in
theorem kX1_hopeless_b113 {X : cxT} {l : Launch} {D : va_G} {Y : Nat → ClassId} {ao aL aC : Nat → Nat} {io_able : Int32} {io_spells : Int32} {io_height : Int32} {co_lack : Nat → Int32} {co_most : Nat → Int32} {iC_size : Int32} {iL_cells : Int32} {res : Int32} (C : axC X l D Y cX1_hopeless 6 RX1 wsX1_hopeless rmX1_hopeless (some .boolean)) (hQ : axQ X 0 0 (fun r9 w9 => r9 = (some (.int res)) ∧ w9 = [oX1 ao aL aC io_able io_spells io_height, rI Y (ao 2) 12 co_lack, rI Y (ao 3) 8 co_most, oX2 aC iC_size, oX5 aL iL_cells])) (hf : fX1_hopeless_b113 io_able co_lack co_most iC_size iL_cells = some res) : ax X 0 0 113 [none, none, none, none, none, none] [oX1 ao aL aC io_able io_spells io_height, rI Y (ao 2) 12 co_lack, rI Y (ao 3) 8 co_most, oX2 aC iC_size, oX5 aL iL_cells] [] := by
  unfold fX1_hopeless_b113 at hf
  refine a_iconst C (1 : Int32) dX1_hopeless_113 (by decide) ?_
  refine a_goto C 118 dX1_hopeless_114 (by decide) ?_
  exact kX1_hopeless_b118 C hQ hf
def fX1_hopeless_b103 (io_able : Int32) (co_lack : Nat → Int32) (co_most : Nat → Int32) (iC_size : Int32) (iL_cells : Int32) (x2 : Int32) (x3 : Int32) (x4 : Int32) : Option (Int32) :=
  if x2 < x3 then (fX1_hopeless_b113 io_able co_lack co_most iC_size iL_cells) else (if x4 ≤ (0 : Int32) then (fX1_hopeless_b118 io_able co_lack co_most iC_size iL_cells (0 : Int32)) else (fX1_hopeless_b113 io_able co_lack co_most iC_size iL_cells))
set_option maxHeartbeats 400000 in
set_option maxRecDepth 100000 in
theorem kX1_hopeless_b103 {X : cxT} {l : Launch} {D : va_G} {Y : Nat → ClassId} {ao aL aC : Nat → Nat} {io_able : Int32} {io_spells : Int32} {io_height : Int32} {co_lack : Nat → Int32} {co_most : Nat → Int32} {iC_size : Int32} {iL_cells : Int32} {x2 : Int32} {x3 : Int32} {x4 : Int32} {res : Int32} (C : axC X l D Y cX1_hopeless 6 RX1 wsX1_hopeless rmX1_hopeless (some .boolean)) (hQ : axQ X 0 0 (fun r9 w9 => r9 = (some (.int res)) ∧ w9 = [oX1 ao aL aC io_able io_spells io_height, rI Y (ao 2) 12 co_lack, rI Y (ao 3) 8 co_most, oX2 aC iC_size, oX5 aL iL_cells])) (hf : fX1_hopeless_b103 io_able co_lack co_most iC_size iL_cells x2 x3 x4 = some res) : ax X 0 0 103 [none, none, some (.int x2), some (.int x3), some (.int x4), none] [oX1 ao aL aC io_able io_spells io_height, rI Y (ao 2) 12 co_lack, rI Y (ao 3) 8 co_most, oX2 aC iC_size, oX5 aL iL_cells] [] := by
  unfold fX1_hopeless_b103 at hf
  refine a_iload_n C dX1_hopeless_103 rfl ?_
  refine a_iload_n C dX1_hopeless_104 rfl ?_
  refine a_icmp_gt C 113 dX1_hopeless_105 (by decide) (fun h2 => ?_) (fun h2 => ?_)
  · have hf := fx_t h2 hf
    refine a_kill [2, 3, 4] ?_
    exact kX1_hopeless_b113 C hQ hf
  · have hf := fx_f h2 hf
    refine a_iload C dX1_hopeless_108 rfl ?_
    refine a_if_le C 117 dX1_hopeless_110 (by decide) (fun h3 => ?_) (fun h3 => ?_)
    · have hf := fx_t h3 hf
      refine a_iconst C (0 : Int32) dX1_hopeless_117 (by decide) ?_
      refine a_kill [2, 3, 4] ?_
      exact kX1_hopeless_b118 C hQ hf
    · have hf := fx_f h3 hf
      refine a_kill [2, 3, 4] ?_
      exact kX1_hopeless_b113 C hQ hf
def fX1_hopeless_l69 (io_able : Int32) (co_lack : Nat → Int32) (co_most : Nat → Int32) (iC_size : Int32) (iL_cells : Int32) (x2 : Int32) (x3 : Int32) (k69 : Int32 × Int32 → Option (Int32)) (x4 : Int32) (x5 : Int32) : Option (Int32) :=
  if iC_size ≤ x5 then (fX1_hopeless_b103 io_able co_lack co_most iC_size iL_cells x2 x3 x4) else (if x2 ≤ (0 : Int32) then (fX1_hopeless_b103 io_able co_lack co_most iC_size iL_cells x2 x3 x4) else (if inb x5 8 then k69 ((x4 - (co_most (Int32.toNatClampNeg x5))), (x5 + (1 : Int32))) else none))
def fX1_hopeless_b69 (io_able : Int32) (co_lack : Nat → Int32) (co_most : Nat → Int32) (iC_size : Int32) (iL_cells : Int32) (x2 : Int32) (x3 : Int32) (x4 : Int32) (x5 : Int32) : Option (Int32) :=
  loopN (fun (s : Int32 × Int32) k69 => fX1_hopeless_l69 io_able co_lack co_most iC_size iL_cells x2 x3 k69 s.1 s.2) FUEL (x4, x5)
set_option maxHeartbeats 400000 in
set_option maxRecDepth 100000 in
theorem kX1_hopeless_l69 {X : cxT} {l : Launch} {D : va_G} {Y : Nat → ClassId} {ao aL aC : Nat → Nat} {io_able : Int32} {io_spells : Int32} {io_height : Int32} {co_lack : Nat → Int32} {co_most : Nat → Int32} {iC_size : Int32} {iL_cells : Int32} {x2 : Int32} {x3 : Int32} {x4 : Int32} {x5 : Int32} {res : Int32} (C : axC X l D Y cX1_hopeless 6 RX1 wsX1_hopeless rmX1_hopeless (some .boolean)) (hQ : axQ X 0 0 (fun r9 w9 => r9 = (some (.int res)) ∧ w9 = [oX1 ao aL aC io_able io_spells io_height, rI Y (ao 2) 12 co_lack, rI Y (ao 3) 8 co_most, oX2 aC iC_size, oX5 aL iL_cells])) {k69 : Int32 × Int32 → Option (Int32)} (hk69 : ∀ s : Int32 × Int32, k69 s = some res → ax X 0 0 69 [some (.ref (ao 0)), none, some (.int x2), some (.int x3), some (.int s.1), some (.int s.2)] [oX1 ao aL aC io_able io_spells io_height, rI Y (ao 2) 12 co_lack, rI Y (ao 3) 8 co_most, oX2 aC iC_size, oX5 aL iL_cells] []) (hf : fX1_hopeless_l69 io_able co_lack co_most iC_size iL_cells x2 x3 k69 x4 x5 = some res) : ax X 0 0 69 [some (.ref (ao 0)), none, some (.int x2), some (.int x3), some (.int x4), some (.int x5)] [oX1 ao aL aC io_able io_spells io_height, rI Y (ao 2) 12 co_lack, rI Y (ao 3) 8 co_most, oX2 aC iC_size, oX5 aL iL_cells] [] := by
  unfold fX1_hopeless_l69 at hf
  refine a_iload C dX1_hopeless_69 rfl ?_
  refine a_aload_n C dX1_hopeless_71 rfl ?_
  refine a_get C eX1_hopeless_25 dX1_hopeless_72 0 rfl rfl ?_
  refine a_get C eX1_hopeless_63 dX1_hopeless_75 3 rfl rfl ?_
  refine a_icmp_ge C 103 dX1_hopeless_78 (by decide) (fun h4 => ?_) (fun h4 => ?_)
  · have hf := fx_t h4 hf
    refine a_kill [0, 5] ?_
    exact kX1_hopeless_b103 C hQ hf
  · have hf := fx_f h4 hf
    refine a_iload_n C dX1_hopeless_81 rfl ?_
    refine a_if_le C 103 dX1_hopeless_82 (by decide) (fun h5 => ?_) (fun h5 => ?_)
    · have hf := fx_t h5 hf
      refine a_kill [0, 5] ?_
      exact kX1_hopeless_b103 C hQ hf
    · have hf := fx_f h5 hf
      refine a_iload C dX1_hopeless_85 rfl ?_
      refine a_aload_n C dX1_hopeless_87 rfl ?_
      refine a_get C eX1_hopeless_18 dX1_hopeless_88 0 rfl rfl ?_
      refine a_iload C dX1_hopeless_91 rfl ?_
      obtain ⟨h6, hf⟩ := fx_ite hf
      refine a_iald C dX1_hopeless_93 2 rfl h6 ?_
      refine a_isub C dX1_hopeless_94 ?_
      refine a_istore C dX1_hopeless_95 (by decide) rfl ?_
      refine a_iinc C (1 : Int32) dX1_hopeless_97 (by decide) rfl (by decide) rfl ?_
      refine a_goto C 69 dX1_hopeless_100 (by decide) ?_
      exact hk69 ((x4 - (co_most (Int32.toNatClampNeg x5))), (x5 + (1 : Int32))) hf
set_option maxHeartbeats 400000 in
set_option maxRecDepth 100000 in
theorem kX1_hopeless_b69 {X : cxT} {l : Launch} {D : va_G} {Y : Nat → ClassId} {ao aL aC : Nat → Nat} {io_able : Int32} {io_spells : Int32} {io_height : Int32} {co_lack : Nat → Int32} {co_most : Nat → Int32} {iC_size : Int32} {iL_cells : Int32} {x2 : Int32} {x3 : Int32} {x4 : Int32} {x5 : Int32} {res : Int32} (C : axC X l D Y cX1_hopeless 6 RX1 wsX1_hopeless rmX1_hopeless (some .boolean)) (hQ : axQ X 0 0 (fun r9 w9 => r9 = (some (.int res)) ∧ w9 = [oX1 ao aL aC io_able io_spells io_height, rI Y (ao 2) 12 co_lack, rI Y (ao 3) 8 co_most, oX2 aC iC_size, oX5 aL iL_cells])) (hf : fX1_hopeless_b69 io_able co_lack co_most iC_size iL_cells x2 x3 x4 x5 = some res) : ax X 0 0 69 [some (.ref (ao 0)), none, some (.int x2), some (.int x3), some (.int x4), some (.int x5)] [oX1 ao aL aC io_able io_spells io_height, rI Y (ao 2) 12 co_lack, rI Y (ao 3) 8 co_most, oX2 aC iC_size, oX5 aL iL_cells] [] := by
  unfold fX1_hopeless_b69 at hf
  exact fx_loop (P := fun s : Int32 × Int32 => ax X 0 0 69 [some (.ref (ao 0)), none, some (.int x2), some (.int x3), some (.int s.1), some (.int s.2)] [oX1 ao aL aC io_able io_spells io_height, rI Y (ao 2) 12 co_lack, rI Y (ao 3) 8 co_most, oX2 aC iC_size, oX5 aL iL_cells] []) (fun s k69 hk69 h => kX1_hopeless_l69 C hQ hk69 h) FUEL (x4, x5) hf
def fX1_hopeless_b66 (io_able : Int32) (co_lack : Nat → Int32) (co_most : Nat → Int32) (iC_size : Int32) (iL_cells : Int32) (x1 : Int32) (x2 : Int32) (x3 : Int32) (x4 : Int32) : Option (Int32) :=
  fX1_hopeless_b69 io_able co_lack co_most iC_size iL_cells x2 x3 x4 x1
set_option maxHeartbeats 400000 in
set_option maxRecDepth 100000 in
theorem kX1_hopeless_b66 {X : cxT} {l : Launch} {D : va_G} {Y : Nat → ClassId} {ao aL aC : Nat → Nat} {io_able : Int32} {io_spells : Int32} {io_height : Int32} {co_lack : Nat → Int32} {co_most : Nat → Int32} {iC_size : Int32} {iL_cells : Int32} {x1 : Int32} {x2 : Int32} {x3 : Int32} {x4 : Int32} {res : Int32} (C : axC X l D Y cX1_hopeless 6 RX1 wsX1_hopeless rmX1_hopeless (some .boolean)) (hQ : axQ X 0 0 (fun r9 w9 => r9 = (some (.int res)) ∧ w9 = [oX1 ao aL aC io_able io_spells io_height, rI Y (ao 2) 12 co_lack, rI Y (ao 3) 8 co_most, oX2 aC iC_size, oX5 aL iL_cells])) (hf : fX1_hopeless_b66 io_able co_lack co_most iC_size iL_cells x1 x2 x3 x4 = some res) : ax X 0 0 66 [some (.ref (ao 0)), some (.int x1), some (.int x2), some (.int x3), some (.int x4), none] [oX1 ao aL aC io_able io_spells io_height, rI Y (ao 2) 12 co_lack, rI Y (ao 3) 8 co_most, oX2 aC iC_size, oX5 aL iL_cells] [] := by
  unfold fX1_hopeless_b66 at hf
  refine a_iload_n C dX1_hopeless_66 rfl ?_
  refine a_istore C dX1_hopeless_67 (by decide) rfl ?_
  refine a_kill [1] ?_
  exact kX1_hopeless_b69 C hQ hf
def fX1_hopeless_b60 (io_able : Int32) (co_lack : Nat → Int32) (co_most : Nat → Int32) (iC_size : Int32) (iL_cells : Int32) (x1 : Int32) (x2 : Int32) (x3 : Int32) (x4 : Int32) (x5 : Int32) (k23 : Int32 × Int32 × Int32 → Option (Int32)) : Option (Int32) :=
  k23 (x3, x4, (x5 + (1 : Int32)))
set_option maxHeartbeats 400000 in
set_option maxRecDepth 100000 in
theorem kX1_hopeless_b60 {X : cxT} {l : Launch} {D : va_G} {Y : Nat → ClassId} {ao aL aC : Nat → Nat} {io_able : Int32} {io_spells : Int32} {io_height : Int32} {co_lack : Nat → Int32} {co_most : Nat → Int32} {iC_size : Int32} {iL_cells : Int32} {x1 : Int32} {x2 : Int32} {x3 : Int32} {x4 : Int32} {x5 : Int32} {res : Int32} (C : axC X l D Y cX1_hopeless 6 RX1 wsX1_hopeless rmX1_hopeless (some .boolean)) (hQ : axQ X 0 0 (fun r9 w9 => r9 = (some (.int res)) ∧ w9 = [oX1 ao aL aC io_able io_spells io_height, rI Y (ao 2) 12 co_lack, rI Y (ao 3) 8 co_most, oX2 aC iC_size, oX5 aL iL_cells])) {k23 : Int32 × Int32 × Int32 → Option (Int32)} (hk23 : ∀ s : Int32 × Int32 × Int32, k23 s = some res → ax X 0 0 23 [some (.ref (ao 0)), some (.int x1), some (.int x2), some (.int s.1), some (.int s.2.1), some (.int s.2.2)] [oX1 ao aL aC io_able io_spells io_height, rI Y (ao 2) 12 co_lack, rI Y (ao 3) 8 co_most, oX2 aC iC_size, oX5 aL iL_cells] []) (hf : fX1_hopeless_b60 io_able co_lack co_most iC_size iL_cells x1 x2 x3 x4 x5 k23 = some res) : ax X 0 0 60 [some (.ref (ao 0)), some (.int x1), some (.int x2), some (.int x3), some (.int x4), some (.int x5)] [oX1 ao aL aC io_able io_spells io_height, rI Y (ao 2) 12 co_lack, rI Y (ao 3) 8 co_most, oX2 aC iC_size, oX5 aL iL_cells] [] := by
  unfold fX1_hopeless_b60 at hf
  refine a_iinc C (1 : Int32) dX1_hopeless_60 (by decide) rfl (by decide) rfl ?_
  refine a_goto C 23 dX1_hopeless_63 (by decide) ?_
  exact hk23 (x3, x4, (x5 + (1 : Int32))) hf
def fX1_hopeless_l23 (io_able : Int32) (co_lack : Nat → Int32) (co_most : Nat → Int32) (iC_size : Int32) (iL_cells : Int32) (x1 : Int32) (x2 : Int32) (k23 : Int32 × Int32 × Int32 → Option (Int32)) (x3 : Int32) (x4 : Int32) (x5 : Int32) : Option (Int32) :=
  if iL_cells ≤ x5 then (fX1_hopeless_b66 io_able co_lack co_most iC_size iL_cells x1 x2 x3 x4) else (if inb x5 12 then if (co_lack (Int32.toNatClampNeg x5)) ≤ (0 : Int32) then (fX1_hopeless_b60 io_able co_lack co_most iC_size iL_cells x1 x2 x3 x4 x5 k23) else (fX1_hopeless_b60 io_able co_lack co_most iC_size iL_cells x1 x2 (x3 + (1 : Int32)) (x4 + (co_lack (Int32.toNatClampNeg x5))) x5 k23) else none)
def fX1_hopeless_b23 (io_able : Int32) (co_lack : Nat → Int32) (co_most : Nat → Int32) (iC_size : Int32) (iL_cells : Int32) (x1 : Int32) (x2 : Int32) (x3 : Int32) (x4 : Int32) (x5 : Int32) : Option (Int32) :=
  loopN (fun (s : Int32 × Int32 × Int32) k23 => fX1_hopeless_l23 io_able co_lack co_most iC_size iL_cells x1 x2 k23 s.1 s.2.1 s.2.2) FUEL (x3, x4, x5)
set_option maxHeartbeats 400000 in
set_option maxRecDepth 100000 in
theorem kX1_hopeless_l23 {X : cxT} {l : Launch} {D : va_G} {Y : Nat → ClassId} {ao aL aC : Nat → Nat} {io_able : Int32} {io_spells : Int32} {io_height : Int32} {co_lack : Nat → Int32} {co_most : Nat → Int32} {iC_size : Int32} {iL_cells : Int32} {x1 : Int32} {x2 : Int32} {x3 : Int32} {x4 : Int32} {x5 : Int32} {res : Int32} (C : axC X l D Y cX1_hopeless 6 RX1 wsX1_hopeless rmX1_hopeless (some .boolean)) (hQ : axQ X 0 0 (fun r9 w9 => r9 = (some (.int res)) ∧ w9 = [oX1 ao aL aC io_able io_spells io_height, rI Y (ao 2) 12 co_lack, rI Y (ao 3) 8 co_most, oX2 aC iC_size, oX5 aL iL_cells])) {k23 : Int32 × Int32 × Int32 → Option (Int32)} (hk23 : ∀ s : Int32 × Int32 × Int32, k23 s = some res → ax X 0 0 23 [some (.ref (ao 0)), some (.int x1), some (.int x2), some (.int s.1), some (.int s.2.1), some (.int s.2.2)] [oX1 ao aL aC io_able io_spells io_height, rI Y (ao 2) 12 co_lack, rI Y (ao 3) 8 co_most, oX2 aC iC_size, oX5 aL iL_cells] []) (hf : fX1_hopeless_l23 io_able co_lack co_most iC_size iL_cells x1 x2 k23 x3 x4 x5 = some res) : ax X 0 0 23 [some (.ref (ao 0)), some (.int x1), some (.int x2), some (.int x3), some (.int x4), some (.int x5)] [oX1 ao aL aC io_able io_spells io_height, rI Y (ao 2) 12 co_lack, rI Y (ao 3) 8 co_most, oX2 aC iC_size, oX5 aL iL_cells] [] := by
  unfold fX1_hopeless_l23 at hf
  refine a_iload C dX1_hopeless_23 rfl ?_
  refine a_aload_n C dX1_hopeless_25 rfl ?_
  refine a_get C eX1_hopeless_21 dX1_hopeless_26 0 rfl rfl ?_
  refine a_get C eX1_hopeless_53 dX1_hopeless_29 4 rfl rfl ?_
  refine a_icmp_ge C 66 dX1_hopeless_32 (by decide) (fun h7 => ?_) (fun h7 => ?_)
  · have hf := fx_t h7 hf
    refine a_kill [5] ?_
    exact kX1_hopeless_b66 C hQ hf
  · have hf := fx_f h7 hf
    refine a_aload_n C dX1_hopeless_35 rfl ?_
    refine a_get C eX1_hopeless_15 dX1_hopeless_36 0 rfl rfl ?_
    refine a_iload C dX1_hopeless_39 rfl ?_
    obtain ⟨h8, hf⟩ := fx_ite hf
    refine a_iald C dX1_hopeless_41 1 rfl h8 ?_
    refine a_if_le C 60 dX1_hopeless_42 (by decide) (fun h9 => ?_) (fun h9 => ?_)
    · have hf := fx_t h9 hf
      exact kX1_hopeless_b60 C hQ hk23 hf
    · have hf := fx_f h9 hf
      refine a_iinc C (1 : Int32) dX1_hopeless_45 (by decide) rfl (by decide) rfl ?_
      refine a_iload C dX1_hopeless_48 rfl ?_
      refine a_aload_n C dX1_hopeless_50 rfl ?_
      refine a_get C eX1_hopeless_15 dX1_hopeless_51 0 rfl rfl ?_
      refine a_iload C dX1_hopeless_54 rfl ?_
      refine a_iald C dX1_hopeless_56 1 rfl h8 ?_
      refine a_iadd C dX1_hopeless_57 ?_
      refine a_istore C dX1_hopeless_58 (by decide) rfl ?_
      exact kX1_hopeless_b60 C hQ hk23 hf
set_option maxHeartbeats 400000 in
set_option maxRecDepth 100000 in
theorem kX1_hopeless_b23 {X : cxT} {l : Launch} {D : va_G} {Y : Nat → ClassId} {ao aL aC : Nat → Nat} {io_able : Int32} {io_spells : Int32} {io_height : Int32} {co_lack : Nat → Int32} {co_most : Nat → Int32} {iC_size : Int32} {iL_cells : Int32} {x1 : Int32} {x2 : Int32} {x3 : Int32} {x4 : Int32} {x5 : Int32} {res : Int32} (C : axC X l D Y cX1_hopeless 6 RX1 wsX1_hopeless rmX1_hopeless (some .boolean)) (hQ : axQ X 0 0 (fun r9 w9 => r9 = (some (.int res)) ∧ w9 = [oX1 ao aL aC io_able io_spells io_height, rI Y (ao 2) 12 co_lack, rI Y (ao 3) 8 co_most, oX2 aC iC_size, oX5 aL iL_cells])) (hf : fX1_hopeless_b23 io_able co_lack co_most iC_size iL_cells x1 x2 x3 x4 x5 = some res) : ax X 0 0 23 [some (.ref (ao 0)), some (.int x1), some (.int x2), some (.int x3), some (.int x4), some (.int x5)] [oX1 ao aL aC io_able io_spells io_height, rI Y (ao 2) 12 co_lack, rI Y (ao 3) 8 co_most, oX2 aC iC_size, oX5 aL iL_cells] [] := by
  unfold fX1_hopeless_b23 at hf
  exact fx_loop (P := fun s : Int32 × Int32 × Int32 => ax X 0 0 23 [some (.ref (ao 0)), some (.int x1), some (.int x2), some (.int s.1), some (.int s.2.1), some (.int s.2.2)] [oX1 ao aL aC io_able io_spells io_height, rI Y (ao 2) 12 co_lack, rI Y (ao 3) 8 co_most, oX2 aC iC_size, oX5 aL iL_cells] []) (fun s k23 hk23 h => kX1_hopeless_l23 C hQ hk23 h) FUEL (x3, x4, x5) hf
def fX1_hopeless (io_able : Int32) (co_lack : Nat → Int32) (co_most : Nat → Int32) (iC_size : Int32) (iL_cells : Int32) (x1 : Int32) (x2 : Int32) : Option (Int32) :=
  (fJ6_bitCount_0f7a4 (jshr io_able x1)).bind (fun r10 => if x2 ≤ r10 then (fX1_hopeless_b23 io_able co_lack co_most iC_size iL_cells x1 x2 (0 : Int32) (0 : Int32) (0 : Int32)) else (some (1 : Int32)))
set_option maxHeartbeats 400000 in
set_option maxRecDepth 100000 in
theorem kX1_hopeless (l : Launch) (D : va_G) (Y : Nat → ClassId) (ao aL aC : Nat → Nat) (io_able : Int32) (io_spells : Int32) (io_height : Int32) (co_lack : Nat → Int32) (co_most : Nat → Int32) (iC_size : Int32) (iL_cells : Int32) (x1 : Int32) (x2 : Int32) (res : Int32) (hf : fX1_hopeless io_able co_lack co_most iC_size iL_cells x1 x2 = some res) : amf l D Y yX1_hopeless wsX1_hopeless rmX1_hopeless [.ref (ao 0), .int x1, .int x2] [oX1 ao aL aC io_able io_spells io_height, rI Y (ao 2) 12 co_lack, rI Y (ao 3) 8 co_most, oX2 aC iC_size, oX5 aL iL_cells] (some (.int res)) [oX1 ao aL aC io_able io_spells io_height, rI Y (ao 2) 12 co_lack, rI Y (ao 3) 8 co_most, oX2 aC iC_size, oX5 aL iL_cells] := by
  refine amf.of (cc := cX1_hopeless) (maxL := 6) (rt := (some .boolean)) (by decide) rfl RX1 rfl (Nat.le_of_ble_eq_true rfl) [some (.ref (ao 0)), some (.int x1), some (.int x2), none, none, none] rfl ?_
  intro X C hQ
  unfold fX1_hopeless at hf
  refine a_aload_n C dX1_hopeless_0 rfl ?_
  refine a_get C eX1_hopeless_40 dX1_hopeless_1 0 rfl rfl ?_
  refine a_iload_n C dX1_hopeless_4 rfl ?_
  refine a_ishr C dX1_hopeless_5 ?_
  obtain ⟨r10, h10, hf⟩ := fx_bind hf
  refine a_fS C (kJ6_bitCount_0f7a4 l D Y (jshr io_able x1) r10 h10) gX1_hopeless_J6_bitCount_0f7a4 rfl dvJ6_bitCount_0f7a4 ⟨⟨rfl, rfl⟩, ⟨Nat.le_of_ble_eq_true rfl, Nat.le_of_ble_eq_true rfl⟩, ⟨Nat.le_of_ble_eq_true rfl, Nat.le_of_ble_eq_true rfl⟩⟩ rfl (Nat.le_of_ble_eq_true rfl) dX1_hopeless_6 [] [0, 1, 2, 3, 4] trivial rfl rfl [oX1 ao aL aC io_able io_spells io_height, rI Y (ao 2) 12 co_lack, rI Y (ao 3) 8 co_most, oX2 aC iC_size, oX5 aL iL_cells] trivial ⟨rfl, rfl, rfl, rfl, rfl, trivial⟩ rfl ?_
  refine a_iload_n C dX1_hopeless_9 rfl ?_
  refine a_icmp_ge C 15 dX1_hopeless_10 (by decide) (fun h11 => ?_) (fun h11 => ?_)
  · have hf := fx_t h11 hf
    refine a_iconst C (0 : Int32) dX1_hopeless_15 (by decide) ?_
    refine a_istore_n C dX1_hopeless_16 (by decide) rfl ?_
    refine a_iconst C (0 : Int32) dX1_hopeless_17 (by decide) ?_
    refine a_istore C dX1_hopeless_18 (by decide) rfl ?_
    refine a_iconst C (0 : Int32) dX1_hopeless_20 (by decide) ?_
    refine a_istore C dX1_hopeless_21 (by decide) rfl ?_
    exact kX1_hopeless_b23 C hQ hf
  · have hf := fx_f h11 hf
    refine a_iconst C (1 : Int32) dX1_hopeless_13 (by decide) ?_
    obtain rfl := fx_some hf
    exact a_zret C hQ (Or.inr rfl) dX1_hopeless_14 ⟨rfl, rfl⟩
-- X1_stands
abbrev rmX1_stands : Room := { frames := 4, cells := 0, slots := 0, locals := 88 }
theorem dvX1_stands : yX1_stands.cls = RX1 ∧ yX1_stands.cls ≠ "java/lang/invoke/MethodHandle" ∧ yX1_stands.cls ≠ "java/lang/invoke/VarHandle" ∧ (parseMethodDescriptor yX1_stands.desc).map (fun d => d.parameters.length) = some 2 := by decide +kernel
theorem eX1_stands_inX1 : ∀ w ∈ wsX10, w ∈ wsX1_stands := by decide +kernel
theorem eX1_stands_33 : aF wsX1_stands RX1 33 1 7 := ⟨RX1, TX1, 8, rfl, eX1_stands_inX1, by decide, by decide +kernel⟩
theorem eX1_stands_29 : aF wsX1_stands RX1 29 1 6 := ⟨RX1, TX1, 8, rfl, eX1_stands_inX1, by decide, by decide +kernel⟩
theorem eX1_stands_9 : aF wsX1_stands RX1 9 1 2 := ⟨RX1, TX1, 8, rfl, eX1_stands_inX1, by decide, by decide +kernel⟩
theorem eX1_stands_inX9 : ∀ w ∈ wsX90, w ∈ wsX1_stands := by decide +kernel
theorem eX1_stands_103 : aF wsX1_stands RX1 103 9 5 := ⟨RX9, TX9, 9, rfl, eX1_stands_inX9, by decide, by decide +kernel⟩
theorem eX1_stands_c104 : ∀ w ∈ ([.methodLink RX1 104 arraycopyName, .native arraycopyName, .static arraycopyName, .initialized "java/lang/System"] : List Cond), w ∈ wsX1_stands := by decide +kernel
def fX1_stands_b56 (io_spells : Int32) (io_height : Int32) (co_place : Nat → Int32) (ip1_moats : Int32) (ip1_spades : Int32) (ip1_tides : Int32) (cp1_wall : Nat → Int32) (cp1_depth : Nat → Int32) (cp1_mood : Nat → Int32) (cp1_place : Nat → Int32) (ip2_moats : Int32) (ip2_spades : Int32) (ip2_tides : Int32) (cp2_wall : Nat → Int32) (cp2_depth : Nat → Int32) (cp2_mood : Nat → Int32) (cp2_place : Nat → Int32) (iC_size : Int32) (cC_age : Nat → Int32) (cC_skill : Nat → Int32) (cC_pals : Nat → Int32) (iL_cells : Int32) (cL_base : Nat → Int32) (s0 : Int32) : Option (Int32 × Int32 × Int32 × Int32 × (Nat → Int32) × (Nat → Int32) × (Nat → Int32) × (Nat → Int32)) :=
  if s0 = 0 ∨ s0 = 1 then some (s0, ip2_moats, ip2_spades, ip2_tides, cp2_wall, cp2_depth, cp2_mood, cp2_place) else none
set_option maxHeartbeats 400000 in
set_option maxRecDepth 100000 in
theorem kX1_stands_b56 {X : cxT} {l : Launch} {D : va_G} {Y : Nat → ClassId} {ao aL aC ap1 ap2 : Nat → Nat} {io_able : Int32} {io_spells : Int32} {io_height : Int32} {co_place : Nat → Int32} {ip1_moats : Int32} {ip1_spades : Int32} {ip1_tides : Int32} {cp1_wall : Nat → Int32} {cp1_depth : Nat → Int32} {cp1_mood : Nat → Int32} {cp1_place : Nat → Int32} {ip2_moats : Int32} {ip2_spades : Int32} {ip2_tides : Int32} {cp2_wall : Nat → Int32} {cp2_depth : Nat → Int32} {cp2_mood : Nat → Int32} {cp2_place : Nat → Int32} {iC_size : Int32} {cC_age : Nat → Int32} {cC_skill : Nat → Int32} {cC_pals : Nat → Int32} {iL_cells : Int32} {cL_base : Nat → Int32} {s0 : Int32} {res : Int32 × Int32 × Int32 × Int32 × (Nat → Int32) × (Nat → Int32) × (Nat → Int32) × (Nat → Int32)} (C : axC X l D Y cX1_stands 4 RX1 wsX1_stands rmX1_stands (some .boolean)) (hQ : axQ X 0 0 (fun r9 w9 => r9 = (some (.int res.1)) ∧ w9 = [oX1 ao aL aC io_able io_spells io_height, rI Y (ao 1) 8 co_place, oX9 ap1 aL aC ip1_moats ip1_spades ip1_tides, rI Y (ap1 1) 12 cp1_wall, rI Y (ap1 2) 12 cp1_depth, rI Y (ap1 3) 8 cp1_mood, rI Y (ap1 4) 8 cp1_place, oX9 ap2 aL aC res.2.1 res.2.2.1 res.2.2.2.1, rI Y (ap2 1) 12 res.2.2.2.2.1, rI Y (ap2 2) 12 res.2.2.2.2.2.1, rI Y (ap2 3) 8 res.2.2.2.2.2.2.1, rI Y (ap2 4) 8 res.2.2.2.2.2.2.2, oX2 aC iC_size, rI Y (aC 1) 8 cC_age, rI Y (aC 2) 8 cC_skill, rI Y (aC 4) 8 cC_pals, oX5 aL iL_cells, rI Y (aL 1) 12 cL_base])) (hf : fX1_stands_b56 io_spells io_height co_place ip1_moats ip1_spades ip1_tides cp1_wall cp1_depth cp1_mood cp1_place ip2_moats ip2_spades ip2_tides cp2_wall cp2_depth cp2_mood cp2_place iC_size cC_age cC_skill cC_pals iL_cells cL_base s0 = some res) : ax X 0 0 56 [none, none, none, none] [oX1 ao aL aC io_able io_spells io_height, rI Y (ao 1) 8 co_place, oX9 ap1 aL aC ip1_moats ip1_spades ip1_tides, rI Y (ap1 1) 12 cp1_wall, rI Y (ap1 2) 12 cp1_depth, rI Y (ap1 3) 8 cp1_mood, rI Y (ap1 4) 8 cp1_place, oX9 ap2 aL aC ip2_moats ip2_spades ip2_tides, rI Y (ap2 1) 12 cp2_wall, rI Y (ap2 2) 12 cp2_depth, rI Y (ap2 3) 8 cp2_mood, rI Y (ap2 4) 8 cp2_place, oX2 aC iC_size, rI Y (aC 1) 8 cC_age, rI Y (aC 2) 8 cC_skill, rI Y (aC 4) 8 cC_pals, oX5 aL iL_cells, rI Y (aL 1) 12 cL_base] [.int s0] := by
  unfold fX1_stands_b56 at hf
  obtain ⟨h1, hf⟩ := fx_ite hf
  obtain rfl := fx_some hf
  exact a_zret C hQ h1 dX1_stands_56 ⟨rfl, rfl⟩
def fX1_stands_b40 (io_spells : Int32) (io_height : Int32) (co_place : Nat → Int32) (ip1_moats : Int32) (ip1_spades : Int32) (ip1_tides : Int32) (cp1_wall : Nat → Int32) (cp1_depth : Nat → Int32) (cp1_mood : Nat → Int32) (cp1_place : Nat → Int32) (ip2_moats : Int32) (ip2_spades : Int32) (ip2_tides : Int32) (cp2_wall : Nat → Int32) (cp2_depth : Nat → Int32) (cp2_mood : Nat → Int32) (cp2_place : Nat → Int32) (iC_size : Int32) (cC_age : Nat → Int32) (cC_skill : Nat → Int32) (cC_pals : Nat → Int32) (iL_cells : Int32) (cL_base : Nat → Int32) : Option (Int32 × Int32 × Int32 × Int32 × (Nat → Int32) × (Nat → Int32) × (Nat → Int32) × (Nat → Int32)) :=
  (fX9_below cp2_wall iL_cells cL_base io_height).bind (fun r2 => if r2 = (0 : Int32) then (fX1_stands_b56 io_spells io_height co_place ip1_moats ip1_spades ip1_tides cp1_wall cp1_depth cp1_mood cp1_place ip2_moats ip2_spades ip2_tides cp2_wall cp2_depth cp2_mood cp2_place iC_size cC_age cC_skill cC_pals iL_cells cL_base (1 : Int32)) else (fX1_stands_b56 io_spells io_height co_place ip1_moats ip1_spades ip1_tides cp1_wall cp1_depth cp1_mood cp1_place ip2_moats ip2_spades ip2_tides cp2_wall cp2_depth cp2_mood cp2_place iC_size cC_age cC_skill cC_pals iL_cells cL_base (0 : Int32)))
set_option maxHeartbeats 400000 in
set_option maxRecDepth 100000 in
theorem kX1_stands_b40 {X : cxT} {l : Launch} {D : va_G} {Y : Nat → ClassId} {ao aL aC ap1 ap2 : Nat → Nat} {io_able : Int32} {io_spells : Int32} {io_height : Int32} {co_place : Nat → Int32} {ip1_moats : Int32} {ip1_spades : Int32} {ip1_tides : Int32} {cp1_wall : Nat → Int32} {cp1_depth : Nat → Int32} {cp1_mood : Nat → Int32} {cp1_place : Nat → Int32} {ip2_moats : Int32} {ip2_spades : Int32} {ip2_tides : Int32} {cp2_wall : Nat → Int32} {cp2_depth : Nat → Int32} {cp2_mood : Nat → Int32} {cp2_place : Nat → Int32} {iC_size : Int32} {cC_age : Nat → Int32} {cC_skill : Nat → Int32} {cC_pals : Nat → Int32} {iL_cells : Int32} {cL_base : Nat → Int32} {res : Int32 × Int32 × Int32 × Int32 × (Nat → Int32) × (Nat → Int32) × (Nat → Int32) × (Nat → Int32)} (C : axC X l D Y cX1_stands 4 RX1 wsX1_stands rmX1_stands (some .boolean)) (hQ : axQ X 0 0 (fun r9 w9 => r9 = (some (.int res.1)) ∧ w9 = [oX1 ao aL aC io_able io_spells io_height, rI Y (ao 1) 8 co_place, oX9 ap1 aL aC ip1_moats ip1_spades ip1_tides, rI Y (ap1 1) 12 cp1_wall, rI Y (ap1 2) 12 cp1_depth, rI Y (ap1 3) 8 cp1_mood, rI Y (ap1 4) 8 cp1_place, oX9 ap2 aL aC res.2.1 res.2.2.1 res.2.2.2.1, rI Y (ap2 1) 12 res.2.2.2.2.1, rI Y (ap2 2) 12 res.2.2.2.2.2.1, rI Y (ap2 3) 8 res.2.2.2.2.2.2.1, rI Y (ap2 4) 8 res.2.2.2.2.2.2.2, oX2 aC iC_size, rI Y (aC 1) 8 cC_age, rI Y (aC 2) 8 cC_skill, rI Y (aC 4) 8 cC_pals, oX5 aL iL_cells, rI Y (aL 1) 12 cL_base])) (hf : fX1_stands_b40 io_spells io_height co_place ip1_moats ip1_spades ip1_tides cp1_wall cp1_depth cp1_mood cp1_place ip2_moats ip2_spades ip2_tides cp2_wall cp2_depth cp2_mood cp2_place iC_size cC_age cC_skill cC_pals iL_cells cL_base = some res) : ax X 0 0 40 [some (.ref (ao 0)), none, some (.ref (ap2 0)), none] [oX1 ao aL aC io_able io_spells io_height, rI Y (ao 1) 8 co_place, oX9 ap1 aL aC ip1_moats ip1_spades ip1_tides, rI Y (ap1 1) 12 cp1_wall, rI Y (ap1 2) 12 cp1_depth, rI Y (ap1 3) 8 cp1_mood, rI Y (ap1 4) 8 cp1_place, oX9 ap2 aL aC ip2_moats ip2_spades ip2_tides, rI Y (ap2 1) 12 cp2_wall, rI Y (ap2 2) 12 cp2_depth, rI Y (ap2 3) 8 cp2_mood, rI Y (ap2 4) 8 cp2_place, oX2 aC iC_size, rI Y (aC 1) 8 cC_age, rI Y (aC 2) 8 cC_skill, rI Y (aC 4) 8 cC_pals, oX5 aL iL_cells, rI Y (aL 1) 12 cL_base] [] := by
  unfold fX1_stands_b40 at hf
  refine a_aload_n C dX1_stands_40 rfl ?_
  refine a_aload_n C dX1_stands_41 rfl ?_
  refine a_get C eX1_stands_33 dX1_stands_42 0 rfl rfl ?_
  obtain ⟨r2, h2, hf⟩ := fx_bind hf
  refine a_fV C (kX9_below l D Y ap2 aL aC ip2_moats ip2_spades ip2_tides cp2_wall iL_cells cL_base io_height r2 h2) gX1_stands_X9_below rfl dvX9_below ⟨⟨rfl, rfl⟩, ⟨Nat.le_of_ble_eq_true rfl, Nat.le_of_ble_eq_true rfl⟩, ⟨Nat.le_of_ble_eq_true rfl, Nat.le_of_ble_eq_true rfl⟩⟩ rfl (Nat.le_of_ble_eq_true rfl) dX1_stands_45 rfl rfl [7, 8, 16, 17] [0, 1, 2, 3, 4, 5, 6, 9, 10, 11, 12, 13, 14, 15] ⟨rfl, rfl, rfl, rfl, trivial⟩ rfl rfl [oX1 ao aL aC io_able io_spells io_height, rI Y (ao 1) 8 co_place, oX9 ap1 aL aC ip1_moats ip1_spades ip1_tides, rI Y (ap1 1) 12 cp1_wall, rI Y (ap1 2) 12 cp1_depth, rI Y (ap1 3) 8 cp1_mood, rI Y (ap1 4) 8 cp1_place, oX9 ap2 aL aC ip2_moats ip2_spades ip2_tides, rI Y (ap2 1) 12 cp2_wall, rI Y (ap2 2) 12 cp2_depth, rI Y (ap2 3) 8 cp2_mood, rI Y (ap2 4) 8 cp2_place, oX2 aC iC_size, rI Y (aC 1) 8 cC_age, rI Y (aC 2) 8 cC_skill, rI Y (aC 4) 8 cC_pals, oX5 aL iL_cells, rI Y (aL 1) 12 cL_base] ⟨rfl, rfl, rfl, rfl, trivial⟩ ⟨rfl, rfl, rfl, rfl, rfl, rfl, rfl, rfl, rfl, rfl, rfl, rfl, rfl, rfl, trivial⟩ rfl ?_
  refine a_if_ne C 55 dX1_stands_48 (by decide) (fun h3 => ?_) (fun h3 => ?_)
  · have hf := fx_f h3 hf
    refine a_iconst C (0 : Int32) dX1_stands_55 (by decide) ?_
    refine a_kill [0, 2] ?_
    exact kX1_stands_b56 C hQ hf
  · have hf := fx_t h3 hf
    refine a_iconst C (1 : Int32) dX1_stands_51 (by decide) ?_
    refine a_goto C 56 dX1_stands_52 (by decide) ?_
    refine a_kill [0, 2] ?_
    exact kX1_stands_b56 C hQ hf
def fX1_stands_l22 (io_spells : Int32) (io_height : Int32) (co_place : Nat → Int32) (ip1_moats : Int32) (ip1_spades : Int32) (ip1_tides : Int32) (cp1_wall : Nat → Int32) (cp1_depth : Nat → Int32) (cp1_mood : Nat → Int32) (cp1_place : Nat → Int32) (ip2_moats : Int32) (ip2_spades : Int32) (ip2_tides : Int32) (cp2_depth : Nat → Int32) (iC_size : Int32) (cC_age : Nat → Int32) (cC_skill : Nat → Int32) (cC_pals : Nat → Int32) (iL_cells : Int32) (cL_base : Nat → Int32) (k22 : (Nat → Int32) × (Nat → Int32) × (Nat → Int32) × Int32 → Option (Int32 × Int32 × Int32 × Int32 × (Nat → Int32) × (Nat → Int32) × (Nat → Int32) × (Nat → Int32))) (cp2_wall : Nat → Int32) (cp2_mood : Nat → Int32) (cp2_place : Nat → Int32) (x3 : Int32) : Option (Int32 × Int32 × Int32 × Int32 × (Nat → Int32) × (Nat → Int32) × (Nat → Int32) × (Nat → Int32)) :=
  if io_spells ≤ x3 then (fX1_stands_b40 io_spells io_height co_place ip1_moats ip1_spades ip1_tides cp1_wall cp1_depth cp1_mood cp1_place ip2_moats ip2_spades ip2_tides cp2_wall cp2_depth cp2_mood cp2_place iC_size cC_age cC_skill cC_pals iL_cells cL_base) else ((fX9_spell ip2_spades cp2_wall cp2_mood cp2_place iC_size cC_age cC_skill cC_pals iL_cells).bind (fun r5 => k22 (r5.1, r5.2.1, r5.2.2, (x3 + (1 : Int32)))))
def fX1_stands_b22 (io_spells : Int32) (io_height : Int32) (co_place : Nat → Int32) (ip1_moats : Int32) (ip1_spades : Int32) (ip1_tides : Int32) (cp1_wall : Nat → Int32) (cp1_depth : Nat → Int32) (cp1_mood : Nat → Int32) (cp1_place : Nat → Int32) (ip2_moats : Int32) (ip2_spades : Int32) (ip2_tides : Int32) (cp2_wall : Nat → Int32) (cp2_depth : Nat → Int32) (cp2_mood : Nat → Int32) (cp2_place : Nat → Int32) (iC_size : Int32) (cC_age : Nat → Int32) (cC_skill : Nat → Int32) (cC_pals : Nat → Int32) (iL_cells : Int32) (cL_base : Nat → Int32) (x3 : Int32) : Option (Int32 × Int32 × Int32 × Int32 × (Nat → Int32) × (Nat → Int32) × (Nat → Int32) × (Nat → Int32)) :=
  loopN (fun (s : (Nat → Int32) × (Nat → Int32) × (Nat → Int32) × Int32) k22 => fX1_stands_l22 io_spells io_height co_place ip1_moats ip1_spades ip1_tides cp1_wall cp1_depth cp1_mood cp1_place ip2_moats ip2_spades ip2_tides cp2_depth iC_size cC_age cC_skill cC_pals iL_cells cL_base k22 s.1 s.2.1 s.2.2.1 s.2.2.2) FUEL (cp2_wall, cp2_mood, cp2_place, x3)
set_option maxHeartbeats 400000 in
set_option maxRecDepth 100000 in
theorem kX1_stands_l22 {X : cxT} {l : Launch} {D : va_G} {Y : Nat → ClassId} {ao aL aC ap1 ap2 : Nat → Nat} {io_able : Int32} {io_spells : Int32} {io_height : Int32} {co_place : Nat → Int32} {ip1_moats : Int32} {ip1_spades : Int32} {ip1_tides : Int32} {cp1_wall : Nat → Int32} {cp1_depth : Nat → Int32} {cp1_mood : Nat → Int32} {cp1_place : Nat → Int32} {ip2_moats : Int32} {ip2_spades : Int32} {ip2_tides : Int32} {cp2_wall : Nat → Int32} {cp2_depth : Nat → Int32} {cp2_mood : Nat → Int32} {cp2_place : Nat → Int32} {iC_size : Int32} {cC_age : Nat → Int32} {cC_skill : Nat → Int32} {cC_pals : Nat → Int32} {iL_cells : Int32} {cL_base : Nat → Int32} {x3 : Int32} {res : Int32 × Int32 × Int32 × Int32 × (Nat → Int32) × (Nat → Int32) × (Nat → Int32) × (Nat → Int32)} (C : axC X l D Y cX1_stands 4 RX1 wsX1_stands rmX1_stands (some .boolean)) (hQ : axQ X 0 0 (fun r9 w9 => r9 = (some (.int res.1)) ∧ w9 = [oX1 ao aL aC io_able io_spells io_height, rI Y (ao 1) 8 co_place, oX9 ap1 aL aC ip1_moats ip1_spades ip1_tides, rI Y (ap1 1) 12 cp1_wall, rI Y (ap1 2) 12 cp1_depth, rI Y (ap1 3) 8 cp1_mood, rI Y (ap1 4) 8 cp1_place, oX9 ap2 aL aC res.2.1 res.2.2.1 res.2.2.2.1, rI Y (ap2 1) 12 res.2.2.2.2.1, rI Y (ap2 2) 12 res.2.2.2.2.2.1, rI Y (ap2 3) 8 res.2.2.2.2.2.2.1, rI Y (ap2 4) 8 res.2.2.2.2.2.2.2, oX2 aC iC_size, rI Y (aC 1) 8 cC_age, rI Y (aC 2) 8 cC_skill, rI Y (aC 4) 8 cC_pals, oX5 aL iL_cells, rI Y (aL 1) 12 cL_base])) {k22 : (Nat → Int32) × (Nat → Int32) × (Nat → Int32) × Int32 → Option (Int32 × Int32 × Int32 × Int32 × (Nat → Int32) × (Nat → Int32) × (Nat → Int32) × (Nat → Int32))} (hk22 : ∀ s : (Nat → Int32) × (Nat → Int32) × (Nat → Int32) × Int32, k22 s = some res → ax X 0 0 22 [some (.ref (ao 0)), none, some (.ref (ap2 0)), some (.int s.2.2.2)] [oX1 ao aL aC io_able io_spells io_height, rI Y (ao 1) 8 co_place, oX9 ap1 aL aC ip1_moats ip1_spades ip1_tides, rI Y (ap1 1) 12 cp1_wall, rI Y (ap1 2) 12 cp1_depth, rI Y (ap1 3) 8 cp1_mood, rI Y (ap1 4) 8 cp1_place, oX9 ap2 aL aC ip2_moats ip2_spades ip2_tides, rI Y (ap2 1) 12 s.1, rI Y (ap2 2) 12 cp2_depth, rI Y (ap2 3) 8 s.2.1, rI Y (ap2 4) 8 s.2.2.1, oX2 aC iC_size, rI Y (aC 1) 8 cC_age, rI Y (aC 2) 8 cC_skill, rI Y (aC 4) 8 cC_pals, oX5 aL iL_cells, rI Y (aL 1) 12 cL_base] []) (hf : fX1_stands_l22 io_spells io_height co_place ip1_moats ip1_spades ip1_tides cp1_wall cp1_depth cp1_mood cp1_place ip2_moats ip2_spades ip2_tides cp2_depth iC_size cC_age cC_skill cC_pals iL_cells cL_base k22 cp2_wall cp2_mood cp2_place x3 = some res) : ax X 0 0 22 [some (.ref (ao 0)), none, some (.ref (ap2 0)), some (.int x3)] [oX1 ao aL aC io_able io_spells io_height, rI Y (ao 1) 8 co_place, oX9 ap1 aL aC ip1_moats ip1_spades ip1_tides, rI Y (ap1 1) 12 cp1_wall, rI Y (ap1 2) 12 cp1_depth, rI Y (ap1 3) 8 cp1_mood, rI Y (ap1 4) 8 cp1_place, oX9 ap2 aL aC ip2_moats ip2_spades ip2_tides, rI Y (ap2 1) 12 cp2_wall, rI Y (ap2 2) 12 cp2_depth, rI Y (ap2 3) 8 cp2_mood, rI Y (ap2 4) 8 cp2_place, oX2 aC iC_size, rI Y (aC 1) 8 cC_age, rI Y (aC 2) 8 cC_skill, rI Y (aC 4) 8 cC_pals, oX5 aL iL_cells, rI Y (aL 1) 12 cL_base] [] := by
  unfold fX1_stands_l22 at hf
  refine a_iload_n C dX1_stands_22 rfl ?_
  refine a_aload_n C dX1_stands_23 rfl ?_
  refine a_get C eX1_stands_29 dX1_stands_24 0 rfl rfl ?_
  refine a_icmp_ge C 40 dX1_stands_27 (by decide) (fun h4 => ?_) (fun h4 => ?_)
  · have hf := fx_t h4 hf
    refine a_kill [3] ?_
    exact kX1_stands_b40 C hQ hf
  · have hf := fx_f h4 hf
    refine a_aload_n C dX1_stands_30 rfl ?_
    obtain ⟨r5, h5, hf⟩ := fx_bind hf
    refine a_fV C (kX9_spell l D Y ap2 aL aC ip2_moats ip2_spades ip2_tides cp2_wall cp2_mood cp2_place iC_size cC_age cC_skill cC_pals iL_cells r5 h5) gX1_stands_X9_spell rfl dvX9_spell ⟨⟨rfl, rfl⟩, ⟨Nat.le_of_ble_eq_true rfl, Nat.le_of_ble_eq_true rfl⟩, ⟨Nat.le_of_ble_eq_true rfl, Nat.le_of_ble_eq_true rfl⟩⟩ rfl (Nat.le_of_ble_eq_true rfl) dX1_stands_31 rfl rfl [7, 8, 10, 11, 12, 13, 14, 15, 16] [0, 1, 2, 3, 4, 5, 6, 9, 17] ⟨rfl, rfl, rfl, rfl, rfl, rfl, rfl, rfl, rfl, trivial⟩ rfl rfl [oX1 ao aL aC io_able io_spells io_height, rI Y (ao 1) 8 co_place, oX9 ap1 aL aC ip1_moats ip1_spades ip1_tides, rI Y (ap1 1) 12 cp1_wall, rI Y (ap1 2) 12 cp1_depth, rI Y (ap1 3) 8 cp1_mood, rI Y (ap1 4) 8 cp1_place, oX9 ap2 aL aC ip2_moats ip2_spades ip2_tides, rI Y (ap2 1) 12 r5.1, rI Y (ap2 2) 12 cp2_depth, rI Y (ap2 3) 8 r5.2.1, rI Y (ap2 4) 8 r5.2.2, oX2 aC iC_size, rI Y (aC 1) 8 cC_age, rI Y (aC 2) 8 cC_skill, rI Y (aC 4) 8 cC_pals, oX5 aL iL_cells, rI Y (aL 1) 12 cL_base] ⟨rfl, rfl, rfl, rfl, rfl, rfl, rfl, rfl, rfl, trivial⟩ ⟨rfl, rfl, rfl, rfl, rfl, rfl, rfl, rfl, rfl, trivial⟩ rfl ?_
    refine a_iinc C (1 : Int32) dX1_stands_34 (by decide) rfl (by decide) rfl ?_
    refine a_goto C 22 dX1_stands_37 (by decide) ?_
    exact hk22 (r5.1, r5.2.1, r5.2.2, (x3 + (1 : Int32))) hf
set_option maxHeartbeats 400000 in
set_option maxRecDepth 100000 in
theorem kX1_stands_b22 {X : cxT} {l : Launch} {D : va_G} {Y : Nat → ClassId} {ao aL aC ap1 ap2 : Nat → Nat} {io_able : Int32} {io_spells : Int32} {io_height : Int32} {co_place : Nat → Int32} {ip1_moats : Int32} {ip1_spades : Int32} {ip1_tides : Int32} {cp1_wall : Nat → Int32} {cp1_depth : Nat → Int32} {cp1_mood : Nat → Int32} {cp1_place : Nat → Int32} {ip2_moats : Int32} {ip2_spades : Int32} {ip2_tides : Int32} {cp2_wall : Nat → Int32} {cp2_depth : Nat → Int32} {cp2_mood : Nat → Int32} {cp2_place : Nat → Int32} {iC_size : Int32} {cC_age : Nat → Int32} {cC_skill : Nat → Int32} {cC_pals : Nat → Int32} {iL_cells : Int32} {cL_base : Nat → Int32} {x3 : Int32} {res : Int32 × Int32 × Int32 × Int32 × (Nat → Int32) × (Nat → Int32) × (Nat → Int32) × (Nat → Int32)} (C : axC X l D Y cX1_stands 4 RX1 wsX1_stands rmX1_stands (some .boolean)) (hQ : axQ X 0 0 (fun r9 w9 => r9 = (some (.int res.1)) ∧ w9 = [oX1 ao aL aC io_able io_spells io_height, rI Y (ao 1) 8 co_place, oX9 ap1 aL aC ip1_moats ip1_spades ip1_tides, rI Y (ap1 1) 12 cp1_wall, rI Y (ap1 2) 12 cp1_depth, rI Y (ap1 3) 8 cp1_mood, rI Y (ap1 4) 8 cp1_place, oX9 ap2 aL aC res.2.1 res.2.2.1 res.2.2.2.1, rI Y (ap2 1) 12 res.2.2.2.2.1, rI Y (ap2 2) 12 res.2.2.2.2.2.1, rI Y (ap2 3) 8 res.2.2.2.2.2.2.1, rI Y (ap2 4) 8 res.2.2.2.2.2.2.2, oX2 aC iC_size, rI Y (aC 1) 8 cC_age, rI Y (aC 2) 8 cC_skill, rI Y (aC 4) 8 cC_pals, oX5 aL iL_cells, rI Y (aL 1) 12 cL_base])) (hf : fX1_stands_b22 io_spells io_height co_place ip1_moats ip1_spades ip1_tides cp1_wall cp1_depth cp1_mood cp1_place ip2_moats ip2_spades ip2_tides cp2_wall cp2_depth cp2_mood cp2_place iC_size cC_age cC_skill cC_pals iL_cells cL_base x3 = some res) : ax X 0 0 22 [some (.ref (ao 0)), none, some (.ref (ap2 0)), some (.int x3)] [oX1 ao aL aC io_able io_spells io_height, rI Y (ao 1) 8 co_place, oX9 ap1 aL aC ip1_moats ip1_spades ip1_tides, rI Y (ap1 1) 12 cp1_wall, rI Y (ap1 2) 12 cp1_depth, rI Y (ap1 3) 8 cp1_mood, rI Y (ap1 4) 8 cp1_place, oX9 ap2 aL aC ip2_moats ip2_spades ip2_tides, rI Y (ap2 1) 12 cp2_wall, rI Y (ap2 2) 12 cp2_depth, rI Y (ap2 3) 8 cp2_mood, rI Y (ap2 4) 8 cp2_place, oX2 aC iC_size, rI Y (aC 1) 8 cC_age, rI Y (aC 2) 8 cC_skill, rI Y (aC 4) 8 cC_pals, oX5 aL iL_cells, rI Y (aL 1) 12 cL_base] [] := by
  unfold fX1_stands_b22 at hf
  exact fx_loop (P := fun s : (Nat → Int32) × (Nat → Int32) × (Nat → Int32) × Int32 => ax X 0 0 22 [some (.ref (ao 0)), none, some (.ref (ap2 0)), some (.int s.2.2.2)] [oX1 ao aL aC io_able io_spells io_height, rI Y (ao 1) 8 co_place, oX9 ap1 aL aC ip1_moats ip1_spades ip1_tides, rI Y (ap1 1) 12 cp1_wall, rI Y (ap1 2) 12 cp1_depth, rI Y (ap1 3) 8 cp1_mood, rI Y (ap1 4) 8 cp1_place, oX9 ap2 aL aC ip2_moats ip2_spades ip2_tides, rI Y (ap2 1) 12 s.1, rI Y (ap2 2) 12 cp2_depth, rI Y (ap2 3) 8 s.2.1, rI Y (ap2 4) 8 s.2.2.1, oX2 aC iC_size, rI Y (aC 1) 8 cC_age, rI Y (aC 2) 8 cC_skill, rI Y (aC 4) 8 cC_pals, oX5 aL iL_cells, rI Y (aL 1) 12 cL_base] []) (fun s k22 hk22 h => kX1_stands_l22 C hQ hk22 h) FUEL (cp2_wall, cp2_mood, cp2_place, x3) hf
def fX1_stands (io_spells : Int32) (io_height : Int32) (co_place : Nat → Int32) (ip1_moats : Int32) (ip1_spades : Int32) (ip1_tides : Int32) (cp1_wall : Nat → Int32) (cp1_depth : Nat → Int32) (cp1_mood : Nat → Int32) (cp1_place : Nat → Int32) (ip2_moats : Int32) (ip2_spades : Int32) (ip2_tides : Int32) (cp2_wall : Nat → Int32) (cp2_depth : Nat → Int32) (cp2_mood : Nat → Int32) (cp2_place : Nat → Int32) (iC_size : Int32) (cC_age : Nat → Int32) (cC_skill : Nat → Int32) (cC_pals : Nat → Int32) (iL_cells : Int32) (cL_base : Nat → Int32) : Option (Int32 × Int32 × Int32 × Int32 × (Nat → Int32) × (Nat → Int32) × (Nat → Int32) × (Nat → Int32)) :=
  (fX9_copy ip2_moats ip2_spades ip2_tides cp2_wall cp2_depth cp2_mood cp2_place ip1_moats ip1_spades ip1_tides cp1_wall cp1_depth cp1_mood cp1_place).bind (fun r6 => fX1_stands_b22 io_spells io_height co_place ip1_moats ip1_spades ip1_tides cp1_wall cp1_depth cp1_mood cp1_place r6.1 r6.2.1 r6.2.2.1 r6.2.2.2.1 r6.2.2.2.2.1 r6.2.2.2.2.2.1 (va_cpy co_place r6.2.2.2.2.2.2 (Int32.toNatClampNeg (0 : Int32)) (Int32.toNatClampNeg (0 : Int32)) (Int32.toNatClampNeg (8 : Int32))) iC_size cC_age cC_skill cC_pals iL_cells cL_base (0 : Int32))
set_option maxHeartbeats 400000 in
set_option maxRecDepth 100000 in
theorem kX1_stands (l : Launch) (D : va_G) (Y : Nat → ClassId) (ao aL aC ap1 ap2 : Nat → Nat) (io_able : Int32) (io_spells : Int32) (io_height : Int32) (co_place : Nat → Int32) (ip1_moats : Int32) (ip1_spades : Int32) (ip1_tides : Int32) (cp1_wall : Nat → Int32) (cp1_depth : Nat → Int32) (cp1_mood : Nat → Int32) (cp1_place : Nat → Int32) (ip2_moats : Int32) (ip2_spades : Int32) (ip2_tides : Int32) (cp2_wall : Nat → Int32) (cp2_depth : Nat → Int32) (cp2_mood : Nat → Int32) (cp2_place : Nat → Int32) (iC_size : Int32) (cC_age : Nat → Int32) (cC_skill : Nat → Int32) (cC_pals : Nat → Int32) (iL_cells : Int32) (cL_base : Nat → Int32) (res : Int32 × Int32 × Int32 × Int32 × (Nat → Int32) × (Nat → Int32) × (Nat → Int32) × (Nat → Int32)) (hf : fX1_stands io_spells io_height co_place ip1_moats ip1_spades ip1_tides cp1_wall cp1_depth cp1_mood cp1_place ip2_moats ip2_spades ip2_tides cp2_wall cp2_depth cp2_mood cp2_place iC_size cC_age cC_skill cC_pals iL_cells cL_base = some res) : amf l D Y yX1_stands wsX1_stands rmX1_stands [.ref (ao 0), .ref (ap1 0), .ref (ap2 0)] [oX1 ao aL aC io_able io_spells io_height, rI Y (ao 1) 8 co_place, oX9 ap1 aL aC ip1_moats ip1_spades ip1_tides, rI Y (ap1 1) 12 cp1_wall, rI Y (ap1 2) 12 cp1_depth, rI Y (ap1 3) 8 cp1_mood, rI Y (ap1 4) 8 cp1_place, oX9 ap2 aL aC ip2_moats ip2_spades ip2_tides, rI Y (ap2 1) 12 cp2_wall, rI Y (ap2 2) 12 cp2_depth, rI Y (ap2 3) 8 cp2_mood, rI Y (ap2 4) 8 cp2_place, oX2 aC iC_size, rI Y (aC 1) 8 cC_age, rI Y (aC 2) 8 cC_skill, rI Y (aC 4) 8 cC_pals, oX5 aL iL_cells, rI Y (aL 1) 12 cL_base] (some (.int res.1)) [oX1 ao aL aC io_able io_spells io_height, rI Y (ao 1) 8 co_place, oX9 ap1 aL aC ip1_moats ip1_spades ip1_tides, rI Y (ap1 1) 12 cp1_wall, rI Y (ap1 2) 12 cp1_depth, rI Y (ap1 3) 8 cp1_mood, rI Y (ap1 4) 8 cp1_place, oX9 ap2 aL aC res.2.1 res.2.2.1 res.2.2.2.1, rI Y (ap2 1) 12 res.2.2.2.2.1, rI Y (ap2 2) 12 res.2.2.2.2.2.1, rI Y (ap2 3) 8 res.2.2.2.2.2.2.1, rI Y (ap2 4) 8 res.2.2.2.2.2.2.2, oX2 aC iC_size, rI Y (aC 1) 8 cC_age, rI Y (aC 2) 8 cC_skill, rI Y (aC 4) 8 cC_pals, oX5 aL iL_cells, rI Y (aL 1) 12 cL_base] := by
  refine amf.of (cc := cX1_stands) (maxL := 4) (rt := (some .boolean)) (by decide) rfl RX1 rfl (Nat.le_of_ble_eq_true rfl) [some (.ref (ao 0)), some (.ref (ap1 0)), some (.ref (ap2 0)), none] rfl ?_
  intro X C hQ
  unfold fX1_stands at hf
  refine a_aload_n C dX1_stands_0 rfl ?_
  refine a_aload_n C dX1_stands_1 rfl ?_
  obtain ⟨r6, h6, hf⟩ := fx_bind hf
  refine a_fV C (kX9_copy l D Y ap2 aL aC ap1 ip2_moats ip2_spades ip2_tides cp2_wall cp2_depth cp2_mood cp2_place ip1_moats ip1_spades ip1_tides cp1_wall cp1_depth cp1_mood cp1_place r6 h6) gX1_stands_X9_copy rfl dvX9_copy ⟨⟨rfl, rfl⟩, ⟨Nat.le_of_ble_eq_true rfl, Nat.le_of_ble_eq_true rfl⟩, ⟨Nat.le_of_ble_eq_true rfl, Nat.le_of_ble_eq_true rfl⟩⟩ rfl (Nat.le_of_ble_eq_true rfl) dX1_stands_2 rfl rfl [7, 8, 9, 10, 11, 2, 3, 4, 5, 6] [0, 1, 12, 13, 14, 15, 16, 17] ⟨rfl, rfl, rfl, rfl, rfl, rfl, rfl, rfl, rfl, rfl, trivial⟩ rfl rfl [oX1 ao aL aC io_able io_spells io_height, rI Y (ao 1) 8 co_place, oX9 ap1 aL aC ip1_moats ip1_spades ip1_tides, rI Y (ap1 1) 12 cp1_wall, rI Y (ap1 2) 12 cp1_depth, rI Y (ap1 3) 8 cp1_mood, rI Y (ap1 4) 8 cp1_place, oX9 ap2 aL aC r6.1 r6.2.1 r6.2.2.1, rI Y (ap2 1) 12 r6.2.2.2.1, rI Y (ap2 2) 12 r6.2.2.2.2.1, rI Y (ap2 3) 8 r6.2.2.2.2.2.1, rI Y (ap2 4) 8 r6.2.2.2.2.2.2, oX2 aC iC_size, rI Y (aC 1) 8 cC_age, rI Y (aC 2) 8 cC_skill, rI Y (aC 4) 8 cC_pals, oX5 aL iL_cells, rI Y (aL 1) 12 cL_base] ⟨rfl, rfl, rfl, rfl, rfl, rfl, rfl, rfl, rfl, rfl, trivial⟩ ⟨rfl, rfl, rfl, rfl, rfl, rfl, rfl, rfl, trivial⟩ rfl ?_
  refine a_aload_n C dX1_stands_5 rfl ?_
  refine a_get C eX1_stands_9 dX1_stands_6 0 rfl rfl ?_
  refine a_iconst C (0 : Int32) dX1_stands_9 (by decide) ?_
  refine a_aload_n C dX1_stands_10 rfl ?_
  refine a_get C eX1_stands_103 dX1_stands_11 7 rfl rfl ?_
  refine a_iconst C (0 : Int32) dX1_stands_14 (by decide) ?_
  refine a_bipush C (8 : Int32) dX1_stands_15 (by decide) ?_
  refine a_copyi C dX1_stands_17 eX1_stands_c104 ⟨Nat.le_of_ble_eq_true rfl, by decide⟩ (Nat.le_of_ble_eq_true rfl) 1 11 rfl rfl (by decide) (by decide) (by decide) (by decide) (by decide) ?_
  refine a_iconst C (0 : Int32) dX1_stands_20 (by decide) ?_
  refine a_istore_n C dX1_stands_21 (by decide) rfl ?_
  refine a_kill [1] ?_
  exact kX1_stands_b22 C hQ hf
-- X3_clear
abbrev rmX3_clear : Room := { frames := 0, cells := 0, slots := 0, locals := 0 }
theorem dvX3_clear : yX3_clear.cls = RX3 ∧ yX3_clear.cls ≠ "java/lang/invoke/MethodHandle" ∧ yX3_clear.cls ≠ "java/lang/invoke/VarHandle" ∧ (parseMethodDescriptor yX3_clear.desc).map (fun d => d.parameters.length) = some 0 := by decide +kernel
theorem eX3_clear_inX3 : ∀ w ∈ wsX30, w ∈ wsX3_clear := by decide +kernel
theorem eX3_clear_31 : aF wsX3_clear RX3 31 3 1 := ⟨RX3, TX3, 7, rfl, eX3_clear_inX3, by decide, by decide +kernel⟩
def fX3_clear (io_cells : Int32) : Option (Int32) :=
  some (0 : Int32)
set_option maxHeartbeats 400000 in
set_option maxRecDepth 100000 in
theorem kX3_clear (l : Launch) (D : va_G) (Y : Nat → ClassId) (ao aC : Nat → Nat) (io_cells : Int32) (res : Int32) (hf : fX3_clear io_cells = some res) : amf l D Y yX3_clear wsX3_clear rmX3_clear [.ref (ao 0)] [oX3 ao aC io_cells] none [oX3 ao aC res] := by
  refine amf.of (cc := cX3_clear) (maxL := 1) (rt := none) (by decide) rfl RX3 rfl (Nat.le_of_ble_eq_true rfl) [some (.ref (ao 0))] rfl ?_
  intro X C hQ
  unfold fX3_clear at hf
  refine a_aload_n C dX3_clear_0 rfl ?_
  refine a_iconst C (0 : Int32) dX3_clear_1 (by decide) ?_
  refine a_put C eX3_clear_31 tfX3_1 dX3_clear_2 0 rfl rfl rfl (Nat.le_of_ble_eq_true rfl) ?_
  obtain rfl := fx_some hf
  exact a_vret C hQ dX3_clear_5 ⟨rfl, rfl⟩
-- X3_note
abbrev rmX3_note : Room := { frames := 1, cells := 0, slots := 0, locals := 20 }
theorem dvX3_note : yX3_note.cls = RX3 ∧ yX3_note.cls ≠ "java/lang/invoke/MethodHandle" ∧ yX3_note.cls ≠ "java/lang/invoke/VarHandle" ∧ (parseMethodDescriptor yX3_note.desc).map (fun d => d.parameters.length) = some 2 := by decide +kernel
theorem eX3_note_inX3 : ∀ w ∈ wsX30, w ∈ wsX3_note := by decide +kernel
theorem eX3_note_31 : aF wsX3_note RX3 31 3 1 := ⟨RX3, TX3, 7, rfl, eX3_note_inX3, by decide, by decide +kernel⟩
theorem eX3_note_9 : aF wsX3_note RX3 9 3 2 := ⟨RX3, TX3, 7, rfl, eX3_note_inX3, by decide, by decide +kernel⟩
def fX3_note (io_cells : Int32) (co_amount : Nat → Int32) (x1 : Int32) (x2 : Int32) : Option (Int32 × Int32 × (Nat → Int32)) :=
  (fJ6_bitCount_0f7a4 (io_cells ||| (jshl (1 : Int32) x1))).bind (fun r1 => if r1 ≤ (4 : Int32) then (if inb x1 12 then (fJ6_bitCount_0f7a4 (io_cells ||| (jshl (1 : Int32) x1))).bind (fun r4 => some (r4, (io_cells ||| (jshl (1 : Int32) x1)), (upd co_amount (Int32.toNatClampNeg x1) x2))) else none) else (some ((-1 : Int32), io_cells, co_amount)))
set_option maxHeartbeats 400000 in
set_option maxRecDepth 100000 in
theorem kX3_note (l : Launch) (D : va_G) (Y : Nat → ClassId) (ao aC : Nat → Nat) (io_cells : Int32) (co_amount : Nat → Int32) (x1 : Int32) (x2 : Int32) (res : Int32 × Int32 × (Nat → Int32)) (hf : fX3_note io_cells co_amount x1 x2 = some res) : amf l D Y yX3_note wsX3_note rmX3_note [.ref (ao 0), .int x1, .int x2] [oX3 ao aC io_cells, rI Y (ao 1) 12 co_amount] (some (.int res.1)) [oX3 ao aC res.2.1, rI Y (ao 1) 12 res.2.2] := by
  refine amf.of (cc := cX3_note) (maxL := 4) (rt := (some .int)) (by decide) rfl RX3 rfl (Nat.le_of_ble_eq_true rfl) [some (.ref (ao 0)), some (.int x1), some (.int x2), none] rfl ?_
  intro X C hQ
  unfold fX3_note at hf
  refine a_aload_n C dX3_note_0 rfl ?_
  refine a_get C eX3_note_31 dX3_note_1 0 rfl rfl ?_
  refine a_iconst C (1 : Int32) dX3_note_4 (by decide) ?_
  refine a_iload_n C dX3_note_5 rfl ?_
  refine a_ishl C dX3_note_6 ?_
  refine a_ior C dX3_note_7 ?_
  refine a_istore_n C dX3_note_8 (by decide) rfl ?_
  refine a_iload_n C dX3_note_9 rfl ?_
  obtain ⟨r1, h1, hf⟩ := fx_bind hf
  refine a_fS C (kJ6_bitCount_0f7a4 l D Y (io_cells ||| (jshl (1 : Int32) x1)) r1 h1) gX3_note_J6_bitCount_0f7a4 rfl dvJ6_bitCount_0f7a4 ⟨⟨rfl, rfl⟩, ⟨Nat.le_of_ble_eq_true rfl, Nat.le_of_ble_eq_true rfl⟩, ⟨Nat.le_of_ble_eq_true rfl, Nat.le_of_ble_eq_true rfl⟩⟩ rfl (Nat.le_of_ble_eq_true rfl) dX3_note_10 [] [0, 1] trivial rfl rfl [oX3 ao aC io_cells, rI Y (ao 1) 12 co_amount] trivial ⟨rfl, rfl, trivial⟩ rfl ?_
  refine a_iconst C (4 : Int32) dX3_note_13 (by decide) ?_
  refine a_icmp_le C 19 dX3_note_14 (by decide) (fun h2 => ?_) (fun h2 => ?_)
  · have hf := fx_t h2 hf
    refine a_aload_n C dX3_note_19 rfl ?_
    refine a_iload_n C dX3_note_20 rfl ?_
    refine a_put C eX3_note_31 tfX3_1 dX3_note_21 0 rfl rfl rfl (Nat.le_of_ble_eq_true rfl) ?_
    refine a_aload_n C dX3_note_24 rfl ?_
    refine a_get C eX3_note_9 dX3_note_25 0 rfl rfl ?_
    refine a_iload_n C dX3_note_28 rfl ?_
    refine a_iload_n C dX3_note_29 rfl ?_
    obtain ⟨h3, hf⟩ := fx_ite hf
    refine a_iast C dX3_note_30 1 rfl h3 ?_
    refine a_aload_n C dX3_note_31 rfl ?_
    refine a_get C eX3_note_31 dX3_note_32 0 rfl rfl ?_
    obtain ⟨r4, h4, hf⟩ := fx_bind hf
    refine a_fS C (kJ6_bitCount_0f7a4 l D Y (io_cells ||| (jshl (1 : Int32) x1)) r4 h4) gX3_note_J6_bitCount_0f7a4 rfl dvJ6_bitCount_0f7a4 ⟨⟨rfl, rfl⟩, ⟨Nat.le_of_ble_eq_true rfl, Nat.le_of_ble_eq_true rfl⟩, ⟨Nat.le_of_ble_eq_true rfl, Nat.le_of_ble_eq_true rfl⟩⟩ rfl (Nat.le_of_ble_eq_true rfl) dX3_note_35 [] [0, 1] trivial rfl rfl [oX3 ao aC (io_cells ||| (jshl (1 : Int32) x1)), rI Y (ao 1) 12 (upd co_amount (Int32.toNatClampNeg x1) x2)] trivial ⟨rfl, rfl, trivial⟩ rfl ?_
    obtain rfl := fx_some hf
    exact a_iret C hQ dX3_note_38 ⟨rfl, rfl⟩
  · have hf := fx_f h2 hf
    refine a_iconst C (-1 : Int32) dX3_note_17 (by decide) ?_
    obtain rfl := fx_some hf
    exact a_iret C hQ dX3_note_18 ⟨rfl, rfl⟩
-- X3_begin
abbrev rmX3_begin : Room := { frames := 1, cells := 0, slots := 0, locals := 40 }
theorem dvX3_begin : yX3_begin.cls = RX3 ∧ yX3_begin.cls ≠ "java/lang/invoke/MethodHandle" ∧ yX3_begin.cls ≠ "java/lang/invoke/VarHandle" ∧ (parseMethodDescriptor yX3_begin.desc).map (fun d => d.parameters.length) = some 0 := by decide +kernel
theorem eX3_begin_inX3 : ∀ w ∈ wsX30, w ∈ wsX3_begin := by decide +kernel
theorem eX3_begin_18 : aF wsX3_begin RX3 18 3 4 := ⟨RX3, TX3, 7, rfl, eX3_begin_inX3, by decide, by decide +kernel⟩
theorem eX3_begin_27 : aF wsX3_begin RX3 27 3 0 := ⟨RX3, TX3, 7, rfl, eX3_begin_inX3, by decide, by decide +kernel⟩
theorem eX3_begin_inX2 : ∀ w ∈ wsX20, w ∈ wsX3_begin := by decide +kernel
theorem eX3_begin_52 : aF wsX3_begin RX3 52 2 2 := ⟨RX2, TX2, 5, rfl, eX3_begin_inX2, by decide, by decide +kernel⟩
theorem eX3_begin_47 : aF wsX3_begin RX3 47 2 0 := ⟨RX2, TX2, 5, rfl, eX3_begin_inX2, by decide, by decide +kernel⟩
theorem eX3_begin_9 : aF wsX3_begin RX3 9 3 2 := ⟨RX3, TX3, 7, rfl, eX3_begin_inX3, by decide, by decide +kernel⟩
theorem eX3_begin_15 : aF wsX3_begin RX3 15 3 3 := ⟨RX3, TX3, 7, rfl, eX3_begin_inX3, by decide, by decide +kernel⟩
theorem eX3_begin_c41 : ∀ w ∈ ([.methodLink RX3 41 arraycopyName, .native arraycopyName, .static arraycopyName, .initialized "java/lang/System"] : List Cond), w ∈ wsX3_begin := by decide +kernel
def fX3_begin_b82 (co_amount : Nat → Int32) (co_open : Nat → Int32) (co_sums : Nat → Int32) (iC_size : Int32) (cC_skill : Nat → Int32) : Option ((Nat → Int32) × (Nat → Int32)) :=
  some (co_open, co_sums)
set_option maxHeartbeats 400000 in
set_option maxRecDepth 100000 in
theorem kX3_begin_b82 {X : cxT} {l : Launch} {D : va_G} {Y : Nat → ClassId} {ao aC : Nat → Nat} {io_cells : Int32} {co_amount : Nat → Int32} {co_open : Nat → Int32} {co_sums : Nat → Int32} {iC_size : Int32} {cC_skill : Nat → Int32} {res : (Nat → Int32) × (Nat → Int32)} (C : axC X l D Y cX3_begin 4 RX3 wsX3_begin rmX3_begin none) (hQ : axQ X 0 0 (fun r9 w9 => r9 = none ∧ w9 = [oX3 ao aC io_cells, rI Y (ao 1) 12 co_amount, rI Y (ao 2) 12 res.1, rI Y (ao 3) 256 res.2, oX2 aC iC_size, rI Y (aC 2) 8 cC_skill])) (hf : fX3_begin_b82 co_amount co_open co_sums iC_size cC_skill = some res) : ax X 0 0 82 [none, none, none, none] [oX3 ao aC io_cells, rI Y (ao 1) 12 co_amount, rI Y (ao 2) 12 co_open, rI Y (ao 3) 256 co_sums, oX2 aC iC_size, rI Y (aC 2) 8 cC_skill] [] := by
  unfold fX3_begin_b82 at hf
  obtain rfl := fx_some hf
  exact a_vret C hQ dX3_begin_82 ⟨rfl, rfl⟩
def fX3_begin_b76 (co_amount : Nat → Int32) (co_open : Nat → Int32) (co_sums : Nat → Int32) (iC_size : Int32) (cC_skill : Nat → Int32) (x1 : Int32) (k24 : (Nat → Int32) × Int32 → Option ((Nat → Int32) × (Nat → Int32))) : Option ((Nat → Int32) × (Nat → Int32)) :=
  k24 (co_sums, (x1 + (1 : Int32)))
set_option maxHeartbeats 400000 in
set_option maxRecDepth 100000 in
theorem kX3_begin_b76 {X : cxT} {l : Launch} {D : va_G} {Y : Nat → ClassId} {ao aC : Nat → Nat} {io_cells : Int32} {co_amount : Nat → Int32} {co_open : Nat → Int32} {co_sums : Nat → Int32} {iC_size : Int32} {cC_skill : Nat → Int32} {x1 : Int32} {res : (Nat → Int32) × (Nat → Int32)} (C : axC X l D Y cX3_begin 4 RX3 wsX3_begin rmX3_begin none) (hQ : axQ X 0 0 (fun r9 w9 => r9 = none ∧ w9 = [oX3 ao aC io_cells, rI Y (ao 1) 12 co_amount, rI Y (ao 2) 12 res.1, rI Y (ao 3) 256 res.2, oX2 aC iC_size, rI Y (aC 2) 8 cC_skill])) {k24 : (Nat → Int32) × Int32 → Option ((Nat → Int32) × (Nat → Int32))} (hk24 : ∀ s : (Nat → Int32) × Int32, k24 s = some res → ax X 0 0 24 [some (.ref (ao 0)), some (.int s.2), none, none] [oX3 ao aC io_cells, rI Y (ao 1) 12 co_amount, rI Y (ao 2) 12 co_open, rI Y (ao 3) 256 s.1, oX2 aC iC_size, rI Y (aC 2) 8 cC_skill] []) (hf : fX3_begin_b76 co_amount co_open co_sums iC_size cC_skill x1 k24 = some res) : ax X 0 0 76 [some (.ref (ao 0)), some (.int x1), none, none] [oX3 ao aC io_cells, rI Y (ao 1) 12 co_amount, rI Y (ao 2) 12 co_open, rI Y (ao 3) 256 co_sums, oX2 aC iC_size, rI Y (aC 2) 8 cC_skill] [] := by
  unfold fX3_begin_b76 at hf
  refine a_iinc C (1 : Int32) dX3_begin_76 (by decide) rfl (by decide) rfl ?_
  refine a_goto C 24 dX3_begin_79 (by decide) ?_
  exact hk24 (co_sums, (x1 + (1 : Int32))) hf
def fX3_begin_l41 (co_amount : Nat → Int32) (co_open : Nat → Int32) (iC_size : Int32) (cC_skill : Nat → Int32) (x1 : Int32) (x2 : Int32) (k24 : (Nat → Int32) × Int32 → Option ((Nat → Int32) × (Nat → Int32))) (k41 : (Nat → Int32) × Int32 → Option ((Nat → Int32) × (Nat → Int32))) (co_sums : Nat → Int32) (x3 : Int32) : Option ((Nat → Int32) × (Nat → Int32)) :=
  if x2 ≤ x3 then (fX3_begin_b76 co_amount co_open co_sums iC_size cC_skill x1 k24) else (if inb x3 256 then if inb x1 8 then if inb (x2 ||| x3) 256 then k41 ((upd co_sums (Int32.toNatClampNeg (x2 ||| x3)) ((co_sums (Int32.toNatClampNeg x3)) + (cC_skill (Int32.toNatClampNeg x1)))), (x3 + (1 : Int32))) else none else none else none)
def fX3_begin_b41 (co_amount : Nat → Int32) (co_open : Nat → Int32) (co_sums : Nat → Int32) (iC_size : Int32) (cC_skill : Nat → Int32) (x1 : Int32) (x2 : Int32) (x3 : Int32) (k24 : (Nat → Int32) × Int32 → Option ((Nat → Int32) × (Nat → Int32))) : Option ((Nat → Int32) × (Nat → Int32)) :=
  loopN (fun (s : (Nat → Int32) × Int32) k41 => fX3_begin_l41 co_amount co_open iC_size cC_skill x1 x2 k24 k41 s.1 s.2) FUEL (co_sums, x3)
set_option maxHeartbeats 400000 in
set_option maxRecDepth 100000 in
theorem kX3_begin_l41 {X : cxT} {l : Launch} {D : va_G} {Y : Nat → ClassId} {ao aC : Nat → Nat} {io_cells : Int32} {co_amount : Nat → Int32} {co_open : Nat → Int32} {co_sums : Nat → Int32} {iC_size : Int32} {cC_skill : Nat → Int32} {x1 : Int32} {x2 : Int32} {x3 : Int32} {res : (Nat → Int32) × (Nat → Int32)} (C : axC X l D Y cX3_begin 4 RX3 wsX3_begin rmX3_begin none) (hQ : axQ X 0 0 (fun r9 w9 => r9 = none ∧ w9 = [oX3 ao aC io_cells, rI Y (ao 1) 12 co_amount, rI Y (ao 2) 12 res.1, rI Y (ao 3) 256 res.2, oX2 aC iC_size, rI Y (aC 2) 8 cC_skill])) {k24 : (Nat → Int32) × Int32 → Option ((Nat → Int32) × (Nat → Int32))} (hk24 : ∀ s : (Nat → Int32) × Int32, k24 s = some res → ax X 0 0 24 [some (.ref (ao 0)), some (.int s.2), none, none] [oX3 ao aC io_cells, rI Y (ao 1) 12 co_amount, rI Y (ao 2) 12 co_open, rI Y (ao 3) 256 s.1, oX2 aC iC_size, rI Y (aC 2) 8 cC_skill] []) {k41 : (Nat → Int32) × Int32 → Option ((Nat → Int32) × (Nat → Int32))} (hk41 : ∀ s : (Nat → Int32) × Int32, k41 s = some res → ax X 0 0 41 [some (.ref (ao 0)), some (.int x1), some (.int x2), some (.int s.2)] [oX3 ao aC io_cells, rI Y (ao 1) 12 co_amount, rI Y (ao 2) 12 co_open, rI Y (ao 3) 256 s.1, oX2 aC iC_size, rI Y (aC 2) 8 cC_skill] []) (hf : fX3_begin_l41 co_amount co_open iC_size cC_skill x1 x2 k24 k41 co_sums x3 = some res) : ax X 0 0 41 [some (.ref (ao 0)), some (.int x1), some (.int x2), some (.int x3)] [oX3 ao aC io_cells, rI Y (ao 1) 12 co_amount, rI Y (ao 2) 12 co_open, rI Y (ao 3) 256 co_sums, oX2 aC iC_size, rI Y (aC 2) 8 cC_skill] [] := by
  unfold fX3_begin_l41 at hf
  refine a_iload_n C dX3_begin_41 rfl ?_
  refine a_iload_n C dX3_begin_42 rfl ?_
  refine a_icmp_ge C 76 dX3_begin_43 (by decide) (fun h1 => ?_) (fun h1 => ?_)
  · have hf := fx_t h1 hf
    refine a_kill [2, 3] ?_
    exact kX3_begin_b76 C hQ hk24 hf
  · have hf := fx_f h1 hf
    refine a_aload_n C dX3_begin_46 rfl ?_
    refine a_get C eX3_begin_18 dX3_begin_47 0 rfl rfl ?_
    refine a_iload_n C dX3_begin_50 rfl ?_
    refine a_iload_n C dX3_begin_51 rfl ?_
    refine a_ior C dX3_begin_52 ?_
    refine a_aload_n C dX3_begin_53 rfl ?_
    refine a_get C eX3_begin_18 dX3_begin_54 0 rfl rfl ?_
    refine a_iload_n C dX3_begin_57 rfl ?_
    obtain ⟨h2, hf⟩ := fx_ite hf
    refine a_iald C dX3_begin_58 3 rfl h2 ?_
    refine a_aload_n C dX3_begin_59 rfl ?_
    refine a_get C eX3_begin_27 dX3_begin_60 0 rfl rfl ?_
    refine a_get C eX3_begin_52 dX3_begin_63 4 rfl rfl ?_
    refine a_iload_n C dX3_begin_66 rfl ?_
    obtain ⟨h3, hf⟩ := fx_ite hf
    refine a_iald C dX3_begin_67 5 rfl h3 ?_
    refine a_iadd C dX3_begin_68 ?_
    obtain ⟨h4, hf⟩ := fx_ite hf
    refine a_iast C dX3_begin_69 3 rfl h4 ?_
    refine a_iinc C (1 : Int32) dX3_begin_70 (by decide) rfl (by decide) rfl ?_
    refine a_goto C 41 dX3_begin_73 (by decide) ?_
    exact hk41 ((upd co_sums (Int32.toNatClampNeg (x2 ||| x3)) ((co_sums (Int32.toNatClampNeg x3)) + (cC_skill (Int32.toNatClampNeg x1)))), (x3 + (1 : Int32))) hf
set_option maxHeartbeats 400000 in
set_option maxRecDepth 100000 in
theorem kX3_begin_b41 {X : cxT} {l : Launch} {D : va_G} {Y : Nat → ClassId} {ao aC : Nat → Nat} {io_cells : Int32} {co_amount : Nat → Int32} {co_open : Nat → Int32} {co_sums : Nat → Int32} {iC_size : Int32} {cC_skill : Nat → Int32} {x1 : Int32} {x2 : Int32} {x3 : Int32} {res : (Nat → Int32) × (Nat → Int32)} (C : axC X l D Y cX3_begin 4 RX3 wsX3_begin rmX3_begin none) (hQ : axQ X 0 0 (fun r9 w9 => r9 = none ∧ w9 = [oX3 ao aC io_cells, rI Y (ao 1) 12 co_amount, rI Y (ao 2) 12 res.1, rI Y (ao 3) 256 res.2, oX2 aC iC_size, rI Y (aC 2) 8 cC_skill])) {k24 : (Nat → Int32) × Int32 → Option ((Nat → Int32) × (Nat → Int32))} (hk24 : ∀ s : (Nat → Int32) × Int32, k24 s = some res → ax X 0 0 24 [some (.ref (ao 0)), some (.int s.2), none, none] [oX3 ao aC io_cells, rI Y (ao 1) 12 co_amount, rI Y (ao 2) 12 co_open, rI Y (ao 3) 256 s.1, oX2 aC iC_size, rI Y (aC 2) 8 cC_skill] []) (hf : fX3_begin_b41 co_amount co_open co_sums iC_size cC_skill x1 x2 x3 k24 = some res) : ax X 0 0 41 [some (.ref (ao 0)), some (.int x1), some (.int x2), some (.int x3)] [oX3 ao aC io_cells, rI Y (ao 1) 12 co_amount, rI Y (ao 2) 12 co_open, rI Y (ao 3) 256 co_sums, oX2 aC iC_size, rI Y (aC 2) 8 cC_skill] [] := by
  unfold fX3_begin_b41 at hf
  exact fx_loop (P := fun s : (Nat → Int32) × Int32 => ax X 0 0 41 [some (.ref (ao 0)), some (.int x1), some (.int x2), some (.int s.2)] [oX3 ao aC io_cells, rI Y (ao 1) 12 co_amount, rI Y (ao 2) 12 co_open, rI Y (ao 3) 256 s.1, oX2 aC iC_size, rI Y (aC 2) 8 cC_skill] []) (fun s k41 hk41 h => kX3_begin_l41 C hQ hk24 hk41 h) FUEL (co_sums, x3) hf
def fX3_begin_l24 (co_amount : Nat → Int32) (co_open : Nat → Int32) (iC_size : Int32) (cC_skill : Nat → Int32) (k24 : (Nat → Int32) × Int32 → Option ((Nat → Int32) × (Nat → Int32))) (co_sums : Nat → Int32) (x1 : Int32) : Option ((Nat → Int32) × (Nat → Int32)) :=
  if iC_size ≤ x1 then (fX3_begin_b82 co_amount co_open co_sums iC_size cC_skill) else (fX3_begin_b41 co_amount co_open co_sums iC_size cC_skill x1 (jshl (1 : Int32) x1) (0 : Int32) k24)
def fX3_begin_b24 (co_amount : Nat → Int32) (co_open : Nat → Int32) (co_sums : Nat → Int32) (iC_size : Int32) (cC_skill : Nat → Int32) (x1 : Int32) : Option ((Nat → Int32) × (Nat → Int32)) :=
  loopN (fun (s : (Nat → Int32) × Int32) k24 => fX3_begin_l24 co_amount co_open iC_size cC_skill k24 s.1 s.2) FUEL (co_sums, x1)
set_option maxHeartbeats 400000 in
set_option maxRecDepth 100000 in
theorem kX3_begin_l24 {X : cxT} {l : Launch} {D : va_G} {Y : Nat → ClassId} {ao aC : Nat → Nat} {io_cells : Int32} {co_amount : Nat → Int32} {co_open : Nat → Int32} {co_sums : Nat → Int32} {iC_size : Int32} {cC_skill : Nat → Int32} {x1 : Int32} {res : (Nat → Int32) × (Nat → Int32)} (C : axC X l D Y cX3_begin 4 RX3 wsX3_begin rmX3_begin none) (hQ : axQ X 0 0 (fun r9 w9 => r9 = none ∧ w9 = [oX3 ao aC io_cells, rI Y (ao 1) 12 co_amount, rI Y (ao 2) 12 res.1, rI Y (ao 3) 256 res.2, oX2 aC iC_size, rI Y (aC 2) 8 cC_skill])) {k24 : (Nat → Int32) × Int32 → Option ((Nat → Int32) × (Nat → Int32))} (hk24 : ∀ s : (Nat → Int32) × Int32, k24 s = some res → ax X 0 0 24 [some (.ref (ao 0)), some (.int s.2), none, none] [oX3 ao aC io_cells, rI Y (ao 1) 12 co_amount, rI Y (ao 2) 12 co_open, rI Y (ao 3) 256 s.1, oX2 aC iC_size, rI Y (aC 2) 8 cC_skill] []) (hf : fX3_begin_l24 co_amount co_open iC_size cC_skill k24 co_sums x1 = some res) : ax X 0 0 24 [some (.ref (ao 0)), some (.int x1), none, none] [oX3 ao aC io_cells, rI Y (ao 1) 12 co_amount, rI Y (ao 2) 12 co_open, rI Y (ao 3) 256 co_sums, oX2 aC iC_size, rI Y (aC 2) 8 cC_skill] [] := by
  unfold fX3_begin_l24 at hf
  refine a_iload_n C dX3_begin_24 rfl ?_
  refine a_aload_n C dX3_begin_25 rfl ?_
  refine a_get C eX3_begin_27 dX3_begin_26 0 rfl rfl ?_
  refine a_get C eX3_begin_47 dX3_begin_29 4 rfl rfl ?_
  refine a_icmp_ge C 82 dX3_begin_32 (by decide) (fun h5 => ?_) (fun h5 => ?_)
  · have hf := fx_t h5 hf
    refine a_kill [0, 1] ?_
    exact kX3_begin_b82 C hQ hf
  · have hf := fx_f h5 hf
    refine a_iconst C (1 : Int32) dX3_begin_35 (by decide) ?_
    refine a_iload_n C dX3_begin_36 rfl ?_
    refine a_ishl C dX3_begin_37 ?_
    refine a_istore_n C dX3_begin_38 (by decide) rfl ?_
    refine a_iconst C (0 : Int32) dX3_begin_39 (by decide) ?_
    refine a_istore_n C dX3_begin_40 (by decide) rfl ?_
    exact kX3_begin_b41 C hQ hk24 hf
set_option maxHeartbeats 400000 in
set_option maxRecDepth 100000 in
theorem kX3_begin_b24 {X : cxT} {l : Launch} {D : va_G} {Y : Nat → ClassId} {ao aC : Nat → Nat} {io_cells : Int32} {co_amount : Nat → Int32} {co_open : Nat → Int32} {co_sums : Nat → Int32} {iC_size : Int32} {cC_skill : Nat → Int32} {x1 : Int32} {res : (Nat → Int32) × (Nat → Int32)} (C : axC X l D Y cX3_begin 4 RX3 wsX3_begin rmX3_begin none) (hQ : axQ X 0 0 (fun r9 w9 => r9 = none ∧ w9 = [oX3 ao aC io_cells, rI Y (ao 1) 12 co_amount, rI Y (ao 2) 12 res.1, rI Y (ao 3) 256 res.2, oX2 aC iC_size, rI Y (aC 2) 8 cC_skill])) (hf : fX3_begin_b24 co_amount co_open co_sums iC_size cC_skill x1 = some res) : ax X 0 0 24 [some (.ref (ao 0)), some (.int x1), none, none] [oX3 ao aC io_cells, rI Y (ao 1) 12 co_amount, rI Y (ao 2) 12 co_open, rI Y (ao 3) 256 co_sums, oX2 aC iC_size, rI Y (aC 2) 8 cC_skill] [] := by
  unfold fX3_begin_b24 at hf
  exact fx_loop (P := fun s : (Nat → Int32) × Int32 => ax X 0 0 24 [some (.ref (ao 0)), some (.int s.2), none, none] [oX3 ao aC io_cells, rI Y (ao 1) 12 co_amount, rI Y (ao 2) 12 co_open, rI Y (ao 3) 256 s.1, oX2 aC iC_size, rI Y (aC 2) 8 cC_skill] []) (fun s k24 hk24 h => kX3_begin_l24 C hQ hk24 h) FUEL (co_sums, x1) hf
def fX3_begin (co_amount : Nat → Int32) (co_open : Nat → Int32) (co_sums : Nat → Int32) (iC_size : Int32) (cC_skill : Nat → Int32) : Option ((Nat → Int32) × (Nat → Int32)) :=
  if inb (0 : Int32) 256 then fX3_begin_b24 co_amount (va_cpy co_amount co_open (Int32.toNatClampNeg (0 : Int32)) (Int32.toNatClampNeg (0 : Int32)) (Int32.toNatClampNeg (12 : Int32))) (upd co_sums (Int32.toNatClampNeg (0 : Int32)) (0 : Int32)) iC_size cC_skill (0 : Int32) else none
set_option maxHeartbeats 400000 in
set_option maxRecDepth 100000 in
theorem kX3_begin (l : Launch) (D : va_G) (Y : Nat → ClassId) (ao aC : Nat → Nat) (io_cells : Int32) (co_amount : Nat → Int32) (co_open : Nat → Int32) (co_sums : Nat → Int32) (iC_size : Int32) (cC_skill : Nat → Int32) (res : (Nat → Int32) × (Nat → Int32)) (hf : fX3_begin co_amount co_open co_sums iC_size cC_skill = some res) : amf l D Y yX3_begin wsX3_begin rmX3_begin [.ref (ao 0)] [oX3 ao aC io_cells, rI Y (ao 1) 12 co_amount, rI Y (ao 2) 12 co_open, rI Y (ao 3) 256 co_sums, oX2 aC iC_size, rI Y (aC 2) 8 cC_skill] none [oX3 ao aC io_cells, rI Y (ao 1) 12 co_amount, rI Y (ao 2) 12 res.1, rI Y (ao 3) 256 res.2, oX2 aC iC_size, rI Y (aC 2) 8 cC_skill] := by
  refine amf.of (cc := cX3_begin) (maxL := 4) (rt := none) (by decide) rfl RX3 rfl (Nat.le_of_ble_eq_true rfl) [some (.ref (ao 0)), none, none, none] rfl ?_
  intro X C hQ
  unfold fX3_begin at hf
  refine a_aload_n C dX3_begin_0 rfl ?_
  refine a_get C eX3_begin_9 dX3_begin_1 0 rfl rfl ?_
  refine a_iconst C (0 : Int32) dX3_begin_4 (by decide) ?_
  refine a_aload_n C dX3_begin_5 rfl ?_
  refine a_get C eX3_begin_15 dX3_begin_6 0 rfl rfl ?_
  refine a_iconst C (0 : Int32) dX3_begin_9 (by decide) ?_
  refine a_bipush C (12 : Int32) dX3_begin_10 (by decide) ?_
  refine a_copyi C dX3_begin_12 eX3_begin_c41 ⟨Nat.le_of_ble_eq_true rfl, by decide⟩ (Nat.le_of_ble_eq_true rfl) 1 2 rfl rfl (by decide) (by decide) (by decide) (by decide) (by decide) ?_
  refine a_aload_n C dX3_begin_15 rfl ?_
  refine a_get C eX3_begin_18 dX3_begin_16 0 rfl rfl ?_
  refine a_iconst C (0 : Int32) dX3_begin_19 (by decide) ?_
  refine a_iconst C (0 : Int32) dX3_begin_20 (by decide) ?_
  obtain ⟨h6, hf⟩ := fx_ite hf
  refine a_iast C dX3_begin_21 3 rfl h6 ?_
  refine a_iconst C (0 : Int32) dX3_begin_22 (by decide) ?_
  refine a_istore_n C dX3_begin_23 (by decide) rfl ?_
  exact kX3_begin_b24 C hQ hf
-- X3_addTeams
abbrev rmX3_addTeams : Room := { frames := 0, cells := 0, slots := 0, locals := 0 }
theorem dvX3_addTeams : yX3_addTeams.cls = RX3 ∧ yX3_addTeams.cls ≠ "java/lang/invoke/MethodHandle" ∧ yX3_addTeams.cls ≠ "java/lang/invoke/VarHandle" ∧ (parseMethodDescriptor yX3_addTeams.desc).map (fun d => d.parameters.length) = some 3 := by decide +kernel
theorem eX3_addTeams_inX3 : ∀ w ∈ wsX30, w ∈ wsX3_addTeams := by decide +kernel
theorem eX3_addTeams_18 : aF wsX3_addTeams RX3 18 3 4 := ⟨RX3, TX3, 7, rfl, eX3_addTeams_inX3, by decide, by decide +kernel⟩
theorem eX3_addTeams_24 : aF wsX3_addTeams RX3 24 3 6 := ⟨RX3, TX3, 7, rfl, eX3_addTeams_inX3, by decide, by decide +kernel⟩
theorem eX3_addTeams_21 : aF wsX3_addTeams RX3 21 3 5 := ⟨RX3, TX3, 7, rfl, eX3_addTeams_inX3, by decide, by decide +kernel⟩
def fX3_addTeams_b63 (co_sums : Nat → Int32) (co_ways : Nat → Int32) (co_nextWays : Nat → Int32) : Option ((Nat → Int32)) :=
  some co_nextWays
set_option maxHeartbeats 400000 in
set_option maxRecDepth 100000 in
theorem kX3_addTeams_b63 {X : cxT} {l : Launch} {D : va_G} {Y : Nat → ClassId} {ao aC : Nat → Nat} {io_cells : Int32} {co_sums : Nat → Int32} {co_ways : Nat → Int32} {co_nextWays : Nat → Int32} {res : (Nat → Int32)} (C : axC X l D Y cX3_addTeams 6 RX3 wsX3_addTeams rmX3_addTeams none) (hQ : axQ X 0 0 (fun r9 w9 => r9 = none ∧ w9 = [oX3 ao aC io_cells, rI Y (ao 3) 256 co_sums, rI Y (ao 4) 256 co_ways, rI Y (ao 5) 256 res])) (hf : fX3_addTeams_b63 co_sums co_ways co_nextWays = some res) : ax X 0 0 63 [none, none, none, none, none, none] [oX3 ao aC io_cells, rI Y (ao 3) 256 co_sums, rI Y (ao 4) 256 co_ways, rI Y (ao 5) 256 co_nextWays] [] := by
  unfold fX3_addTeams_b63 at hf
  obtain rfl := fx_some hf
  exact a_vret C hQ dX3_addTeams_63 ⟨rfl, rfl⟩
def fX3_addTeams_b48 (co_sums : Nat → Int32) (co_ways : Nat → Int32) (co_nextWays : Nat → Int32) : Option ((Nat → Int32)) :=
  some co_nextWays
set_option maxHeartbeats 400000 in
set_option maxRecDepth 100000 in
theorem kX3_addTeams_b48 {X : cxT} {l : Launch} {D : va_G} {Y : Nat → ClassId} {ao aC : Nat → Nat} {io_cells : Int32} {co_sums : Nat → Int32} {co_ways : Nat → Int32} {co_nextWays : Nat → Int32} {res : (Nat → Int32)} (C : axC X l D Y cX3_addTeams 6 RX3 wsX3_addTeams rmX3_addTeams none) (hQ : axQ X 0 0 (fun r9 w9 => r9 = none ∧ w9 = [oX3 ao aC io_cells, rI Y (ao 3) 256 co_sums, rI Y (ao 4) 256 co_ways, rI Y (ao 5) 256 res])) (hf : fX3_addTeams_b48 co_sums co_ways co_nextWays = some res) : ax X 0 0 48 [none, none, none, none, none, none] [oX3 ao aC io_cells, rI Y (ao 3) 256 co_sums, rI Y (ao 4) 256 co_ways, rI Y (ao 5) 256 co_nextWays] [] := by
  unfold fX3_addTeams_b48 at hf
  obtain rfl := fx_some hf
  exact a_vret C hQ dX3_addTeams_48 ⟨rfl, rfl⟩
def fX3_addTeams_b43 (co_sums : Nat → Int32) (co_ways : Nat → Int32) (co_nextWays : Nat → Int32) (x1 : Int32) (x2 : Int32) (x3 : Int32) (x4 : Int32) (x5 : Int32) (k6 : (Nat → Int32) × Int32 × Int32 → Option ((Nat → Int32))) : Option ((Nat → Int32)) :=
  if x4 = (0 : Int32) then (fX3_addTeams_b48 co_sums co_ways co_nextWays) else (k6 (co_nextWays, ((x4 - (1 : Int32)) &&& x2), (x5 + (1 : Int32))))
set_option maxHeartbeats 400000 in
set_option maxRecDepth 100000 in
theorem kX3_addTeams_b43 {X : cxT} {l : Launch} {D : va_G} {Y : Nat → ClassId} {ao aC : Nat → Nat} {io_cells : Int32} {co_sums : Nat → Int32} {co_ways : Nat → Int32} {co_nextWays : Nat → Int32} {x1 : Int32} {x2 : Int32} {x3 : Int32} {x4 : Int32} {x5 : Int32} {res : (Nat → Int32)} (C : axC X l D Y cX3_addTeams 6 RX3 wsX3_addTeams rmX3_addTeams none) (hQ : axQ X 0 0 (fun r9 w9 => r9 = none ∧ w9 = [oX3 ao aC io_cells, rI Y (ao 3) 256 co_sums, rI Y (ao 4) 256 co_ways, rI Y (ao 5) 256 res])) {k6 : (Nat → Int32) × Int32 × Int32 → Option ((Nat → Int32))} (hk6 : ∀ s : (Nat → Int32) × Int32 × Int32, k6 s = some res → ax X 0 0 6 [some (.ref (ao 0)), some (.int x1), some (.int x2), some (.int x3), some (.int s.2.1), some (.int s.2.2)] [oX3 ao aC io_cells, rI Y (ao 3) 256 co_sums, rI Y (ao 4) 256 co_ways, rI Y (ao 5) 256 s.1] []) (hf : fX3_addTeams_b43 co_sums co_ways co_nextWays x1 x2 x3 x4 x5 k6 = some res) : ax X 0 0 43 [some (.ref (ao 0)), some (.int x1), some (.int x2), some (.int x3), some (.int x4), some (.int x5)] [oX3 ao aC io_cells, rI Y (ao 3) 256 co_sums, rI Y (ao 4) 256 co_ways, rI Y (ao 5) 256 co_nextWays] [] := by
  unfold fX3_addTeams_b43 at hf
  refine a_iload C dX3_addTeams_43 rfl ?_
  refine a_if_ne C 49 dX3_addTeams_45 (by decide) (fun h1 => ?_) (fun h1 => ?_)
  · have hf := fx_f h1 hf
    refine a_iload C dX3_addTeams_49 rfl ?_
    refine a_iconst C (1 : Int32) dX3_addTeams_51 (by decide) ?_
    refine a_isub C dX3_addTeams_52 ?_
    refine a_iload_n C dX3_addTeams_53 rfl ?_
    refine a_iand C dX3_addTeams_54 ?_
    refine a_istore C dX3_addTeams_55 (by decide) rfl ?_
    refine a_iinc C (1 : Int32) dX3_addTeams_57 (by decide) rfl (by decide) rfl ?_
    refine a_goto C 6 dX3_addTeams_60 (by decide) ?_
    exact hk6 (co_nextWays, ((x4 - (1 : Int32)) &&& x2), (x5 + (1 : Int32))) hf
  · have hf := fx_t h1 hf
    refine a_kill [0, 1, 2, 3, 4, 5] ?_
    exact kX3_addTeams_b48 C hQ hf
def fX3_addTeams_l6 (co_sums : Nat → Int32) (co_ways : Nat → Int32) (x1 : Int32) (x2 : Int32) (x3 : Int32) (k6 : (Nat → Int32) × Int32 × Int32 → Option ((Nat → Int32))) (co_nextWays : Nat → Int32) (x4 : Int32) (x5 : Int32) : Option ((Nat → Int32)) :=
  if (256 : Int32) ≤ x5 then (fX3_addTeams_b63 co_sums co_ways co_nextWays) else (if inb x4 256 then if (co_sums (Int32.toNatClampNeg x4)) = x3 then (if inb (x1 ||| x4) 256 then if inb x1 256 then fX3_addTeams_b43 co_sums co_ways (upd co_nextWays (Int32.toNatClampNeg (x1 ||| x4)) ((co_nextWays (Int32.toNatClampNeg (x1 ||| x4))) + (co_ways (Int32.toNatClampNeg x1)))) x1 x2 x3 x4 x5 k6 else none else none) else (fX3_addTeams_b43 co_sums co_ways co_nextWays x1 x2 x3 x4 x5 k6) else none)
def fX3_addTeams_b6 (co_sums : Nat → Int32) (co_ways : Nat → Int32) (co_nextWays : Nat → Int32) (x1 : Int32) (x2 : Int32) (x3 : Int32) (x4 : Int32) (x5 : Int32) : Option ((Nat → Int32)) :=
  loopN (fun (s : (Nat → Int32) × Int32 × Int32) k6 => fX3_addTeams_l6 co_sums co_ways x1 x2 x3 k6 s.1 s.2.1 s.2.2) FUEL (co_nextWays, x4, x5)
set_option maxHeartbeats 400000 in
set_option maxRecDepth 100000 in
theorem kX3_addTeams_l6 {X : cxT} {l : Launch} {D : va_G} {Y : Nat → ClassId} {ao aC : Nat → Nat} {io_cells : Int32} {co_sums : Nat → Int32} {co_ways : Nat → Int32} {co_nextWays : Nat → Int32} {x1 : Int32} {x2 : Int32} {x3 : Int32} {x4 : Int32} {x5 : Int32} {res : (Nat → Int32)} (C : axC X l D Y cX3_addTeams 6 RX3 wsX3_addTeams rmX3_addTeams none) (hQ : axQ X 0 0 (fun r9 w9 => r9 = none ∧ w9 = [oX3 ao aC io_cells, rI Y (ao 3) 256 co_sums, rI Y (ao 4) 256 co_ways, rI Y (ao 5) 256 res])) {k6 : (Nat → Int32) × Int32 × Int32 → Option ((Nat → Int32))} (hk6 : ∀ s : (Nat → Int32) × Int32 × Int32, k6 s = some res → ax X 0 0 6 [some (.ref (ao 0)), some (.int x1), some (.int x2), some (.int x3), some (.int s.2.1), some (.int s.2.2)] [oX3 ao aC io_cells, rI Y (ao 3) 256 co_sums, rI Y (ao 4) 256 co_ways, rI Y (ao 5) 256 s.1] []) (hf : fX3_addTeams_l6 co_sums co_ways x1 x2 x3 k6 co_nextWays x4 x5 = some res) : ax X 0 0 6 [some (.ref (ao 0)), some (.int x1), some (.int x2), some (.int x3), some (.int x4), some (.int x5)] [oX3 ao aC io_cells, rI Y (ao 3) 256 co_sums, rI Y (ao 4) 256 co_ways, rI Y (ao 5) 256 co_nextWays] [] := by
  unfold fX3_addTeams_l6 at hf
  refine a_iload C dX3_addTeams_6 rfl ?_
  refine a_sipush C (256 : Int32) dX3_addTeams_8 (by decide) ?_
  refine a_icmp_ge C 63 dX3_addTeams_11 (by decide) (fun h2 => ?_) (fun h2 => ?_)
  · have hf := fx_t h2 hf
    refine a_kill [0, 1, 2, 3, 4, 5] ?_
    exact kX3_addTeams_b63 C hQ hf
  · have hf := fx_f h2 hf
    refine a_aload_n C dX3_addTeams_14 rfl ?_
    refine a_get C eX3_addTeams_18 dX3_addTeams_15 0 rfl rfl ?_
    refine a_iload C dX3_addTeams_18 rfl ?_
    obtain ⟨h3, hf⟩ := fx_ite hf
    refine a_iald C dX3_addTeams_20 1 rfl h3 ?_
    refine a_iload_n C dX3_addTeams_21 rfl ?_
    refine a_icmp_ne C 43 dX3_addTeams_22 (by decide) (fun h4 => ?_) (fun h4 => ?_)
    · have hf := fx_f h4 hf
      exact kX3_addTeams_b43 C hQ hk6 hf
    · have hf := fx_t h4 hf
      refine a_aload_n C dX3_addTeams_25 rfl ?_
      refine a_get C eX3_addTeams_24 dX3_addTeams_26 0 rfl rfl ?_
      refine a_iload_n C dX3_addTeams_29 rfl ?_
      refine a_iload C dX3_addTeams_30 rfl ?_
      refine a_ior C dX3_addTeams_32 ?_
      refine a_dup2 C dX3_addTeams_33 rfl rfl ?_
      obtain ⟨h5, hf⟩ := fx_ite hf
      refine a_iald C dX3_addTeams_34 3 rfl h5 ?_
      refine a_aload_n C dX3_addTeams_35 rfl ?_
      refine a_get C eX3_addTeams_21 dX3_addTeams_36 0 rfl rfl ?_
      refine a_iload_n C dX3_addTeams_39 rfl ?_
      obtain ⟨h6, hf⟩ := fx_ite hf
      refine a_iald C dX3_addTeams_40 2 rfl h6 ?_
      refine a_iadd C dX3_addTeams_41 ?_
      refine a_iast C dX3_addTeams_42 3 rfl h5 ?_
      exact kX3_addTeams_b43 C hQ hk6 hf
set_option maxHeartbeats 400000 in
set_option maxRecDepth 100000 in
theorem kX3_addTeams_b6 {X : cxT} {l : Launch} {D : va_G} {Y : Nat → ClassId} {ao aC : Nat → Nat} {io_cells : Int32} {co_sums : Nat → Int32} {co_ways : Nat → Int32} {co_nextWays : Nat → Int32} {x1 : Int32} {x2 : Int32} {x3 : Int32} {x4 : Int32} {x5 : Int32} {res : (Nat → Int32)} (C : axC X l D Y cX3_addTeams 6 RX3 wsX3_addTeams rmX3_addTeams none) (hQ : axQ X 0 0 (fun r9 w9 => r9 = none ∧ w9 = [oX3 ao aC io_cells, rI Y (ao 3) 256 co_sums, rI Y (ao 4) 256 co_ways, rI Y (ao 5) 256 res])) (hf : fX3_addTeams_b6 co_sums co_ways co_nextWays x1 x2 x3 x4 x5 = some res) : ax X 0 0 6 [some (.ref (ao 0)), some (.int x1), some (.int x2), some (.int x3), some (.int x4), some (.int x5)] [oX3 ao aC io_cells, rI Y (ao 3) 256 co_sums, rI Y (ao 4) 256 co_ways, rI Y (ao 5) 256 co_nextWays] [] := by
  unfold fX3_addTeams_b6 at hf
  exact fx_loop (P := fun s : (Nat → Int32) × Int32 × Int32 => ax X 0 0 6 [some (.ref (ao 0)), some (.int x1), some (.int x2), some (.int x3), some (.int s.2.1), some (.int s.2.2)] [oX3 ao aC io_cells, rI Y (ao 3) 256 co_sums, rI Y (ao 4) 256 co_ways, rI Y (ao 5) 256 s.1] []) (fun s k6 hk6 h => kX3_addTeams_l6 C hQ hk6 h) FUEL (co_nextWays, x4, x5) hf
def fX3_addTeams (co_sums : Nat → Int32) (co_ways : Nat → Int32) (co_nextWays : Nat → Int32) (x1 : Int32) (x2 : Int32) (x3 : Int32) : Option ((Nat → Int32)) :=
  fX3_addTeams_b6 co_sums co_ways co_nextWays x1 x2 x3 x2 (0 : Int32)
set_option maxHeartbeats 400000 in
set_option maxRecDepth 100000 in
theorem kX3_addTeams (l : Launch) (D : va_G) (Y : Nat → ClassId) (ao aC : Nat → Nat) (io_cells : Int32) (co_sums : Nat → Int32) (co_ways : Nat → Int32) (co_nextWays : Nat → Int32) (x1 : Int32) (x2 : Int32) (x3 : Int32) (res : (Nat → Int32)) (hf : fX3_addTeams co_sums co_ways co_nextWays x1 x2 x3 = some res) : amf l D Y yX3_addTeams wsX3_addTeams rmX3_addTeams [.ref (ao 0), .int x1, .int x2, .int x3] [oX3 ao aC io_cells, rI Y (ao 3) 256 co_sums, rI Y (ao 4) 256 co_ways, rI Y (ao 5) 256 co_nextWays] none [oX3 ao aC io_cells, rI Y (ao 3) 256 co_sums, rI Y (ao 4) 256 co_ways, rI Y (ao 5) 256 res] := by
  refine amf.of (cc := cX3_addTeams) (maxL := 6) (rt := none) (by decide) rfl RX3 rfl (Nat.le_of_ble_eq_true rfl) [some (.ref (ao 0)), some (.int x1), some (.int x2), some (.int x3), none, none] rfl ?_
  intro X C hQ
  unfold fX3_addTeams at hf
  refine a_iload_n C dX3_addTeams_0 rfl ?_
  refine a_istore C dX3_addTeams_1 (by decide) rfl ?_
  refine a_iconst C (0 : Int32) dX3_addTeams_3 (by decide) ?_
  refine a_istore C dX3_addTeams_4 (by decide) rfl ?_
  exact kX3_addTeams_b6 C hQ hf
-- X4_clear
abbrev rmX4_clear : Room := { frames := 0, cells := 0, slots := 0, locals := 0 }
theorem dvX4_clear : yX4_clear.cls = RX4 ∧ yX4_clear.cls ≠ "java/lang/invoke/MethodHandle" ∧ yX4_clear.cls ≠ "java/lang/invoke/VarHandle" ∧ (parseMethodDescriptor yX4_clear.desc).map (fun d => d.parameters.length) = some 0 := by decide +kernel
theorem eX4_clear_inX4 : ∀ w ∈ wsX40, w ∈ wsX4_clear := by decide +kernel
theorem eX4_clear_20 : aF wsX4_clear RX4 20 4 2 := ⟨RX4, TX4, 3, rfl, eX4_clear_inX4, by decide, by decide +kernel⟩
def fX4_clear (io_size : Int32) : Option (Int32) :=
  some (0 : Int32)
set_option maxHeartbeats 400000 in
set_option maxRecDepth 100000 in
theorem kX4_clear (l : Launch) (D : va_G) (Y : Nat → ClassId) (ao : Nat → Nat) (io_next : Int32) (io_size : Int32) (res : Int32) (hf : fX4_clear io_size = some res) : amf l D Y yX4_clear wsX4_clear rmX4_clear [.ref (ao 0)] [oX4 ao io_next io_size] none [oX4 ao io_next res] := by
  refine amf.of (cc := cX4_clear) (maxL := 1) (rt := none) (by decide) rfl RX4 rfl (Nat.le_of_ble_eq_true rfl) [some (.ref (ao 0))] rfl ?_
  intro X C hQ
  unfold fX4_clear at hf
  refine a_aload_n C dX4_clear_0 rfl ?_
  refine a_iconst C (0 : Int32) dX4_clear_1 (by decide) ?_
  refine a_put C eX4_clear_20 tfX4_2 dX4_clear_2 0 rfl rfl rfl (Nat.le_of_ble_eq_true rfl) ?_
  obtain rfl := fx_some hf
  exact a_vret C hQ dX4_clear_5 ⟨rfl, rfl⟩
-- X4_keepMarked
abbrev rmX4_keepMarked : Room := { frames := 1, cells := 0, slots := 0, locals := 21 }
theorem dvX4_keepMarked : yX4_keepMarked.cls = RX4 ∧ yX4_keepMarked.cls ≠ "java/lang/invoke/MethodHandle" ∧ yX4_keepMarked.cls ≠ "java/lang/invoke/VarHandle" ∧ (parseMethodDescriptor yX4_keepMarked.desc).map (fun d => d.parameters.length) = some 0 := by decide +kernel
theorem eX4_keepMarked_inX4 : ∀ w ∈ wsX40, w ∈ wsX4_keepMarked := by decide +kernel
theorem eX4_keepMarked_24 : aF wsX4_keepMarked RX4 24 4 1 := ⟨RX4, TX4, 3, rfl, eX4_keepMarked_inX4, by decide, by decide +kernel⟩
theorem eX4_keepMarked_20 : aF wsX4_keepMarked RX4 20 4 2 := ⟨RX4, TX4, 3, rfl, eX4_keepMarked_inX4, by decide, by decide +kernel⟩
theorem eX4_keepMarked_m31 : ∀ w ∈ ([.methodLink RX4 31 Lib.Math.min.name, .static Lib.Math.min.name, .initialized "java/lang/Math", .code Lib.Math.min.name Lib.Math.min.code 2 (some .int)] : List Cond), w ∈ wsX4_keepMarked := by decide +kernel
def fX4_keepMarked (io_next : Int32) (io_size : Int32) : Option (Int32 × Int32) :=
  some ((jrem (io_next + (1 : Int32)) (16 : Int32)), (jmin (15 : Int32) (io_size + (1 : Int32))))
set_option maxHeartbeats 400000 in
set_option maxRecDepth 100000 in
theorem kX4_keepMarked (l : Launch) (D : va_G) (Y : Nat → ClassId) (ao : Nat → Nat) (io_next : Int32) (io_size : Int32) (res : Int32 × Int32) (hf : fX4_keepMarked io_next io_size = some res) : amf l D Y yX4_keepMarked wsX4_keepMarked rmX4_keepMarked [.ref (ao 0)] [oX4 ao io_next io_size] none [oX4 ao res.1 res.2] := by
  refine amf.of (cc := cX4_keepMarked) (maxL := 1) (rt := none) (by decide) rfl RX4 rfl (Nat.le_of_ble_eq_true rfl) [some (.ref (ao 0))] rfl ?_
  intro X C hQ
  unfold fX4_keepMarked at hf
  refine a_aload_n C dX4_keepMarked_0 rfl ?_
  refine a_aload_n C dX4_keepMarked_1 rfl ?_
  refine a_get C eX4_keepMarked_24 dX4_keepMarked_2 0 rfl rfl ?_
  refine a_iconst C (1 : Int32) dX4_keepMarked_5 (by decide) ?_
  refine a_iadd C dX4_keepMarked_6 ?_
  refine a_bipush C (16 : Int32) dX4_keepMarked_7 (by decide) ?_
  refine a_irem C dX4_keepMarked_9 (by decide) ?_
  refine a_put C eX4_keepMarked_24 tfX4_1 dX4_keepMarked_10 0 rfl rfl rfl (Nat.le_of_ble_eq_true rfl) ?_
  refine a_aload_n C dX4_keepMarked_13 rfl ?_
  refine a_bipush C (15 : Int32) dX4_keepMarked_14 (by decide) ?_
  refine a_aload_n C dX4_keepMarked_16 rfl ?_
  refine a_get C eX4_keepMarked_20 dX4_keepMarked_17 0 rfl rfl ?_
  refine a_iconst C (1 : Int32) dX4_keepMarked_20 (by decide) ?_
  refine a_iadd C dX4_keepMarked_21 ?_
  refine a_mmin C dX4_keepMarked_22 eX4_keepMarked_m31 ⟨⟨Nat.le_of_ble_eq_true rfl, Nat.le_of_ble_eq_true rfl⟩, ⟨Nat.le_of_ble_eq_true rfl, Nat.le_of_ble_eq_true rfl⟩⟩ (Nat.le_of_ble_eq_true rfl) ?_
  refine a_put C eX4_keepMarked_20 tfX4_2 dX4_keepMarked_25 0 rfl rfl rfl (Nat.le_of_ble_eq_true rfl) ?_
  obtain rfl := fx_some hf
  exact a_vret C hQ dX4_keepMarked_28 ⟨rfl, rfl⟩
-- X1_prepare
abbrev rmX1_prepare : Room := { frames := 2, cells := 0, slots := 0, locals := 49 }
theorem dvX1_prepare : yX1_prepare.cls = RX1 ∧ yX1_prepare.cls ≠ "java/lang/invoke/MethodHandle" ∧ yX1_prepare.cls ≠ "java/lang/invoke/VarHandle" ∧ (parseMethodDescriptor yX1_prepare.desc).map (fun d => d.parameters.length) = some 2 := by decide +kernel
theorem eX1_prepare_inX1 : ∀ w ∈ wsX10, w ∈ wsX1_prepare := by decide +kernel
theorem eX1_prepare_25 : aF wsX1_prepare RX1 25 1 1 := ⟨RX1, TX1, 8, rfl, eX1_prepare_inX1, by decide, by decide +kernel⟩
theorem eX1_prepare_inX2 : ∀ w ∈ wsX20, w ∈ wsX1_prepare := by decide +kernel
theorem eX1_prepare_63 : aF wsX1_prepare RX1 63 2 0 := ⟨RX2, TX2, 5, rfl, eX1_prepare_inX2, by decide, by decide +kernel⟩
theorem eX1_prepare_9 : aF wsX1_prepare RX1 9 1 2 := ⟨RX1, TX1, 8, rfl, eX1_prepare_inX1, by decide, by decide +kernel⟩
theorem eX1_prepare_18 : aF wsX1_prepare RX1 18 1 4 := ⟨RX1, TX1, 8, rfl, eX1_prepare_inX1, by decide, by decide +kernel⟩
theorem eX1_prepare_inX9 : ∀ w ∈ wsX90, w ∈ wsX1_prepare := by decide +kernel
theorem eX1_prepare_68 : aF wsX1_prepare RX1 68 9 4 := ⟨RX9, TX9, 9, rfl, eX1_prepare_inX9, by decide, by decide +kernel⟩
theorem eX1_prepare_40 : aF wsX1_prepare RX1 40 1 5 := ⟨RX1, TX1, 8, rfl, eX1_prepare_inX1, by decide, by decide +kernel⟩
theorem eX1_prepare_71 : aF wsX1_prepare RX1 71 2 4 := ⟨RX2, TX2, 5, rfl, eX1_prepare_inX2, by decide, by decide +kernel⟩
theorem eX1_prepare_21 : aF wsX1_prepare RX1 21 1 0 := ⟨RX1, TX1, 8, rfl, eX1_prepare_inX1, by decide, by decide +kernel⟩
theorem eX1_prepare_inX5 : ∀ w ∈ wsX50, w ∈ wsX1_prepare := by decide +kernel
theorem eX1_prepare_53 : aF wsX1_prepare RX1 53 5 0 := ⟨RX5, TX5, 5, rfl, eX1_prepare_inX5, by decide, by decide +kernel⟩
theorem eX1_prepare_15 : aF wsX1_prepare RX1 15 1 3 := ⟨RX1, TX1, 8, rfl, eX1_prepare_inX1, by decide, by decide +kernel⟩
theorem eX1_prepare_33 : aF wsX1_prepare RX1 33 1 7 := ⟨RX1, TX1, 8, rfl, eX1_prepare_inX1, by decide, by decide +kernel⟩
def fX1_prepare_b133 (io_able : Int32) (io_spells : Int32) (io_height : Int32) (co_place : Nat → Int32) (co_lack : Nat → Int32) (co_most : Nat → Int32) (ip1_spades : Int32) (cp1_wall : Nat → Int32) (cp1_mood : Nat → Int32) (iC_size : Int32) (cC_age : Nat → Int32) (cC_skill : Nat → Int32) (cC_pals : Nat → Int32) (iL_cells : Int32) (cL_base : Nat → Int32) : Option (Int32 × (Nat → Int32) × (Nat → Int32) × (Nat → Int32)) :=
  some (io_able, co_place, co_lack, co_most)
set_option maxHeartbeats 400000 in
set_option maxRecDepth 100000 in
theorem kX1_prepare_b133 {X : cxT} {l : Launch} {D : va_G} {Y : Nat → ClassId} {ao aL aC ap1 : Nat → Nat} {io_able : Int32} {io_spells : Int32} {io_height : Int32} {co_place : Nat → Int32} {co_lack : Nat → Int32} {co_most : Nat → Int32} {ip1_moats : Int32} {ip1_spades : Int32} {ip1_tides : Int32} {cp1_wall : Nat → Int32} {cp1_mood : Nat → Int32} {iC_size : Int32} {cC_age : Nat → Int32} {cC_skill : Nat → Int32} {cC_pals : Nat → Int32} {iL_cells : Int32} {cL_base : Nat → Int32} {res : Int32 × (Nat → Int32) × (Nat → Int32) × (Nat → Int32)} (C : axC X l D Y cX1_prepare 4 RX1 wsX1_prepare rmX1_prepare none) (hQ : axQ X 0 0 (fun r9 w9 => r9 = none ∧ w9 = [oX1 ao aL aC res.1 io_spells io_height, rI Y (ao 1) 8 res.2.1, rI Y (ao 2) 12 res.2.2.1, rI Y (ao 3) 8 res.2.2.2, oX9 ap1 aL aC ip1_moats ip1_spades ip1_tides, rI Y (ap1 1) 12 cp1_wall, rI Y (ap1 3) 8 cp1_mood, oX2 aC iC_size, rI Y (aC 1) 8 cC_age, rI Y (aC 2) 8 cC_skill, rI Y (aC 4) 8 cC_pals, oX5 aL iL_cells, rI Y (aL 1) 12 cL_base])) (hf : fX1_prepare_b133 io_able io_spells io_height co_place co_lack co_most ip1_spades cp1_wall cp1_mood iC_size cC_age cC_skill cC_pals iL_cells cL_base = some res) : ax X 0 0 133 [none, none, none, none] [oX1 ao aL aC io_able io_spells io_height, rI Y (ao 1) 8 co_place, rI Y (ao 2) 12 co_lack, rI Y (ao 3) 8 co_most, oX9 ap1 aL aC ip1_moats ip1_spades ip1_tides, rI Y (ap1 1) 12 cp1_wall, rI Y (ap1 3) 8 cp1_mood, oX2 aC iC_size, rI Y (aC 1) 8 cC_age, rI Y (aC 2) 8 cC_skill, rI Y (aC 4) 8 cC_pals, oX5 aL iL_cells, rI Y (aL 1) 12 cL_base] [] := by
  unfold fX1_prepare_b133 at hf
  obtain rfl := fx_some hf
  exact a_vret C hQ dX1_prepare_133 ⟨rfl, rfl⟩
def fX1_prepare_b127 (io_able : Int32) (io_spells : Int32) (io_height : Int32) (co_place : Nat → Int32) (co_lack : Nat → Int32) (co_most : Nat → Int32) (ip1_spades : Int32) (cp1_wall : Nat → Int32) (cp1_mood : Nat → Int32) (iC_size : Int32) (cC_age : Nat → Int32) (cC_skill : Nat → Int32) (cC_pals : Nat → Int32) (iL_cells : Int32) (cL_base : Nat → Int32) (x2 : Int32) (x3 : Int32) (k42 : Int32 × (Nat → Int32) × (Nat → Int32) × Int32 → Option (Int32 × (Nat → Int32) × (Nat → Int32) × (Nat → Int32))) : Option (Int32 × (Nat → Int32) × (Nat → Int32) × (Nat → Int32)) :=
  k42 (io_able, co_place, co_most, (x3 + (1 : Int32)))
set_option maxHeartbeats 400000 in
set_option maxRecDepth 100000 in
theorem kX1_prepare_b127 {X : cxT} {l : Launch} {D : va_G} {Y : Nat → ClassId} {ao aL aC ap1 : Nat → Nat} {io_able : Int32} {io_spells : Int32} {io_height : Int32} {co_place : Nat → Int32} {co_lack : Nat → Int32} {co_most : Nat → Int32} {ip1_moats : Int32} {ip1_spades : Int32} {ip1_tides : Int32} {cp1_wall : Nat → Int32} {cp1_mood : Nat → Int32} {iC_size : Int32} {cC_age : Nat → Int32} {cC_skill : Nat → Int32} {cC_pals : Nat → Int32} {iL_cells : Int32} {cL_base : Nat → Int32} {x2 : Int32} {x3 : Int32} {res : Int32 × (Nat → Int32) × (Nat → Int32) × (Nat → Int32)} (C : axC X l D Y cX1_prepare 4 RX1 wsX1_prepare rmX1_prepare none) (hQ : axQ X 0 0 (fun r9 w9 => r9 = none ∧ w9 = [oX1 ao aL aC res.1 io_spells io_height, rI Y (ao 1) 8 res.2.1, rI Y (ao 2) 12 res.2.2.1, rI Y (ao 3) 8 res.2.2.2, oX9 ap1 aL aC ip1_moats ip1_spades ip1_tides, rI Y (ap1 1) 12 cp1_wall, rI Y (ap1 3) 8 cp1_mood, oX2 aC iC_size, rI Y (aC 1) 8 cC_age, rI Y (aC 2) 8 cC_skill, rI Y (aC 4) 8 cC_pals, oX5 aL iL_cells, rI Y (aL 1) 12 cL_base])) {k42 : Int32 × (Nat → Int32) × (Nat → Int32) × Int32 → Option (Int32 × (Nat → Int32) × (Nat → Int32) × (Nat → Int32))} (hk42 : ∀ s : Int32 × (Nat → Int32) × (Nat → Int32) × Int32, k42 s = some res → ax X 0 0 42 [some (.ref (ao 0)), some (.ref (ap1 0)), some (.int x2), some (.int s.2.2.2)] [oX1 ao aL aC s.1 io_spells io_height, rI Y (ao 1) 8 s.2.1, rI Y (ao 2) 12 co_lack, rI Y (ao 3) 8 s.2.2.1, oX9 ap1 aL aC ip1_moats ip1_spades ip1_tides, rI Y (ap1 1) 12 cp1_wall, rI Y (ap1 3) 8 cp1_mood, oX2 aC iC_size, rI Y (aC 1) 8 cC_age, rI Y (aC 2) 8 cC_skill, rI Y (aC 4) 8 cC_pals, oX5 aL iL_cells, rI Y (aL 1) 12 cL_base] []) (hf : fX1_prepare_b127 io_able io_spells io_height co_place co_lack co_most ip1_spades cp1_wall cp1_mood iC_size cC_age cC_skill cC_pals iL_cells cL_base x2 x3 k42 = some res) : ax X 0 0 127 [some (.ref (ao 0)), some (.ref (ap1 0)), some (.int x2), some (.int x3)] [oX1 ao aL aC io_able io_spells io_height, rI Y (ao 1) 8 co_place, rI Y (ao 2) 12 co_lack, rI Y (ao 3) 8 co_most, oX9 ap1 aL aC ip1_moats ip1_spades ip1_tides, rI Y (ap1 1) 12 cp1_wall, rI Y (ap1 3) 8 cp1_mood, oX2 aC iC_size, rI Y (aC 1) 8 cC_age, rI Y (aC 2) 8 cC_skill, rI Y (aC 4) 8 cC_pals, oX5 aL iL_cells, rI Y (aL 1) 12 cL_base] [] := by
  unfold fX1_prepare_b127 at hf
  refine a_iinc C (1 : Int32) dX1_prepare_127 (by decide) rfl (by decide) rfl ?_
  refine a_goto C 42 dX1_prepare_130 (by decide) ?_
  exact hk42 (io_able, co_place, co_most, (x3 + (1 : Int32))) hf
def fX1_prepare_b123 (io_able : Int32) (io_spells : Int32) (io_height : Int32) (co_place : Nat → Int32) (co_lack : Nat → Int32) (co_most : Nat → Int32) (ip1_spades : Int32) (cp1_wall : Nat → Int32) (cp1_mood : Nat → Int32) (iC_size : Int32) (cC_age : Nat → Int32) (cC_skill : Nat → Int32) (cC_pals : Nat → Int32) (iL_cells : Int32) (cL_base : Nat → Int32) (x2 : Int32) (x3 : Int32) (s1 : Int32) (s4 : Int32) (s5 : Int32) (k42 : Int32 × (Nat → Int32) × (Nat → Int32) × Int32 → Option (Int32 × (Nat → Int32) × (Nat → Int32) × (Nat → Int32))) : Option (Int32 × (Nat → Int32) × (Nat → Int32) × (Nat → Int32)) :=
  (fX1_mostOf io_spells ip1_spades cp1_mood cC_age cC_skill s4 s5).bind (fun r1 => if inb s1 8 then fX1_prepare_b127 io_able io_spells io_height co_place co_lack (upd co_most (Int32.toNatClampNeg s1) r1) ip1_spades cp1_wall cp1_mood iC_size cC_age cC_skill cC_pals iL_cells cL_base x2 x3 k42 else none)
set_option maxHeartbeats 400000 in
set_option maxRecDepth 100000 in
theorem kX1_prepare_b123 {X : cxT} {l : Launch} {D : va_G} {Y : Nat → ClassId} {ao aL aC ap1 : Nat → Nat} {io_able : Int32} {io_spells : Int32} {io_height : Int32} {co_place : Nat → Int32} {co_lack : Nat → Int32} {co_most : Nat → Int32} {ip1_moats : Int32} {ip1_spades : Int32} {ip1_tides : Int32} {cp1_wall : Nat → Int32} {cp1_mood : Nat → Int32} {iC_size : Int32} {cC_age : Nat → Int32} {cC_skill : Nat → Int32} {cC_pals : Nat → Int32} {iL_cells : Int32} {cL_base : Nat → Int32} {x2 : Int32} {x3 : Int32} {s1 : Int32} {s4 : Int32} {s5 : Int32} {res : Int32 × (Nat → Int32) × (Nat → Int32) × (Nat → Int32)} (C : axC X l D Y cX1_prepare 4 RX1 wsX1_prepare rmX1_prepare none) (hQ : axQ X 0 0 (fun r9 w9 => r9 = none ∧ w9 = [oX1 ao aL aC res.1 io_spells io_height, rI Y (ao 1) 8 res.2.1, rI Y (ao 2) 12 res.2.2.1, rI Y (ao 3) 8 res.2.2.2, oX9 ap1 aL aC ip1_moats ip1_spades ip1_tides, rI Y (ap1 1) 12 cp1_wall, rI Y (ap1 3) 8 cp1_mood, oX2 aC iC_size, rI Y (aC 1) 8 cC_age, rI Y (aC 2) 8 cC_skill, rI Y (aC 4) 8 cC_pals, oX5 aL iL_cells, rI Y (aL 1) 12 cL_base])) {k42 : Int32 × (Nat → Int32) × (Nat → Int32) × Int32 → Option (Int32 × (Nat → Int32) × (Nat → Int32) × (Nat → Int32))} (hk42 : ∀ s : Int32 × (Nat → Int32) × (Nat → Int32) × Int32, k42 s = some res → ax X 0 0 42 [some (.ref (ao 0)), some (.ref (ap1 0)), some (.int x2), some (.int s.2.2.2)] [oX1 ao aL aC s.1 io_spells io_height, rI Y (ao 1) 8 s.2.1, rI Y (ao 2) 12 co_lack, rI Y (ao 3) 8 s.2.2.1, oX9 ap1 aL aC ip1_moats ip1_spades ip1_tides, rI Y (ap1 1) 12 cp1_wall, rI Y (ap1 3) 8 cp1_mood, oX2 aC iC_size, rI Y (aC 1) 8 cC_age, rI Y (aC 2) 8 cC_skill, rI Y (aC 4) 8 cC_pals, oX5 aL iL_cells, rI Y (aL 1) 12 cL_base] []) (hf : fX1_prepare_b123 io_able io_spells io_height co_place co_lack co_most ip1_spades cp1_wall cp1_mood iC_size cC_age cC_skill cC_pals iL_cells cL_base x2 x3 s1 s4 s5 k42 = some res) : ax X 0 0 123 [some (.ref (ao 0)), some (.ref (ap1 0)), some (.int x2), some (.int x3)] [oX1 ao aL aC io_able io_spells io_height, rI Y (ao 1) 8 co_place, rI Y (ao 2) 12 co_lack, rI Y (ao 3) 8 co_most, oX9 ap1 aL aC ip1_moats ip1_spades ip1_tides, rI Y (ap1 1) 12 cp1_wall, rI Y (ap1 3) 8 cp1_mood, oX2 aC iC_size, rI Y (aC 1) 8 cC_age, rI Y (aC 2) 8 cC_skill, rI Y (aC 4) 8 cC_pals, oX5 aL iL_cells, rI Y (aL 1) 12 cL_base] [.int s5, .int s4, .ref (ap1 0), .ref (ao 0), .int s1, .ref (ao 3)] := by
  unfold fX1_prepare_b123 at hf
  obtain ⟨r1, h1, hf⟩ := fx_bind hf
  refine a_fV C (kX1_mostOf l D Y ao aL aC ap1 io_able io_spells io_height ip1_moats ip1_spades ip1_tides cp1_mood iC_size cC_age cC_skill s4 s5 r1 h1) gX1_prepare_X1_mostOf rfl dvX1_mostOf ⟨⟨rfl, rfl⟩, ⟨Nat.le_of_ble_eq_true rfl, Nat.le_of_ble_eq_true rfl⟩, ⟨Nat.le_of_ble_eq_true rfl, Nat.le_of_ble_eq_true rfl⟩⟩ rfl (Nat.le_of_ble_eq_true rfl) dX1_prepare_123 rfl rfl [0, 4, 6, 7, 8, 9] [1, 2, 3, 5, 10, 11, 12] ⟨rfl, rfl, rfl, rfl, rfl, rfl, trivial⟩ rfl rfl [oX1 ao aL aC io_able io_spells io_height, rI Y (ao 1) 8 co_place, rI Y (ao 2) 12 co_lack, rI Y (ao 3) 8 co_most, oX9 ap1 aL aC ip1_moats ip1_spades ip1_tides, rI Y (ap1 1) 12 cp1_wall, rI Y (ap1 3) 8 cp1_mood, oX2 aC iC_size, rI Y (aC 1) 8 cC_age, rI Y (aC 2) 8 cC_skill, rI Y (aC 4) 8 cC_pals, oX5 aL iL_cells, rI Y (aL 1) 12 cL_base] ⟨rfl, rfl, rfl, rfl, rfl, rfl, trivial⟩ ⟨rfl, rfl, rfl, rfl, rfl, rfl, rfl, trivial⟩ rfl ?_
  obtain ⟨h2, hf⟩ := fx_ite hf
  refine a_iast C dX1_prepare_126 3 rfl h2 ?_
  exact kX1_prepare_b127 C hQ hk42 hf
def fX1_prepare_l42 (io_spells : Int32) (io_height : Int32) (co_lack : Nat → Int32) (ip1_spades : Int32) (cp1_wall : Nat → Int32) (cp1_mood : Nat → Int32) (iC_size : Int32) (cC_age : Nat → Int32) (cC_skill : Nat → Int32) (cC_pals : Nat → Int32) (iL_cells : Int32) (cL_base : Nat → Int32) (x2 : Int32) (k42 : Int32 × (Nat → Int32) × (Nat → Int32) × Int32 → Option (Int32 × (Nat → Int32) × (Nat → Int32) × (Nat → Int32))) (io_able : Int32) (co_place : Nat → Int32) (co_most : Nat → Int32) (x3 : Int32) : Option (Int32 × (Nat → Int32) × (Nat → Int32) × (Nat → Int32)) :=
  if iC_size ≤ x3 then (fX1_prepare_b133 io_able io_spells io_height co_place co_lack co_most ip1_spades cp1_wall cp1_mood iC_size cC_age cC_skill cC_pals iL_cells cL_base) else (if inb x3 8 then if ((jshr x2 x3) &&& (1 : Int32)) = (0 : Int32) then (fX1_prepare_b127 io_able io_spells io_height (upd co_place (Int32.toNatClampNeg x3) (-1 : Int32)) co_lack (upd co_most (Int32.toNatClampNeg x3) (0 : Int32)) ip1_spades cp1_wall cp1_mood iC_size cC_age cC_skill cC_pals iL_cells cL_base x2 x3 k42) else (if (cp1_mood (Int32.toNatClampNeg x3)) ≤ (0 : Int32) then (fX1_prepare_b127 io_able io_spells io_height (upd co_place (Int32.toNatClampNeg x3) (-1 : Int32)) co_lack (upd co_most (Int32.toNatClampNeg x3) (0 : Int32)) ip1_spades cp1_wall cp1_mood iC_size cC_age cC_skill cC_pals iL_cells cL_base x2 x3 k42) else (if ((cC_pals (Int32.toNatClampNeg x3)) &&& x2) = (0 : Int32) then (fX1_prepare_b123 (io_able ||| (jshl (1 : Int32) x3)) io_spells io_height (upd co_place (Int32.toNatClampNeg x3) (-1 : Int32)) co_lack (upd co_most (Int32.toNatClampNeg x3) (0 : Int32)) ip1_spades cp1_wall cp1_mood iC_size cC_age cC_skill cC_pals iL_cells cL_base x2 x3 x3 x3 (0 : Int32) k42) else (fX1_prepare_b123 (io_able ||| (jshl (1 : Int32) x3)) io_spells io_height (upd co_place (Int32.toNatClampNeg x3) (-1 : Int32)) co_lack (upd co_most (Int32.toNatClampNeg x3) (0 : Int32)) ip1_spades cp1_wall cp1_mood iC_size cC_age cC_skill cC_pals iL_cells cL_base x2 x3 x3 x3 (1 : Int32) k42))) else none)
def fX1_prepare_b42 (io_able : Int32) (io_spells : Int32) (io_height : Int32) (co_place : Nat → Int32) (co_lack : Nat → Int32) (co_most : Nat → Int32) (ip1_spades : Int32) (cp1_wall : Nat → Int32) (cp1_mood : Nat → Int32) (iC_size : Int32) (cC_age : Nat → Int32) (cC_skill : Nat → Int32) (cC_pals : Nat → Int32) (iL_cells : Int32) (cL_base : Nat → Int32) (x2 : Int32) (x3 : Int32) : Option (Int32 × (Nat → Int32) × (Nat → Int32) × (Nat → Int32)) :=
  loopN (fun (s : Int32 × (Nat → Int32) × (Nat → Int32) × Int32) k42 => fX1_prepare_l42 io_spells io_height co_lack ip1_spades cp1_wall cp1_mood iC_size cC_age cC_skill cC_pals iL_cells cL_base x2 k42 s.1 s.2.1 s.2.2.1 s.2.2.2) FUEL (io_able, co_place, co_most, x3)
set_option maxHeartbeats 400000 in
set_option maxRecDepth 100000 in
theorem kX1_prepare_l42 {X : cxT} {l : Launch} {D : va_G} {Y : Nat → ClassId} {ao aL aC ap1 : Nat → Nat} {io_able : Int32} {io_spells : Int32} {io_height : Int32} {co_place : Nat → Int32} {co_lack : Nat → Int32} {co_most : Nat → Int32} {ip1_moats : Int32} {ip1_spades : Int32} {ip1_tides : Int32} {cp1_wall : Nat → Int32} {cp1_mood : Nat → Int32} {iC_size : Int32} {cC_age : Nat → Int32} {cC_skill : Nat → Int32} {cC_pals : Nat → Int32} {iL_cells : Int32} {cL_base : Nat → Int32} {x2 : Int32} {x3 : Int32} {res : Int32 × (Nat → Int32) × (Nat → Int32) × (Nat → Int32)} (C : axC X l D Y cX1_prepare 4 RX1 wsX1_prepare rmX1_prepare none) (hQ : axQ X 0 0 (fun r9 w9 => r9 = none ∧ w9 = [oX1 ao aL aC res.1 io_spells io_height, rI Y (ao 1) 8 res.2.1, rI Y (ao 2) 12 res.2.2.1, rI Y (ao 3) 8 res.2.2.2, oX9 ap1 aL aC ip1_moats ip1_spades ip1_tides, rI Y (ap1 1) 12 cp1_wall, rI Y (ap1 3) 8 cp1_mood, oX2 aC iC_size, rI Y (aC 1) 8 cC_age, rI Y (aC 2) 8 cC_skill, rI Y (aC 4) 8 cC_pals, oX5 aL iL_cells, rI Y (aL 1) 12 cL_base])) {k42 : Int32 × (Nat → Int32) × (Nat → Int32) × Int32 → Option (Int32 × (Nat → Int32) × (Nat → Int32) × (Nat → Int32))} (hk42 : ∀ s : Int32 × (Nat → Int32) × (Nat → Int32) × Int32, k42 s = some res → ax X 0 0 42 [some (.ref (ao 0)), some (.ref (ap1 0)), some (.int x2), some (.int s.2.2.2)] [oX1 ao aL aC s.1 io_spells io_height, rI Y (ao 1) 8 s.2.1, rI Y (ao 2) 12 co_lack, rI Y (ao 3) 8 s.2.2.1, oX9 ap1 aL aC ip1_moats ip1_spades ip1_tides, rI Y (ap1 1) 12 cp1_wall, rI Y (ap1 3) 8 cp1_mood, oX2 aC iC_size, rI Y (aC 1) 8 cC_age, rI Y (aC 2) 8 cC_skill, rI Y (aC 4) 8 cC_pals, oX5 aL iL_cells, rI Y (aL 1) 12 cL_base] []) (hf : fX1_prepare_l42 io_spells io_height co_lack ip1_spades cp1_wall cp1_mood iC_size cC_age cC_skill cC_pals iL_cells cL_base x2 k42 io_able co_place co_most x3 = some res) : ax X 0 0 42 [some (.ref (ao 0)), some (.ref (ap1 0)), some (.int x2), some (.int x3)] [oX1 ao aL aC io_able io_spells io_height, rI Y (ao 1) 8 co_place, rI Y (ao 2) 12 co_lack, rI Y (ao 3) 8 co_most, oX9 ap1 aL aC ip1_moats ip1_spades ip1_tides, rI Y (ap1 1) 12 cp1_wall, rI Y (ap1 3) 8 cp1_mood, oX2 aC iC_size, rI Y (aC 1) 8 cC_age, rI Y (aC 2) 8 cC_skill, rI Y (aC 4) 8 cC_pals, oX5 aL iL_cells, rI Y (aL 1) 12 cL_base] [] := by
  unfold fX1_prepare_l42 at hf
  refine a_iload_n C dX1_prepare_42 rfl ?_
  refine a_aload_n C dX1_prepare_43 rfl ?_
  refine a_get C eX1_prepare_25 dX1_prepare_44 0 rfl rfl ?_
  refine a_get C eX1_prepare_63 dX1_prepare_47 7 rfl rfl ?_
  refine a_icmp_ge C 133 dX1_prepare_50 (by decide) (fun h3 => ?_) (fun h3 => ?_)
  · have hf := fx_t h3 hf
    refine a_kill [0, 1, 2, 3] ?_
    exact kX1_prepare_b133 C hQ hf
  · have hf := fx_f h3 hf
    refine a_aload_n C dX1_prepare_53 rfl ?_
    refine a_get C eX1_prepare_9 dX1_prepare_54 0 rfl rfl ?_
    refine a_iload_n C dX1_prepare_57 rfl ?_
    refine a_iconst C (-1 : Int32) dX1_prepare_58 (by decide) ?_
    obtain ⟨h4, hf⟩ := fx_ite hf
    refine a_iast C dX1_prepare_59 1 rfl h4 ?_
    refine a_aload_n C dX1_prepare_60 rfl ?_
    refine a_get C eX1_prepare_18 dX1_prepare_61 0 rfl rfl ?_
    refine a_iload_n C dX1_prepare_64 rfl ?_
    refine a_iconst C (0 : Int32) dX1_prepare_65 (by decide) ?_
    refine a_iast C dX1_prepare_66 3 rfl h4 ?_
    refine a_iload_n C dX1_prepare_67 rfl ?_
    refine a_iload_n C dX1_prepare_68 rfl ?_
    refine a_ishr C dX1_prepare_69 ?_
    refine a_iconst C (1 : Int32) dX1_prepare_70 (by decide) ?_
    refine a_iand C dX1_prepare_71 ?_
    refine a_if_eq C 127 dX1_prepare_72 (by decide) (fun h5 => ?_) (fun h5 => ?_)
    · have hf := fx_t h5 hf
      exact kX1_prepare_b127 C hQ hk42 hf
    · have hf := fx_f h5 hf
      refine a_aload_n C dX1_prepare_75 rfl ?_
      refine a_get C eX1_prepare_68 dX1_prepare_76 4 rfl rfl ?_
      refine a_iload_n C dX1_prepare_79 rfl ?_
      refine a_iald C dX1_prepare_80 6 rfl h4 ?_
      refine a_if_le C 127 dX1_prepare_81 (by decide) (fun h6 => ?_) (fun h6 => ?_)
      · have hf := fx_t h6 hf
        exact kX1_prepare_b127 C hQ hk42 hf
      · have hf := fx_f h6 hf
        refine a_aload_n C dX1_prepare_84 rfl ?_
        refine a_dup C dX1_prepare_85 rfl ?_
        refine a_get C eX1_prepare_40 dX1_prepare_86 0 rfl rfl ?_
        refine a_iconst C (1 : Int32) dX1_prepare_89 (by decide) ?_
        refine a_iload_n C dX1_prepare_90 rfl ?_
        refine a_ishl C dX1_prepare_91 ?_
        refine a_ior C dX1_prepare_92 ?_
        refine a_put C eX1_prepare_40 tfX1_5 dX1_prepare_93 0 rfl rfl rfl (Nat.le_of_ble_eq_true rfl) ?_
        refine a_aload_n C dX1_prepare_96 rfl ?_
        refine a_get C eX1_prepare_18 dX1_prepare_97 0 rfl rfl ?_
        refine a_iload_n C dX1_prepare_100 rfl ?_
        refine a_aload_n C dX1_prepare_101 rfl ?_
        refine a_aload_n C dX1_prepare_102 rfl ?_
        refine a_iload_n C dX1_prepare_103 rfl ?_
        refine a_aload_n C dX1_prepare_104 rfl ?_
        refine a_get C eX1_prepare_25 dX1_prepare_105 0 rfl rfl ?_
        refine a_get C eX1_prepare_71 dX1_prepare_108 7 rfl rfl ?_
        refine a_iload_n C dX1_prepare_111 rfl ?_
        refine a_iald C dX1_prepare_112 10 rfl h4 ?_
        refine a_iload_n C dX1_prepare_113 rfl ?_
        refine a_iand C dX1_prepare_114 ?_
        refine a_if_eq C 122 dX1_prepare_115 (by decide) (fun h7 => ?_) (fun h7 => ?_)
        · have hf := fx_t h7 hf
          refine a_iconst C (0 : Int32) dX1_prepare_122 (by decide) ?_
          exact kX1_prepare_b123 C hQ hk42 hf
        · have hf := fx_f h7 hf
          refine a_iconst C (1 : Int32) dX1_prepare_118 (by decide) ?_
          refine a_goto C 123 dX1_prepare_119 (by decide) ?_
          exact kX1_prepare_b123 C hQ hk42 hf
set_option maxHeartbeats 400000 in
set_option maxRecDepth 100000 in
theorem kX1_prepare_b42 {X : cxT} {l : Launch} {D : va_G} {Y : Nat → ClassId} {ao aL aC ap1 : Nat → Nat} {io_able : Int32} {io_spells : Int32} {io_height : Int32} {co_place : Nat → Int32} {co_lack : Nat → Int32} {co_most : Nat → Int32} {ip1_moats : Int32} {ip1_spades : Int32} {ip1_tides : Int32} {cp1_wall : Nat → Int32} {cp1_mood : Nat → Int32} {iC_size : Int32} {cC_age : Nat → Int32} {cC_skill : Nat → Int32} {cC_pals : Nat → Int32} {iL_cells : Int32} {cL_base : Nat → Int32} {x2 : Int32} {x3 : Int32} {res : Int32 × (Nat → Int32) × (Nat → Int32) × (Nat → Int32)} (C : axC X l D Y cX1_prepare 4 RX1 wsX1_prepare rmX1_prepare none) (hQ : axQ X 0 0 (fun r9 w9 => r9 = none ∧ w9 = [oX1 ao aL aC res.1 io_spells io_height, rI Y (ao 1) 8 res.2.1, rI Y (ao 2) 12 res.2.2.1, rI Y (ao 3) 8 res.2.2.2, oX9 ap1 aL aC ip1_moats ip1_spades ip1_tides, rI Y (ap1 1) 12 cp1_wall, rI Y (ap1 3) 8 cp1_mood, oX2 aC iC_size, rI Y (aC 1) 8 cC_age, rI Y (aC 2) 8 cC_skill, rI Y (aC 4) 8 cC_pals, oX5 aL iL_cells, rI Y (aL 1) 12 cL_base])) (hf : fX1_prepare_b42 io_able io_spells io_height co_place co_lack co_most ip1_spades cp1_wall cp1_mood iC_size cC_age cC_skill cC_pals iL_cells cL_base x2 x3 = some res) : ax X 0 0 42 [some (.ref (ao 0)), some (.ref (ap1 0)), some (.int x2), some (.int x3)] [oX1 ao aL aC io_able io_spells io_height, rI Y (ao 1) 8 co_place, rI Y (ao 2) 12 co_lack, rI Y (ao 3) 8 co_most, oX9 ap1 aL aC ip1_moats ip1_spades ip1_tides, rI Y (ap1 1) 12 cp1_wall, rI Y (ap1 3) 8 cp1_mood, oX2 aC iC_size, rI Y (aC 1) 8 cC_age, rI Y (aC 2) 8 cC_skill, rI Y (aC 4) 8 cC_pals, oX5 aL iL_cells, rI Y (aL 1) 12 cL_base] [] := by
  unfold fX1_prepare_b42 at hf
  exact fx_loop (P := fun s : Int32 × (Nat → Int32) × (Nat → Int32) × Int32 => ax X 0 0 42 [some (.ref (ao 0)), some (.ref (ap1 0)), some (.int x2), some (.int s.2.2.2)] [oX1 ao aL aC s.1 io_spells io_height, rI Y (ao 1) 8 s.2.1, rI Y (ao 2) 12 co_lack, rI Y (ao 3) 8 s.2.2.1, oX9 ap1 aL aC ip1_moats ip1_spades ip1_tides, rI Y (ap1 1) 12 cp1_wall, rI Y (ap1 3) 8 cp1_mood, oX2 aC iC_size, rI Y (aC 1) 8 cC_age, rI Y (aC 2) 8 cC_skill, rI Y (aC 4) 8 cC_pals, oX5 aL iL_cells, rI Y (aL 1) 12 cL_base] []) (fun s k42 hk42 h => kX1_prepare_l42 C hQ hk42 h) FUEL (io_able, co_place, co_most, x3) hf
def fX1_prepare_b40 (io_able : Int32) (io_spells : Int32) (io_height : Int32) (co_place : Nat → Int32) (co_lack : Nat → Int32) (co_most : Nat → Int32) (ip1_spades : Int32) (cp1_wall : Nat → Int32) (cp1_mood : Nat → Int32) (iC_size : Int32) (cC_age : Nat → Int32) (cC_skill : Nat → Int32) (cC_pals : Nat → Int32) (iL_cells : Int32) (cL_base : Nat → Int32) (x2 : Int32) : Option (Int32 × (Nat → Int32) × (Nat → Int32) × (Nat → Int32)) :=
  fX1_prepare_b42 io_able io_spells io_height co_place co_lack co_most ip1_spades cp1_wall cp1_mood iC_size cC_age cC_skill cC_pals iL_cells cL_base x2 (0 : Int32)
set_option maxHeartbeats 400000 in
set_option maxRecDepth 100000 in
theorem kX1_prepare_b40 {X : cxT} {l : Launch} {D : va_G} {Y : Nat → ClassId} {ao aL aC ap1 : Nat → Nat} {io_able : Int32} {io_spells : Int32} {io_height : Int32} {co_place : Nat → Int32} {co_lack : Nat → Int32} {co_most : Nat → Int32} {ip1_moats : Int32} {ip1_spades : Int32} {ip1_tides : Int32} {cp1_wall : Nat → Int32} {cp1_mood : Nat → Int32} {iC_size : Int32} {cC_age : Nat → Int32} {cC_skill : Nat → Int32} {cC_pals : Nat → Int32} {iL_cells : Int32} {cL_base : Nat → Int32} {x2 : Int32} {res : Int32 × (Nat → Int32) × (Nat → Int32) × (Nat → Int32)} (C : axC X l D Y cX1_prepare 4 RX1 wsX1_prepare rmX1_prepare none) (hQ : axQ X 0 0 (fun r9 w9 => r9 = none ∧ w9 = [oX1 ao aL aC res.1 io_spells io_height, rI Y (ao 1) 8 res.2.1, rI Y (ao 2) 12 res.2.2.1, rI Y (ao 3) 8 res.2.2.2, oX9 ap1 aL aC ip1_moats ip1_spades ip1_tides, rI Y (ap1 1) 12 cp1_wall, rI Y (ap1 3) 8 cp1_mood, oX2 aC iC_size, rI Y (aC 1) 8 cC_age, rI Y (aC 2) 8 cC_skill, rI Y (aC 4) 8 cC_pals, oX5 aL iL_cells, rI Y (aL 1) 12 cL_base])) (hf : fX1_prepare_b40 io_able io_spells io_height co_place co_lack co_most ip1_spades cp1_wall cp1_mood iC_size cC_age cC_skill cC_pals iL_cells cL_base x2 = some res) : ax X 0 0 40 [some (.ref (ao 0)), some (.ref (ap1 0)), some (.int x2), none] [oX1 ao aL aC io_able io_spells io_height, rI Y (ao 1) 8 co_place, rI Y (ao 2) 12 co_lack, rI Y (ao 3) 8 co_most, oX9 ap1 aL aC ip1_moats ip1_spades ip1_tides, rI Y (ap1 1) 12 cp1_wall, rI Y (ap1 3) 8 cp1_mood, oX2 aC iC_size, rI Y (aC 1) 8 cC_age, rI Y (aC 2) 8 cC_skill, rI Y (aC 4) 8 cC_pals, oX5 aL iL_cells, rI Y (aL 1) 12 cL_base] [] := by
  unfold fX1_prepare_b40 at hf
  refine a_iconst C (0 : Int32) dX1_prepare_40 (by decide) ?_
  refine a_istore_n C dX1_prepare_41 (by decide) rfl ?_
  exact kX1_prepare_b42 C hQ hf
def fX1_prepare_l7 (io_able : Int32) (io_spells : Int32) (io_height : Int32) (co_place : Nat → Int32) (co_most : Nat → Int32) (ip1_spades : Int32) (cp1_wall : Nat → Int32) (cp1_mood : Nat → Int32) (iC_size : Int32) (cC_age : Nat → Int32) (cC_skill : Nat → Int32) (cC_pals : Nat → Int32) (iL_cells : Int32) (cL_base : Nat → Int32) (x2 : Int32) (k7 : (Nat → Int32) × Int32 → Option (Int32 × (Nat → Int32) × (Nat → Int32) × (Nat → Int32))) (co_lack : Nat → Int32) (x3 : Int32) : Option (Int32 × (Nat → Int32) × (Nat → Int32) × (Nat → Int32)) :=
  if iL_cells ≤ x3 then (fX1_prepare_b40 io_able io_spells io_height co_place co_lack co_most ip1_spades cp1_wall cp1_mood iC_size cC_age cC_skill cC_pals iL_cells cL_base x2) else ((fX9_top cp1_wall cL_base x3).bind (fun r9 => if inb x3 12 then k7 ((upd co_lack (Int32.toNatClampNeg x3) (io_height - r9)), (x3 + (1 : Int32))) else none))
def fX1_prepare_b7 (io_able : Int32) (io_spells : Int32) (io_height : Int32) (co_place : Nat → Int32) (co_lack : Nat → Int32) (co_most : Nat → Int32) (ip1_spades : Int32) (cp1_wall : Nat → Int32) (cp1_mood : Nat → Int32) (iC_size : Int32) (cC_age : Nat → Int32) (cC_skill : Nat → Int32) (cC_pals : Nat → Int32) (iL_cells : Int32) (cL_base : Nat → Int32) (x2 : Int32) (x3 : Int32) : Option (Int32 × (Nat → Int32) × (Nat → Int32) × (Nat → Int32)) :=
  loopN (fun (s : (Nat → Int32) × Int32) k7 => fX1_prepare_l7 io_able io_spells io_height co_place co_most ip1_spades cp1_wall cp1_mood iC_size cC_age cC_skill cC_pals iL_cells cL_base x2 k7 s.1 s.2) FUEL (co_lack, x3)
set_option maxHeartbeats 400000 in
set_option maxRecDepth 100000 in
theorem kX1_prepare_l7 {X : cxT} {l : Launch} {D : va_G} {Y : Nat → ClassId} {ao aL aC ap1 : Nat → Nat} {io_able : Int32} {io_spells : Int32} {io_height : Int32} {co_place : Nat → Int32} {co_lack : Nat → Int32} {co_most : Nat → Int32} {ip1_moats : Int32} {ip1_spades : Int32} {ip1_tides : Int32} {cp1_wall : Nat → Int32} {cp1_mood : Nat → Int32} {iC_size : Int32} {cC_age : Nat → Int32} {cC_skill : Nat → Int32} {cC_pals : Nat → Int32} {iL_cells : Int32} {cL_base : Nat → Int32} {x2 : Int32} {x3 : Int32} {res : Int32 × (Nat → Int32) × (Nat → Int32) × (Nat → Int32)} (C : axC X l D Y cX1_prepare 4 RX1 wsX1_prepare rmX1_prepare none) (hQ : axQ X 0 0 (fun r9 w9 => r9 = none ∧ w9 = [oX1 ao aL aC res.1 io_spells io_height, rI Y (ao 1) 8 res.2.1, rI Y (ao 2) 12 res.2.2.1, rI Y (ao 3) 8 res.2.2.2, oX9 ap1 aL aC ip1_moats ip1_spades ip1_tides, rI Y (ap1 1) 12 cp1_wall, rI Y (ap1 3) 8 cp1_mood, oX2 aC iC_size, rI Y (aC 1) 8 cC_age, rI Y (aC 2) 8 cC_skill, rI Y (aC 4) 8 cC_pals, oX5 aL iL_cells, rI Y (aL 1) 12 cL_base])) {k7 : (Nat → Int32) × Int32 → Option (Int32 × (Nat → Int32) × (Nat → Int32) × (Nat → Int32))} (hk7 : ∀ s : (Nat → Int32) × Int32, k7 s = some res → ax X 0 0 7 [some (.ref (ao 0)), some (.ref (ap1 0)), some (.int x2), some (.int s.2)] [oX1 ao aL aC io_able io_spells io_height, rI Y (ao 1) 8 co_place, rI Y (ao 2) 12 s.1, rI Y (ao 3) 8 co_most, oX9 ap1 aL aC ip1_moats ip1_spades ip1_tides, rI Y (ap1 1) 12 cp1_wall, rI Y (ap1 3) 8 cp1_mood, oX2 aC iC_size, rI Y (aC 1) 8 cC_age, rI Y (aC 2) 8 cC_skill, rI Y (aC 4) 8 cC_pals, oX5 aL iL_cells, rI Y (aL 1) 12 cL_base] []) (hf : fX1_prepare_l7 io_able io_spells io_height co_place co_most ip1_spades cp1_wall cp1_mood iC_size cC_age cC_skill cC_pals iL_cells cL_base x2 k7 co_lack x3 = some res) : ax X 0 0 7 [some (.ref (ao 0)), some (.ref (ap1 0)), some (.int x2), some (.int x3)] [oX1 ao aL aC io_able io_spells io_height, rI Y (ao 1) 8 co_place, rI Y (ao 2) 12 co_lack, rI Y (ao 3) 8 co_most, oX9 ap1 aL aC ip1_moats ip1_spades ip1_tides, rI Y (ap1 1) 12 cp1_wall, rI Y (ap1 3) 8 cp1_mood, oX2 aC iC_size, rI Y (aC 1) 8 cC_age, rI Y (aC 2) 8 cC_skill, rI Y (aC 4) 8 cC_pals, oX5 aL iL_cells, rI Y (aL 1) 12 cL_base] [] := by
  unfold fX1_prepare_l7 at hf
  refine a_iload_n C dX1_prepare_7 rfl ?_
  refine a_aload_n C dX1_prepare_8 rfl ?_
  refine a_get C eX1_prepare_21 dX1_prepare_9 0 rfl rfl ?_
  refine a_get C eX1_prepare_53 dX1_prepare_12 11 rfl rfl ?_
  refine a_icmp_ge C 40 dX1_prepare_15 (by decide) (fun h8 => ?_) (fun h8 => ?_)
  · have hf := fx_t h8 hf
    refine a_kill [3] ?_
    exact kX1_prepare_b40 C hQ hf
  · have hf := fx_f h8 hf
    refine a_aload_n C dX1_prepare_18 rfl ?_
    refine a_get C eX1_prepare_15 dX1_prepare_19 0 rfl rfl ?_
    refine a_iload_n C dX1_prepare_22 rfl ?_
    refine a_aload_n C dX1_prepare_23 rfl ?_
    refine a_get C eX1_prepare_33 dX1_prepare_24 0 rfl rfl ?_
    refine a_aload_n C dX1_prepare_27 rfl ?_
    refine a_iload_n C dX1_prepare_28 rfl ?_
    obtain ⟨r9, h9, hf⟩ := fx_bind hf
    refine a_fV C (kX9_top l D Y ap1 aL aC ip1_moats ip1_spades ip1_tides cp1_wall iL_cells cL_base x3 r9 h9) gX1_prepare_X9_top rfl dvX9_top ⟨⟨rfl, rfl⟩, ⟨Nat.le_of_ble_eq_true rfl, Nat.le_of_ble_eq_true rfl⟩, ⟨Nat.le_of_ble_eq_true rfl, Nat.le_of_ble_eq_true rfl⟩⟩ rfl (Nat.le_of_ble_eq_true rfl) dX1_prepare_29 rfl rfl [4, 5, 11, 12] [0, 1, 2, 3, 6, 7, 8, 9, 10] ⟨rfl, rfl, rfl, rfl, trivial⟩ rfl rfl [oX1 ao aL aC io_able io_spells io_height, rI Y (ao 1) 8 co_place, rI Y (ao 2) 12 co_lack, rI Y (ao 3) 8 co_most, oX9 ap1 aL aC ip1_moats ip1_spades ip1_tides, rI Y (ap1 1) 12 cp1_wall, rI Y (ap1 3) 8 cp1_mood, oX2 aC iC_size, rI Y (aC 1) 8 cC_age, rI Y (aC 2) 8 cC_skill, rI Y (aC 4) 8 cC_pals, oX5 aL iL_cells, rI Y (aL 1) 12 cL_base] ⟨rfl, rfl, rfl, rfl, trivial⟩ ⟨rfl, rfl, rfl, rfl, rfl, rfl, rfl, rfl, rfl, trivial⟩ rfl ?_
    refine a_isub C dX1_prepare_32 ?_
    obtain ⟨h10, hf⟩ := fx_ite hf
    refine a_iast C dX1_prepare_33 2 rfl h10 ?_
    refine a_iinc C (1 : Int32) dX1_prepare_34 (by decide) rfl (by decide) rfl ?_
    refine a_goto C 7 dX1_prepare_37 (by decide) ?_
    exact hk7 ((upd co_lack (Int32.toNatClampNeg x3) (io_height - r9)), (x3 + (1 : Int32))) hf
set_option maxHeartbeats 400000 in
set_option maxRecDepth 100000 in
theorem kX1_prepare_b7 {X : cxT} {l : Launch} {D : va_G} {Y : Nat → ClassId} {ao aL aC ap1 : Nat → Nat} {io_able : Int32} {io_spells : Int32} {io_height : Int32} {co_place : Nat → Int32} {co_lack : Nat → Int32} {co_most : Nat → Int32} {ip1_moats : Int32} {ip1_spades : Int32} {ip1_tides : Int32} {cp1_wall : Nat → Int32} {cp1_mood : Nat → Int32} {iC_size : Int32} {cC_age : Nat → Int32} {cC_skill : Nat → Int32} {cC_pals : Nat → Int32} {iL_cells : Int32} {cL_base : Nat → Int32} {x2 : Int32} {x3 : Int32} {res : Int32 × (Nat → Int32) × (Nat → Int32) × (Nat → Int32)} (C : axC X l D Y cX1_prepare 4 RX1 wsX1_prepare rmX1_prepare none) (hQ : axQ X 0 0 (fun r9 w9 => r9 = none ∧ w9 = [oX1 ao aL aC res.1 io_spells io_height, rI Y (ao 1) 8 res.2.1, rI Y (ao 2) 12 res.2.2.1, rI Y (ao 3) 8 res.2.2.2, oX9 ap1 aL aC ip1_moats ip1_spades ip1_tides, rI Y (ap1 1) 12 cp1_wall, rI Y (ap1 3) 8 cp1_mood, oX2 aC iC_size, rI Y (aC 1) 8 cC_age, rI Y (aC 2) 8 cC_skill, rI Y (aC 4) 8 cC_pals, oX5 aL iL_cells, rI Y (aL 1) 12 cL_base])) (hf : fX1_prepare_b7 io_able io_spells io_height co_place co_lack co_most ip1_spades cp1_wall cp1_mood iC_size cC_age cC_skill cC_pals iL_cells cL_base x2 x3 = some res) : ax X 0 0 7 [some (.ref (ao 0)), some (.ref (ap1 0)), some (.int x2), some (.int x3)] [oX1 ao aL aC io_able io_spells io_height, rI Y (ao 1) 8 co_place, rI Y (ao 2) 12 co_lack, rI Y (ao 3) 8 co_most, oX9 ap1 aL aC ip1_moats ip1_spades ip1_tides, rI Y (ap1 1) 12 cp1_wall, rI Y (ap1 3) 8 cp1_mood, oX2 aC iC_size, rI Y (aC 1) 8 cC_age, rI Y (aC 2) 8 cC_skill, rI Y (aC 4) 8 cC_pals, oX5 aL iL_cells, rI Y (aL 1) 12 cL_base] [] := by
  unfold fX1_prepare_b7 at hf
  exact fx_loop (P := fun s : (Nat → Int32) × Int32 => ax X 0 0 7 [some (.ref (ao 0)), some (.ref (ap1 0)), some (.int x2), some (.int s.2)] [oX1 ao aL aC io_able io_spells io_height, rI Y (ao 1) 8 co_place, rI Y (ao 2) 12 s.1, rI Y (ao 3) 8 co_most, oX9 ap1 aL aC ip1_moats ip1_spades ip1_tides, rI Y (ap1 1) 12 cp1_wall, rI Y (ap1 3) 8 cp1_mood, oX2 aC iC_size, rI Y (aC 1) 8 cC_age, rI Y (aC 2) 8 cC_skill, rI Y (aC 4) 8 cC_pals, oX5 aL iL_cells, rI Y (aL 1) 12 cL_base] []) (fun s k7 hk7 h => kX1_prepare_l7 C hQ hk7 h) FUEL (co_lack, x3) hf
def fX1_prepare (io_able : Int32) (io_spells : Int32) (io_height : Int32) (co_place : Nat → Int32) (co_lack : Nat → Int32) (co_most : Nat → Int32) (ip1_spades : Int32) (cp1_wall : Nat → Int32) (cp1_mood : Nat → Int32) (iC_size : Int32) (cC_age : Nat → Int32) (cC_skill : Nat → Int32) (cC_pals : Nat → Int32) (iL_cells : Int32) (cL_base : Nat → Int32) (x2 : Int32) : Option (Int32 × (Nat → Int32) × (Nat → Int32) × (Nat → Int32)) :=
  fX1_prepare_b7 (0 : Int32) io_spells io_height co_place co_lack co_most ip1_spades cp1_wall cp1_mood iC_size cC_age cC_skill cC_pals iL_cells cL_base x2 (0 : Int32)
set_option maxHeartbeats 400000 in
set_option maxRecDepth 100000 in
theorem kX1_prepare (l : Launch) (D : va_G) (Y : Nat → ClassId) (ao aL aC ap1 : Nat → Nat) (io_able : Int32) (io_spells : Int32) (io_height : Int32) (co_place : Nat → Int32) (co_lack : Nat → Int32) (co_most : Nat → Int32) (ip1_moats : Int32) (ip1_spades : Int32) (ip1_tides : Int32) (cp1_wall : Nat → Int32) (cp1_mood : Nat → Int32) (iC_size : Int32) (cC_age : Nat → Int32) (cC_skill : Nat → Int32) (cC_pals : Nat → Int32) (iL_cells : Int32) (cL_base : Nat → Int32) (x2 : Int32) (res : Int32 × (Nat → Int32) × (Nat → Int32) × (Nat → Int32)) (hf : fX1_prepare io_able io_spells io_height co_place co_lack co_most ip1_spades cp1_wall cp1_mood iC_size cC_age cC_skill cC_pals iL_cells cL_base x2 = some res) : amf l D Y yX1_prepare wsX1_prepare rmX1_prepare [.ref (ao 0), .ref (ap1 0), .int x2] [oX1 ao aL aC io_able io_spells io_height, rI Y (ao 1) 8 co_place, rI Y (ao 2) 12 co_lack, rI Y (ao 3) 8 co_most, oX9 ap1 aL aC ip1_moats ip1_spades ip1_tides, rI Y (ap1 1) 12 cp1_wall, rI Y (ap1 3) 8 cp1_mood, oX2 aC iC_size, rI Y (aC 1) 8 cC_age, rI Y (aC 2) 8 cC_skill, rI Y (aC 4) 8 cC_pals, oX5 aL iL_cells, rI Y (aL 1) 12 cL_base] none [oX1 ao aL aC res.1 io_spells io_height, rI Y (ao 1) 8 res.2.1, rI Y (ao 2) 12 res.2.2.1, rI Y (ao 3) 8 res.2.2.2, oX9 ap1 aL aC ip1_moats ip1_spades ip1_tides, rI Y (ap1 1) 12 cp1_wall, rI Y (ap1 3) 8 cp1_mood, oX2 aC iC_size, rI Y (aC 1) 8 cC_age, rI Y (aC 2) 8 cC_skill, rI Y (aC 4) 8 cC_pals, oX5 aL iL_cells, rI Y (aL 1) 12 cL_base] := by
  refine amf.of (cc := cX1_prepare) (maxL := 4) (rt := none) (by decide) rfl RX1 rfl (Nat.le_of_ble_eq_true rfl) [some (.ref (ao 0)), some (.ref (ap1 0)), some (.int x2), none] rfl ?_
  intro X C hQ
  unfold fX1_prepare at hf
  refine a_aload_n C dX1_prepare_0 rfl ?_
  refine a_iconst C (0 : Int32) dX1_prepare_1 (by decide) ?_
  refine a_put C eX1_prepare_40 tfX1_5 dX1_prepare_2 0 rfl rfl rfl (Nat.le_of_ble_eq_true rfl) ?_
  refine a_iconst C (0 : Int32) dX1_prepare_5 (by decide) ?_
  refine a_istore_n C dX1_prepare_6 (by decide) rfl ?_
  exact kX1_prepare_b7 C hQ hf
-- X1_settle
theorem dvX1_settle : yX1_settle.cls = RX1 ∧ yX1_settle.cls ≠ "java/lang/invoke/MethodHandle" ∧ yX1_settle.cls ≠ "java/lang/invoke/VarHandle" ∧ (parseMethodDescriptor yX1_settle.desc).map (fun d => d.parameters.length) = some 4 := by decide +kernel
def HX1_settle (l : Launch) (D : va_G) (Y : Nat → ClassId) (rm : Room) (fn : Int32 → Int32 → Int32 → (Nat → Int32) → (Nat → Int32) → (Nat → Int32) → Int32 → Int32 → Int32 → (Nat → Int32) → (Nat → Int32) → (Nat → Int32) → (Nat → Int32) → Int32 → Int32 → Int32 → (Nat → Int32) → (Nat → Int32) → (Nat → Int32) → (Nat → Int32) → Int32 → (Nat → Int32) → (Nat → Int32) → (Nat → Int32) → Int32 → (Nat → Int32) → Int32 → Int32 → Option (Int32 × (Nat → Int32) × (Nat → Int32) × Int32 × Int32 × Int32 × (Nat → Int32) × (Nat → Int32) × (Nat → Int32) × (Nat → Int32))) : Prop := ∀ (ao aL aC ap1 ap2 : Nat → Nat) (io_able : Int32) (io_spells : Int32) (io_height : Int32) (co_place : Nat → Int32) (co_lack : Nat → Int32) (co_most : Nat → Int32) (ip1_moats : Int32) (ip1_spades : Int32) (ip1_tides : Int32) (cp1_wall : Nat → Int32) (cp1_depth : Nat → Int32) (cp1_mood : Nat → Int32) (cp1_place : Nat → Int32) (ip2_moats : Int32) (ip2_spades : Int32) (ip2_tides : Int32) (cp2_wall : Nat → Int32) (cp2_depth : Nat → Int32) (cp2_mood : Nat → Int32) (cp2_place : Nat → Int32) (iC_size : Int32) (cC_age : Nat → Int32) (cC_skill : Nat → Int32) (cC_pals : Nat → Int32) (iL_cells : Int32) (cL_base : Nat → Int32) (x3 : Int32) (x4 : Int32) (res : Int32 × (Nat → Int32) × (Nat → Int32) × Int32 × Int32 × Int32 × (Nat → Int32) × (Nat → Int32) × (Nat → Int32) × (Nat → Int32)), fn io_able io_spells io_height co_place co_lack co_most ip1_moats ip1_spades ip1_tides cp1_wall cp1_depth cp1_mood cp1_place ip2_moats ip2_spades ip2_tides cp2_wall cp2_depth cp2_mood cp2_place iC_size cC_age cC_skill cC_pals iL_cells cL_base x3 x4 = some res → amf l D Y yX1_settle wsX1_settle rm [.ref (ao 0), .ref (ap1 0), .ref (ap2 0), .int x3, .int x4] [oX1 ao aL aC io_able io_spells io_height, rI Y (ao 1) 8 co_place, rI Y (ao 2) 12 co_lack, rI Y (ao 3) 8 co_most, oX9 ap1 aL aC ip1_moats ip1_spades ip1_tides, rI Y (ap1 1) 12 cp1_wall, rI Y (ap1 2) 12 cp1_depth, rI Y (ap1 3) 8 cp1_mood, rI Y (ap1 4) 8 cp1_place, oX9 ap2 aL aC ip2_moats ip2_spades ip2_tides, rI Y (ap2 1) 12 cp2_wall, rI Y (ap2 2) 12 cp2_depth, rI Y (ap2 3) 8 cp2_mood, rI Y (ap2 4) 8 cp2_place, oX2 aC iC_size, rI Y (aC 1) 8 cC_age, rI Y (aC 2) 8 cC_skill, rI Y (aC 4) 8 cC_pals, oX5 aL iL_cells, rI Y (aL 1) 12 cL_base] (some (.int res.1)) [oX1 ao aL aC io_able io_spells io_height, rI Y (ao 1) 8 res.2.1, rI Y (ao 2) 12 res.2.2.1, rI Y (ao 3) 8 co_most, oX9 ap1 aL aC ip1_moats ip1_spades ip1_tides, rI Y (ap1 1) 12 cp1_wall, rI Y (ap1 2) 12 cp1_depth, rI Y (ap1 3) 8 cp1_mood, rI Y (ap1 4) 8 cp1_place, oX9 ap2 aL aC res.2.2.2.1 res.2.2.2.2.1 res.2.2.2.2.2.1, rI Y (ap2 1) 12 res.2.2.2.2.2.2.1, rI Y (ap2 2) 12 res.2.2.2.2.2.2.2.1, rI Y (ap2 3) 8 res.2.2.2.2.2.2.2.2.1, rI Y (ap2 4) 8 res.2.2.2.2.2.2.2.2.2, oX2 aC iC_size, rI Y (aC 1) 8 cC_age, rI Y (aC 2) 8 cC_skill, rI Y (aC 4) 8 cC_pals, oX5 aL iL_cells, rI Y (aL 1) 12 cL_base]
abbrev rmX1_settle (f9 l9 : Nat) : Room := { frames := f9 + 5, cells := 0, slots := 0, locals := l9 + 111 }
theorem eX1_settle_inX1 : ∀ w ∈ wsX10, w ∈ wsX1_settle := by decide +kernel
theorem eX1_settle_9 : aF wsX1_settle RX1 9 1 2 := ⟨RX1, TX1, 8, rfl, eX1_settle_inX1, by decide, by decide +kernel⟩
theorem eX1_settle_21 : aF wsX1_settle RX1 21 1 0 := ⟨RX1, TX1, 8, rfl, eX1_settle_inX1, by decide, by decide +kernel⟩
theorem eX1_settle_inX5 : ∀ w ∈ wsX50, w ∈ wsX1_settle := by decide +kernel
theorem eX1_settle_53 : aF wsX1_settle RX1 53 5 0 := ⟨RX5, TX5, 5, rfl, eX1_settle_inX5, by decide, by decide +kernel⟩
theorem eX1_settle_15 : aF wsX1_settle RX1 15 1 3 := ⟨RX1, TX1, 8, rfl, eX1_settle_inX1, by decide, by decide +kernel⟩
theorem eX1_settle_18 : aF wsX1_settle RX1 18 1 4 := ⟨RX1, TX1, 8, rfl, eX1_settle_inX1, by decide, by decide +kernel⟩
theorem eX1_settle_25 : aF wsX1_settle RX1 25 1 1 := ⟨RX1, TX1, 8, rfl, eX1_settle_inX1, by decide, by decide +kernel⟩
theorem eX1_settle_inX2 : ∀ w ∈ wsX20, w ∈ wsX1_settle := by decide +kernel
theorem eX1_settle_63 : aF wsX1_settle RX1 63 2 0 := ⟨RX2, TX2, 5, rfl, eX1_settle_inX2, by decide, by decide +kernel⟩
theorem eX1_settle_40 : aF wsX1_settle RX1 40 1 5 := ⟨RX1, TX1, 8, rfl, eX1_settle_inX1, by decide, by decide +kernel⟩
def fX1_settle_b69 (rec_X1_settle : Int32 → Int32 → Int32 → (Nat → Int32) → (Nat → Int32) → (Nat → Int32) → Int32 → Int32 → Int32 → (Nat → Int32) → (Nat → Int32) → (Nat → Int32) → (Nat → Int32) → Int32 → Int32 → Int32 → (Nat → Int32) → (Nat → Int32) → (Nat → Int32) → (Nat → Int32) → Int32 → (Nat → Int32) → (Nat → Int32) → (Nat → Int32) → Int32 → (Nat → Int32) → Int32 → Int32 → Option (Int32 × (Nat → Int32) × (Nat → Int32) × Int32 × Int32 × Int32 × (Nat → Int32) × (Nat → Int32) × (Nat → Int32) × (Nat → Int32))) (io_able : Int32) (io_spells : Int32) (io_height : Int32) (co_place : Nat → Int32) (co_lack : Nat → Int32) (co_most : Nat → Int32) (ip1_moats : Int32) (ip1_spades : Int32) (ip1_tides : Int32) (cp1_wall : Nat → Int32) (cp1_depth : Nat → Int32) (cp1_mood : Nat → Int32) (cp1_place : Nat → Int32) (ip2_moats : Int32) (ip2_spades : Int32) (ip2_tides : Int32) (cp2_wall : Nat → Int32) (cp2_depth : Nat → Int32) (cp2_mood : Nat → Int32) (cp2_place : Nat → Int32) (iC_size : Int32) (cC_age : Nat → Int32) (cC_skill : Nat → Int32) (cC_pals : Nat → Int32) (iL_cells : Int32) (cL_base : Nat → Int32) : Option (Int32 × (Nat → Int32) × (Nat → Int32) × Int32 × Int32 × Int32 × (Nat → Int32) × (Nat → Int32) × (Nat → Int32) × (Nat → Int32)) :=
  some ((0 : Int32), co_place, co_lack, ip2_moats, ip2_spades, ip2_tides, cp2_wall, cp2_depth, cp2_mood, cp2_place)
set_option maxHeartbeats 400000 in
set_option maxRecDepth 100000 in
theorem kX1_settle_b69 {X : cxT} {l : Launch} {D : va_G} {Y : Nat → ClassId} {ao aL aC ap1 ap2 : Nat → Nat} {io_able : Int32} {io_spells : Int32} {io_height : Int32} {co_place : Nat → Int32} {co_lack : Nat → Int32} {co_most : Nat → Int32} {ip1_moats : Int32} {ip1_spades : Int32} {ip1_tides : Int32} {cp1_wall : Nat → Int32} {cp1_depth : Nat → Int32} {cp1_mood : Nat → Int32} {cp1_place : Nat → Int32} {ip2_moats : Int32} {ip2_spades : Int32} {ip2_tides : Int32} {cp2_wall : Nat → Int32} {cp2_depth : Nat → Int32} {cp2_mood : Nat → Int32} {cp2_place : Nat → Int32} {iC_size : Int32} {cC_age : Nat → Int32} {cC_skill : Nat → Int32} {cC_pals : Nat → Int32} {iL_cells : Int32} {cL_base : Nat → Int32} {res : Int32 × (Nat → Int32) × (Nat → Int32) × Int32 × Int32 × Int32 × (Nat → Int32) × (Nat → Int32) × (Nat → Int32) × (Nat → Int32)} {f9 l9 : Nat} {rec_X1_settle : Int32 → Int32 → Int32 → (Nat → Int32) → (Nat → Int32) → (Nat → Int32) → Int32 → Int32 → Int32 → (Nat → Int32) → (Nat → Int32) → (Nat → Int32) → (Nat → Int32) → Int32 → Int32 → Int32 → (Nat → Int32) → (Nat → Int32) → (Nat → Int32) → (Nat → Int32) → Int32 → (Nat → Int32) → (Nat → Int32) → (Nat → Int32) → Int32 → (Nat → Int32) → Int32 → Int32 → Option (Int32 × (Nat → Int32) × (Nat → Int32) × Int32 × Int32 × Int32 × (Nat → Int32) × (Nat → Int32) × (Nat → Int32) × (Nat → Int32))} (hrec_X1_settle : HX1_settle l D Y { frames := f9, cells := 0, slots := 0, locals := l9 } rec_X1_settle) (C : axC X l D Y cX1_settle 7 RX1 wsX1_settle (rmX1_settle f9 l9) (some .boolean)) (hQ : axQ X 0 0 (fun r9 w9 => r9 = (some (.int res.1)) ∧ w9 = [oX1 ao aL aC io_able io_spells io_height, rI Y (ao 1) 8 res.2.1, rI Y (ao 2) 12 res.2.2.1, rI Y (ao 3) 8 co_most, oX9 ap1 aL aC ip1_moats ip1_spades ip1_tides, rI Y (ap1 1) 12 cp1_wall, rI Y (ap1 2) 12 cp1_depth, rI Y (ap1 3) 8 cp1_mood, rI Y (ap1 4) 8 cp1_place, oX9 ap2 aL aC res.2.2.2.1 res.2.2.2.2.1 res.2.2.2.2.2.1, rI Y (ap2 1) 12 res.2.2.2.2.2.2.1, rI Y (ap2 2) 12 res.2.2.2.2.2.2.2.1, rI Y (ap2 3) 8 res.2.2.2.2.2.2.2.2.1, rI Y (ap2 4) 8 res.2.2.2.2.2.2.2.2.2, oX2 aC iC_size, rI Y (aC 1) 8 cC_age, rI Y (aC 2) 8 cC_skill, rI Y (aC 4) 8 cC_pals, oX5 aL iL_cells, rI Y (aL 1) 12 cL_base])) (hf : fX1_settle_b69 rec_X1_settle io_able io_spells io_height co_place co_lack co_most ip1_moats ip1_spades ip1_tides cp1_wall cp1_depth cp1_mood cp1_place ip2_moats ip2_spades ip2_tides cp2_wall cp2_depth cp2_mood cp2_place iC_size cC_age cC_skill cC_pals iL_cells cL_base = some res) : ax X 0 0 69 [none, none, none, none, none, none, none] [oX1 ao aL aC io_able io_spells io_height, rI Y (ao 1) 8 co_place, rI Y (ao 2) 12 co_lack, rI Y (ao 3) 8 co_most, oX9 ap1 aL aC ip1_moats ip1_spades ip1_tides, rI Y (ap1 1) 12 cp1_wall, rI Y (ap1 2) 12 cp1_depth, rI Y (ap1 3) 8 cp1_mood, rI Y (ap1 4) 8 cp1_place, oX9 ap2 aL aC ip2_moats ip2_spades ip2_tides, rI Y (ap2 1) 12 cp2_wall, rI Y (ap2 2) 12 cp2_depth, rI Y (ap2 3) 8 cp2_mood, rI Y (ap2 4) 8 cp2_place, oX2 aC iC_size, rI Y (aC 1) 8 cC_age, rI Y (aC 2) 8 cC_skill, rI Y (aC 4) 8 cC_pals, oX5 aL iL_cells, rI Y (aL 1) 12 cL_base] [] := by
  unfold fX1_settle_b69 at hf
  refine a_iconst C (0 : Int32) dX1_settle_69 (by decide) ?_
  obtain rfl := fx_some hf
  exact a_zret C hQ (Or.inl rfl) dX1_settle_70 ⟨rfl, rfl⟩
def fX1_settle_b154 (rec_X1_settle : Int32 → Int32 → Int32 → (Nat → Int32) → (Nat → Int32) → (Nat → Int32) → Int32 → Int32 → Int32 → (Nat → Int32) → (Nat → Int32) → (Nat → Int32) → (Nat → Int32) → Int32 → Int32 → Int32 → (Nat → Int32) → (Nat → Int32) → (Nat → Int32) → (Nat → Int32) → Int32 → (Nat → Int32) → (Nat → Int32) → (Nat → Int32) → Int32 → (Nat → Int32) → Int32 → Int32 → Option (Int32 × (Nat → Int32) × (Nat → Int32) × Int32 × Int32 × Int32 × (Nat → Int32) × (Nat → Int32) × (Nat → Int32) × (Nat → Int32))) (io_able : Int32) (io_spells : Int32) (io_height : Int32) (co_place : Nat → Int32) (co_lack : Nat → Int32) (co_most : Nat → Int32) (ip1_moats : Int32) (ip1_spades : Int32) (ip1_tides : Int32) (cp1_wall : Nat → Int32) (cp1_depth : Nat → Int32) (cp1_mood : Nat → Int32) (cp1_place : Nat → Int32) (ip2_moats : Int32) (ip2_spades : Int32) (ip2_tides : Int32) (cp2_wall : Nat → Int32) (cp2_depth : Nat → Int32) (cp2_mood : Nat → Int32) (cp2_place : Nat → Int32) (iC_size : Int32) (cC_age : Nat → Int32) (cC_skill : Nat → Int32) (cC_pals : Nat → Int32) (iL_cells : Int32) (cL_base : Nat → Int32) (x3 : Int32) : Option (Int32 × (Nat → Int32) × (Nat → Int32) × Int32 × Int32 × Int32 × (Nat → Int32) × (Nat → Int32) × (Nat → Int32) × (Nat → Int32)) :=
  if inb x3 8 then some ((0 : Int32), (upd co_place (Int32.toNatClampNeg x3) (-1 : Int32)), co_lack, ip2_moats, ip2_spades, ip2_tides, cp2_wall, cp2_depth, cp2_mood, cp2_place) else none
set_option maxHeartbeats 400000 in
set_option maxRecDepth 100000 in
theorem kX1_settle_b154 {X : cxT} {l : Launch} {D : va_G} {Y : Nat → ClassId} {ao aL aC ap1 ap2 : Nat → Nat} {io_able : Int32} {io_spells : Int32} {io_height : Int32} {co_place : Nat → Int32} {co_lack : Nat → Int32} {co_most : Nat → Int32} {ip1_moats : Int32} {ip1_spades : Int32} {ip1_tides : Int32} {cp1_wall : Nat → Int32} {cp1_depth : Nat → Int32} {cp1_mood : Nat → Int32} {cp1_place : Nat → Int32} {ip2_moats : Int32} {ip2_spades : Int32} {ip2_tides : Int32} {cp2_wall : Nat → Int32} {cp2_depth : Nat → Int32} {cp2_mood : Nat → Int32} {cp2_place : Nat → Int32} {iC_size : Int32} {cC_age : Nat → Int32} {cC_skill : Nat → Int32} {cC_pals : Nat → Int32} {iL_cells : Int32} {cL_base : Nat → Int32} {x3 : Int32} {res : Int32 × (Nat → Int32) × (Nat → Int32) × Int32 × Int32 × Int32 × (Nat → Int32) × (Nat → Int32) × (Nat → Int32) × (Nat → Int32)} {f9 l9 : Nat} {rec_X1_settle : Int32 → Int32 → Int32 → (Nat → Int32) → (Nat → Int32) → (Nat → Int32) → Int32 → Int32 → Int32 → (Nat → Int32) → (Nat → Int32) → (Nat → Int32) → (Nat → Int32) → Int32 → Int32 → Int32 → (Nat → Int32) → (Nat → Int32) → (Nat → Int32) → (Nat → Int32) → Int32 → (Nat → Int32) → (Nat → Int32) → (Nat → Int32) → Int32 → (Nat → Int32) → Int32 → Int32 → Option (Int32 × (Nat → Int32) × (Nat → Int32) × Int32 × Int32 × Int32 × (Nat → Int32) × (Nat → Int32) × (Nat → Int32) × (Nat → Int32))} (hrec_X1_settle : HX1_settle l D Y { frames := f9, cells := 0, slots := 0, locals := l9 } rec_X1_settle) (C : axC X l D Y cX1_settle 7 RX1 wsX1_settle (rmX1_settle f9 l9) (some .boolean)) (hQ : axQ X 0 0 (fun r9 w9 => r9 = (some (.int res.1)) ∧ w9 = [oX1 ao aL aC io_able io_spells io_height, rI Y (ao 1) 8 res.2.1, rI Y (ao 2) 12 res.2.2.1, rI Y (ao 3) 8 co_most, oX9 ap1 aL aC ip1_moats ip1_spades ip1_tides, rI Y (ap1 1) 12 cp1_wall, rI Y (ap1 2) 12 cp1_depth, rI Y (ap1 3) 8 cp1_mood, rI Y (ap1 4) 8 cp1_place, oX9 ap2 aL aC res.2.2.2.1 res.2.2.2.2.1 res.2.2.2.2.2.1, rI Y (ap2 1) 12 res.2.2.2.2.2.2.1, rI Y (ap2 2) 12 res.2.2.2.2.2.2.2.1, rI Y (ap2 3) 8 res.2.2.2.2.2.2.2.2.1, rI Y (ap2 4) 8 res.2.2.2.2.2.2.2.2.2, oX2 aC iC_size, rI Y (aC 1) 8 cC_age, rI Y (aC 2) 8 cC_skill, rI Y (aC 4) 8 cC_pals, oX5 aL iL_cells, rI Y (aL 1) 12 cL_base])) (hf : fX1_settle_b154 rec_X1_settle io_able io_spells io_height co_place co_lack co_most ip1_moats ip1_spades ip1_tides cp1_wall cp1_depth cp1_mood cp1_place ip2_moats ip2_spades ip2_tides cp2_wall cp2_depth cp2_mood cp2_place iC_size cC_age cC_skill cC_pals iL_cells cL_base x3 = some res) : ax X 0 0 154 [some (.ref (ao 0)), none, none, some (.int x3), none, none, none] [oX1 ao aL aC io_able io_spells io_height, rI Y (ao 1) 8 co_place, rI Y (ao 2) 12 co_lack, rI Y (ao 3) 8 co_most, oX9 ap1 aL aC ip1_moats ip1_spades ip1_tides, rI Y (ap1 1) 12 cp1_wall, rI Y (ap1 2) 12 cp1_depth, rI Y (ap1 3) 8 cp1_mood, rI Y (ap1 4) 8 cp1_place, oX9 ap2 aL aC ip2_moats ip2_spades ip2_tides, rI Y (ap2 1) 12 cp2_wall, rI Y (ap2 2) 12 cp2_depth, rI Y (ap2 3) 8 cp2_mood, rI Y (ap2 4) 8 cp2_place, oX2 aC iC_size, rI Y (aC 1) 8 cC_age, rI Y (aC 2) 8 cC_skill, rI Y (aC 4) 8 cC_pals, oX5 aL iL_cells, rI Y (aL 1) 12 cL_base] [] := by
  unfold fX1_settle_b154 at hf
  refine a_aload_n C dX1_settle_154 rfl ?_
  refine a_get C eX1_settle_9 dX1_settle_155 0 rfl rfl ?_
  refine a_iload_n C dX1_settle_158 rfl ?_
  refine a_iconst C (-1 : Int32) dX1_settle_159 (by decide) ?_
  obtain ⟨h1, hf⟩ := fx_ite hf
  refine a_iast C dX1_settle_160 1 rfl h1 ?_
  refine a_iconst C (0 : Int32) dX1_settle_161 (by decide) ?_
  obtain rfl := fx_some hf
  exact a_zret C hQ (Or.inl rfl) dX1_settle_162 ⟨rfl, rfl⟩
def fX1_settle_b146 (rec_X1_settle : Int32 → Int32 → Int32 → (Nat → Int32) → (Nat → Int32) → (Nat → Int32) → Int32 → Int32 → Int32 → (Nat → Int32) → (Nat → Int32) → (Nat → Int32) → (Nat → Int32) → Int32 → Int32 → Int32 → (Nat → Int32) → (Nat → Int32) → (Nat → Int32) → (Nat → Int32) → Int32 → (Nat → Int32) → (Nat → Int32) → (Nat → Int32) → Int32 → (Nat → Int32) → Int32 → Int32 → Option (Int32 × (Nat → Int32) × (Nat → Int32) × Int32 × Int32 × Int32 × (Nat → Int32) × (Nat → Int32) × (Nat → Int32) × (Nat → Int32))) (io_able : Int32) (io_spells : Int32) (io_height : Int32) (co_place : Nat → Int32) (co_lack : Nat → Int32) (co_most : Nat → Int32) (ip1_moats : Int32) (ip1_spades : Int32) (ip1_tides : Int32) (cp1_wall : Nat → Int32) (cp1_depth : Nat → Int32) (cp1_mood : Nat → Int32) (cp1_place : Nat → Int32) (ip2_moats : Int32) (ip2_spades : Int32) (ip2_tides : Int32) (cp2_wall : Nat → Int32) (cp2_depth : Nat → Int32) (cp2_mood : Nat → Int32) (cp2_place : Nat → Int32) (iC_size : Int32) (cC_age : Nat → Int32) (cC_skill : Nat → Int32) (cC_pals : Nat → Int32) (iL_cells : Int32) (cL_base : Nat → Int32) : Option (Int32 × (Nat → Int32) × (Nat → Int32) × Int32 × Int32 × Int32 × (Nat → Int32) × (Nat → Int32) × (Nat → Int32) × (Nat → Int32)) :=
  some ((1 : Int32), co_place, co_lack, ip2_moats, ip2_spades, ip2_tides, cp2_wall, cp2_depth, cp2_mood, cp2_place)
set_option maxHeartbeats 400000 in
set_option maxRecDepth 100000 in
theorem kX1_settle_b146 {X : cxT} {l : Launch} {D : va_G} {Y : Nat → ClassId} {ao aL aC ap1 ap2 : Nat → Nat} {io_able : Int32} {io_spells : Int32} {io_height : Int32} {co_place : Nat → Int32} {co_lack : Nat → Int32} {co_most : Nat → Int32} {ip1_moats : Int32} {ip1_spades : Int32} {ip1_tides : Int32} {cp1_wall : Nat → Int32} {cp1_depth : Nat → Int32} {cp1_mood : Nat → Int32} {cp1_place : Nat → Int32} {ip2_moats : Int32} {ip2_spades : Int32} {ip2_tides : Int32} {cp2_wall : Nat → Int32} {cp2_depth : Nat → Int32} {cp2_mood : Nat → Int32} {cp2_place : Nat → Int32} {iC_size : Int32} {cC_age : Nat → Int32} {cC_skill : Nat → Int32} {cC_pals : Nat → Int32} {iL_cells : Int32} {cL_base : Nat → Int32} {res : Int32 × (Nat → Int32) × (Nat → Int32) × Int32 × Int32 × Int32 × (Nat → Int32) × (Nat → Int32) × (Nat → Int32) × (Nat → Int32)} {f9 l9 : Nat} {rec_X1_settle : Int32 → Int32 → Int32 → (Nat → Int32) → (Nat → Int32) → (Nat → Int32) → Int32 → Int32 → Int32 → (Nat → Int32) → (Nat → Int32) → (Nat → Int32) → (Nat → Int32) → Int32 → Int32 → Int32 → (Nat → Int32) → (Nat → Int32) → (Nat → Int32) → (Nat → Int32) → Int32 → (Nat → Int32) → (Nat → Int32) → (Nat → Int32) → Int32 → (Nat → Int32) → Int32 → Int32 → Option (Int32 × (Nat → Int32) × (Nat → Int32) × Int32 × Int32 × Int32 × (Nat → Int32) × (Nat → Int32) × (Nat → Int32) × (Nat → Int32))} (hrec_X1_settle : HX1_settle l D Y { frames := f9, cells := 0, slots := 0, locals := l9 } rec_X1_settle) (C : axC X l D Y cX1_settle 7 RX1 wsX1_settle (rmX1_settle f9 l9) (some .boolean)) (hQ : axQ X 0 0 (fun r9 w9 => r9 = (some (.int res.1)) ∧ w9 = [oX1 ao aL aC io_able io_spells io_height, rI Y (ao 1) 8 res.2.1, rI Y (ao 2) 12 res.2.2.1, rI Y (ao 3) 8 co_most, oX9 ap1 aL aC ip1_moats ip1_spades ip1_tides, rI Y (ap1 1) 12 cp1_wall, rI Y (ap1 2) 12 cp1_depth, rI Y (ap1 3) 8 cp1_mood, rI Y (ap1 4) 8 cp1_place, oX9 ap2 aL aC res.2.2.2.1 res.2.2.2.2.1 res.2.2.2.2.2.1, rI Y (ap2 1) 12 res.2.2.2.2.2.2.1, rI Y (ap2 2) 12 res.2.2.2.2.2.2.2.1, rI Y (ap2 3) 8 res.2.2.2.2.2.2.2.2.1, rI Y (ap2 4) 8 res.2.2.2.2.2.2.2.2.2, oX2 aC iC_size, rI Y (aC 1) 8 cC_age, rI Y (aC 2) 8 cC_skill, rI Y (aC 4) 8 cC_pals, oX5 aL iL_cells, rI Y (aL 1) 12 cL_base])) (hf : fX1_settle_b146 rec_X1_settle io_able io_spells io_height co_place co_lack co_most ip1_moats ip1_spades ip1_tides cp1_wall cp1_depth cp1_mood cp1_place ip2_moats ip2_spades ip2_tides cp2_wall cp2_depth cp2_mood cp2_place iC_size cC_age cC_skill cC_pals iL_cells cL_base = some res) : ax X 0 0 146 [none, none, none, none, none, none, none] [oX1 ao aL aC io_able io_spells io_height, rI Y (ao 1) 8 co_place, rI Y (ao 2) 12 co_lack, rI Y (ao 3) 8 co_most, oX9 ap1 aL aC ip1_moats ip1_spades ip1_tides, rI Y (ap1 1) 12 cp1_wall, rI Y (ap1 2) 12 cp1_depth, rI Y (ap1 3) 8 cp1_mood, rI Y (ap1 4) 8 cp1_place, oX9 ap2 aL aC ip2_moats ip2_spades ip2_tides, rI Y (ap2 1) 12 cp2_wall, rI Y (ap2 2) 12 cp2_depth, rI Y (ap2 3) 8 cp2_mood, rI Y (ap2 4) 8 cp2_place, oX2 aC iC_size, rI Y (aC 1) 8 cC_age, rI Y (aC 2) 8 cC_skill, rI Y (aC 4) 8 cC_pals, oX5 aL iL_cells, rI Y (aL 1) 12 cL_base] [] := by
  unfold fX1_settle_b146 at hf
  refine a_iconst C (1 : Int32) dX1_settle_146 (by decide) ?_
  obtain rfl := fx_some hf
  exact a_zret C hQ (Or.inr rfl) dX1_settle_147 ⟨rfl, rfl⟩
def fX1_settle_l74 (rec_X1_settle : Int32 → Int32 → Int32 → (Nat → Int32) → (Nat → Int32) → (Nat → Int32) → Int32 → Int32 → Int32 → (Nat → Int32) → (Nat → Int32) → (Nat → Int32) → (Nat → Int32) → Int32 → Int32 → Int32 → (Nat → Int32) → (Nat → Int32) → (Nat → Int32) → (Nat → Int32) → Int32 → (Nat → Int32) → (Nat → Int32) → (Nat → Int32) → Int32 → (Nat → Int32) → Int32 → Int32 → Option (Int32 × (Nat → Int32) × (Nat → Int32) × Int32 × Int32 × Int32 × (Nat → Int32) × (Nat → Int32) × (Nat → Int32) × (Nat → Int32))) (io_able : Int32) (io_spells : Int32) (io_height : Int32) (co_most : Nat → Int32) (ip1_moats : Int32) (ip1_spades : Int32) (ip1_tides : Int32) (cp1_wall : Nat → Int32) (cp1_depth : Nat → Int32) (cp1_mood : Nat → Int32) (cp1_place : Nat → Int32) (iC_size : Int32) (cC_age : Nat → Int32) (cC_skill : Nat → Int32) (cC_pals : Nat → Int32) (iL_cells : Int32) (cL_base : Nat → Int32) (x3 : Int32) (x4 : Int32) (k74 : (Nat → Int32) × (Nat → Int32) × Int32 × Int32 × Int32 × (Nat → Int32) × (Nat → Int32) × (Nat → Int32) × (Nat → Int32) × Int32 → Option (Int32 × (Nat → Int32) × (Nat → Int32) × Int32 × Int32 × Int32 × (Nat → Int32) × (Nat → Int32) × (Nat → Int32) × (Nat → Int32))) (co_place : Nat → Int32) (co_lack : Nat → Int32) (ip2_moats : Int32) (ip2_spades : Int32) (ip2_tides : Int32) (cp2_wall : Nat → Int32) (cp2_depth : Nat → Int32) (cp2_mood : Nat → Int32) (cp2_place : Nat → Int32) (x5 : Int32) : Option (Int32 × (Nat → Int32) × (Nat → Int32) × Int32 × Int32 × Int32 × (Nat → Int32) × (Nat → Int32) × (Nat → Int32) × (Nat → Int32)) :=
  if iL_cells ≤ x5 then (fX1_settle_b154 rec_X1_settle io_able io_spells io_height co_place co_lack co_most ip1_moats ip1_spades ip1_tides cp1_wall cp1_depth cp1_mood cp1_place ip2_moats ip2_spades ip2_tides cp2_wall cp2_depth cp2_mood cp2_place iC_size cC_age cC_skill cC_pals iL_cells cL_base x3) else (if inb x3 8 then if inb x5 12 then (rec_X1_settle io_able io_spells io_height (upd co_place (Int32.toNatClampNeg x3) x5) (upd co_lack (Int32.toNatClampNeg x5) ((co_lack (Int32.toNatClampNeg x5)) - (co_most (Int32.toNatClampNeg x3)))) co_most ip1_moats ip1_spades ip1_tides cp1_wall cp1_depth cp1_mood cp1_place ip2_moats ip2_spades ip2_tides cp2_wall cp2_depth cp2_mood cp2_place iC_size cC_age cC_skill cC_pals iL_cells cL_base (x3 + (1 : Int32)) (x4 - (1 : Int32))).bind (fun r5 => if r5.1 = (0 : Int32) then (k74 (r5.2.1, (upd r5.2.2.1 (Int32.toNatClampNeg x5) ((r5.2.2.1 (Int32.toNatClampNeg x5)) + (co_most (Int32.toNatClampNeg x3)))), r5.2.2.2.1, r5.2.2.2.2.1, r5.2.2.2.2.2.1, r5.2.2.2.2.2.2.1, r5.2.2.2.2.2.2.2.1, r5.2.2.2.2.2.2.2.2.1, r5.2.2.2.2.2.2.2.2.2, (x5 + (1 : Int32)))) else (fX1_settle_b146 rec_X1_settle io_able io_spells io_height r5.2.1 (upd r5.2.2.1 (Int32.toNatClampNeg x5) ((r5.2.2.1 (Int32.toNatClampNeg x5)) + (co_most (Int32.toNatClampNeg x3)))) co_most ip1_moats ip1_spades ip1_tides cp1_wall cp1_depth cp1_mood cp1_place r5.2.2.2.1 r5.2.2.2.2.1 r5.2.2.2.2.2.1 r5.2.2.2.2.2.2.1 r5.2.2.2.2.2.2.2.1 r5.2.2.2.2.2.2.2.2.1 r5.2.2.2.2.2.2.2.2.2 iC_size cC_age cC_skill cC_pals iL_cells cL_base)) else none else none)
def fX1_settle_b74 (rec_X1_settle : Int32 → Int32 → Int32 → (Nat → Int32) → (Nat → Int32) → (Nat → Int32) → Int32 → Int32 → Int32 → (Nat → Int32) → (Nat → Int32) → (Nat → Int32) → (Nat → Int32) → Int32 → Int32 → Int32 → (Nat → Int32) → (Nat → Int32) → (Nat → Int32) → (Nat → Int32) → Int32 → (Nat → Int32) → (Nat → Int32) → (Nat → Int32) → Int32 → (Nat → Int32) → Int32 → Int32 → Option (Int32 × (Nat → Int32) × (Nat → Int32) × Int32 × Int32 × Int32 × (Nat → Int32) × (Nat → Int32) × (Nat → Int32) × (Nat → Int32))) (io_able : Int32) (io_spells : Int32) (io_height : Int32) (co_place : Nat → Int32) (co_lack : Nat → Int32) (co_most : Nat → Int32) (ip1_moats : Int32) (ip1_spades : Int32) (ip1_tides : Int32) (cp1_wall : Nat → Int32) (cp1_depth : Nat → Int32) (cp1_mood : Nat → Int32) (cp1_place : Nat → Int32) (ip2_moats : Int32) (ip2_spades : Int32) (ip2_tides : Int32) (cp2_wall : Nat → Int32) (cp2_depth : Nat → Int32) (cp2_mood : Nat → Int32) (cp2_place : Nat → Int32) (iC_size : Int32) (cC_age : Nat → Int32) (cC_skill : Nat → Int32) (cC_pals : Nat → Int32) (iL_cells : Int32) (cL_base : Nat → Int32) (x3 : Int32) (x4 : Int32) (x5 : Int32) : Option (Int32 × (Nat → Int32) × (Nat → Int32) × Int32 × Int32 × Int32 × (Nat → Int32) × (Nat → Int32) × (Nat → Int32) × (Nat → Int32)) :=
  loopN (fun (s : (Nat → Int32) × (Nat → Int32) × Int32 × Int32 × Int32 × (Nat → Int32) × (Nat → Int32) × (Nat → Int32) × (Nat → Int32) × Int32) k74 => fX1_settle_l74 rec_X1_settle io_able io_spells io_height co_most ip1_moats ip1_spades ip1_tides cp1_wall cp1_depth cp1_mood cp1_place iC_size cC_age cC_skill cC_pals iL_cells cL_base x3 x4 k74 s.1 s.2.1 s.2.2.1 s.2.2.2.1 s.2.2.2.2.1 s.2.2.2.2.2.1 s.2.2.2.2.2.2.1 s.2.2.2.2.2.2.2.1 s.2.2.2.2.2.2.2.2.1 s.2.2.2.2.2.2.2.2.2) FUEL (co_place, co_lack, ip2_moats, ip2_spades, ip2_tides, cp2_wall, cp2_depth, cp2_mood, cp2_place, x5)
set_option maxHeartbeats 400000 in
set_option maxRecDepth 100000 in
theorem kX1_settle_l74 {X : cxT} {l : Launch} {D : va_G} {Y : Nat → ClassId} {ao aL aC ap1 ap2 : Nat → Nat} {io_able : Int32} {io_spells : Int32} {io_height : Int32} {co_place : Nat → Int32} {co_lack : Nat → Int32} {co_most : Nat → Int32} {ip1_moats : Int32} {ip1_spades : Int32} {ip1_tides : Int32} {cp1_wall : Nat → Int32} {cp1_depth : Nat → Int32} {cp1_mood : Nat → Int32} {cp1_place : Nat → Int32} {ip2_moats : Int32} {ip2_spades : Int32} {ip2_tides : Int32} {cp2_wall : Nat → Int32} {cp2_depth : Nat → Int32} {cp2_mood : Nat → Int32} {cp2_place : Nat → Int32} {iC_size : Int32} {cC_age : Nat → Int32} {cC_skill : Nat → Int32} {cC_pals : Nat → Int32} {iL_cells : Int32} {cL_base : Nat → Int32} {x3 : Int32} {x4 : Int32} {x5 : Int32} {res : Int32 × (Nat → Int32) × (Nat → Int32) × Int32 × Int32 × Int32 × (Nat → Int32) × (Nat → Int32) × (Nat → Int32) × (Nat → Int32)} {f9 l9 : Nat} {rec_X1_settle : Int32 → Int32 → Int32 → (Nat → Int32) → (Nat → Int32) → (Nat → Int32) → Int32 → Int32 → Int32 → (Nat → Int32) → (Nat → Int32) → (Nat → Int32) → (Nat → Int32) → Int32 → Int32 → Int32 → (Nat → Int32) → (Nat → Int32) → (Nat → Int32) → (Nat → Int32) → Int32 → (Nat → Int32) → (Nat → Int32) → (Nat → Int32) → Int32 → (Nat → Int32) → Int32 → Int32 → Option (Int32 × (Nat → Int32) × (Nat → Int32) × Int32 × Int32 × Int32 × (Nat → Int32) × (Nat → Int32) × (Nat → Int32) × (Nat → Int32))} (hrec_X1_settle : HX1_settle l D Y { frames := f9, cells := 0, slots := 0, locals := l9 } rec_X1_settle) (C : axC X l D Y cX1_settle 7 RX1 wsX1_settle (rmX1_settle f9 l9) (some .boolean)) (hQ : axQ X 0 0 (fun r9 w9 => r9 = (some (.int res.1)) ∧ w9 = [oX1 ao aL aC io_able io_spells io_height, rI Y (ao 1) 8 res.2.1, rI Y (ao 2) 12 res.2.2.1, rI Y (ao 3) 8 co_most, oX9 ap1 aL aC ip1_moats ip1_spades ip1_tides, rI Y (ap1 1) 12 cp1_wall, rI Y (ap1 2) 12 cp1_depth, rI Y (ap1 3) 8 cp1_mood, rI Y (ap1 4) 8 cp1_place, oX9 ap2 aL aC res.2.2.2.1 res.2.2.2.2.1 res.2.2.2.2.2.1, rI Y (ap2 1) 12 res.2.2.2.2.2.2.1, rI Y (ap2 2) 12 res.2.2.2.2.2.2.2.1, rI Y (ap2 3) 8 res.2.2.2.2.2.2.2.2.1, rI Y (ap2 4) 8 res.2.2.2.2.2.2.2.2.2, oX2 aC iC_size, rI Y (aC 1) 8 cC_age, rI Y (aC 2) 8 cC_skill, rI Y (aC 4) 8 cC_pals, oX5 aL iL_cells, rI Y (aL 1) 12 cL_base])) {k74 : (Nat → Int32) × (Nat → Int32) × Int32 × Int32 × Int32 × (Nat → Int32) × (Nat → Int32) × (Nat → Int32) × (Nat → Int32) × Int32 → Option (Int32 × (Nat → Int32) × (Nat → Int32) × Int32 × Int32 × Int32 × (Nat → Int32) × (Nat → Int32) × (Nat → Int32) × (Nat → Int32))} (hk74 : ∀ s : (Nat → Int32) × (Nat → Int32) × Int32 × Int32 × Int32 × (Nat → Int32) × (Nat → Int32) × (Nat → Int32) × (Nat → Int32) × Int32, k74 s = some res → ax X 0 0 74 [some (.ref (ao 0)), some (.ref (ap1 0)), some (.ref (ap2 0)), some (.int x3), some (.int x4), some (.int s.2.2.2.2.2.2.2.2.2), none] [oX1 ao aL aC io_able io_spells io_height, rI Y (ao 1) 8 s.1, rI Y (ao 2) 12 s.2.1, rI Y (ao 3) 8 co_most, oX9 ap1 aL aC ip1_moats ip1_spades ip1_tides, rI Y (ap1 1) 12 cp1_wall, rI Y (ap1 2) 12 cp1_depth, rI Y (ap1 3) 8 cp1_mood, rI Y (ap1 4) 8 cp1_place, oX9 ap2 aL aC s.2.2.1 s.2.2.2.1 s.2.2.2.2.1, rI Y (ap2 1) 12 s.2.2.2.2.2.1, rI Y (ap2 2) 12 s.2.2.2.2.2.2.1, rI Y (ap2 3) 8 s.2.2.2.2.2.2.2.1, rI Y (ap2 4) 8 s.2.2.2.2.2.2.2.2.1, oX2 aC iC_size, rI Y (aC 1) 8 cC_age, rI Y (aC 2) 8 cC_skill, rI Y (aC 4) 8 cC_pals, oX5 aL iL_cells, rI Y (aL 1) 12 cL_base] []) (hf : fX1_settle_l74 rec_X1_settle io_able io_spells io_height co_most ip1_moats ip1_spades ip1_tides cp1_wall cp1_depth cp1_mood cp1_place iC_size cC_age cC_skill cC_pals iL_cells cL_base x3 x4 k74 co_place co_lack ip2_moats ip2_spades ip2_tides cp2_wall cp2_depth cp2_mood cp2_place x5 = some res) : ax X 0 0 74 [some (.ref (ao 0)), some (.ref (ap1 0)), some (.ref (ap2 0)), some (.int x3), some (.int x4), some (.int x5), none] [oX1 ao aL aC io_able io_spells io_height, rI Y (ao 1) 8 co_place, rI Y (ao 2) 12 co_lack, rI Y (ao 3) 8 co_most, oX9 ap1 aL aC ip1_moats ip1_spades ip1_tides, rI Y (ap1 1) 12 cp1_wall, rI Y (ap1 2) 12 cp1_depth, rI Y (ap1 3) 8 cp1_mood, rI Y (ap1 4) 8 cp1_place, oX9 ap2 aL aC ip2_moats ip2_spades ip2_tides, rI Y (ap2 1) 12 cp2_wall, rI Y (ap2 2) 12 cp2_depth, rI Y (ap2 3) 8 cp2_mood, rI Y (ap2 4) 8 cp2_place, oX2 aC iC_size, rI Y (aC 1) 8 cC_age, rI Y (aC 2) 8 cC_skill, rI Y (aC 4) 8 cC_pals, oX5 aL iL_cells, rI Y (aL 1) 12 cL_base] [] := by
  unfold fX1_settle_l74 at hf
  refine a_iload C dX1_settle_74 rfl ?_
  refine a_aload_n C dX1_settle_76 rfl ?_
  refine a_get C eX1_settle_21 dX1_settle_77 0 rfl rfl ?_
  refine a_get C eX1_settle_53 dX1_settle_80 18 rfl rfl ?_
  refine a_icmp_ge C 154 dX1_settle_83 (by decide) (fun h2 => ?_) (fun h2 => ?_)
  · have hf := fx_t h2 hf
    refine a_kill [1, 2, 4, 5] ?_
    exact kX1_settle_b154 hrec_X1_settle C hQ hf
  · have hf := fx_f h2 hf
    refine a_aload_n C dX1_settle_86 rfl ?_
    refine a_get C eX1_settle_9 dX1_settle_87 0 rfl rfl ?_
    refine a_iload_n C dX1_settle_90 rfl ?_
    refine a_iload C dX1_settle_91 rfl ?_
    obtain ⟨h3, hf⟩ := fx_ite hf
    refine a_iast C dX1_settle_93 1 rfl h3 ?_
    refine a_aload_n C dX1_settle_94 rfl ?_
    refine a_get C eX1_settle_15 dX1_settle_95 0 rfl rfl ?_
    refine a_iload C dX1_settle_98 rfl ?_
    refine a_dup2 C dX1_settle_100 rfl rfl ?_
    obtain ⟨h4, hf⟩ := fx_ite hf
    refine a_iald C dX1_settle_101 2 rfl h4 ?_
    refine a_aload_n C dX1_settle_102 rfl ?_
    refine a_get C eX1_settle_18 dX1_settle_103 0 rfl rfl ?_
    refine a_iload_n C dX1_settle_106 rfl ?_
    refine a_iald C dX1_settle_107 3 rfl h3 ?_
    refine a_isub C dX1_settle_108 ?_
    refine a_iast C dX1_settle_109 2 rfl h4 ?_
    refine a_aload_n C dX1_settle_110 rfl ?_
    refine a_aload_n C dX1_settle_111 rfl ?_
    refine a_aload_n C dX1_settle_112 rfl ?_
    refine a_iload_n C dX1_settle_113 rfl ?_
    refine a_iconst C (1 : Int32) dX1_settle_114 (by decide) ?_
    refine a_iadd C dX1_settle_115 ?_
    refine a_iload C dX1_settle_116 rfl ?_
    refine a_iconst C (1 : Int32) dX1_settle_118 (by decide) ?_
    refine a_isub C dX1_settle_119 ?_
    obtain ⟨r5, h5, hf⟩ := fx_bind hf
    refine a_fV C (hrec_X1_settle ao aL aC ap1 ap2 io_able io_spells io_height (upd co_place (Int32.toNatClampNeg x3) x5) (upd co_lack (Int32.toNatClampNeg x5) ((co_lack (Int32.toNatClampNeg x5)) - (co_most (Int32.toNatClampNeg x3)))) co_most ip1_moats ip1_spades ip1_tides cp1_wall cp1_depth cp1_mood cp1_place ip2_moats ip2_spades ip2_tides cp2_wall cp2_depth cp2_mood cp2_place iC_size cC_age cC_skill cC_pals iL_cells cL_base (x3 + (1 : Int32)) (x4 - (1 : Int32)) r5 h5) gX1_settle_X1_settle rfl dvX1_settle ⟨⟨rfl, rfl⟩, ⟨by dsimp only; omega, by dsimp only; omega⟩, ⟨Nat.le_of_ble_eq_true rfl, Nat.le_of_ble_eq_true rfl⟩⟩ rfl (Nat.le_of_ble_eq_true rfl) dX1_settle_120 rfl rfl [0, 1, 2, 3, 4, 5, 6, 7, 8, 9, 10, 11, 12, 13, 14, 15, 16, 17, 18, 19] [] ⟨rfl, rfl, rfl, rfl, rfl, rfl, rfl, rfl, rfl, rfl, rfl, rfl, rfl, rfl, rfl, rfl, rfl, rfl, rfl, rfl, trivial⟩ rfl rfl [oX1 ao aL aC io_able io_spells io_height, rI Y (ao 1) 8 r5.2.1, rI Y (ao 2) 12 r5.2.2.1, rI Y (ao 3) 8 co_most, oX9 ap1 aL aC ip1_moats ip1_spades ip1_tides, rI Y (ap1 1) 12 cp1_wall, rI Y (ap1 2) 12 cp1_depth, rI Y (ap1 3) 8 cp1_mood, rI Y (ap1 4) 8 cp1_place, oX9 ap2 aL aC r5.2.2.2.1 r5.2.2.2.2.1 r5.2.2.2.2.2.1, rI Y (ap2 1) 12 r5.2.2.2.2.2.2.1, rI Y (ap2 2) 12 r5.2.2.2.2.2.2.2.1, rI Y (ap2 3) 8 r5.2.2.2.2.2.2.2.2.1, rI Y (ap2 4) 8 r5.2.2.2.2.2.2.2.2.2, oX2 aC iC_size, rI Y (aC 1) 8 cC_age, rI Y (aC 2) 8 cC_skill, rI Y (aC 4) 8 cC_pals, oX5 aL iL_cells, rI Y (aL 1) 12 cL_base] ⟨rfl, rfl, rfl, rfl, rfl, rfl, rfl, rfl, rfl, rfl, rfl, rfl, rfl, rfl, rfl, rfl, rfl, rfl, rfl, rfl, trivial⟩ trivial rfl ?_
    refine a_istore C dX1_settle_123 (by decide) rfl ?_
    refine a_aload_n C dX1_settle_125 rfl ?_
    refine a_get C eX1_settle_15 dX1_settle_126 0 rfl rfl ?_
    refine a_iload C dX1_settle_129 rfl ?_
    refine a_dup2 C dX1_settle_131 rfl rfl ?_
    refine a_iald C dX1_settle_132 2 rfl h4 ?_
    refine a_aload_n C dX1_settle_133 rfl ?_
    refine a_get C eX1_settle_18 dX1_settle_134 0 rfl rfl ?_
    refine a_iload_n C dX1_settle_137 rfl ?_
    refine a_iald C dX1_settle_138 3 rfl h3 ?_
    refine a_iadd C dX1_settle_139 ?_
    refine a_iast C dX1_settle_140 2 rfl h4 ?_
    refine a_iload C dX1_settle_141 rfl ?_
    refine a_if_eq C 148 dX1_settle_143 (by decide) (fun h6 => ?_) (fun h6 => ?_)
    · have hf := fx_t h6 hf
      refine a_iinc C (1 : Int32) dX1_settle_148 (by decide) rfl (by decide) rfl ?_
      refine a_goto C 74 dX1_settle_151 (by decide) ?_
      refine a_kill [6] ?_
      exact hk74 (r5.2.1, (upd r5.2.2.1 (Int32.toNatClampNeg x5) ((r5.2.2.1 (Int32.toNatClampNeg x5)) + (co_most (Int32.toNatClampNeg x3)))), r5.2.2.2.1, r5.2.2.2.2.1, r5.2.2.2.2.2.1, r5.2.2.2.2.2.2.1, r5.2.2.2.2.2.2.2.1, r5.2.2.2.2.2.2.2.2.1, r5.2.2.2.2.2.2.2.2.2, (x5 + (1 : Int32))) hf
    · have hf := fx_f h6 hf
      refine a_kill [0, 1, 2, 3, 4, 5, 6] ?_
      exact kX1_settle_b146 hrec_X1_settle C hQ hf
set_option maxHeartbeats 400000 in
set_option maxRecDepth 100000 in
theorem kX1_settle_b74 {X : cxT} {l : Launch} {D : va_G} {Y : Nat → ClassId} {ao aL aC ap1 ap2 : Nat → Nat} {io_able : Int32} {io_spells : Int32} {io_height : Int32} {co_place : Nat → Int32} {co_lack : Nat → Int32} {co_most : Nat → Int32} {ip1_moats : Int32} {ip1_spades : Int32} {ip1_tides : Int32} {cp1_wall : Nat → Int32} {cp1_depth : Nat → Int32} {cp1_mood : Nat → Int32} {cp1_place : Nat → Int32} {ip2_moats : Int32} {ip2_spades : Int32} {ip2_tides : Int32} {cp2_wall : Nat → Int32} {cp2_depth : Nat → Int32} {cp2_mood : Nat → Int32} {cp2_place : Nat → Int32} {iC_size : Int32} {cC_age : Nat → Int32} {cC_skill : Nat → Int32} {cC_pals : Nat → Int32} {iL_cells : Int32} {cL_base : Nat → Int32} {x3 : Int32} {x4 : Int32} {x5 : Int32} {res : Int32 × (Nat → Int32) × (Nat → Int32) × Int32 × Int32 × Int32 × (Nat → Int32) × (Nat → Int32) × (Nat → Int32) × (Nat → Int32)} {f9 l9 : Nat} {rec_X1_settle : Int32 → Int32 → Int32 → (Nat → Int32) → (Nat → Int32) → (Nat → Int32) → Int32 → Int32 → Int32 → (Nat → Int32) → (Nat → Int32) → (Nat → Int32) → (Nat → Int32) → Int32 → Int32 → Int32 → (Nat → Int32) → (Nat → Int32) → (Nat → Int32) → (Nat → Int32) → Int32 → (Nat → Int32) → (Nat → Int32) → (Nat → Int32) → Int32 → (Nat → Int32) → Int32 → Int32 → Option (Int32 × (Nat → Int32) × (Nat → Int32) × Int32 × Int32 × Int32 × (Nat → Int32) × (Nat → Int32) × (Nat → Int32) × (Nat → Int32))} (hrec_X1_settle : HX1_settle l D Y { frames := f9, cells := 0, slots := 0, locals := l9 } rec_X1_settle) (C : axC X l D Y cX1_settle 7 RX1 wsX1_settle (rmX1_settle f9 l9) (some .boolean)) (hQ : axQ X 0 0 (fun r9 w9 => r9 = (some (.int res.1)) ∧ w9 = [oX1 ao aL aC io_able io_spells io_height, rI Y (ao 1) 8 res.2.1, rI Y (ao 2) 12 res.2.2.1, rI Y (ao 3) 8 co_most, oX9 ap1 aL aC ip1_moats ip1_spades ip1_tides, rI Y (ap1 1) 12 cp1_wall, rI Y (ap1 2) 12 cp1_depth, rI Y (ap1 3) 8 cp1_mood, rI Y (ap1 4) 8 cp1_place, oX9 ap2 aL aC res.2.2.2.1 res.2.2.2.2.1 res.2.2.2.2.2.1, rI Y (ap2 1) 12 res.2.2.2.2.2.2.1, rI Y (ap2 2) 12 res.2.2.2.2.2.2.2.1, rI Y (ap2 3) 8 res.2.2.2.2.2.2.2.2.1, rI Y (ap2 4) 8 res.2.2.2.2.2.2.2.2.2, oX2 aC iC_size, rI Y (aC 1) 8 cC_age, rI Y (aC 2) 8 cC_skill, rI Y (aC 4) 8 cC_pals, oX5 aL iL_cells, rI Y (aL 1) 12 cL_base])) (hf : fX1_settle_b74 rec_X1_settle io_able io_spells io_height co_place co_lack co_most ip1_moats ip1_spades ip1_tides cp1_wall cp1_depth cp1_mood cp1_place ip2_moats ip2_spades ip2_tides cp2_wall cp2_depth cp2_mood cp2_place iC_size cC_age cC_skill cC_pals iL_cells cL_base x3 x4 x5 = some res) : ax X 0 0 74 [some (.ref (ao 0)), some (.ref (ap1 0)), some (.ref (ap2 0)), some (.int x3), some (.int x4), some (.int x5), none] [oX1 ao aL aC io_able io_spells io_height, rI Y (ao 1) 8 co_place, rI Y (ao 2) 12 co_lack, rI Y (ao 3) 8 co_most, oX9 ap1 aL aC ip1_moats ip1_spades ip1_tides, rI Y (ap1 1) 12 cp1_wall, rI Y (ap1 2) 12 cp1_depth, rI Y (ap1 3) 8 cp1_mood, rI Y (ap1 4) 8 cp1_place, oX9 ap2 aL aC ip2_moats ip2_spades ip2_tides, rI Y (ap2 1) 12 cp2_wall, rI Y (ap2 2) 12 cp2_depth, rI Y (ap2 3) 8 cp2_mood, rI Y (ap2 4) 8 cp2_place, oX2 aC iC_size, rI Y (aC 1) 8 cC_age, rI Y (aC 2) 8 cC_skill, rI Y (aC 4) 8 cC_pals, oX5 aL iL_cells, rI Y (aL 1) 12 cL_base] [] := by
  unfold fX1_settle_b74 at hf
  exact fx_loop (P := fun s : (Nat → Int32) × (Nat → Int32) × Int32 × Int32 × Int32 × (Nat → Int32) × (Nat → Int32) × (Nat → Int32) × (Nat → Int32) × Int32 => ax X 0 0 74 [some (.ref (ao 0)), some (.ref (ap1 0)), some (.ref (ap2 0)), some (.int x3), some (.int x4), some (.int s.2.2.2.2.2.2.2.2.2), none] [oX1 ao aL aC io_able io_spells io_height, rI Y (ao 1) 8 s.1, rI Y (ao 2) 12 s.2.1, rI Y (ao 3) 8 co_most, oX9 ap1 aL aC ip1_moats ip1_spades ip1_tides, rI Y (ap1 1) 12 cp1_wall, rI Y (ap1 2) 12 cp1_depth, rI Y (ap1 3) 8 cp1_mood, rI Y (ap1 4) 8 cp1_place, oX9 ap2 aL aC s.2.2.1 s.2.2.2.1 s.2.2.2.2.1, rI Y (ap2 1) 12 s.2.2.2.2.2.1, rI Y (ap2 2) 12 s.2.2.2.2.2.2.1, rI Y (ap2 3) 8 s.2.2.2.2.2.2.2.1, rI Y (ap2 4) 8 s.2.2.2.2.2.2.2.2.1, oX2 aC iC_size, rI Y (aC 1) 8 cC_age, rI Y (aC 2) 8 cC_skill, rI Y (aC 4) 8 cC_pals, oX5 aL iL_cells, rI Y (aL 1) 12 cL_base] []) (fun s k74 hk74 h => kX1_settle_l74 hrec_X1_settle C hQ hk74 h) FUEL (co_place, co_lack, ip2_moats, ip2_spades, ip2_tides, cp2_wall, cp2_depth, cp2_mood, cp2_place, x5) hf
def fX1_settle_s (rec_X1_settle : Int32 → Int32 → Int32 → (Nat → Int32) → (Nat → Int32) → (Nat → Int32) → Int32 → Int32 → Int32 → (Nat → Int32) → (Nat → Int32) → (Nat → Int32) → (Nat → Int32) → Int32 → Int32 → Int32 → (Nat → Int32) → (Nat → Int32) → (Nat → Int32) → (Nat → Int32) → Int32 → (Nat → Int32) → (Nat → Int32) → (Nat → Int32) → Int32 → (Nat → Int32) → Int32 → Int32 → Option (Int32 × (Nat → Int32) × (Nat → Int32) × Int32 × Int32 × Int32 × (Nat → Int32) × (Nat → Int32) × (Nat → Int32) × (Nat → Int32))) (io_able : Int32) (io_spells : Int32) (io_height : Int32) (co_place : Nat → Int32) (co_lack : Nat → Int32) (co_most : Nat → Int32) (ip1_moats : Int32) (ip1_spades : Int32) (ip1_tides : Int32) (cp1_wall : Nat → Int32) (cp1_depth : Nat → Int32) (cp1_mood : Nat → Int32) (cp1_place : Nat → Int32) (ip2_moats : Int32) (ip2_spades : Int32) (ip2_tides : Int32) (cp2_wall : Nat → Int32) (cp2_depth : Nat → Int32) (cp2_mood : Nat → Int32) (cp2_place : Nat → Int32) (iC_size : Int32) (cC_age : Nat → Int32) (cC_skill : Nat → Int32) (cC_pals : Nat → Int32) (iL_cells : Int32) (cL_base : Nat → Int32) (x3 : Int32) (x4 : Int32) : Option (Int32 × (Nat → Int32) × (Nat → Int32) × Int32 × Int32 × Int32 × (Nat → Int32) × (Nat → Int32) × (Nat → Int32) × (Nat → Int32)) :=
  (fX1_hopeless io_able co_lack co_most iC_size iL_cells x3 x4).bind (fun r7 => if r7 = (0 : Int32) then (if x3 < iC_size then (if inb x3 8 then (rec_X1_settle io_able io_spells io_height (upd co_place (Int32.toNatClampNeg x3) (-1 : Int32)) co_lack co_most ip1_moats ip1_spades ip1_tides cp1_wall cp1_depth cp1_mood cp1_place ip2_moats ip2_spades ip2_tides cp2_wall cp2_depth cp2_mood cp2_place iC_size cC_age cC_skill cC_pals iL_cells cL_base (x3 + (1 : Int32)) x4).bind (fun r11 => if r11.1 = (0 : Int32) then (if x4 = (0 : Int32) then (fX1_settle_b69 rec_X1_settle io_able io_spells io_height r11.2.1 r11.2.2.1 co_most ip1_moats ip1_spades ip1_tides cp1_wall cp1_depth cp1_mood cp1_place r11.2.2.2.1 r11.2.2.2.2.1 r11.2.2.2.2.2.1 r11.2.2.2.2.2.2.1 r11.2.2.2.2.2.2.2.1 r11.2.2.2.2.2.2.2.2.1 r11.2.2.2.2.2.2.2.2.2 iC_size cC_age cC_skill cC_pals iL_cells cL_base) else (if ((jshr io_able x3) &&& (1 : Int32)) = (0 : Int32) then (fX1_settle_b69 rec_X1_settle io_able io_spells io_height r11.2.1 r11.2.2.1 co_most ip1_moats ip1_spades ip1_tides cp1_wall cp1_depth cp1_mood cp1_place r11.2.2.2.1 r11.2.2.2.2.1 r11.2.2.2.2.2.1 r11.2.2.2.2.2.2.1 r11.2.2.2.2.2.2.2.1 r11.2.2.2.2.2.2.2.2.1 r11.2.2.2.2.2.2.2.2.2 iC_size cC_age cC_skill cC_pals iL_cells cL_base) else (fX1_settle_b74 rec_X1_settle io_able io_spells io_height r11.2.1 r11.2.2.1 co_most ip1_moats ip1_spades ip1_tides cp1_wall cp1_depth cp1_mood cp1_place r11.2.2.2.1 r11.2.2.2.2.1 r11.2.2.2.2.2.1 r11.2.2.2.2.2.2.1 r11.2.2.2.2.2.2.2.1 r11.2.2.2.2.2.2.2.2.1 r11.2.2.2.2.2.2.2.2.2 iC_size cC_age cC_skill cC_pals iL_cells cL_base x3 x4 (0 : Int32)))) else (some ((1 : Int32), r11.2.1, r11.2.2.1, r11.2.2.2.1, r11.2.2.2.2.1, r11.2.2.2.2.2.1, r11.2.2.2.2.2.2.1, r11.2.2.2.2.2.2.2.1, r11.2.2.2.2.2.2.2.2.1, r11.2.2.2.2.2.2.2.2.2))) else none) else ((fX1_stands io_spells io_height co_place ip1_moats ip1_spades ip1_tides cp1_wall cp1_depth cp1_mood cp1_place ip2_moats ip2_spades ip2_tides cp2_wall cp2_depth cp2_mood cp2_place iC_size cC_age cC_skill cC_pals iL_cells cL_base).bind (fun r15 => if r15.1 = 0 ∨ r15.1 = 1 then some (r15.1, co_place, co_lack, r15.2.1, r15.2.2.1, r15.2.2.2.1, r15.2.2.2.2.1, r15.2.2.2.2.2.1, r15.2.2.2.2.2.2.1, r15.2.2.2.2.2.2.2) else none))) else (some ((0 : Int32), co_place, co_lack, ip2_moats, ip2_spades, ip2_tides, cp2_wall, cp2_depth, cp2_mood, cp2_place)))
set_option maxHeartbeats 400000 in
set_option maxRecDepth 100000 in
theorem kX1_settle_s (l : Launch) (D : va_G) (Y : Nat → ClassId) (f9 l9 : Nat) (rec_X1_settle : Int32 → Int32 → Int32 → (Nat → Int32) → (Nat → Int32) → (Nat → Int32) → Int32 → Int32 → Int32 → (Nat → Int32) → (Nat → Int32) → (Nat → Int32) → (Nat → Int32) → Int32 → Int32 → Int32 → (Nat → Int32) → (Nat → Int32) → (Nat → Int32) → (Nat → Int32) → Int32 → (Nat → Int32) → (Nat → Int32) → (Nat → Int32) → Int32 → (Nat → Int32) → Int32 → Int32 → Option (Int32 × (Nat → Int32) × (Nat → Int32) × Int32 × Int32 × Int32 × (Nat → Int32) × (Nat → Int32) × (Nat → Int32) × (Nat → Int32))) (hrec_X1_settle : HX1_settle l D Y { frames := f9, cells := 0, slots := 0, locals := l9 } rec_X1_settle) (ao aL aC ap1 ap2 : Nat → Nat) (io_able : Int32) (io_spells : Int32) (io_height : Int32) (co_place : Nat → Int32) (co_lack : Nat → Int32) (co_most : Nat → Int32) (ip1_moats : Int32) (ip1_spades : Int32) (ip1_tides : Int32) (cp1_wall : Nat → Int32) (cp1_depth : Nat → Int32) (cp1_mood : Nat → Int32) (cp1_place : Nat → Int32) (ip2_moats : Int32) (ip2_spades : Int32) (ip2_tides : Int32) (cp2_wall : Nat → Int32) (cp2_depth : Nat → Int32) (cp2_mood : Nat → Int32) (cp2_place : Nat → Int32) (iC_size : Int32) (cC_age : Nat → Int32) (cC_skill : Nat → Int32) (cC_pals : Nat → Int32) (iL_cells : Int32) (cL_base : Nat → Int32) (x3 : Int32) (x4 : Int32) (res : Int32 × (Nat → Int32) × (Nat → Int32) × Int32 × Int32 × Int32 × (Nat → Int32) × (Nat → Int32) × (Nat → Int32) × (Nat → Int32)) (hf : fX1_settle_s rec_X1_settle io_able io_spells io_height co_place co_lack co_most ip1_moats ip1_spades ip1_tides cp1_wall cp1_depth cp1_mood cp1_place ip2_moats ip2_spades ip2_tides cp2_wall cp2_depth cp2_mood cp2_place iC_size cC_age cC_skill cC_pals iL_cells cL_base x3 x4 = some res) : amf l D Y yX1_settle wsX1_settle (rmX1_settle f9 l9) [.ref (ao 0), .ref (ap1 0), .ref (ap2 0), .int x3, .int x4] [oX1 ao aL aC io_able io_spells io_height, rI Y (ao 1) 8 co_place, rI Y (ao 2) 12 co_lack, rI Y (ao 3) 8 co_most, oX9 ap1 aL aC ip1_moats ip1_spades ip1_tides, rI Y (ap1 1) 12 cp1_wall, rI Y (ap1 2) 12 cp1_depth, rI Y (ap1 3) 8 cp1_mood, rI Y (ap1 4) 8 cp1_place, oX9 ap2 aL aC ip2_moats ip2_spades ip2_tides, rI Y (ap2 1) 12 cp2_wall, rI Y (ap2 2) 12 cp2_depth, rI Y (ap2 3) 8 cp2_mood, rI Y (ap2 4) 8 cp2_place, oX2 aC iC_size, rI Y (aC 1) 8 cC_age, rI Y (aC 2) 8 cC_skill, rI Y (aC 4) 8 cC_pals, oX5 aL iL_cells, rI Y (aL 1) 12 cL_base] (some (.int res.1)) [oX1 ao aL aC io_able io_spells io_height, rI Y (ao 1) 8 res.2.1, rI Y (ao 2) 12 res.2.2.1, rI Y (ao 3) 8 co_most, oX9 ap1 aL aC ip1_moats ip1_spades ip1_tides, rI Y (ap1 1) 12 cp1_wall, rI Y (ap1 2) 12 cp1_depth, rI Y (ap1 3) 8 cp1_mood, rI Y (ap1 4) 8 cp1_place, oX9 ap2 aL aC res.2.2.2.1 res.2.2.2.2.1 res.2.2.2.2.2.1, rI Y (ap2 1) 12 res.2.2.2.2.2.2.1, rI Y (ap2 2) 12 res.2.2.2.2.2.2.2.1, rI Y (ap2 3) 8 res.2.2.2.2.2.2.2.2.1, rI Y (ap2 4) 8 res.2.2.2.2.2.2.2.2.2, oX2 aC iC_size, rI Y (aC 1) 8 cC_age, rI Y (aC 2) 8 cC_skill, rI Y (aC 4) 8 cC_pals, oX5 aL iL_cells, rI Y (aL 1) 12 cL_base] := by
  refine amf.of (cc := cX1_settle) (maxL := 7) (rt := (some .boolean)) (by decide) rfl RX1 rfl (Nat.le_of_ble_eq_true rfl) [some (.ref (ao 0)), some (.ref (ap1 0)), some (.ref (ap2 0)), some (.int x3), some (.int x4), none, none] rfl ?_
  intro X C hQ
  unfold fX1_settle_s at hf
  refine a_aload_n C dX1_settle_0 rfl ?_
  refine a_iload_n C dX1_settle_1 rfl ?_
  refine a_iload C dX1_settle_2 rfl ?_
  obtain ⟨r7, h7, hf⟩ := fx_bind hf
  refine a_fV C (kX1_hopeless l D Y ao aL aC io_able io_spells io_height co_lack co_most iC_size iL_cells x3 x4 r7 h7) gX1_settle_X1_hopeless rfl dvX1_hopeless ⟨⟨rfl, rfl⟩, ⟨by dsimp only; omega, by dsimp only; omega⟩, ⟨Nat.le_of_ble_eq_true rfl, Nat.le_of_ble_eq_true rfl⟩⟩ rfl (Nat.le_of_ble_eq_true rfl) dX1_settle_4 rfl rfl [0, 2, 3, 14, 18] [1, 4, 5, 6, 7, 8, 9, 10, 11, 12, 13, 15, 16, 17, 19] ⟨rfl, rfl, rfl, rfl, rfl, trivial⟩ rfl rfl [oX1 ao aL aC io_able io_spells io_height, rI Y (ao 1) 8 co_place, rI Y (ao 2) 12 co_lack, rI Y (ao 3) 8 co_most, oX9 ap1 aL aC ip1_moats ip1_spades ip1_tides, rI Y (ap1 1) 12 cp1_wall, rI Y (ap1 2) 12 cp1_depth, rI Y (ap1 3) 8 cp1_mood, rI Y (ap1 4) 8 cp1_place, oX9 ap2 aL aC ip2_moats ip2_spades ip2_tides, rI Y (ap2 1) 12 cp2_wall, rI Y (ap2 2) 12 cp2_depth, rI Y (ap2 3) 8 cp2_mood, rI Y (ap2 4) 8 cp2_place, oX2 aC iC_size, rI Y (aC 1) 8 cC_age, rI Y (aC 2) 8 cC_skill, rI Y (aC 4) 8 cC_pals, oX5 aL iL_cells, rI Y (aL 1) 12 cL_base] ⟨rfl, rfl, rfl, rfl, rfl, trivial⟩ ⟨rfl, rfl, rfl, rfl, rfl, rfl, rfl, rfl, rfl, rfl, rfl, rfl, rfl, rfl, rfl, trivial⟩ rfl ?_
  refine a_if_eq C 12 dX1_settle_7 (by decide) (fun h8 => ?_) (fun h8 => ?_)
  · have hf := fx_t h8 hf
    refine a_iload_n C dX1_settle_12 rfl ?_
    refine a_aload_n C dX1_settle_13 rfl ?_
    refine a_get C eX1_settle_25 dX1_settle_14 0 rfl rfl ?_
    refine a_get C eX1_settle_63 dX1_settle_17 14 rfl rfl ?_
    refine a_icmp_lt C 30 dX1_settle_20 (by decide) (fun h9 => ?_) (fun h9 => ?_)
    · have hf := fx_t h9 hf
      refine a_aload_n C dX1_settle_30 rfl ?_
      refine a_get C eX1_settle_9 dX1_settle_31 0 rfl rfl ?_
      refine a_iload_n C dX1_settle_34 rfl ?_
      refine a_iconst C (-1 : Int32) dX1_settle_35 (by decide) ?_
      obtain ⟨h10, hf⟩ := fx_ite hf
      refine a_iast C dX1_settle_36 1 rfl h10 ?_
      refine a_aload_n C dX1_settle_37 rfl ?_
      refine a_aload_n C dX1_settle_38 rfl ?_
      refine a_aload_n C dX1_settle_39 rfl ?_
      refine a_iload_n C dX1_settle_40 rfl ?_
      refine a_iconst C (1 : Int32) dX1_settle_41 (by decide) ?_
      refine a_iadd C dX1_settle_42 ?_
      refine a_iload C dX1_settle_43 rfl ?_
      obtain ⟨r11, h11, hf⟩ := fx_bind hf
      refine a_fV C (hrec_X1_settle ao aL aC ap1 ap2 io_able io_spells io_height (upd co_place (Int32.toNatClampNeg x3) (-1 : Int32)) co_lack co_most ip1_moats ip1_spades ip1_tides cp1_wall cp1_depth cp1_mood cp1_place ip2_moats ip2_spades ip2_tides cp2_wall cp2_depth cp2_mood cp2_place iC_size cC_age cC_skill cC_pals iL_cells cL_base (x3 + (1 : Int32)) x4 r11 h11) gX1_settle_X1_settle rfl dvX1_settle ⟨⟨rfl, rfl⟩, ⟨by dsimp only; omega, by dsimp only; omega⟩, ⟨Nat.le_of_ble_eq_true rfl, Nat.le_of_ble_eq_true rfl⟩⟩ rfl (Nat.le_of_ble_eq_true rfl) dX1_settle_45 rfl rfl [0, 1, 2, 3, 4, 5, 6, 7, 8, 9, 10, 11, 12, 13, 14, 15, 16, 17, 18, 19] [] ⟨rfl, rfl, rfl, rfl, rfl, rfl, rfl, rfl, rfl, rfl, rfl, rfl, rfl, rfl, rfl, rfl, rfl, rfl, rfl, rfl, trivial⟩ rfl rfl [oX1 ao aL aC io_able io_spells io_height, rI Y (ao 1) 8 r11.2.1, rI Y (ao 2) 12 r11.2.2.1, rI Y (ao 3) 8 co_most, oX9 ap1 aL aC ip1_moats ip1_spades ip1_tides, rI Y (ap1 1) 12 cp1_wall, rI Y (ap1 2) 12 cp1_depth, rI Y (ap1 3) 8 cp1_mood, rI Y (ap1 4) 8 cp1_place, oX9 ap2 aL aC r11.2.2.2.1 r11.2.2.2.2.1 r11.2.2.2.2.2.1, rI Y (ap2 1) 12 r11.2.2.2.2.2.2.1, rI Y (ap2 2) 12 r11.2.2.2.2.2.2.2.1, rI Y (ap2 3) 8 r11.2.2.2.2.2.2.2.2.1, rI Y (ap2 4) 8 r11.2.2.2.2.2.2.2.2.2, oX2 aC iC_size, rI Y (aC 1) 8 cC_age, rI Y (aC 2) 8 cC_skill, rI Y (aC 4) 8 cC_pals, oX5 aL iL_cells, rI Y (aL 1) 12 cL_base] ⟨rfl, rfl, rfl, rfl, rfl, rfl, rfl, rfl, rfl, rfl, rfl, rfl, rfl, rfl, rfl, rfl, rfl, rfl, rfl, rfl, trivial⟩ trivial rfl ?_
      refine a_if_eq C 53 dX1_settle_48 (by decide) (fun h12 => ?_) (fun h12 => ?_)
      · have hf := fx_t h12 hf
        refine a_iload C dX1_settle_53 rfl ?_
        refine a_if_eq C 69 dX1_settle_55 (by decide) (fun h13 => ?_) (fun h13 => ?_)
        · have hf := fx_t h13 hf
          refine a_kill [0, 1, 2, 3, 4] ?_
          exact kX1_settle_b69 hrec_X1_settle C hQ hf
        · have hf := fx_f h13 hf
          refine a_aload_n C dX1_settle_58 rfl ?_
          refine a_get C eX1_settle_40 dX1_settle_59 0 rfl rfl ?_
          refine a_iload_n C dX1_settle_62 rfl ?_
          refine a_ishr C dX1_settle_63 ?_
          refine a_iconst C (1 : Int32) dX1_settle_64 (by decide) ?_
          refine a_iand C dX1_settle_65 ?_
          refine a_if_ne C 71 dX1_settle_66 (by decide) (fun h14 => ?_) (fun h14 => ?_)
          · have hf := fx_f h14 hf
            refine a_iconst C (0 : Int32) dX1_settle_71 (by decide) ?_
            refine a_istore C dX1_settle_72 (by decide) rfl ?_
            exact kX1_settle_b74 hrec_X1_settle C hQ hf
          · have hf := fx_t h14 hf
            refine a_kill [0, 1, 2, 3, 4] ?_
            exact kX1_settle_b69 hrec_X1_settle C hQ hf
      · have hf := fx_f h12 hf
        refine a_iconst C (1 : Int32) dX1_settle_51 (by decide) ?_
        obtain rfl := fx_some hf
        exact a_zret C hQ (Or.inr rfl) dX1_settle_52 ⟨rfl, rfl⟩
    · have hf := fx_f h9 hf
      refine a_aload_n C dX1_settle_23 rfl ?_
      refine a_aload_n C dX1_settle_24 rfl ?_
      refine a_aload_n C dX1_settle_25 rfl ?_
      obtain ⟨r15, h15, hf⟩ := fx_bind hf
      refine a_fV C (kX1_stands l D Y ao aL aC ap1 ap2 io_able io_spells io_height co_place ip1_moats ip1_spades ip1_tides cp1_wall cp1_depth cp1_mood cp1_place ip2_moats ip2_spades ip2_tides cp2_wall cp2_depth cp2_mood cp2_place iC_size cC_age cC_skill cC_pals iL_cells cL_base r15 h15) gX1_settle_X1_stands rfl dvX1_stands ⟨⟨rfl, rfl⟩, ⟨by dsimp only; omega, by dsimp only; omega⟩, ⟨Nat.le_of_ble_eq_true rfl, Nat.le_of_ble_eq_true rfl⟩⟩ rfl (Nat.le_of_ble_eq_true rfl) dX1_settle_26 rfl rfl [0, 1, 4, 5, 6, 7, 8, 9, 10, 11, 12, 13, 14, 15, 16, 17, 18, 19] [2, 3] ⟨rfl, rfl, rfl, rfl, rfl, rfl, rfl, rfl, rfl, rfl, rfl, rfl, rfl, rfl, rfl, rfl, rfl, rfl, trivial⟩ rfl rfl [oX1 ao aL aC io_able io_spells io_height, rI Y (ao 1) 8 co_place, rI Y (ao 2) 12 co_lack, rI Y (ao 3) 8 co_most, oX9 ap1 aL aC ip1_moats ip1_spades ip1_tides, rI Y (ap1 1) 12 cp1_wall, rI Y (ap1 2) 12 cp1_depth, rI Y (ap1 3) 8 cp1_mood, rI Y (ap1 4) 8 cp1_place, oX9 ap2 aL aC r15.2.1 r15.2.2.1 r15.2.2.2.1, rI Y (ap2 1) 12 r15.2.2.2.2.1, rI Y (ap2 2) 12 r15.2.2.2.2.2.1, rI Y (ap2 3) 8 r15.2.2.2.2.2.2.1, rI Y (ap2 4) 8 r15.2.2.2.2.2.2.2, oX2 aC iC_size, rI Y (aC 1) 8 cC_age, rI Y (aC 2) 8 cC_skill, rI Y (aC 4) 8 cC_pals, oX5 aL iL_cells, rI Y (aL 1) 12 cL_base] ⟨rfl, rfl, rfl, rfl, rfl, rfl, rfl, rfl, rfl, rfl, rfl, rfl, rfl, rfl, rfl, rfl, rfl, rfl, trivial⟩ ⟨rfl, rfl, trivial⟩ rfl ?_
      obtain ⟨h16, hf⟩ := fx_ite hf
      obtain rfl := fx_some hf
      exact a_zret C hQ h16 dX1_settle_29 ⟨rfl, rfl⟩
  · have hf := fx_f h8 hf
    refine a_iconst C (0 : Int32) dX1_settle_10 (by decide) ?_
    obtain rfl := fx_some hf
    exact a_zret C hQ (Or.inl rfl) dX1_settle_11 ⟨rfl, rfl⟩
abbrev RMX1_settle (d : Nat) : Room := { frames := 5 * d, cells := 0, slots := 0, locals := 111 * d }
def fX1_settle : Nat → Int32 → Int32 → Int32 → (Nat → Int32) → (Nat → Int32) → (Nat → Int32) → Int32 → Int32 → Int32 → (Nat → Int32) → (Nat → Int32) → (Nat → Int32) → (Nat → Int32) → Int32 → Int32 → Int32 → (Nat → Int32) → (Nat → Int32) → (Nat → Int32) → (Nat → Int32) → Int32 → (Nat → Int32) → (Nat → Int32) → (Nat → Int32) → Int32 → (Nat → Int32) → Int32 → Int32 → Option (Int32 × (Nat → Int32) × (Nat → Int32) × Int32 × Int32 × Int32 × (Nat → Int32) × (Nat → Int32) × (Nat → Int32) × (Nat → Int32))
  | 0 => fun _ _ _ _ _ _ _ _ _ _ _ _ _ _ _ _ _ _ _ _ _ _ _ _ _ _ _ _ => none
  | d + 1 => fX1_settle_s (fX1_settle d)
theorem hX1_settle (l : Launch) (D : va_G) (Y : Nat → ClassId) : ∀ d : Nat, HX1_settle l D Y (RMX1_settle d) (fX1_settle d)
  | 0 => fun _ _ _ _ _ _ _ _ _ _ _ _ _ _ _ _ _ _ _ _ _ _ _ _ _ _ _ _ _ _ _ _ _ _ h => by cases h
  | d + 1 => fun ao aL aC ap1 ap2 io_able io_spells io_height co_place co_lack co_most ip1_moats ip1_spades ip1_tides cp1_wall cp1_depth cp1_mood cp1_place ip2_moats ip2_spades ip2_tides cp2_wall cp2_depth cp2_mood cp2_place iC_size cC_age cC_skill cC_pals iL_cells cL_base x3 x4 res h => kX1_settle_s l D Y (5 * d) (111 * d) (fX1_settle d) (hX1_settle l D Y d) ao aL aC ap1 ap2 io_able io_spells io_height co_place co_lack co_most ip1_moats ip1_spades ip1_tides cp1_wall cp1_depth cp1_mood cp1_place ip2_moats ip2_spades ip2_tides cp2_wall cp2_depth cp2_mood cp2_place iC_size cC_age cC_skill cC_pals iL_cells cL_base x3 x4 res h
abbrev rmX1_settle_12 : Room := RMX1_settle 12
theorem kX1_settle (l : Launch) (D : va_G) (Y : Nat → ClassId) (d : Nat) : HX1_settle l D Y (RMX1_settle d) (fX1_settle d) := hX1_settle l D Y d
-- X3_fillCell
abbrev rmX3_fillCell : Room := { frames := 1, cells := 0, slots := 0, locals := 25 }
theorem dvX3_fillCell : yX3_fillCell.cls = RX3 ∧ yX3_fillCell.cls ≠ "java/lang/invoke/MethodHandle" ∧ yX3_fillCell.cls ≠ "java/lang/invoke/VarHandle" ∧ (parseMethodDescriptor yX3_fillCell.desc).map (fun d => d.parameters.length) = some 2 := by decide +kernel
theorem eX3_fillCell_inX3 : ∀ w ∈ wsX30, w ∈ wsX3_fillCell := by decide +kernel
theorem eX3_fillCell_21 : aF wsX3_fillCell RX3 21 3 5 := ⟨RX3, TX3, 7, rfl, eX3_fillCell_inX3, by decide, by decide +kernel⟩
theorem eX3_fillCell_24 : aF wsX3_fillCell RX3 24 3 6 := ⟨RX3, TX3, 7, rfl, eX3_fillCell_inX3, by decide, by decide +kernel⟩
def fX3_fillCell_b41 (co_sums : Nat → Int32) (co_ways : Nat → Int32) (co_nextWays : Nat → Int32) : Option ((Nat → Int32) × (Nat → Int32)) :=
  some (co_nextWays, co_ways)
set_option maxHeartbeats 400000 in
set_option maxRecDepth 100000 in
theorem kX3_fillCell_b41 {X : cxT} {l : Launch} {D : va_G} {Y : Nat → ClassId} {ao aC : Nat → Nat} {io_cells : Int32} {co_amount : Nat → Int32} {co_open : Nat → Int32} {co_sums : Nat → Int32} {co_ways : Nat → Int32} {co_nextWays : Nat → Int32} {res : (Nat → Int32) × (Nat → Int32)} (C : axC X l D Y cX3_fillCell 4 RX3 wsX3_fillCell rmX3_fillCell none) {q0 : Nat} (hQ : axQ X 0 0 (fun r9 w9 => r9 = none ∧ ∃ ao_ : Nat → Nat, ao_ 0 = q0 ∧ w9 = [oX3 ao_ aC io_cells, rI Y (ao_ 1) 12 co_amount, rI Y (ao_ 2) 12 co_open, rI Y (ao_ 3) 256 co_sums, rI Y (ao_ 4) 256 res.1, rI Y (ao_ 5) 256 res.2])) (hq0 : ao 0 = q0) (hf : fX3_fillCell_b41 co_sums co_ways co_nextWays = some res) : ax X 0 0 41 [some (.ref (ao 0)), none, none, none] [oX3 ao aC io_cells, rI Y (ao 1) 12 co_amount, rI Y (ao 2) 12 co_open, rI Y (ao 3) 256 co_sums, rI Y (ao 4) 256 co_ways, rI Y (ao 5) 256 co_nextWays] [] := by
  unfold fX3_fillCell_b41 at hf
  refine a_aload_n C dX3_fillCell_41 rfl ?_
  refine a_get C eX3_fillCell_21 dX3_fillCell_42 0 rfl rfl ?_
  refine a_astore_n C dX3_fillCell_45 (by decide) rfl ?_
  refine a_aload_n C dX3_fillCell_46 rfl ?_
  refine a_aload_n C dX3_fillCell_47 rfl ?_
  refine a_get C eX3_fillCell_24 dX3_fillCell_48 0 rfl rfl ?_
  refine a_put C eX3_fillCell_21 tfX3_5 dX3_fillCell_51 0 rfl rfl rfl (Nat.le_of_ble_eq_true rfl) ?_
  refine a_aload_n C dX3_fillCell_54 rfl ?_
  refine a_aload_n C dX3_fillCell_55 rfl ?_
  refine a_put C eX3_fillCell_24 tfX3_6 dX3_fillCell_56 0 rfl rfl rfl (Nat.le_of_ble_eq_true rfl) ?_
  obtain rfl := fx_some hf
  refine a_perm [0, 1, 2, 3, 5, 4] [oX3 (swA 4 5 ao) aC io_cells, rI Y ((swA 4 5 ao) 1) 12 co_amount, rI Y ((swA 4 5 ao) 2) 12 co_open, rI Y ((swA 4 5 ao) 3) 256 co_sums, rI Y ((swA 4 5 ao) 4) 256 co_nextWays, rI Y ((swA 4 5 ao) 5) 256 co_ways] ⟨rfl, rfl, rfl, rfl, rfl, rfl, trivial⟩ rfl ?_
  exact a_vret C hQ dX3_fillCell_59 ⟨rfl, swA 4 5 ao, hq0, rfl⟩
def fX3_fillCell_b35 (co_sums : Nat → Int32) (co_ways : Nat → Int32) (co_nextWays : Nat → Int32) (x1 : Int32) (x2 : Int32) (x3 : Int32) (k10 : (Nat → Int32) × Int32 → Option ((Nat → Int32) × (Nat → Int32))) : Option ((Nat → Int32) × (Nat → Int32)) :=
  k10 (co_nextWays, (x3 + (1 : Int32)))
set_option maxHeartbeats 400000 in
set_option maxRecDepth 100000 in
theorem kX3_fillCell_b35 {X : cxT} {l : Launch} {D : va_G} {Y : Nat → ClassId} {ao aC : Nat → Nat} {io_cells : Int32} {co_amount : Nat → Int32} {co_open : Nat → Int32} {co_sums : Nat → Int32} {co_ways : Nat → Int32} {co_nextWays : Nat → Int32} {x1 : Int32} {x2 : Int32} {x3 : Int32} {res : (Nat → Int32) × (Nat → Int32)} (C : axC X l D Y cX3_fillCell 4 RX3 wsX3_fillCell rmX3_fillCell none) {q0 : Nat} (hQ : axQ X 0 0 (fun r9 w9 => r9 = none ∧ ∃ ao_ : Nat → Nat, ao_ 0 = q0 ∧ w9 = [oX3 ao_ aC io_cells, rI Y (ao_ 1) 12 co_amount, rI Y (ao_ 2) 12 co_open, rI Y (ao_ 3) 256 co_sums, rI Y (ao_ 4) 256 res.1, rI Y (ao_ 5) 256 res.2])) (hq0 : ao 0 = q0) {k10 : (Nat → Int32) × Int32 → Option ((Nat → Int32) × (Nat → Int32))} (hk10 : ∀ s : (Nat → Int32) × Int32, k10 s = some res → ∀ ao : Nat → Nat, ao 0 = q0 → ax X 0 0 10 [some (.ref (ao 0)), some (.int x1), some (.int x2), some (.int s.2)] [oX3 ao aC io_cells, rI Y (ao 1) 12 co_amount, rI Y (ao 2) 12 co_open, rI Y (ao 3) 256 co_sums, rI Y (ao 4) 256 co_ways, rI Y (ao 5) 256 s.1] []) (hf : fX3_fillCell_b35 co_sums co_ways co_nextWays x1 x2 x3 k10 = some res) : ax X 0 0 35 [some (.ref (ao 0)), some (.int x1), some (.int x2), some (.int x3)] [oX3 ao aC io_cells, rI Y (ao 1) 12 co_amount, rI Y (ao 2) 12 co_open, rI Y (ao 3) 256 co_sums, rI Y (ao 4) 256 co_ways, rI Y (ao 5) 256 co_nextWays] [] := by
  unfold fX3_fillCell_b35 at hf
  refine a_iinc C (1 : Int32) dX3_fillCell_35 (by decide) rfl (by decide) rfl ?_
  refine a_goto C 10 dX3_fillCell_38 (by decide) ?_
  exact hk10 (co_nextWays, (x3 + (1 : Int32))) hf _ hq0
def fX3_fillCell_l10 (co_sums : Nat → Int32) (co_ways : Nat → Int32) (x1 : Int32) (x2 : Int32) (k10 : (Nat → Int32) × Int32 → Option ((Nat → Int32) × (Nat → Int32))) (co_nextWays : Nat → Int32) (x3 : Int32) : Option ((Nat → Int32) × (Nat → Int32)) :=
  if x1 < x3 then (fX3_fillCell_b41 co_sums co_ways co_nextWays) else (if inb x3 256 then if (co_ways (Int32.toNatClampNeg x3)) = (0 : Int32) then (fX3_fillCell_b35 co_sums co_ways co_nextWays x1 x2 x3 k10) else ((fX3_addTeams co_sums co_ways co_nextWays x3 (x1 &&& (x3 ^^^ (-1 : Int32))) x2).bind (fun r4 => fX3_fillCell_b35 co_sums co_ways r4 x1 x2 x3 k10)) else none)
def fX3_fillCell_b10 (co_sums : Nat → Int32) (co_ways : Nat → Int32) (co_nextWays : Nat → Int32) (x1 : Int32) (x2 : Int32) (x3 : Int32) : Option ((Nat → Int32) × (Nat → Int32)) :=
  loopN (fun (s : (Nat → Int32) × Int32) k10 => fX3_fillCell_l10 co_sums co_ways x1 x2 k10 s.1 s.2) FUEL (co_nextWays, x3)
set_option maxHeartbeats 400000 in
set_option maxRecDepth 100000 in
theorem kX3_fillCell_l10 {X : cxT} {l : Launch} {D : va_G} {Y : Nat → ClassId} {ao aC : Nat → Nat} {io_cells : Int32} {co_amount : Nat → Int32} {co_open : Nat → Int32} {co_sums : Nat → Int32} {co_ways : Nat → Int32} {co_nextWays : Nat → Int32} {x1 : Int32} {x2 : Int32} {x3 : Int32} {res : (Nat → Int32) × (Nat → Int32)} (C : axC X l D Y cX3_fillCell 4 RX3 wsX3_fillCell rmX3_fillCell none) {q0 : Nat} (hQ : axQ X 0 0 (fun r9 w9 => r9 = none ∧ ∃ ao_ : Nat → Nat, ao_ 0 = q0 ∧ w9 = [oX3 ao_ aC io_cells, rI Y (ao_ 1) 12 co_amount, rI Y (ao_ 2) 12 co_open, rI Y (ao_ 3) 256 co_sums, rI Y (ao_ 4) 256 res.1, rI Y (ao_ 5) 256 res.2])) (hq0 : ao 0 = q0) {k10 : (Nat → Int32) × Int32 → Option ((Nat → Int32) × (Nat → Int32))} (hk10 : ∀ s : (Nat → Int32) × Int32, k10 s = some res → ∀ ao : Nat → Nat, ao 0 = q0 → ax X 0 0 10 [some (.ref (ao 0)), some (.int x1), some (.int x2), some (.int s.2)] [oX3 ao aC io_cells, rI Y (ao 1) 12 co_amount, rI Y (ao 2) 12 co_open, rI Y (ao 3) 256 co_sums, rI Y (ao 4) 256 co_ways, rI Y (ao 5) 256 s.1] []) (hf : fX3_fillCell_l10 co_sums co_ways x1 x2 k10 co_nextWays x3 = some res) : ax X 0 0 10 [some (.ref (ao 0)), some (.int x1), some (.int x2), some (.int x3)] [oX3 ao aC io_cells, rI Y (ao 1) 12 co_amount, rI Y (ao 2) 12 co_open, rI Y (ao 3) 256 co_sums, rI Y (ao 4) 256 co_ways, rI Y (ao 5) 256 co_nextWays] [] := by
  unfold fX3_fillCell_l10 at hf
  refine a_iload_n C dX3_fillCell_10 rfl ?_
  refine a_iload_n C dX3_fillCell_11 rfl ?_
  refine a_icmp_gt C 41 dX3_fillCell_12 (by decide) (fun h1 => ?_) (fun h1 => ?_)
  · have hf := fx_t h1 hf
    refine a_kill [1, 2, 3] ?_
    exact kX3_fillCell_b41 C hQ hq0 hf
  · have hf := fx_f h1 hf
    refine a_aload_n C dX3_fillCell_15 rfl ?_
    refine a_get C eX3_fillCell_21 dX3_fillCell_16 0 rfl rfl ?_
    refine a_iload_n C dX3_fillCell_19 rfl ?_
    obtain ⟨h2, hf⟩ := fx_ite hf
    refine a_iald C dX3_fillCell_20 4 rfl h2 ?_
    refine a_if_eq C 35 dX3_fillCell_21 (by decide) (fun h3 => ?_) (fun h3 => ?_)
    · have hf := fx_t h3 hf
      exact kX3_fillCell_b35 C hQ hq0 hk10 hf
    · have hf := fx_f h3 hf
      refine a_aload_n C dX3_fillCell_24 rfl ?_
      refine a_iload_n C dX3_fillCell_25 rfl ?_
      refine a_iload_n C dX3_fillCell_26 rfl ?_
      refine a_iload_n C dX3_fillCell_27 rfl ?_
      refine a_iconst C (-1 : Int32) dX3_fillCell_28 (by decide) ?_
      refine a_ixor C dX3_fillCell_29 ?_
      refine a_iand C dX3_fillCell_30 ?_
      refine a_iload_n C dX3_fillCell_31 rfl ?_
      obtain ⟨r4, h4, hf⟩ := fx_bind hf
      refine a_fV C (kX3_addTeams l D Y ao aC io_cells co_sums co_ways co_nextWays x3 (x1 &&& (x3 ^^^ (-1 : Int32))) x2 r4 h4) gX3_fillCell_X3_addTeams rfl dvX3_addTeams ⟨⟨rfl, rfl⟩, ⟨Nat.le_of_ble_eq_true rfl, Nat.le_of_ble_eq_true rfl⟩, ⟨Nat.le_of_ble_eq_true rfl, Nat.le_of_ble_eq_true rfl⟩⟩ rfl (Nat.le_of_ble_eq_true rfl) dX3_fillCell_32 rfl rfl [0, 3, 4, 5] [1, 2] ⟨rfl, rfl, rfl, rfl, trivial⟩ rfl rfl [oX3 ao aC io_cells, rI Y (ao 1) 12 co_amount, rI Y (ao 2) 12 co_open, rI Y (ao 3) 256 co_sums, rI Y (ao 4) 256 co_ways, rI Y (ao 5) 256 r4] ⟨rfl, rfl, rfl, rfl, trivial⟩ ⟨rfl, rfl, trivial⟩ rfl ?_
      exact kX3_fillCell_b35 C hQ hq0 hk10 hf
set_option maxHeartbeats 400000 in
set_option maxRecDepth 100000 in
theorem kX3_fillCell_b10 {X : cxT} {l : Launch} {D : va_G} {Y : Nat → ClassId} {ao aC : Nat → Nat} {io_cells : Int32} {co_amount : Nat → Int32} {co_open : Nat → Int32} {co_sums : Nat → Int32} {co_ways : Nat → Int32} {co_nextWays : Nat → Int32} {x1 : Int32} {x2 : Int32} {x3 : Int32} {res : (Nat → Int32) × (Nat → Int32)} (C : axC X l D Y cX3_fillCell 4 RX3 wsX3_fillCell rmX3_fillCell none) {q0 : Nat} (hQ : axQ X 0 0 (fun r9 w9 => r9 = none ∧ ∃ ao_ : Nat → Nat, ao_ 0 = q0 ∧ w9 = [oX3 ao_ aC io_cells, rI Y (ao_ 1) 12 co_amount, rI Y (ao_ 2) 12 co_open, rI Y (ao_ 3) 256 co_sums, rI Y (ao_ 4) 256 res.1, rI Y (ao_ 5) 256 res.2])) (hq0 : ao 0 = q0) (hf : fX3_fillCell_b10 co_sums co_ways co_nextWays x1 x2 x3 = some res) : ax X 0 0 10 [some (.ref (ao 0)), some (.int x1), some (.int x2), some (.int x3)] [oX3 ao aC io_cells, rI Y (ao 1) 12 co_amount, rI Y (ao 2) 12 co_open, rI Y (ao 3) 256 co_sums, rI Y (ao 4) 256 co_ways, rI Y (ao 5) 256 co_nextWays] [] := by
  unfold fX3_fillCell_b10 at hf
  exact fx_loop (P := fun s : (Nat → Int32) × Int32 => ∀ ao : Nat → Nat, ao 0 = q0 → ax X 0 0 10 [some (.ref (ao 0)), some (.int x1), some (.int x2), some (.int s.2)] [oX3 ao aC io_cells, rI Y (ao 1) 12 co_amount, rI Y (ao 2) 12 co_open, rI Y (ao 3) 256 co_sums, rI Y (ao 4) 256 co_ways, rI Y (ao 5) 256 s.1] []) (fun s k10 hk10 h ao hq0 => kX3_fillCell_l10 C hQ hq0 hk10 h) FUEL (co_nextWays, x3) hf _ hq0
def fX3_fillCell (co_sums : Nat → Int32) (co_ways : Nat → Int32) (co_nextWays : Nat → Int32) (x1 : Int32) (x2 : Int32) : Option ((Nat → Int32) × (Nat → Int32)) :=
  (fJ7_fill_53178 co_nextWays 256 (0 : Int32)).bind (fun r5 => fX3_fillCell_b10 co_sums co_ways r5 x1 x2 (0 : Int32))
set_option maxHeartbeats 400000 in
set_option maxRecDepth 100000 in
theorem kX3_fillCell (l : Launch) (D : va_G) (Y : Nat → ClassId) (ao aC : Nat → Nat) (io_cells : Int32) (co_amount : Nat → Int32) (co_open : Nat → Int32) (co_sums : Nat → Int32) (co_ways : Nat → Int32) (co_nextWays : Nat → Int32) (x1 : Int32) (x2 : Int32) (res : (Nat → Int32) × (Nat → Int32)) (hf : fX3_fillCell co_sums co_ways co_nextWays x1 x2 = some res) : am l D Y yX3_fillCell wsX3_fillCell rmX3_fillCell [.ref (ao 0), .int x1, .int x2] [oX3 ao aC io_cells, rI Y (ao 1) 12 co_amount, rI Y (ao 2) 12 co_open, rI Y (ao 3) 256 co_sums, rI Y (ao 4) 256 co_ways, rI Y (ao 5) 256 co_nextWays] 0 0 (fun r9 w9 => r9 = none ∧ ∃ ao_ : Nat → Nat, ao_ 0 = ao 0 ∧ w9 = [oX3 ao_ aC io_cells, rI Y (ao_ 1) 12 co_amount, rI Y (ao_ 2) 12 co_open, rI Y (ao_ 3) 256 co_sums, rI Y (ao_ 4) 256 res.1, rI Y (ao_ 5) 256 res.2]) := by
  refine am.of (cc := cX3_fillCell) (maxL := 4) (rt := none) (by decide) rfl RX3 rfl (Nat.le_of_ble_eq_true rfl) [some (.ref (ao 0)), some (.int x1), some (.int x2), none] rfl ?_
  intro X C hQ
  have hq0 : ao 0 = ao 0 := rfl
  unfold fX3_fillCell at hf
  refine a_aload_n C dX3_fillCell_0 rfl ?_
  refine a_get C eX3_fillCell_24 dX3_fillCell_1 0 rfl rfl ?_
  refine a_iconst C (0 : Int32) dX3_fillCell_4 (by decide) ?_
  obtain ⟨r5, h5, hf⟩ := fx_bind hf
  refine a_fS C (kJ7_fill_53178 l D Y (ao 5) co_nextWays 256 (0 : Int32) r5 h5) gX3_fillCell_J7_fill_53178 rfl dvJ7_fill_53178 ⟨⟨rfl, rfl⟩, ⟨Nat.le_of_ble_eq_true rfl, Nat.le_of_ble_eq_true rfl⟩, ⟨Nat.le_of_ble_eq_true rfl, Nat.le_of_ble_eq_true rfl⟩⟩ rfl (Nat.le_of_ble_eq_true rfl) dX3_fillCell_5 [5] [0, 1, 2, 3, 4] ⟨rfl, trivial⟩ rfl rfl [oX3 ao aC io_cells, rI Y (ao 1) 12 co_amount, rI Y (ao 2) 12 co_open, rI Y (ao 3) 256 co_sums, rI Y (ao 4) 256 co_ways, rI Y (ao 5) 256 r5] ⟨rfl, trivial⟩ ⟨rfl, rfl, rfl, rfl, rfl, trivial⟩ rfl ?_
  refine a_iconst C (0 : Int32) dX3_fillCell_8 (by decide) ?_
  refine a_istore_n C dX3_fillCell_9 (by decide) rfl ?_
  exact kX3_fillCell_b10 C hQ hq0 hf
