-- X6_readThing
theorem dvX6_readThing : yX6_readThing.cls = RX6 ∧ yX6_readThing.cls ≠ "java/lang/invoke/MethodHandle" ∧ yX6_readThing.cls ≠ "java/lang/invoke/VarHandle" ∧ (parseMethodDescriptor yX6_readThing.desc).map (fun d => d.parameters.length) = some 2 := by decide +kernel
theorem dvX6_readProduct : yX6_readProduct.cls = RX6 ∧ yX6_readProduct.cls ≠ "java/lang/invoke/MethodHandle" ∧ yX6_readProduct.cls ≠ "java/lang/invoke/VarHandle" ∧ (parseMethodDescriptor yX6_readProduct.desc).map (fun d => d.parameters.length) = some 2 := by decide +kernel
theorem dvX6_readSum : yX6_readSum.cls = RX6 ∧ yX6_readSum.cls ≠ "java/lang/invoke/MethodHandle" ∧ yX6_readSum.cls ≠ "java/lang/invoke/VarHandle" ∧ (parseMethodDescriptor yX6_readSum.desc).map (fun d => d.parameters.length) = some 2 := by decide +kernel
theorem dvX6_readComparison : yX6_readComparison.cls = RX6 ∧ yX6_readComparison.cls ≠ "java/lang/invoke/MethodHandle" ∧ yX6_readComparison.cls ≠ "java/lang/invoke/VarHandle" ∧ (parseMethodDescriptor yX6_readComparison.desc).map (fun d => d.parameters.length) = some 2 := by decide +kernel
def HX6_readComparison (l : Launch) (D : va_G) (Y : Nat → ClassId) (rm : Room) (fn : Int32 → Int32 → Int32 → Int32 → (Nat → Int32) → Int32 → (Nat → Int32) → Int32 → Option (Int32 × Int32 × Int32 × Int32 × (Nat → Int32))) : Prop := ∀ (ao ap1 : Nat → Nat) (io_length : Int32) (io_at : Int32) (io_sign : Int32) (io_bad : Int32) (co_codes : Nat → Int32) (ip1_length : Int32) (cp1_signs : Nat → Int32) (x2 : Int32) (res : Int32 × Int32 × Int32 × Int32 × (Nat → Int32)), fn io_length io_at io_sign io_bad co_codes ip1_length cp1_signs x2 = some res → amf l D Y yX6_readComparison wsX6_readComparison rm [.ref (ao 0), .ref (ap1 0), .int x2] [oX6 ao io_length io_at io_sign io_bad, rI Y (ao 1) 40 co_codes, oX10 ap1 ip1_length, rC Y (ap1 1) 80 cp1_signs] none [oX6 ao res.1 res.2.1 res.2.2.1 res.2.2.2.1, rI Y (ao 1) 40 res.2.2.2.2, oX10 ap1 ip1_length, rC Y (ap1 1) 80 cp1_signs]
abbrev rmX6_readThing (f9 l9 : Nat) : Room := { frames := f9 + 3, cells := 0, slots := 0, locals := l9 + 66 }
theorem eX6_readThing_inX6 : ∀ w ∈ wsX60, w ∈ wsX6_readThing := by decide +kernel
theorem eX6_readThing_54 : aF wsX6_readThing RX6 54 6 4 := ⟨RX6, TX6, 6, rfl, eX6_readThing_inX6, by decide, by decide +kernel⟩
theorem eX6_readThing_iX11 : Cond.initialized yX11_isDigit.cls ∈ wsX6_readThing := by decide +kernel
theorem eX6_readThing_sX11_isDigit : Cond.static yX11_isDigit ∈ wsX6_readThing := by decide +kernel
def fX6_readThing_b156 (rec_X6_readComparison : Int32 → Int32 → Int32 → Int32 → (Nat → Int32) → Int32 → (Nat → Int32) → Int32 → Option (Int32 × Int32 × Int32 × Int32 × (Nat → Int32))) (io_length : Int32) (io_at : Int32) (io_sign : Int32) (io_bad : Int32) (co_codes : Nat → Int32) (ip1_length : Int32) (cp1_signs : Nat → Int32) : Option (Int32 × Int32 × Int32 × Int32 × (Nat → Int32)) :=
  some (io_length, io_at, io_sign, io_bad, co_codes)
set_option maxHeartbeats 400000 in
set_option maxRecDepth 100000 in
theorem kX6_readThing_b156 {X : cxT} {l : Launch} {D : va_G} {Y : Nat → ClassId} {ao ap1 : Nat → Nat} {io_length : Int32} {io_at : Int32} {io_sign : Int32} {io_bad : Int32} {co_codes : Nat → Int32} {ip1_length : Int32} {cp1_signs : Nat → Int32} {res : Int32 × Int32 × Int32 × Int32 × (Nat → Int32)} {f9 l9 : Nat} {rec_X6_readComparison : Int32 → Int32 → Int32 → Int32 → (Nat → Int32) → Int32 → (Nat → Int32) → Int32 → Option (Int32 × Int32 × Int32 × Int32 × (Nat → Int32))} (hrec_X6_readComparison : HX6_readComparison l D Y { frames := f9, cells := 0, slots := 0, locals := l9 } rec_X6_readComparison) (C : axC X l D Y cX6_readThing 5 RX6 wsX6_readThing (rmX6_readThing f9 l9) none) (hQ : axQ X 0 0 (fun r9 w9 => r9 = none ∧ w9 = [oX6 ao res.1 res.2.1 res.2.2.1 res.2.2.2.1, rI Y (ao 1) 40 res.2.2.2.2, oX10 ap1 ip1_length, rC Y (ap1 1) 80 cp1_signs])) (hf : fX6_readThing_b156 rec_X6_readComparison io_length io_at io_sign io_bad co_codes ip1_length cp1_signs = some res) : ax X 0 0 156 [none, none, none, none, none] [oX6 ao io_length io_at io_sign io_bad, rI Y (ao 1) 40 co_codes, oX10 ap1 ip1_length, rC Y (ap1 1) 80 cp1_signs] [] := by
  unfold fX6_readThing_b156 at hf
  obtain rfl := fx_some hf
  exact a_vret C hQ dX6_readThing_156 ⟨rfl, rfl⟩
def fX6_readThing_b146 (rec_X6_readComparison : Int32 → Int32 → Int32 → Int32 → (Nat → Int32) → Int32 → (Nat → Int32) → Int32 → Option (Int32 × Int32 × Int32 × Int32 × (Nat → Int32))) (io_length : Int32) (io_at : Int32) (io_sign : Int32) (io_bad : Int32) (co_codes : Nat → Int32) (ip1_length : Int32) (cp1_signs : Nat → Int32) (x3 : Int32) : Option (Int32 × Int32 × Int32 × Int32 × (Nat → Int32)) :=
  if x3 = (0 : Int32) then (fX6_readThing_b156 rec_X6_readComparison io_length io_at io_sign io_bad co_codes ip1_length cp1_signs) else ((fX6_put io_length co_codes (-8 : Int32)).bind (fun r2 => fX6_readThing_b156 rec_X6_readComparison r2.1 io_at io_sign io_bad r2.2 ip1_length cp1_signs))
set_option maxHeartbeats 400000 in
set_option maxRecDepth 100000 in
theorem kX6_readThing_b146 {X : cxT} {l : Launch} {D : va_G} {Y : Nat → ClassId} {ao ap1 : Nat → Nat} {io_length : Int32} {io_at : Int32} {io_sign : Int32} {io_bad : Int32} {co_codes : Nat → Int32} {ip1_length : Int32} {cp1_signs : Nat → Int32} {x3 : Int32} {res : Int32 × Int32 × Int32 × Int32 × (Nat → Int32)} {f9 l9 : Nat} {rec_X6_readComparison : Int32 → Int32 → Int32 → Int32 → (Nat → Int32) → Int32 → (Nat → Int32) → Int32 → Option (Int32 × Int32 × Int32 × Int32 × (Nat → Int32))} (hrec_X6_readComparison : HX6_readComparison l D Y { frames := f9, cells := 0, slots := 0, locals := l9 } rec_X6_readComparison) (C : axC X l D Y cX6_readThing 5 RX6 wsX6_readThing (rmX6_readThing f9 l9) none) (hQ : axQ X 0 0 (fun r9 w9 => r9 = none ∧ w9 = [oX6 ao res.1 res.2.1 res.2.2.1 res.2.2.2.1, rI Y (ao 1) 40 res.2.2.2.2, oX10 ap1 ip1_length, rC Y (ap1 1) 80 cp1_signs])) (hf : fX6_readThing_b146 rec_X6_readComparison io_length io_at io_sign io_bad co_codes ip1_length cp1_signs x3 = some res) : ax X 0 0 146 [some (.ref (ao 0)), none, none, some (.int x3), none] [oX6 ao io_length io_at io_sign io_bad, rI Y (ao 1) 40 co_codes, oX10 ap1 ip1_length, rC Y (ap1 1) 80 cp1_signs] [] := by
  unfold fX6_readThing_b146 at hf
  refine a_iload_n C dX6_readThing_146 rfl ?_
  refine a_if_eq C 156 dX6_readThing_147 (by decide) (fun h1 => ?_) (fun h1 => ?_)
  · have hf := fx_t h1 hf
    refine a_kill [0, 3] ?_
    exact kX6_readThing_b156 hrec_X6_readComparison C hQ hf
  · have hf := fx_f h1 hf
    refine a_aload_n C dX6_readThing_150 rfl ?_
    refine a_bipush C (-8 : Int32) dX6_readThing_151 (by decide) ?_
    obtain ⟨r2, h2, hf⟩ := fx_bind hf
    refine a_fV C (kX6_put l D Y ao io_length io_at io_sign io_bad co_codes (-8 : Int32) r2 h2) gX6_readThing_X6_put rfl dvX6_put ⟨⟨rfl, rfl⟩, ⟨by dsimp only; omega, by dsimp only; omega⟩, ⟨Nat.le_of_ble_eq_true rfl, Nat.le_of_ble_eq_true rfl⟩⟩ rfl (Nat.le_of_ble_eq_true rfl) dX6_readThing_153 rfl rfl [0, 1] [2, 3] ⟨rfl, rfl, trivial⟩ rfl rfl [oX6 ao r2.1 io_at io_sign io_bad, rI Y (ao 1) 40 r2.2, oX10 ap1 ip1_length, rC Y (ap1 1) 80 cp1_signs] ⟨rfl, rfl, trivial⟩ ⟨rfl, rfl, trivial⟩ rfl ?_
    refine a_kill [0, 3] ?_
    exact kX6_readThing_b156 hrec_X6_readComparison C hQ hf
def fX6_readThing_b142 (rec_X6_readComparison : Int32 → Int32 → Int32 → Int32 → (Nat → Int32) → Int32 → (Nat → Int32) → Int32 → Option (Int32 × Int32 × Int32 × Int32 × (Nat → Int32))) (io_length : Int32) (io_at : Int32) (io_sign : Int32) (io_bad : Int32) (co_codes : Nat → Int32) (ip1_length : Int32) (cp1_signs : Nat → Int32) (x3 : Int32) : Option (Int32 × Int32 × Int32 × Int32 × (Nat → Int32)) :=
  (fX6_fail io_at io_sign io_bad).bind (fun r3 => fX6_readThing_b146 rec_X6_readComparison io_length io_at r3.1 r3.2 co_codes ip1_length cp1_signs x3)
set_option maxHeartbeats 400000 in
set_option maxRecDepth 100000 in
theorem kX6_readThing_b142 {X : cxT} {l : Launch} {D : va_G} {Y : Nat → ClassId} {ao ap1 : Nat → Nat} {io_length : Int32} {io_at : Int32} {io_sign : Int32} {io_bad : Int32} {co_codes : Nat → Int32} {ip1_length : Int32} {cp1_signs : Nat → Int32} {x3 : Int32} {res : Int32 × Int32 × Int32 × Int32 × (Nat → Int32)} {f9 l9 : Nat} {rec_X6_readComparison : Int32 → Int32 → Int32 → Int32 → (Nat → Int32) → Int32 → (Nat → Int32) → Int32 → Option (Int32 × Int32 × Int32 × Int32 × (Nat → Int32))} (hrec_X6_readComparison : HX6_readComparison l D Y { frames := f9, cells := 0, slots := 0, locals := l9 } rec_X6_readComparison) (C : axC X l D Y cX6_readThing 5 RX6 wsX6_readThing (rmX6_readThing f9 l9) none) (hQ : axQ X 0 0 (fun r9 w9 => r9 = none ∧ w9 = [oX6 ao res.1 res.2.1 res.2.2.1 res.2.2.2.1, rI Y (ao 1) 40 res.2.2.2.2, oX10 ap1 ip1_length, rC Y (ap1 1) 80 cp1_signs])) (hf : fX6_readThing_b142 rec_X6_readComparison io_length io_at io_sign io_bad co_codes ip1_length cp1_signs x3 = some res) : ax X 0 0 142 [some (.ref (ao 0)), none, none, some (.int x3), none] [oX6 ao io_length io_at io_sign io_bad, rI Y (ao 1) 40 co_codes, oX10 ap1 ip1_length, rC Y (ap1 1) 80 cp1_signs] [] := by
  unfold fX6_readThing_b142 at hf
  refine a_aload_n C dX6_readThing_142 rfl ?_
  obtain ⟨r3, h3, hf⟩ := fx_bind hf
  refine a_fV C (kX6_fail l D Y ao io_length io_at io_sign io_bad r3 h3) gX6_readThing_X6_fail rfl dvX6_fail ⟨⟨rfl, rfl⟩, ⟨by dsimp only; omega, by dsimp only; omega⟩, ⟨Nat.le_of_ble_eq_true rfl, Nat.le_of_ble_eq_true rfl⟩⟩ rfl (Nat.le_of_ble_eq_true rfl) dX6_readThing_143 rfl rfl [0] [1, 2, 3] ⟨rfl, trivial⟩ rfl rfl [oX6 ao io_length io_at r3.1 r3.2, rI Y (ao 1) 40 co_codes, oX10 ap1 ip1_length, rC Y (ap1 1) 80 cp1_signs] ⟨rfl, trivial⟩ ⟨rfl, rfl, rfl, trivial⟩ rfl ?_
  exact kX6_readThing_b146 hrec_X6_readComparison C hQ hf
def fX6_readThing_b42 (rec_X6_readComparison : Int32 → Int32 → Int32 → Int32 → (Nat → Int32) → Int32 → (Nat → Int32) → Int32 → Option (Int32 × Int32 × Int32 × Int32 × (Nat → Int32))) (io_length : Int32) (io_at : Int32) (io_sign : Int32) (io_bad : Int32) (co_codes : Nat → Int32) (ip1_length : Int32) (cp1_signs : Nat → Int32) (x2 : Int32) (x3 : Int32) : Option (Int32 × Int32 × Int32 × Int32 × (Nat → Int32)) :=
  (fX11_isDigit io_sign).bind (fun r4 => if r4 = (0 : Int32) then ((fX6_variable io_sign).bind (fun r6 => if r6 = (-9 : Int32) then (if io_sign = (40 : Int32) then (if (4 : Int32) ≤ x2 then (fX6_readThing_b142 rec_X6_readComparison io_length io_at io_sign io_bad co_codes ip1_length cp1_signs x3) else ((fX6_step io_at io_sign ip1_length cp1_signs).bind (fun r10 => (rec_X6_readComparison io_length r10.1 r10.2 io_bad co_codes ip1_length cp1_signs (x2 + (1 : Int32))).bind (fun r11 => if r11.2.2.1 = (41 : Int32) then ((fX6_step r11.2.1 r11.2.2.1 ip1_length cp1_signs).bind (fun r14 => fX6_readThing_b146 rec_X6_readComparison r11.1 r14.1 r14.2 r11.2.2.2.1 r11.2.2.2.2 ip1_length cp1_signs x3)) else ((fX6_fail r11.2.1 r11.2.2.1 r11.2.2.2.1).bind (fun r13 => fX6_readThing_b146 rec_X6_readComparison r11.1 r11.2.1 r13.1 r13.2 r11.2.2.2.2 ip1_length cp1_signs x3)))))) else (fX6_readThing_b142 rec_X6_readComparison io_length io_at io_sign io_bad co_codes ip1_length cp1_signs x3)) else ((fX6_variable io_sign).bind (fun r15 => (fX6_put io_length co_codes r15).bind (fun r16 => (fX6_step io_at io_sign ip1_length cp1_signs).bind (fun r17 => fX6_readThing_b146 rec_X6_readComparison r16.1 r17.1 r17.2 io_bad r16.2 ip1_length cp1_signs x3)))))) else ((fX6_readNumber io_length io_at io_sign co_codes ip1_length cp1_signs).bind (fun r18 => fX6_readThing_b146 rec_X6_readComparison r18.1 r18.2.1 r18.2.2.1 io_bad r18.2.2.2 ip1_length cp1_signs x3)))
set_option maxHeartbeats 400000 in
set_option maxRecDepth 100000 in
theorem kX6_readThing_b42 {X : cxT} {l : Launch} {D : va_G} {Y : Nat → ClassId} {ao ap1 : Nat → Nat} {io_length : Int32} {io_at : Int32} {io_sign : Int32} {io_bad : Int32} {co_codes : Nat → Int32} {ip1_length : Int32} {cp1_signs : Nat → Int32} {x2 : Int32} {x3 : Int32} {res : Int32 × Int32 × Int32 × Int32 × (Nat → Int32)} {f9 l9 : Nat} {rec_X6_readComparison : Int32 → Int32 → Int32 → Int32 → (Nat → Int32) → Int32 → (Nat → Int32) → Int32 → Option (Int32 × Int32 × Int32 × Int32 × (Nat → Int32))} (hrec_X6_readComparison : HX6_readComparison l D Y { frames := f9, cells := 0, slots := 0, locals := l9 } rec_X6_readComparison) (C : axC X l D Y cX6_readThing 5 RX6 wsX6_readThing (rmX6_readThing f9 l9) none) (hQ : axQ X 0 0 (fun r9 w9 => r9 = none ∧ w9 = [oX6 ao res.1 res.2.1 res.2.2.1 res.2.2.2.1, rI Y (ao 1) 40 res.2.2.2.2, oX10 ap1 ip1_length, rC Y (ap1 1) 80 cp1_signs])) (hf : fX6_readThing_b42 rec_X6_readComparison io_length io_at io_sign io_bad co_codes ip1_length cp1_signs x2 x3 = some res) : ax X 0 0 42 [some (.ref (ao 0)), some (.ref (ap1 0)), some (.int x2), some (.int x3), none] [oX6 ao io_length io_at io_sign io_bad, rI Y (ao 1) 40 co_codes, oX10 ap1 ip1_length, rC Y (ap1 1) 80 cp1_signs] [] := by
  unfold fX6_readThing_b42 at hf
  refine a_aload_n C dX6_readThing_42 rfl ?_
  refine a_get C eX6_readThing_54 dX6_readThing_43 0 rfl rfl ?_
  obtain ⟨r4, h4, hf⟩ := fx_bind hf
  refine a_fN C RX11 (kX11_isDigit l D Y io_sign r4 h4) gX6_readThing_X11_isDigit_n67 rfl (by decide +kernel) eX6_readThing_iX11 eX6_readThing_sX11_isDigit dvX11_isDigit ⟨⟨rfl, rfl⟩, ⟨by dsimp only; omega, by dsimp only; omega⟩, ⟨Nat.le_of_ble_eq_true rfl, Nat.le_of_ble_eq_true rfl⟩⟩ rfl (Nat.le_of_ble_eq_true rfl) dX6_readThing_46 [] [0, 1, 2, 3] trivial rfl rfl [oX6 ao io_length io_at io_sign io_bad, rI Y (ao 1) 40 co_codes, oX10 ap1 ip1_length, rC Y (ap1 1) 80 cp1_signs] trivial ⟨rfl, rfl, rfl, rfl, trivial⟩ rfl ?_
  refine a_if_eq C 60 dX6_readThing_49 (by decide) (fun h5 => ?_) (fun h5 => ?_)
  · have hf := fx_t h5 hf
    refine a_aload_n C dX6_readThing_60 rfl ?_
    refine a_get C eX6_readThing_54 dX6_readThing_61 0 rfl rfl ?_
    obtain ⟨r6, h6, hf⟩ := fx_bind hf
    refine a_fS C (kX6_variable l D Y io_sign r6 h6) gX6_readThing_X6_variable rfl dvX6_variable ⟨⟨rfl, rfl⟩, ⟨by dsimp only; omega, by dsimp only; omega⟩, ⟨Nat.le_of_ble_eq_true rfl, Nat.le_of_ble_eq_true rfl⟩⟩ rfl (Nat.le_of_ble_eq_true rfl) dX6_readThing_64 [] [0, 1, 2, 3] trivial rfl rfl [oX6 ao io_length io_at io_sign io_bad, rI Y (ao 1) 40 co_codes, oX10 ap1 ip1_length, rC Y (ap1 1) 80 cp1_signs] trivial ⟨rfl, rfl, rfl, rfl, trivial⟩ rfl ?_
    refine a_bipush C (-9 : Int32) dX6_readThing_67 (by decide) ?_
    refine a_icmp_eq C 91 dX6_readThing_69 (by decide) (fun h7 => ?_) (fun h7 => ?_)
    · have hf := fx_t h7 hf
      refine a_aload_n C dX6_readThing_91 rfl ?_
      refine a_get C eX6_readThing_54 dX6_readThing_92 0 rfl rfl ?_
      refine a_bipush C (40 : Int32) dX6_readThing_95 (by decide) ?_
      refine a_icmp_ne C 142 dX6_readThing_97 (by decide) (fun h8 => ?_) (fun h8 => ?_)
      · have hf := fx_f h8 hf
        refine a_kill [1, 2] ?_
        exact kX6_readThing_b142 hrec_X6_readComparison C hQ hf
      · have hf := fx_t h8 hf
        refine a_iload_n C dX6_readThing_100 rfl ?_
        refine a_iconst C (4 : Int32) dX6_readThing_101 (by decide) ?_
        refine a_icmp_ge C 142 dX6_readThing_102 (by decide) (fun h9 => ?_) (fun h9 => ?_)
        · have hf := fx_t h9 hf
          refine a_kill [1, 2] ?_
          exact kX6_readThing_b142 hrec_X6_readComparison C hQ hf
        · have hf := fx_f h9 hf
          refine a_aload_n C dX6_readThing_105 rfl ?_
          refine a_aload_n C dX6_readThing_106 rfl ?_
          obtain ⟨r10, h10, hf⟩ := fx_bind hf
          refine a_fV C (kX6_step l D Y ao ap1 io_length io_at io_sign io_bad ip1_length cp1_signs r10 h10) gX6_readThing_X6_step rfl dvX6_step ⟨⟨rfl, rfl⟩, ⟨by dsimp only; omega, by dsimp only; omega⟩, ⟨Nat.le_of_ble_eq_true rfl, Nat.le_of_ble_eq_true rfl⟩⟩ rfl (Nat.le_of_ble_eq_true rfl) dX6_readThing_107 rfl rfl [0, 2, 3] [1] ⟨rfl, rfl, rfl, trivial⟩ rfl rfl [oX6 ao io_length r10.1 r10.2 io_bad, rI Y (ao 1) 40 co_codes, oX10 ap1 ip1_length, rC Y (ap1 1) 80 cp1_signs] ⟨rfl, rfl, rfl, trivial⟩ ⟨rfl, trivial⟩ rfl ?_
          refine a_aload_n C dX6_readThing_110 rfl ?_
          refine a_aload_n C dX6_readThing_111 rfl ?_
          refine a_iload_n C dX6_readThing_112 rfl ?_
          refine a_iconst C (1 : Int32) dX6_readThing_113 (by decide) ?_
          refine a_iadd C dX6_readThing_114 ?_
          obtain ⟨r11, h11, hf⟩ := fx_bind hf
          refine a_fV C (hrec_X6_readComparison ao ap1 io_length r10.1 r10.2 io_bad co_codes ip1_length cp1_signs (x2 + (1 : Int32)) r11 h11) gX6_readThing_X6_readComparison rfl dvX6_readComparison ⟨⟨rfl, rfl⟩, ⟨by dsimp only; omega, by dsimp only; omega⟩, ⟨Nat.le_of_ble_eq_true rfl, Nat.le_of_ble_eq_true rfl⟩⟩ rfl (Nat.le_of_ble_eq_true rfl) dX6_readThing_115 rfl rfl [0, 1, 2, 3] [] ⟨rfl, rfl, rfl, rfl, trivial⟩ rfl rfl [oX6 ao r11.1 r11.2.1 r11.2.2.1 r11.2.2.2.1, rI Y (ao 1) 40 r11.2.2.2.2, oX10 ap1 ip1_length, rC Y (ap1 1) 80 cp1_signs] ⟨rfl, rfl, rfl, rfl, trivial⟩ trivial rfl ?_
          refine a_aload_n C dX6_readThing_118 rfl ?_
          refine a_get C eX6_readThing_54 dX6_readThing_119 0 rfl rfl ?_
          refine a_bipush C (41 : Int32) dX6_readThing_122 (by decide) ?_
          refine a_icmp_ne C 135 dX6_readThing_124 (by decide) (fun h12 => ?_) (fun h12 => ?_)
          · have hf := fx_f h12 hf
            refine a_aload_n C dX6_readThing_135 rfl ?_
            obtain ⟨r13, h13, hf⟩ := fx_bind hf
            refine a_fV C (kX6_fail l D Y ao r11.1 r11.2.1 r11.2.2.1 r11.2.2.2.1 r13 h13) gX6_readThing_X6_fail rfl dvX6_fail ⟨⟨rfl, rfl⟩, ⟨by dsimp only; omega, by dsimp only; omega⟩, ⟨Nat.le_of_ble_eq_true rfl, Nat.le_of_ble_eq_true rfl⟩⟩ rfl (Nat.le_of_ble_eq_true rfl) dX6_readThing_136 rfl rfl [0] [1, 2, 3] ⟨rfl, trivial⟩ rfl rfl [oX6 ao r11.1 r11.2.1 r13.1 r13.2, rI Y (ao 1) 40 r11.2.2.2.2, oX10 ap1 ip1_length, rC Y (ap1 1) 80 cp1_signs] ⟨rfl, trivial⟩ ⟨rfl, rfl, rfl, trivial⟩ rfl ?_
            refine a_goto C 146 dX6_readThing_139 (by decide) ?_
            refine a_kill [1, 2] ?_
            exact kX6_readThing_b146 hrec_X6_readComparison C hQ hf
          · have hf := fx_t h12 hf
            refine a_aload_n C dX6_readThing_127 rfl ?_
            refine a_aload_n C dX6_readThing_128 rfl ?_
            obtain ⟨r14, h14, hf⟩ := fx_bind hf
            refine a_fV C (kX6_step l D Y ao ap1 r11.1 r11.2.1 r11.2.2.1 r11.2.2.2.1 ip1_length cp1_signs r14 h14) gX6_readThing_X6_step rfl dvX6_step ⟨⟨rfl, rfl⟩, ⟨by dsimp only; omega, by dsimp only; omega⟩, ⟨Nat.le_of_ble_eq_true rfl, Nat.le_of_ble_eq_true rfl⟩⟩ rfl (Nat.le_of_ble_eq_true rfl) dX6_readThing_129 rfl rfl [0, 2, 3] [1] ⟨rfl, rfl, rfl, trivial⟩ rfl rfl [oX6 ao r11.1 r14.1 r14.2 r11.2.2.2.1, rI Y (ao 1) 40 r11.2.2.2.2, oX10 ap1 ip1_length, rC Y (ap1 1) 80 cp1_signs] ⟨rfl, rfl, rfl, trivial⟩ ⟨rfl, trivial⟩ rfl ?_
            refine a_goto C 146 dX6_readThing_132 (by decide) ?_
            refine a_kill [1, 2] ?_
            exact kX6_readThing_b146 hrec_X6_readComparison C hQ hf
    · have hf := fx_f h7 hf
      refine a_aload_n C dX6_readThing_72 rfl ?_
      refine a_aload_n C dX6_readThing_73 rfl ?_
      refine a_get C eX6_readThing_54 dX6_readThing_74 0 rfl rfl ?_
      obtain ⟨r15, h15, hf⟩ := fx_bind hf
      refine a_fS C (kX6_variable l D Y io_sign r15 h15) gX6_readThing_X6_variable rfl dvX6_variable ⟨⟨rfl, rfl⟩, ⟨by dsimp only; omega, by dsimp only; omega⟩, ⟨Nat.le_of_ble_eq_true rfl, Nat.le_of_ble_eq_true rfl⟩⟩ rfl (Nat.le_of_ble_eq_true rfl) dX6_readThing_77 [] [0, 1, 2, 3] trivial rfl rfl [oX6 ao io_length io_at io_sign io_bad, rI Y (ao 1) 40 co_codes, oX10 ap1 ip1_length, rC Y (ap1 1) 80 cp1_signs] trivial ⟨rfl, rfl, rfl, rfl, trivial⟩ rfl ?_
      obtain ⟨r16, h16, hf⟩ := fx_bind hf
      refine a_fV C (kX6_put l D Y ao io_length io_at io_sign io_bad co_codes r15 r16 h16) gX6_readThing_X6_put rfl dvX6_put ⟨⟨rfl, rfl⟩, ⟨by dsimp only; omega, by dsimp only; omega⟩, ⟨Nat.le_of_ble_eq_true rfl, Nat.le_of_ble_eq_true rfl⟩⟩ rfl (Nat.le_of_ble_eq_true rfl) dX6_readThing_80 rfl rfl [0, 1] [2, 3] ⟨rfl, rfl, trivial⟩ rfl rfl [oX6 ao r16.1 io_at io_sign io_bad, rI Y (ao 1) 40 r16.2, oX10 ap1 ip1_length, rC Y (ap1 1) 80 cp1_signs] ⟨rfl, rfl, trivial⟩ ⟨rfl, rfl, trivial⟩ rfl ?_
      refine a_aload_n C dX6_readThing_83 rfl ?_
      refine a_aload_n C dX6_readThing_84 rfl ?_
      obtain ⟨r17, h17, hf⟩ := fx_bind hf
      refine a_fV C (kX6_step l D Y ao ap1 r16.1 io_at io_sign io_bad ip1_length cp1_signs r17 h17) gX6_readThing_X6_step rfl dvX6_step ⟨⟨rfl, rfl⟩, ⟨by dsimp only; omega, by dsimp only; omega⟩, ⟨Nat.le_of_ble_eq_true rfl, Nat.le_of_ble_eq_true rfl⟩⟩ rfl (Nat.le_of_ble_eq_true rfl) dX6_readThing_85 rfl rfl [0, 2, 3] [1] ⟨rfl, rfl, rfl, trivial⟩ rfl rfl [oX6 ao r16.1 r17.1 r17.2 io_bad, rI Y (ao 1) 40 r16.2, oX10 ap1 ip1_length, rC Y (ap1 1) 80 cp1_signs] ⟨rfl, rfl, rfl, trivial⟩ ⟨rfl, trivial⟩ rfl ?_
      refine a_goto C 146 dX6_readThing_88 (by decide) ?_
      refine a_kill [1, 2] ?_
      exact kX6_readThing_b146 hrec_X6_readComparison C hQ hf
  · have hf := fx_f h5 hf
    refine a_aload_n C dX6_readThing_52 rfl ?_
    refine a_aload_n C dX6_readThing_53 rfl ?_
    obtain ⟨r18, h18, hf⟩ := fx_bind hf
    refine a_fV C (kX6_readNumber l D Y ao ap1 io_length io_at io_sign io_bad co_codes ip1_length cp1_signs r18 h18) gX6_readThing_X6_readNumber rfl dvX6_readNumber ⟨⟨rfl, rfl⟩, ⟨by dsimp only; omega, by dsimp only; omega⟩, ⟨Nat.le_of_ble_eq_true rfl, Nat.le_of_ble_eq_true rfl⟩⟩ rfl (Nat.le_of_ble_eq_true rfl) dX6_readThing_54 rfl rfl [0, 1, 2, 3] [] ⟨rfl, rfl, rfl, rfl, trivial⟩ rfl rfl [oX6 ao r18.1 r18.2.1 r18.2.2.1 io_bad, rI Y (ao 1) 40 r18.2.2.2, oX10 ap1 ip1_length, rC Y (ap1 1) 80 cp1_signs] ⟨rfl, rfl, rfl, rfl, trivial⟩ trivial rfl ?_
    refine a_goto C 146 dX6_readThing_57 (by decide) ?_
    refine a_kill [1, 2] ?_
    exact kX6_readThing_b146 hrec_X6_readComparison C hQ hf
def fX6_readThing_b35 (rec_X6_readComparison : Int32 → Int32 → Int32 → Int32 → (Nat → Int32) → Int32 → (Nat → Int32) → Int32 → Option (Int32 × Int32 × Int32 × Int32 × (Nat → Int32))) (io_length : Int32) (io_at : Int32) (io_sign : Int32) (io_bad : Int32) (co_codes : Nat → Int32) (ip1_length : Int32) (cp1_signs : Nat → Int32) (x2 : Int32) (x4 : Int32) (s0 : Int32) (k5 : Int32 × Int32 × Int32 × Int32 → Option (Int32 × Int32 × Int32 × Int32 × (Nat → Int32))) : Option (Int32 × Int32 × Int32 × Int32 × (Nat → Int32)) :=
  k5 (io_at, io_sign, s0, (x4 + (1 : Int32)))
set_option maxHeartbeats 400000 in
set_option maxRecDepth 100000 in
theorem kX6_readThing_b35 {X : cxT} {l : Launch} {D : va_G} {Y : Nat → ClassId} {ao ap1 : Nat → Nat} {io_length : Int32} {io_at : Int32} {io_sign : Int32} {io_bad : Int32} {co_codes : Nat → Int32} {ip1_length : Int32} {cp1_signs : Nat → Int32} {x2 : Int32} {x4 : Int32} {s0 : Int32} {res : Int32 × Int32 × Int32 × Int32 × (Nat → Int32)} {f9 l9 : Nat} {rec_X6_readComparison : Int32 → Int32 → Int32 → Int32 → (Nat → Int32) → Int32 → (Nat → Int32) → Int32 → Option (Int32 × Int32 × Int32 × Int32 × (Nat → Int32))} (hrec_X6_readComparison : HX6_readComparison l D Y { frames := f9, cells := 0, slots := 0, locals := l9 } rec_X6_readComparison) (C : axC X l D Y cX6_readThing 5 RX6 wsX6_readThing (rmX6_readThing f9 l9) none) (hQ : axQ X 0 0 (fun r9 w9 => r9 = none ∧ w9 = [oX6 ao res.1 res.2.1 res.2.2.1 res.2.2.2.1, rI Y (ao 1) 40 res.2.2.2.2, oX10 ap1 ip1_length, rC Y (ap1 1) 80 cp1_signs])) {k5 : Int32 × Int32 × Int32 × Int32 → Option (Int32 × Int32 × Int32 × Int32 × (Nat → Int32))} (hk5 : ∀ s : Int32 × Int32 × Int32 × Int32, k5 s = some res → ax X 0 0 5 [some (.ref (ao 0)), some (.ref (ap1 0)), some (.int x2), some (.int s.2.2.1), some (.int s.2.2.2)] [oX6 ao io_length s.1 s.2.1 io_bad, rI Y (ao 1) 40 co_codes, oX10 ap1 ip1_length, rC Y (ap1 1) 80 cp1_signs] []) (hf : fX6_readThing_b35 rec_X6_readComparison io_length io_at io_sign io_bad co_codes ip1_length cp1_signs x2 x4 s0 k5 = some res) : ax X 0 0 35 [some (.ref (ao 0)), some (.ref (ap1 0)), some (.int x2), none, some (.int x4)] [oX6 ao io_length io_at io_sign io_bad, rI Y (ao 1) 40 co_codes, oX10 ap1 ip1_length, rC Y (ap1 1) 80 cp1_signs] [.int s0] := by
  unfold fX6_readThing_b35 at hf
  refine a_istore_n C dX6_readThing_35 (by decide) rfl ?_
  refine a_iinc C (1 : Int32) dX6_readThing_36 (by decide) rfl (by decide) rfl ?_
  refine a_goto C 5 dX6_readThing_39 (by decide) ?_
  exact hk5 (io_at, io_sign, s0, (x4 + (1 : Int32))) hf
def fX6_readThing_l5 (rec_X6_readComparison : Int32 → Int32 → Int32 → Int32 → (Nat → Int32) → Int32 → (Nat → Int32) → Int32 → Option (Int32 × Int32 × Int32 × Int32 × (Nat → Int32))) (io_length : Int32) (io_bad : Int32) (co_codes : Nat → Int32) (ip1_length : Int32) (cp1_signs : Nat → Int32) (x2 : Int32) (k5 : Int32 × Int32 × Int32 × Int32 → Option (Int32 × Int32 × Int32 × Int32 × (Nat → Int32))) (io_at : Int32) (io_sign : Int32) (x3 : Int32) (x4 : Int32) : Option (Int32 × Int32 × Int32 × Int32 × (Nat → Int32)) :=
  if (40 : Int32) ≤ x4 then (fX6_readThing_b42 rec_X6_readComparison io_length io_at io_sign io_bad co_codes ip1_length cp1_signs x2 x3) else (if io_sign = (45 : Int32) then ((fX6_step io_at io_sign ip1_length cp1_signs).bind (fun r21 => if x3 = (0 : Int32) then (fX6_readThing_b35 rec_X6_readComparison io_length r21.1 r21.2 io_bad co_codes ip1_length cp1_signs x2 x4 (1 : Int32) k5) else (fX6_readThing_b35 rec_X6_readComparison io_length r21.1 r21.2 io_bad co_codes ip1_length cp1_signs x2 x4 (0 : Int32) k5))) else (fX6_readThing_b42 rec_X6_readComparison io_length io_at io_sign io_bad co_codes ip1_length cp1_signs x2 x3))
def fX6_readThing_b5 (rec_X6_readComparison : Int32 → Int32 → Int32 → Int32 → (Nat → Int32) → Int32 → (Nat → Int32) → Int32 → Option (Int32 × Int32 × Int32 × Int32 × (Nat → Int32))) (io_length : Int32) (io_at : Int32) (io_sign : Int32) (io_bad : Int32) (co_codes : Nat → Int32) (ip1_length : Int32) (cp1_signs : Nat → Int32) (x2 : Int32) (x3 : Int32) (x4 : Int32) : Option (Int32 × Int32 × Int32 × Int32 × (Nat → Int32)) :=
  loopN (fun (s : Int32 × Int32 × Int32 × Int32) k5 => fX6_readThing_l5 rec_X6_readComparison io_length io_bad co_codes ip1_length cp1_signs x2 k5 s.1 s.2.1 s.2.2.1 s.2.2.2) FUEL (io_at, io_sign, x3, x4)
set_option maxHeartbeats 400000 in
set_option maxRecDepth 100000 in
theorem kX6_readThing_l5 {X : cxT} {l : Launch} {D : va_G} {Y : Nat → ClassId} {ao ap1 : Nat → Nat} {io_length : Int32} {io_at : Int32} {io_sign : Int32} {io_bad : Int32} {co_codes : Nat → Int32} {ip1_length : Int32} {cp1_signs : Nat → Int32} {x2 : Int32} {x3 : Int32} {x4 : Int32} {res : Int32 × Int32 × Int32 × Int32 × (Nat → Int32)} {f9 l9 : Nat} {rec_X6_readComparison : Int32 → Int32 → Int32 → Int32 → (Nat → Int32) → Int32 → (Nat → Int32) → Int32 → Option (Int32 × Int32 × Int32 × Int32 × (Nat → Int32))} (hrec_X6_readComparison : HX6_readComparison l D Y { frames := f9, cells := 0, slots := 0, locals := l9 } rec_X6_readComparison) (C : axC X l D Y cX6_readThing 5 RX6 wsX6_readThing (rmX6_readThing f9 l9) none) (hQ : axQ X 0 0 (fun r9 w9 => r9 = none ∧ w9 = [oX6 ao res.1 res.2.1 res.2.2.1 res.2.2.2.1, rI Y (ao 1) 40 res.2.2.2.2, oX10 ap1 ip1_length, rC Y (ap1 1) 80 cp1_signs])) {k5 : Int32 × Int32 × Int32 × Int32 → Option (Int32 × Int32 × Int32 × Int32 × (Nat → Int32))} (hk5 : ∀ s : Int32 × Int32 × Int32 × Int32, k5 s = some res → ax X 0 0 5 [some (.ref (ao 0)), some (.ref (ap1 0)), some (.int x2), some (.int s.2.2.1), some (.int s.2.2.2)] [oX6 ao io_length s.1 s.2.1 io_bad, rI Y (ao 1) 40 co_codes, oX10 ap1 ip1_length, rC Y (ap1 1) 80 cp1_signs] []) (hf : fX6_readThing_l5 rec_X6_readComparison io_length io_bad co_codes ip1_length cp1_signs x2 k5 io_at io_sign x3 x4 = some res) : ax X 0 0 5 [some (.ref (ao 0)), some (.ref (ap1 0)), some (.int x2), some (.int x3), some (.int x4)] [oX6 ao io_length io_at io_sign io_bad, rI Y (ao 1) 40 co_codes, oX10 ap1 ip1_length, rC Y (ap1 1) 80 cp1_signs] [] := by
  unfold fX6_readThing_l5 at hf
  refine a_iload C dX6_readThing_5 rfl ?_
  refine a_bipush C (40 : Int32) dX6_readThing_7 (by decide) ?_
  refine a_icmp_ge C 42 dX6_readThing_9 (by decide) (fun h19 => ?_) (fun h19 => ?_)
  · have hf := fx_t h19 hf
    refine a_kill [4] ?_
    exact kX6_readThing_b42 hrec_X6_readComparison C hQ hf
  · have hf := fx_f h19 hf
    refine a_aload_n C dX6_readThing_12 rfl ?_
    refine a_get C eX6_readThing_54 dX6_readThing_13 0 rfl rfl ?_
    refine a_bipush C (45 : Int32) dX6_readThing_16 (by decide) ?_
    refine a_icmp_ne C 42 dX6_readThing_18 (by decide) (fun h20 => ?_) (fun h20 => ?_)
    · have hf := fx_f h20 hf
      refine a_kill [4] ?_
      exact kX6_readThing_b42 hrec_X6_readComparison C hQ hf
    · have hf := fx_t h20 hf
      refine a_aload_n C dX6_readThing_21 rfl ?_
      refine a_aload_n C dX6_readThing_22 rfl ?_
      obtain ⟨r21, h21, hf⟩ := fx_bind hf
      refine a_fV C (kX6_step l D Y ao ap1 io_length io_at io_sign io_bad ip1_length cp1_signs r21 h21) gX6_readThing_X6_step rfl dvX6_step ⟨⟨rfl, rfl⟩, ⟨by dsimp only; omega, by dsimp only; omega⟩, ⟨Nat.le_of_ble_eq_true rfl, Nat.le_of_ble_eq_true rfl⟩⟩ rfl (Nat.le_of_ble_eq_true rfl) dX6_readThing_23 rfl rfl [0, 2, 3] [1] ⟨rfl, rfl, rfl, trivial⟩ rfl rfl [oX6 ao io_length r21.1 r21.2 io_bad, rI Y (ao 1) 40 co_codes, oX10 ap1 ip1_length, rC Y (ap1 1) 80 cp1_signs] ⟨rfl, rfl, rfl, trivial⟩ ⟨rfl, trivial⟩ rfl ?_
      refine a_iload_n C dX6_readThing_26 rfl ?_
      refine a_if_ne C 34 dX6_readThing_27 (by decide) (fun h22 => ?_) (fun h22 => ?_)
      · have hf := fx_f h22 hf
        refine a_iconst C (0 : Int32) dX6_readThing_34 (by decide) ?_
        refine a_kill [3] ?_
        exact kX6_readThing_b35 hrec_X6_readComparison C hQ hk5 hf
      · have hf := fx_t h22 hf
        refine a_iconst C (1 : Int32) dX6_readThing_30 (by decide) ?_
        refine a_goto C 35 dX6_readThing_31 (by decide) ?_
        refine a_kill [3] ?_
        exact kX6_readThing_b35 hrec_X6_readComparison C hQ hk5 hf
set_option maxHeartbeats 400000 in
set_option maxRecDepth 100000 in
theorem kX6_readThing_b5 {X : cxT} {l : Launch} {D : va_G} {Y : Nat → ClassId} {ao ap1 : Nat → Nat} {io_length : Int32} {io_at : Int32} {io_sign : Int32} {io_bad : Int32} {co_codes : Nat → Int32} {ip1_length : Int32} {cp1_signs : Nat → Int32} {x2 : Int32} {x3 : Int32} {x4 : Int32} {res : Int32 × Int32 × Int32 × Int32 × (Nat → Int32)} {f9 l9 : Nat} {rec_X6_readComparison : Int32 → Int32 → Int32 → Int32 → (Nat → Int32) → Int32 → (Nat → Int32) → Int32 → Option (Int32 × Int32 × Int32 × Int32 × (Nat → Int32))} (hrec_X6_readComparison : HX6_readComparison l D Y { frames := f9, cells := 0, slots := 0, locals := l9 } rec_X6_readComparison) (C : axC X l D Y cX6_readThing 5 RX6 wsX6_readThing (rmX6_readThing f9 l9) none) (hQ : axQ X 0 0 (fun r9 w9 => r9 = none ∧ w9 = [oX6 ao res.1 res.2.1 res.2.2.1 res.2.2.2.1, rI Y (ao 1) 40 res.2.2.2.2, oX10 ap1 ip1_length, rC Y (ap1 1) 80 cp1_signs])) (hf : fX6_readThing_b5 rec_X6_readComparison io_length io_at io_sign io_bad co_codes ip1_length cp1_signs x2 x3 x4 = some res) : ax X 0 0 5 [some (.ref (ao 0)), some (.ref (ap1 0)), some (.int x2), some (.int x3), some (.int x4)] [oX6 ao io_length io_at io_sign io_bad, rI Y (ao 1) 40 co_codes, oX10 ap1 ip1_length, rC Y (ap1 1) 80 cp1_signs] [] := by
  unfold fX6_readThing_b5 at hf
  exact fx_loop (P := fun s : Int32 × Int32 × Int32 × Int32 => ax X 0 0 5 [some (.ref (ao 0)), some (.ref (ap1 0)), some (.int x2), some (.int s.2.2.1), some (.int s.2.2.2)] [oX6 ao io_length s.1 s.2.1 io_bad, rI Y (ao 1) 40 co_codes, oX10 ap1 ip1_length, rC Y (ap1 1) 80 cp1_signs] []) (fun s k5 hk5 h => kX6_readThing_l5 hrec_X6_readComparison C hQ hk5 h) FUEL (io_at, io_sign, x3, x4) hf
def fX6_readThing (rec_X6_readComparison : Int32 → Int32 → Int32 → Int32 → (Nat → Int32) → Int32 → (Nat → Int32) → Int32 → Option (Int32 × Int32 × Int32 × Int32 × (Nat → Int32))) (io_length : Int32) (io_at : Int32) (io_sign : Int32) (io_bad : Int32) (co_codes : Nat → Int32) (ip1_length : Int32) (cp1_signs : Nat → Int32) (x2 : Int32) : Option (Int32 × Int32 × Int32 × Int32 × (Nat → Int32)) :=
  fX6_readThing_b5 rec_X6_readComparison io_length io_at io_sign io_bad co_codes ip1_length cp1_signs x2 (0 : Int32) (0 : Int32)
set_option maxHeartbeats 400000 in
set_option maxRecDepth 100000 in
theorem kX6_readThing (l : Launch) (D : va_G) (Y : Nat → ClassId) (f9 l9 : Nat) (rec_X6_readComparison : Int32 → Int32 → Int32 → Int32 → (Nat → Int32) → Int32 → (Nat → Int32) → Int32 → Option (Int32 × Int32 × Int32 × Int32 × (Nat → Int32))) (hrec_X6_readComparison : HX6_readComparison l D Y { frames := f9, cells := 0, slots := 0, locals := l9 } rec_X6_readComparison) (ao ap1 : Nat → Nat) (io_length : Int32) (io_at : Int32) (io_sign : Int32) (io_bad : Int32) (co_codes : Nat → Int32) (ip1_length : Int32) (cp1_signs : Nat → Int32) (x2 : Int32) (res : Int32 × Int32 × Int32 × Int32 × (Nat → Int32)) (hf : fX6_readThing rec_X6_readComparison io_length io_at io_sign io_bad co_codes ip1_length cp1_signs x2 = some res) : amf l D Y yX6_readThing wsX6_readThing (rmX6_readThing f9 l9) [.ref (ao 0), .ref (ap1 0), .int x2] [oX6 ao io_length io_at io_sign io_bad, rI Y (ao 1) 40 co_codes, oX10 ap1 ip1_length, rC Y (ap1 1) 80 cp1_signs] none [oX6 ao res.1 res.2.1 res.2.2.1 res.2.2.2.1, rI Y (ao 1) 40 res.2.2.2.2, oX10 ap1 ip1_length, rC Y (ap1 1) 80 cp1_signs] := by
  refine amf.of (cc := cX6_readThing) (maxL := 5) (rt := none) (by decide) rfl RX6 rfl (Nat.le_of_ble_eq_true rfl) [some (.ref (ao 0)), some (.ref (ap1 0)), some (.int x2), none, none] rfl ?_
  intro X C hQ
  unfold fX6_readThing at hf
  refine a_iconst C (0 : Int32) dX6_readThing_0 (by decide) ?_
  refine a_istore_n C dX6_readThing_1 (by decide) rfl ?_
  refine a_iconst C (0 : Int32) dX6_readThing_2 (by decide) ?_
  refine a_istore C dX6_readThing_3 (by decide) rfl ?_
  exact kX6_readThing_b5 hrec_X6_readComparison C hQ hf
abbrev rmX6_readProduct (f9 l9 : Nat) : Room := { frames := f9 + 4, cells := 0, slots := 0, locals := l9 + 90 }
theorem eX6_readProduct_inX6 : ∀ w ∈ wsX60, w ∈ wsX6_readProduct := by decide +kernel
theorem eX6_readProduct_54 : aF wsX6_readProduct RX6 54 6 4 := ⟨RX6, TX6, 6, rfl, eX6_readProduct_inX6, by decide, by decide +kernel⟩
def fX6_readProduct_b73 (rec_X6_readComparison : Int32 → Int32 → Int32 → Int32 → (Nat → Int32) → Int32 → (Nat → Int32) → Int32 → Option (Int32 × Int32 × Int32 × Int32 × (Nat → Int32))) (io_length : Int32) (io_at : Int32) (io_sign : Int32) (io_bad : Int32) (co_codes : Nat → Int32) (ip1_length : Int32) (cp1_signs : Nat → Int32) : Option (Int32 × Int32 × Int32 × Int32 × (Nat → Int32)) :=
  some (io_length, io_at, io_sign, io_bad, co_codes)
set_option maxHeartbeats 400000 in
set_option maxRecDepth 100000 in
theorem kX6_readProduct_b73 {X : cxT} {l : Launch} {D : va_G} {Y : Nat → ClassId} {ao ap1 : Nat → Nat} {io_length : Int32} {io_at : Int32} {io_sign : Int32} {io_bad : Int32} {co_codes : Nat → Int32} {ip1_length : Int32} {cp1_signs : Nat → Int32} {res : Int32 × Int32 × Int32 × Int32 × (Nat → Int32)} {f9 l9 : Nat} {rec_X6_readComparison : Int32 → Int32 → Int32 → Int32 → (Nat → Int32) → Int32 → (Nat → Int32) → Int32 → Option (Int32 × Int32 × Int32 × Int32 × (Nat → Int32))} (hrec_X6_readComparison : HX6_readComparison l D Y { frames := f9, cells := 0, slots := 0, locals := l9 } rec_X6_readComparison) (C : axC X l D Y cX6_readProduct 5 RX6 wsX6_readProduct (rmX6_readProduct f9 l9) none) (hQ : axQ X 0 0 (fun r9 w9 => r9 = none ∧ w9 = [oX6 ao res.1 res.2.1 res.2.2.1 res.2.2.2.1, rI Y (ao 1) 40 res.2.2.2.2, oX10 ap1 ip1_length, rC Y (ap1 1) 80 cp1_signs])) (hf : fX6_readProduct_b73 rec_X6_readComparison io_length io_at io_sign io_bad co_codes ip1_length cp1_signs = some res) : ax X 0 0 73 [none, none, none, none, none] [oX6 ao io_length io_at io_sign io_bad, rI Y (ao 1) 40 co_codes, oX10 ap1 ip1_length, rC Y (ap1 1) 80 cp1_signs] [] := by
  unfold fX6_readProduct_b73 at hf
  obtain rfl := fx_some hf
  exact a_vret C hQ dX6_readProduct_73 ⟨rfl, rfl⟩
def fX6_readProduct_b64 (rec_X6_readComparison : Int32 → Int32 → Int32 → Int32 → (Nat → Int32) → Int32 → (Nat → Int32) → Int32 → Option (Int32 × Int32 × Int32 × Int32 × (Nat → Int32))) (io_length : Int32) (io_at : Int32) (io_sign : Int32) (io_bad : Int32) (co_codes : Nat → Int32) (ip1_length : Int32) (cp1_signs : Nat → Int32) (x2 : Int32) (x3 : Int32) (s1 : Int32) (k8 : Int32 × Int32 × Int32 × Int32 × (Nat → Int32) × Int32 → Option (Int32 × Int32 × Int32 × Int32 × (Nat → Int32))) : Option (Int32 × Int32 × Int32 × Int32 × (Nat → Int32)) :=
  (fX6_put io_length co_codes s1).bind (fun r1 => k8 (r1.1, io_at, io_sign, io_bad, r1.2, (x3 + (1 : Int32))))
set_option maxHeartbeats 400000 in
set_option maxRecDepth 100000 in
theorem kX6_readProduct_b64 {X : cxT} {l : Launch} {D : va_G} {Y : Nat → ClassId} {ao ap1 : Nat → Nat} {io_length : Int32} {io_at : Int32} {io_sign : Int32} {io_bad : Int32} {co_codes : Nat → Int32} {ip1_length : Int32} {cp1_signs : Nat → Int32} {x2 : Int32} {x3 : Int32} {s1 : Int32} {res : Int32 × Int32 × Int32 × Int32 × (Nat → Int32)} {f9 l9 : Nat} {rec_X6_readComparison : Int32 → Int32 → Int32 → Int32 → (Nat → Int32) → Int32 → (Nat → Int32) → Int32 → Option (Int32 × Int32 × Int32 × Int32 × (Nat → Int32))} (hrec_X6_readComparison : HX6_readComparison l D Y { frames := f9, cells := 0, slots := 0, locals := l9 } rec_X6_readComparison) (C : axC X l D Y cX6_readProduct 5 RX6 wsX6_readProduct (rmX6_readProduct f9 l9) none) (hQ : axQ X 0 0 (fun r9 w9 => r9 = none ∧ w9 = [oX6 ao res.1 res.2.1 res.2.2.1 res.2.2.2.1, rI Y (ao 1) 40 res.2.2.2.2, oX10 ap1 ip1_length, rC Y (ap1 1) 80 cp1_signs])) {k8 : Int32 × Int32 × Int32 × Int32 × (Nat → Int32) × Int32 → Option (Int32 × Int32 × Int32 × Int32 × (Nat → Int32))} (hk8 : ∀ s : Int32 × Int32 × Int32 × Int32 × (Nat → Int32) × Int32, k8 s = some res → ax X 0 0 8 [some (.ref (ao 0)), some (.ref (ap1 0)), some (.int x2), some (.int s.2.2.2.2.2), none] [oX6 ao s.1 s.2.1 s.2.2.1 s.2.2.2.1, rI Y (ao 1) 40 s.2.2.2.2.1, oX10 ap1 ip1_length, rC Y (ap1 1) 80 cp1_signs] []) (hf : fX6_readProduct_b64 rec_X6_readComparison io_length io_at io_sign io_bad co_codes ip1_length cp1_signs x2 x3 s1 k8 = some res) : ax X 0 0 64 [some (.ref (ao 0)), some (.ref (ap1 0)), some (.int x2), some (.int x3), none] [oX6 ao io_length io_at io_sign io_bad, rI Y (ao 1) 40 co_codes, oX10 ap1 ip1_length, rC Y (ap1 1) 80 cp1_signs] [.int s1, .ref (ao 0)] := by
  unfold fX6_readProduct_b64 at hf
  obtain ⟨r1, h1, hf⟩ := fx_bind hf
  refine a_fV C (kX6_put l D Y ao io_length io_at io_sign io_bad co_codes s1 r1 h1) gX6_readProduct_X6_put rfl dvX6_put ⟨⟨rfl, rfl⟩, ⟨by dsimp only; omega, by dsimp only; omega⟩, ⟨Nat.le_of_ble_eq_true rfl, Nat.le_of_ble_eq_true rfl⟩⟩ rfl (Nat.le_of_ble_eq_true rfl) dX6_readProduct_64 rfl rfl [0, 1] [2, 3] ⟨rfl, rfl, trivial⟩ rfl rfl [oX6 ao r1.1 io_at io_sign io_bad, rI Y (ao 1) 40 r1.2, oX10 ap1 ip1_length, rC Y (ap1 1) 80 cp1_signs] ⟨rfl, rfl, trivial⟩ ⟨rfl, rfl, trivial⟩ rfl ?_
  refine a_iinc C (1 : Int32) dX6_readProduct_67 (by decide) rfl (by decide) rfl ?_
  refine a_goto C 8 dX6_readProduct_70 (by decide) ?_
  exact hk8 (r1.1, io_at, io_sign, io_bad, r1.2, (x3 + (1 : Int32))) hf
def fX6_readProduct_b32 (rec_X6_readComparison : Int32 → Int32 → Int32 → Int32 → (Nat → Int32) → Int32 → (Nat → Int32) → Int32 → Option (Int32 × Int32 × Int32 × Int32 × (Nat → Int32))) (io_length : Int32) (io_at : Int32) (io_sign : Int32) (io_bad : Int32) (co_codes : Nat → Int32) (ip1_length : Int32) (cp1_signs : Nat → Int32) (x2 : Int32) (x3 : Int32) (k8 : Int32 × Int32 × Int32 × Int32 × (Nat → Int32) × Int32 → Option (Int32 × Int32 × Int32 × Int32 × (Nat → Int32))) : Option (Int32 × Int32 × Int32 × Int32 × (Nat → Int32)) :=
  (fX6_step io_at io_sign ip1_length cp1_signs).bind (fun r2 => (fX6_readThing rec_X6_readComparison io_length r2.1 r2.2 io_bad co_codes ip1_length cp1_signs x2).bind (fun r3 => if io_sign = (42 : Int32) then (fX6_readProduct_b64 rec_X6_readComparison r3.1 r3.2.1 r3.2.2.1 r3.2.2.2.1 r3.2.2.2.2 ip1_length cp1_signs x2 x3 (-3 : Int32) k8) else (fX6_readProduct_b64 rec_X6_readComparison r3.1 r3.2.1 r3.2.2.1 r3.2.2.2.1 r3.2.2.2.2 ip1_length cp1_signs x2 x3 (-4 : Int32) k8)))
set_option maxHeartbeats 400000 in
set_option maxRecDepth 100000 in
theorem kX6_readProduct_b32 {X : cxT} {l : Launch} {D : va_G} {Y : Nat → ClassId} {ao ap1 : Nat → Nat} {io_length : Int32} {io_at : Int32} {io_sign : Int32} {io_bad : Int32} {co_codes : Nat → Int32} {ip1_length : Int32} {cp1_signs : Nat → Int32} {x2 : Int32} {x3 : Int32} {res : Int32 × Int32 × Int32 × Int32 × (Nat → Int32)} {f9 l9 : Nat} {rec_X6_readComparison : Int32 → Int32 → Int32 → Int32 → (Nat → Int32) → Int32 → (Nat → Int32) → Int32 → Option (Int32 × Int32 × Int32 × Int32 × (Nat → Int32))} (hrec_X6_readComparison : HX6_readComparison l D Y { frames := f9, cells := 0, slots := 0, locals := l9 } rec_X6_readComparison) (C : axC X l D Y cX6_readProduct 5 RX6 wsX6_readProduct (rmX6_readProduct f9 l9) none) (hQ : axQ X 0 0 (fun r9 w9 => r9 = none ∧ w9 = [oX6 ao res.1 res.2.1 res.2.2.1 res.2.2.2.1, rI Y (ao 1) 40 res.2.2.2.2, oX10 ap1 ip1_length, rC Y (ap1 1) 80 cp1_signs])) {k8 : Int32 × Int32 × Int32 × Int32 × (Nat → Int32) × Int32 → Option (Int32 × Int32 × Int32 × Int32 × (Nat → Int32))} (hk8 : ∀ s : Int32 × Int32 × Int32 × Int32 × (Nat → Int32) × Int32, k8 s = some res → ax X 0 0 8 [some (.ref (ao 0)), some (.ref (ap1 0)), some (.int x2), some (.int s.2.2.2.2.2), none] [oX6 ao s.1 s.2.1 s.2.2.1 s.2.2.2.1, rI Y (ao 1) 40 s.2.2.2.2.1, oX10 ap1 ip1_length, rC Y (ap1 1) 80 cp1_signs] []) (hf : fX6_readProduct_b32 rec_X6_readComparison io_length io_at io_sign io_bad co_codes ip1_length cp1_signs x2 x3 k8 = some res) : ax X 0 0 32 [some (.ref (ao 0)), some (.ref (ap1 0)), some (.int x2), some (.int x3), none] [oX6 ao io_length io_at io_sign io_bad, rI Y (ao 1) 40 co_codes, oX10 ap1 ip1_length, rC Y (ap1 1) 80 cp1_signs] [] := by
  unfold fX6_readProduct_b32 at hf
  refine a_aload_n C dX6_readProduct_32 rfl ?_
  refine a_get C eX6_readProduct_54 dX6_readProduct_33 0 rfl rfl ?_
  refine a_istore C dX6_readProduct_36 (by decide) rfl ?_
  refine a_aload_n C dX6_readProduct_38 rfl ?_
  refine a_aload_n C dX6_readProduct_39 rfl ?_
  obtain ⟨r2, h2, hf⟩ := fx_bind hf
  refine a_fV C (kX6_step l D Y ao ap1 io_length io_at io_sign io_bad ip1_length cp1_signs r2 h2) gX6_readProduct_X6_step rfl dvX6_step ⟨⟨rfl, rfl⟩, ⟨by dsimp only; omega, by dsimp only; omega⟩, ⟨Nat.le_of_ble_eq_true rfl, Nat.le_of_ble_eq_true rfl⟩⟩ rfl (Nat.le_of_ble_eq_true rfl) dX6_readProduct_40 rfl rfl [0, 2, 3] [1] ⟨rfl, rfl, rfl, trivial⟩ rfl rfl [oX6 ao io_length r2.1 r2.2 io_bad, rI Y (ao 1) 40 co_codes, oX10 ap1 ip1_length, rC Y (ap1 1) 80 cp1_signs] ⟨rfl, rfl, rfl, trivial⟩ ⟨rfl, trivial⟩ rfl ?_
  refine a_aload_n C dX6_readProduct_43 rfl ?_
  refine a_aload_n C dX6_readProduct_44 rfl ?_
  refine a_iload_n C dX6_readProduct_45 rfl ?_
  obtain ⟨r3, h3, hf⟩ := fx_bind hf
  refine a_fV C (kX6_readThing l D Y f9 l9 rec_X6_readComparison hrec_X6_readComparison ao ap1 io_length r2.1 r2.2 io_bad co_codes ip1_length cp1_signs x2 r3 h3) gX6_readProduct_X6_readThing rfl dvX6_readThing ⟨⟨rfl, rfl⟩, ⟨by dsimp only; omega, by dsimp only; omega⟩, ⟨Nat.le_of_ble_eq_true rfl, Nat.le_of_ble_eq_true rfl⟩⟩ rfl (Nat.le_of_ble_eq_true rfl) dX6_readProduct_46 rfl rfl [0, 1, 2, 3] [] ⟨rfl, rfl, rfl, rfl, trivial⟩ rfl rfl [oX6 ao r3.1 r3.2.1 r3.2.2.1 r3.2.2.2.1, rI Y (ao 1) 40 r3.2.2.2.2, oX10 ap1 ip1_length, rC Y (ap1 1) 80 cp1_signs] ⟨rfl, rfl, rfl, rfl, trivial⟩ trivial rfl ?_
  refine a_aload_n C dX6_readProduct_49 rfl ?_
  refine a_iload C dX6_readProduct_50 rfl ?_
  refine a_bipush C (42 : Int32) dX6_readProduct_52 (by decide) ?_
  refine a_icmp_ne C 62 dX6_readProduct_54 (by decide) (fun h4 => ?_) (fun h4 => ?_)
  · have hf := fx_f h4 hf
    refine a_bipush C (-4 : Int32) dX6_readProduct_62 (by decide) ?_
    refine a_kill [4] ?_
    exact kX6_readProduct_b64 hrec_X6_readComparison C hQ hk8 hf
  · have hf := fx_t h4 hf
    refine a_bipush C (-3 : Int32) dX6_readProduct_57 (by decide) ?_
    refine a_goto C 64 dX6_readProduct_59 (by decide) ?_
    refine a_kill [4] ?_
    exact kX6_readProduct_b64 hrec_X6_readComparison C hQ hk8 hf
def fX6_readProduct_l8 (rec_X6_readComparison : Int32 → Int32 → Int32 → Int32 → (Nat → Int32) → Int32 → (Nat → Int32) → Int32 → Option (Int32 × Int32 × Int32 × Int32 × (Nat → Int32))) (ip1_length : Int32) (cp1_signs : Nat → Int32) (x2 : Int32) (k8 : Int32 × Int32 × Int32 × Int32 × (Nat → Int32) × Int32 → Option (Int32 × Int32 × Int32 × Int32 × (Nat → Int32))) (io_length : Int32) (io_at : Int32) (io_sign : Int32) (io_bad : Int32) (co_codes : Nat → Int32) (x3 : Int32) : Option (Int32 × Int32 × Int32 × Int32 × (Nat → Int32)) :=
  if (40 : Int32) ≤ x3 then (fX6_readProduct_b73 rec_X6_readComparison io_length io_at io_sign io_bad co_codes ip1_length cp1_signs) else (if io_sign = (42 : Int32) then (fX6_readProduct_b32 rec_X6_readComparison io_length io_at io_sign io_bad co_codes ip1_length cp1_signs x2 x3 k8) else (if io_sign = (47 : Int32) then (fX6_readProduct_b32 rec_X6_readComparison io_length io_at io_sign io_bad co_codes ip1_length cp1_signs x2 x3 k8) else (fX6_readProduct_b73 rec_X6_readComparison io_length io_at io_sign io_bad co_codes ip1_length cp1_signs)))
def fX6_readProduct_b8 (rec_X6_readComparison : Int32 → Int32 → Int32 → Int32 → (Nat → Int32) → Int32 → (Nat → Int32) → Int32 → Option (Int32 × Int32 × Int32 × Int32 × (Nat → Int32))) (io_length : Int32) (io_at : Int32) (io_sign : Int32) (io_bad : Int32) (co_codes : Nat → Int32) (ip1_length : Int32) (cp1_signs : Nat → Int32) (x2 : Int32) (x3 : Int32) : Option (Int32 × Int32 × Int32 × Int32 × (Nat → Int32)) :=
  loopN (fun (s : Int32 × Int32 × Int32 × Int32 × (Nat → Int32) × Int32) k8 => fX6_readProduct_l8 rec_X6_readComparison ip1_length cp1_signs x2 k8 s.1 s.2.1 s.2.2.1 s.2.2.2.1 s.2.2.2.2.1 s.2.2.2.2.2) FUEL (io_length, io_at, io_sign, io_bad, co_codes, x3)
set_option maxHeartbeats 400000 in
set_option maxRecDepth 100000 in
theorem kX6_readProduct_l8 {X : cxT} {l : Launch} {D : va_G} {Y : Nat → ClassId} {ao ap1 : Nat → Nat} {io_length : Int32} {io_at : Int32} {io_sign : Int32} {io_bad : Int32} {co_codes : Nat → Int32} {ip1_length : Int32} {cp1_signs : Nat → Int32} {x2 : Int32} {x3 : Int32} {res : Int32 × Int32 × Int32 × Int32 × (Nat → Int32)} {f9 l9 : Nat} {rec_X6_readComparison : Int32 → Int32 → Int32 → Int32 → (Nat → Int32) → Int32 → (Nat → Int32) → Int32 → Option (Int32 × Int32 × Int32 × Int32 × (Nat → Int32))} (hrec_X6_readComparison : HX6_readComparison l D Y { frames := f9, cells := 0, slots := 0, locals := l9 } rec_X6_readComparison) (C : axC X l D Y cX6_readProduct 5 RX6 wsX6_readProduct (rmX6_readProduct f9 l9) none) (hQ : axQ X 0 0 (fun r9 w9 => r9 = none ∧ w9 = [oX6 ao res.1 res.2.1 res.2.2.1 res.2.2.2.1, rI Y (ao 1) 40 res.2.2.2.2, oX10 ap1 ip1_length, rC Y (ap1 1) 80 cp1_signs])) {k8 : Int32 × Int32 × Int32 × Int32 × (Nat → Int32) × Int32 → Option (Int32 × Int32 × Int32 × Int32 × (Nat → Int32))} (hk8 : ∀ s : Int32 × Int32 × Int32 × Int32 × (Nat → Int32) × Int32, k8 s = some res → ax X 0 0 8 [some (.ref (ao 0)), some (.ref (ap1 0)), some (.int x2), some (.int s.2.2.2.2.2), none] [oX6 ao s.1 s.2.1 s.2.2.1 s.2.2.2.1, rI Y (ao 1) 40 s.2.2.2.2.1, oX10 ap1 ip1_length, rC Y (ap1 1) 80 cp1_signs] []) (hf : fX6_readProduct_l8 rec_X6_readComparison ip1_length cp1_signs x2 k8 io_length io_at io_sign io_bad co_codes x3 = some res) : ax X 0 0 8 [some (.ref (ao 0)), some (.ref (ap1 0)), some (.int x2), some (.int x3), none] [oX6 ao io_length io_at io_sign io_bad, rI Y (ao 1) 40 co_codes, oX10 ap1 ip1_length, rC Y (ap1 1) 80 cp1_signs] [] := by
  unfold fX6_readProduct_l8 at hf
  refine a_iload_n C dX6_readProduct_8 rfl ?_
  refine a_bipush C (40 : Int32) dX6_readProduct_9 (by decide) ?_
  refine a_icmp_ge C 73 dX6_readProduct_11 (by decide) (fun h5 => ?_) (fun h5 => ?_)
  · have hf := fx_t h5 hf
    refine a_kill [0, 1, 2, 3] ?_
    exact kX6_readProduct_b73 hrec_X6_readComparison C hQ hf
  · have hf := fx_f h5 hf
    refine a_aload_n C dX6_readProduct_14 rfl ?_
    refine a_get C eX6_readProduct_54 dX6_readProduct_15 0 rfl rfl ?_
    refine a_bipush C (42 : Int32) dX6_readProduct_18 (by decide) ?_
    refine a_icmp_eq C 32 dX6_readProduct_20 (by decide) (fun h6 => ?_) (fun h6 => ?_)
    · have hf := fx_t h6 hf
      exact kX6_readProduct_b32 hrec_X6_readComparison C hQ hk8 hf
    · have hf := fx_f h6 hf
      refine a_aload_n C dX6_readProduct_23 rfl ?_
      refine a_get C eX6_readProduct_54 dX6_readProduct_24 0 rfl rfl ?_
      refine a_bipush C (47 : Int32) dX6_readProduct_27 (by decide) ?_
      refine a_icmp_ne C 73 dX6_readProduct_29 (by decide) (fun h7 => ?_) (fun h7 => ?_)
      · have hf := fx_f h7 hf
        refine a_kill [0, 1, 2, 3] ?_
        exact kX6_readProduct_b73 hrec_X6_readComparison C hQ hf
      · have hf := fx_t h7 hf
        exact kX6_readProduct_b32 hrec_X6_readComparison C hQ hk8 hf
set_option maxHeartbeats 400000 in
set_option maxRecDepth 100000 in
theorem kX6_readProduct_b8 {X : cxT} {l : Launch} {D : va_G} {Y : Nat → ClassId} {ao ap1 : Nat → Nat} {io_length : Int32} {io_at : Int32} {io_sign : Int32} {io_bad : Int32} {co_codes : Nat → Int32} {ip1_length : Int32} {cp1_signs : Nat → Int32} {x2 : Int32} {x3 : Int32} {res : Int32 × Int32 × Int32 × Int32 × (Nat → Int32)} {f9 l9 : Nat} {rec_X6_readComparison : Int32 → Int32 → Int32 → Int32 → (Nat → Int32) → Int32 → (Nat → Int32) → Int32 → Option (Int32 × Int32 × Int32 × Int32 × (Nat → Int32))} (hrec_X6_readComparison : HX6_readComparison l D Y { frames := f9, cells := 0, slots := 0, locals := l9 } rec_X6_readComparison) (C : axC X l D Y cX6_readProduct 5 RX6 wsX6_readProduct (rmX6_readProduct f9 l9) none) (hQ : axQ X 0 0 (fun r9 w9 => r9 = none ∧ w9 = [oX6 ao res.1 res.2.1 res.2.2.1 res.2.2.2.1, rI Y (ao 1) 40 res.2.2.2.2, oX10 ap1 ip1_length, rC Y (ap1 1) 80 cp1_signs])) (hf : fX6_readProduct_b8 rec_X6_readComparison io_length io_at io_sign io_bad co_codes ip1_length cp1_signs x2 x3 = some res) : ax X 0 0 8 [some (.ref (ao 0)), some (.ref (ap1 0)), some (.int x2), some (.int x3), none] [oX6 ao io_length io_at io_sign io_bad, rI Y (ao 1) 40 co_codes, oX10 ap1 ip1_length, rC Y (ap1 1) 80 cp1_signs] [] := by
  unfold fX6_readProduct_b8 at hf
  exact fx_loop (P := fun s : Int32 × Int32 × Int32 × Int32 × (Nat → Int32) × Int32 => ax X 0 0 8 [some (.ref (ao 0)), some (.ref (ap1 0)), some (.int x2), some (.int s.2.2.2.2.2), none] [oX6 ao s.1 s.2.1 s.2.2.1 s.2.2.2.1, rI Y (ao 1) 40 s.2.2.2.2.1, oX10 ap1 ip1_length, rC Y (ap1 1) 80 cp1_signs] []) (fun s k8 hk8 h => kX6_readProduct_l8 hrec_X6_readComparison C hQ hk8 h) FUEL (io_length, io_at, io_sign, io_bad, co_codes, x3) hf
def fX6_readProduct (rec_X6_readComparison : Int32 → Int32 → Int32 → Int32 → (Nat → Int32) → Int32 → (Nat → Int32) → Int32 → Option (Int32 × Int32 × Int32 × Int32 × (Nat → Int32))) (io_length : Int32) (io_at : Int32) (io_sign : Int32) (io_bad : Int32) (co_codes : Nat → Int32) (ip1_length : Int32) (cp1_signs : Nat → Int32) (x2 : Int32) : Option (Int32 × Int32 × Int32 × Int32 × (Nat → Int32)) :=
  (fX6_readThing rec_X6_readComparison io_length io_at io_sign io_bad co_codes ip1_length cp1_signs x2).bind (fun r8 => fX6_readProduct_b8 rec_X6_readComparison r8.1 r8.2.1 r8.2.2.1 r8.2.2.2.1 r8.2.2.2.2 ip1_length cp1_signs x2 (0 : Int32))
set_option maxHeartbeats 400000 in
set_option maxRecDepth 100000 in
theorem kX6_readProduct (l : Launch) (D : va_G) (Y : Nat → ClassId) (f9 l9 : Nat) (rec_X6_readComparison : Int32 → Int32 → Int32 → Int32 → (Nat → Int32) → Int32 → (Nat → Int32) → Int32 → Option (Int32 × Int32 × Int32 × Int32 × (Nat → Int32))) (hrec_X6_readComparison : HX6_readComparison l D Y { frames := f9, cells := 0, slots := 0, locals := l9 } rec_X6_readComparison) (ao ap1 : Nat → Nat) (io_length : Int32) (io_at : Int32) (io_sign : Int32) (io_bad : Int32) (co_codes : Nat → Int32) (ip1_length : Int32) (cp1_signs : Nat → Int32) (x2 : Int32) (res : Int32 × Int32 × Int32 × Int32 × (Nat → Int32)) (hf : fX6_readProduct rec_X6_readComparison io_length io_at io_sign io_bad co_codes ip1_length cp1_signs x2 = some res) : amf l D Y yX6_readProduct wsX6_readProduct (rmX6_readProduct f9 l9) [.ref (ao 0), .ref (ap1 0), .int x2] [oX6 ao io_length io_at io_sign io_bad, rI Y (ao 1) 40 co_codes, oX10 ap1 ip1_length, rC Y (ap1 1) 80 cp1_signs] none [oX6 ao res.1 res.2.1 res.2.2.1 res.2.2.2.1, rI Y (ao 1) 40 res.2.2.2.2, oX10 ap1 ip1_length, rC Y (ap1 1) 80 cp1_signs] := by
  refine amf.of (cc := cX6_readProduct) (maxL := 5) (rt := none) (by decide) rfl RX6 rfl (Nat.le_of_ble_eq_true rfl) [some (.ref (ao 0)), some (.ref (ap1 0)), some (.int x2), none, none] rfl ?_
  intro X C hQ
  unfold fX6_readProduct at hf
  refine a_aload_n C dX6_readProduct_0 rfl ?_
  refine a_aload_n C dX6_readProduct_1 rfl ?_
  refine a_iload_n C dX6_readProduct_2 rfl ?_
  obtain ⟨r8, h8, hf⟩ := fx_bind hf
  refine a_fV C (kX6_readThing l D Y f9 l9 rec_X6_readComparison hrec_X6_readComparison ao ap1 io_length io_at io_sign io_bad co_codes ip1_length cp1_signs x2 r8 h8) gX6_readProduct_X6_readThing rfl dvX6_readThing ⟨⟨rfl, rfl⟩, ⟨by dsimp only; omega, by dsimp only; omega⟩, ⟨Nat.le_of_ble_eq_true rfl, Nat.le_of_ble_eq_true rfl⟩⟩ rfl (Nat.le_of_ble_eq_true rfl) dX6_readProduct_3 rfl rfl [0, 1, 2, 3] [] ⟨rfl, rfl, rfl, rfl, trivial⟩ rfl rfl [oX6 ao r8.1 r8.2.1 r8.2.2.1 r8.2.2.2.1, rI Y (ao 1) 40 r8.2.2.2.2, oX10 ap1 ip1_length, rC Y (ap1 1) 80 cp1_signs] ⟨rfl, rfl, rfl, rfl, trivial⟩ trivial rfl ?_
  refine a_iconst C (0 : Int32) dX6_readProduct_6 (by decide) ?_
  refine a_istore_n C dX6_readProduct_7 (by decide) rfl ?_
  exact kX6_readProduct_b8 hrec_X6_readComparison C hQ hf
abbrev rmX6_readSum (f9 l9 : Nat) : Room := { frames := f9 + 5, cells := 0, slots := 0, locals := l9 + 114 }
theorem eX6_readSum_inX6 : ∀ w ∈ wsX60, w ∈ wsX6_readSum := by decide +kernel
theorem eX6_readSum_54 : aF wsX6_readSum RX6 54 6 4 := ⟨RX6, TX6, 6, rfl, eX6_readSum_inX6, by decide, by decide +kernel⟩
def fX6_readSum_b72 (rec_X6_readComparison : Int32 → Int32 → Int32 → Int32 → (Nat → Int32) → Int32 → (Nat → Int32) → Int32 → Option (Int32 × Int32 × Int32 × Int32 × (Nat → Int32))) (io_length : Int32) (io_at : Int32) (io_sign : Int32) (io_bad : Int32) (co_codes : Nat → Int32) (ip1_length : Int32) (cp1_signs : Nat → Int32) : Option (Int32 × Int32 × Int32 × Int32 × (Nat → Int32)) :=
  some (io_length, io_at, io_sign, io_bad, co_codes)
set_option maxHeartbeats 400000 in
set_option maxRecDepth 100000 in
theorem kX6_readSum_b72 {X : cxT} {l : Launch} {D : va_G} {Y : Nat → ClassId} {ao ap1 : Nat → Nat} {io_length : Int32} {io_at : Int32} {io_sign : Int32} {io_bad : Int32} {co_codes : Nat → Int32} {ip1_length : Int32} {cp1_signs : Nat → Int32} {res : Int32 × Int32 × Int32 × Int32 × (Nat → Int32)} {f9 l9 : Nat} {rec_X6_readComparison : Int32 → Int32 → Int32 → Int32 → (Nat → Int32) → Int32 → (Nat → Int32) → Int32 → Option (Int32 × Int32 × Int32 × Int32 × (Nat → Int32))} (hrec_X6_readComparison : HX6_readComparison l D Y { frames := f9, cells := 0, slots := 0, locals := l9 } rec_X6_readComparison) (C : axC X l D Y cX6_readSum 5 RX6 wsX6_readSum (rmX6_readSum f9 l9) none) (hQ : axQ X 0 0 (fun r9 w9 => r9 = none ∧ w9 = [oX6 ao res.1 res.2.1 res.2.2.1 res.2.2.2.1, rI Y (ao 1) 40 res.2.2.2.2, oX10 ap1 ip1_length, rC Y (ap1 1) 80 cp1_signs])) (hf : fX6_readSum_b72 rec_X6_readComparison io_length io_at io_sign io_bad co_codes ip1_length cp1_signs = some res) : ax X 0 0 72 [none, none, none, none, none] [oX6 ao io_length io_at io_sign io_bad, rI Y (ao 1) 40 co_codes, oX10 ap1 ip1_length, rC Y (ap1 1) 80 cp1_signs] [] := by
  unfold fX6_readSum_b72 at hf
  obtain rfl := fx_some hf
  exact a_vret C hQ dX6_readSum_72 ⟨rfl, rfl⟩
def fX6_readSum_b63 (rec_X6_readComparison : Int32 → Int32 → Int32 → Int32 → (Nat → Int32) → Int32 → (Nat → Int32) → Int32 → Option (Int32 × Int32 × Int32 × Int32 × (Nat → Int32))) (io_length : Int32) (io_at : Int32) (io_sign : Int32) (io_bad : Int32) (co_codes : Nat → Int32) (ip1_length : Int32) (cp1_signs : Nat → Int32) (x2 : Int32) (x3 : Int32) (s1 : Int32) (k8 : Int32 × Int32 × Int32 × Int32 × (Nat → Int32) × Int32 → Option (Int32 × Int32 × Int32 × Int32 × (Nat → Int32))) : Option (Int32 × Int32 × Int32 × Int32 × (Nat → Int32)) :=
  (fX6_put io_length co_codes s1).bind (fun r1 => k8 (r1.1, io_at, io_sign, io_bad, r1.2, (x3 + (1 : Int32))))
set_option maxHeartbeats 400000 in
set_option maxRecDepth 100000 in
theorem kX6_readSum_b63 {X : cxT} {l : Launch} {D : va_G} {Y : Nat → ClassId} {ao ap1 : Nat → Nat} {io_length : Int32} {io_at : Int32} {io_sign : Int32} {io_bad : Int32} {co_codes : Nat → Int32} {ip1_length : Int32} {cp1_signs : Nat → Int32} {x2 : Int32} {x3 : Int32} {s1 : Int32} {res : Int32 × Int32 × Int32 × Int32 × (Nat → Int32)} {f9 l9 : Nat} {rec_X6_readComparison : Int32 → Int32 → Int32 → Int32 → (Nat → Int32) → Int32 → (Nat → Int32) → Int32 → Option (Int32 × Int32 × Int32 × Int32 × (Nat → Int32))} (hrec_X6_readComparison : HX6_readComparison l D Y { frames := f9, cells := 0, slots := 0, locals := l9 } rec_X6_readComparison) (C : axC X l D Y cX6_readSum 5 RX6 wsX6_readSum (rmX6_readSum f9 l9) none) (hQ : axQ X 0 0 (fun r9 w9 => r9 = none ∧ w9 = [oX6 ao res.1 res.2.1 res.2.2.1 res.2.2.2.1, rI Y (ao 1) 40 res.2.2.2.2, oX10 ap1 ip1_length, rC Y (ap1 1) 80 cp1_signs])) {k8 : Int32 × Int32 × Int32 × Int32 × (Nat → Int32) × Int32 → Option (Int32 × Int32 × Int32 × Int32 × (Nat → Int32))} (hk8 : ∀ s : Int32 × Int32 × Int32 × Int32 × (Nat → Int32) × Int32, k8 s = some res → ax X 0 0 8 [some (.ref (ao 0)), some (.ref (ap1 0)), some (.int x2), some (.int s.2.2.2.2.2), none] [oX6 ao s.1 s.2.1 s.2.2.1 s.2.2.2.1, rI Y (ao 1) 40 s.2.2.2.2.1, oX10 ap1 ip1_length, rC Y (ap1 1) 80 cp1_signs] []) (hf : fX6_readSum_b63 rec_X6_readComparison io_length io_at io_sign io_bad co_codes ip1_length cp1_signs x2 x3 s1 k8 = some res) : ax X 0 0 63 [some (.ref (ao 0)), some (.ref (ap1 0)), some (.int x2), some (.int x3), none] [oX6 ao io_length io_at io_sign io_bad, rI Y (ao 1) 40 co_codes, oX10 ap1 ip1_length, rC Y (ap1 1) 80 cp1_signs] [.int s1, .ref (ao 0)] := by
  unfold fX6_readSum_b63 at hf
  obtain ⟨r1, h1, hf⟩ := fx_bind hf
  refine a_fV C (kX6_put l D Y ao io_length io_at io_sign io_bad co_codes s1 r1 h1) gX6_readSum_X6_put rfl dvX6_put ⟨⟨rfl, rfl⟩, ⟨by dsimp only; omega, by dsimp only; omega⟩, ⟨Nat.le_of_ble_eq_true rfl, Nat.le_of_ble_eq_true rfl⟩⟩ rfl (Nat.le_of_ble_eq_true rfl) dX6_readSum_63 rfl rfl [0, 1] [2, 3] ⟨rfl, rfl, trivial⟩ rfl rfl [oX6 ao r1.1 io_at io_sign io_bad, rI Y (ao 1) 40 r1.2, oX10 ap1 ip1_length, rC Y (ap1 1) 80 cp1_signs] ⟨rfl, rfl, trivial⟩ ⟨rfl, rfl, trivial⟩ rfl ?_
  refine a_iinc C (1 : Int32) dX6_readSum_66 (by decide) rfl (by decide) rfl ?_
  refine a_goto C 8 dX6_readSum_69 (by decide) ?_
  exact hk8 (r1.1, io_at, io_sign, io_bad, r1.2, (x3 + (1 : Int32))) hf
def fX6_readSum_b32 (rec_X6_readComparison : Int32 → Int32 → Int32 → Int32 → (Nat → Int32) → Int32 → (Nat → Int32) → Int32 → Option (Int32 × Int32 × Int32 × Int32 × (Nat → Int32))) (io_length : Int32) (io_at : Int32) (io_sign : Int32) (io_bad : Int32) (co_codes : Nat → Int32) (ip1_length : Int32) (cp1_signs : Nat → Int32) (x2 : Int32) (x3 : Int32) (k8 : Int32 × Int32 × Int32 × Int32 × (Nat → Int32) × Int32 → Option (Int32 × Int32 × Int32 × Int32 × (Nat → Int32))) : Option (Int32 × Int32 × Int32 × Int32 × (Nat → Int32)) :=
  (fX6_step io_at io_sign ip1_length cp1_signs).bind (fun r2 => (fX6_readProduct rec_X6_readComparison io_length r2.1 r2.2 io_bad co_codes ip1_length cp1_signs x2).bind (fun r3 => if io_sign = (43 : Int32) then (fX6_readSum_b63 rec_X6_readComparison r3.1 r3.2.1 r3.2.2.1 r3.2.2.2.1 r3.2.2.2.2 ip1_length cp1_signs x2 x3 (-1 : Int32) k8) else (fX6_readSum_b63 rec_X6_readComparison r3.1 r3.2.1 r3.2.2.1 r3.2.2.2.1 r3.2.2.2.2 ip1_length cp1_signs x2 x3 (-2 : Int32) k8)))
set_option maxHeartbeats 400000 in
set_option maxRecDepth 100000 in
theorem kX6_readSum_b32 {X : cxT} {l : Launch} {D : va_G} {Y : Nat → ClassId} {ao ap1 : Nat → Nat} {io_length : Int32} {io_at : Int32} {io_sign : Int32} {io_bad : Int32} {co_codes : Nat → Int32} {ip1_length : Int32} {cp1_signs : Nat → Int32} {x2 : Int32} {x3 : Int32} {res : Int32 × Int32 × Int32 × Int32 × (Nat → Int32)} {f9 l9 : Nat} {rec_X6_readComparison : Int32 → Int32 → Int32 → Int32 → (Nat → Int32) → Int32 → (Nat → Int32) → Int32 → Option (Int32 × Int32 × Int32 × Int32 × (Nat → Int32))} (hrec_X6_readComparison : HX6_readComparison l D Y { frames := f9, cells := 0, slots := 0, locals := l9 } rec_X6_readComparison) (C : axC X l D Y cX6_readSum 5 RX6 wsX6_readSum (rmX6_readSum f9 l9) none) (hQ : axQ X 0 0 (fun r9 w9 => r9 = none ∧ w9 = [oX6 ao res.1 res.2.1 res.2.2.1 res.2.2.2.1, rI Y (ao 1) 40 res.2.2.2.2, oX10 ap1 ip1_length, rC Y (ap1 1) 80 cp1_signs])) {k8 : Int32 × Int32 × Int32 × Int32 × (Nat → Int32) × Int32 → Option (Int32 × Int32 × Int32 × Int32 × (Nat → Int32))} (hk8 : ∀ s : Int32 × Int32 × Int32 × Int32 × (Nat → Int32) × Int32, k8 s = some res → ax X 0 0 8 [some (.ref (ao 0)), some (.ref (ap1 0)), some (.int x2), some (.int s.2.2.2.2.2), none] [oX6 ao s.1 s.2.1 s.2.2.1 s.2.2.2.1, rI Y (ao 1) 40 s.2.2.2.2.1, oX10 ap1 ip1_length, rC Y (ap1 1) 80 cp1_signs] []) (hf : fX6_readSum_b32 rec_X6_readComparison io_length io_at io_sign io_bad co_codes ip1_length cp1_signs x2 x3 k8 = some res) : ax X 0 0 32 [some (.ref (ao 0)), some (.ref (ap1 0)), some (.int x2), some (.int x3), none] [oX6 ao io_length io_at io_sign io_bad, rI Y (ao 1) 40 co_codes, oX10 ap1 ip1_length, rC Y (ap1 1) 80 cp1_signs] [] := by
  unfold fX6_readSum_b32 at hf
  refine a_aload_n C dX6_readSum_32 rfl ?_
  refine a_get C eX6_readSum_54 dX6_readSum_33 0 rfl rfl ?_
  refine a_istore C dX6_readSum_36 (by decide) rfl ?_
  refine a_aload_n C dX6_readSum_38 rfl ?_
  refine a_aload_n C dX6_readSum_39 rfl ?_
  obtain ⟨r2, h2, hf⟩ := fx_bind hf
  refine a_fV C (kX6_step l D Y ao ap1 io_length io_at io_sign io_bad ip1_length cp1_signs r2 h2) gX6_readSum_X6_step rfl dvX6_step ⟨⟨rfl, rfl⟩, ⟨by dsimp only; omega, by dsimp only; omega⟩, ⟨Nat.le_of_ble_eq_true rfl, Nat.le_of_ble_eq_true rfl⟩⟩ rfl (Nat.le_of_ble_eq_true rfl) dX6_readSum_40 rfl rfl [0, 2, 3] [1] ⟨rfl, rfl, rfl, trivial⟩ rfl rfl [oX6 ao io_length r2.1 r2.2 io_bad, rI Y (ao 1) 40 co_codes, oX10 ap1 ip1_length, rC Y (ap1 1) 80 cp1_signs] ⟨rfl, rfl, rfl, trivial⟩ ⟨rfl, trivial⟩ rfl ?_
  refine a_aload_n C dX6_readSum_43 rfl ?_
  refine a_aload_n C dX6_readSum_44 rfl ?_
  refine a_iload_n C dX6_readSum_45 rfl ?_
  obtain ⟨r3, h3, hf⟩ := fx_bind hf
  refine a_fV C (kX6_readProduct l D Y f9 l9 rec_X6_readComparison hrec_X6_readComparison ao ap1 io_length r2.1 r2.2 io_bad co_codes ip1_length cp1_signs x2 r3 h3) gX6_readSum_X6_readProduct rfl dvX6_readProduct ⟨⟨rfl, rfl⟩, ⟨by dsimp only; omega, by dsimp only; omega⟩, ⟨Nat.le_of_ble_eq_true rfl, Nat.le_of_ble_eq_true rfl⟩⟩ rfl (Nat.le_of_ble_eq_true rfl) dX6_readSum_46 rfl rfl [0, 1, 2, 3] [] ⟨rfl, rfl, rfl, rfl, trivial⟩ rfl rfl [oX6 ao r3.1 r3.2.1 r3.2.2.1 r3.2.2.2.1, rI Y (ao 1) 40 r3.2.2.2.2, oX10 ap1 ip1_length, rC Y (ap1 1) 80 cp1_signs] ⟨rfl, rfl, rfl, rfl, trivial⟩ trivial rfl ?_
  refine a_aload_n C dX6_readSum_49 rfl ?_
  refine a_iload C dX6_readSum_50 rfl ?_
  refine a_bipush C (43 : Int32) dX6_readSum_52 (by decide) ?_
  refine a_icmp_ne C 61 dX6_readSum_54 (by decide) (fun h4 => ?_) (fun h4 => ?_)
  · have hf := fx_f h4 hf
    refine a_bipush C (-2 : Int32) dX6_readSum_61 (by decide) ?_
    refine a_kill [4] ?_
    exact kX6_readSum_b63 hrec_X6_readComparison C hQ hk8 hf
  · have hf := fx_t h4 hf
    refine a_iconst C (-1 : Int32) dX6_readSum_57 (by decide) ?_
    refine a_goto C 63 dX6_readSum_58 (by decide) ?_
    refine a_kill [4] ?_
    exact kX6_readSum_b63 hrec_X6_readComparison C hQ hk8 hf
def fX6_readSum_l8 (rec_X6_readComparison : Int32 → Int32 → Int32 → Int32 → (Nat → Int32) → Int32 → (Nat → Int32) → Int32 → Option (Int32 × Int32 × Int32 × Int32 × (Nat → Int32))) (ip1_length : Int32) (cp1_signs : Nat → Int32) (x2 : Int32) (k8 : Int32 × Int32 × Int32 × Int32 × (Nat → Int32) × Int32 → Option (Int32 × Int32 × Int32 × Int32 × (Nat → Int32))) (io_length : Int32) (io_at : Int32) (io_sign : Int32) (io_bad : Int32) (co_codes : Nat → Int32) (x3 : Int32) : Option (Int32 × Int32 × Int32 × Int32 × (Nat → Int32)) :=
  if (40 : Int32) ≤ x3 then (fX6_readSum_b72 rec_X6_readComparison io_length io_at io_sign io_bad co_codes ip1_length cp1_signs) else (if io_sign = (43 : Int32) then (fX6_readSum_b32 rec_X6_readComparison io_length io_at io_sign io_bad co_codes ip1_length cp1_signs x2 x3 k8) else (if io_sign = (45 : Int32) then (fX6_readSum_b32 rec_X6_readComparison io_length io_at io_sign io_bad co_codes ip1_length cp1_signs x2 x3 k8) else (fX6_readSum_b72 rec_X6_readComparison io_length io_at io_sign io_bad co_codes ip1_length cp1_signs)))
def fX6_readSum_b8 (rec_X6_readComparison : Int32 → Int32 → Int32 → Int32 → (Nat → Int32) → Int32 → (Nat → Int32) → Int32 → Option (Int32 × Int32 × Int32 × Int32 × (Nat → Int32))) (io_length : Int32) (io_at : Int32) (io_sign : Int32) (io_bad : Int32) (co_codes : Nat → Int32) (ip1_length : Int32) (cp1_signs : Nat → Int32) (x2 : Int32) (x3 : Int32) : Option (Int32 × Int32 × Int32 × Int32 × (Nat → Int32)) :=
  loopN (fun (s : Int32 × Int32 × Int32 × Int32 × (Nat → Int32) × Int32) k8 => fX6_readSum_l8 rec_X6_readComparison ip1_length cp1_signs x2 k8 s.1 s.2.1 s.2.2.1 s.2.2.2.1 s.2.2.2.2.1 s.2.2.2.2.2) FUEL (io_length, io_at, io_sign, io_bad, co_codes, x3)
set_option maxHeartbeats 400000 in
set_option maxRecDepth 100000 in
theorem kX6_readSum_l8 {X : cxT} {l : Launch} {D : va_G} {Y : Nat → ClassId} {ao ap1 : Nat → Nat} {io_length : Int32} {io_at : Int32} {io_sign : Int32} {io_bad : Int32} {co_codes : Nat → Int32} {ip1_length : Int32} {cp1_signs : Nat → Int32} {x2 : Int32} {x3 : Int32} {res : Int32 × Int32 × Int32 × Int32 × (Nat → Int32)} {f9 l9 : Nat} {rec_X6_readComparison : Int32 → Int32 → Int32 → Int32 → (Nat → Int32) → Int32 → (Nat → Int32) → Int32 → Option (Int32 × Int32 × Int32 × Int32 × (Nat → Int32))} (hrec_X6_readComparison : HX6_readComparison l D Y { frames := f9, cells := 0, slots := 0, locals := l9 } rec_X6_readComparison) (C : axC X l D Y cX6_readSum 5 RX6 wsX6_readSum (rmX6_readSum f9 l9) none) (hQ : axQ X 0 0 (fun r9 w9 => r9 = none ∧ w9 = [oX6 ao res.1 res.2.1 res.2.2.1 res.2.2.2.1, rI Y (ao 1) 40 res.2.2.2.2, oX10 ap1 ip1_length, rC Y (ap1 1) 80 cp1_signs])) {k8 : Int32 × Int32 × Int32 × Int32 × (Nat → Int32) × Int32 → Option (Int32 × Int32 × Int32 × Int32 × (Nat → Int32))} (hk8 : ∀ s : Int32 × Int32 × Int32 × Int32 × (Nat → Int32) × Int32, k8 s = some res → ax X 0 0 8 [some (.ref (ao 0)), some (.ref (ap1 0)), some (.int x2), some (.int s.2.2.2.2.2), none] [oX6 ao s.1 s.2.1 s.2.2.1 s.2.2.2.1, rI Y (ao 1) 40 s.2.2.2.2.1, oX10 ap1 ip1_length, rC Y (ap1 1) 80 cp1_signs] []) (hf : fX6_readSum_l8 rec_X6_readComparison ip1_length cp1_signs x2 k8 io_length io_at io_sign io_bad co_codes x3 = some res) : ax X 0 0 8 [some (.ref (ao 0)), some (.ref (ap1 0)), some (.int x2), some (.int x3), none] [oX6 ao io_length io_at io_sign io_bad, rI Y (ao 1) 40 co_codes, oX10 ap1 ip1_length, rC Y (ap1 1) 80 cp1_signs] [] := by
  unfold fX6_readSum_l8 at hf
  refine a_iload_n C dX6_readSum_8 rfl ?_
  refine a_bipush C (40 : Int32) dX6_readSum_9 (by decide) ?_
  refine a_icmp_ge C 72 dX6_readSum_11 (by decide) (fun h5 => ?_) (fun h5 => ?_)
  · have hf := fx_t h5 hf
    refine a_kill [0, 1, 2, 3] ?_
    exact kX6_readSum_b72 hrec_X6_readComparison C hQ hf
  · have hf := fx_f h5 hf
    refine a_aload_n C dX6_readSum_14 rfl ?_
    refine a_get C eX6_readSum_54 dX6_readSum_15 0 rfl rfl ?_
    refine a_bipush C (43 : Int32) dX6_readSum_18 (by decide) ?_
    refine a_icmp_eq C 32 dX6_readSum_20 (by decide) (fun h6 => ?_) (fun h6 => ?_)
    · have hf := fx_t h6 hf
      exact kX6_readSum_b32 hrec_X6_readComparison C hQ hk8 hf
    · have hf := fx_f h6 hf
      refine a_aload_n C dX6_readSum_23 rfl ?_
      refine a_get C eX6_readSum_54 dX6_readSum_24 0 rfl rfl ?_
      refine a_bipush C (45 : Int32) dX6_readSum_27 (by decide) ?_
      refine a_icmp_ne C 72 dX6_readSum_29 (by decide) (fun h7 => ?_) (fun h7 => ?_)
      · have hf := fx_f h7 hf
        refine a_kill [0, 1, 2, 3] ?_
        exact kX6_readSum_b72 hrec_X6_readComparison C hQ hf
      · have hf := fx_t h7 hf
        exact kX6_readSum_b32 hrec_X6_readComparison C hQ hk8 hf
set_option maxHeartbeats 400000 in
set_option maxRecDepth 100000 in
theorem kX6_readSum_b8 {X : cxT} {l : Launch} {D : va_G} {Y : Nat → ClassId} {ao ap1 : Nat → Nat} {io_length : Int32} {io_at : Int32} {io_sign : Int32} {io_bad : Int32} {co_codes : Nat → Int32} {ip1_length : Int32} {cp1_signs : Nat → Int32} {x2 : Int32} {x3 : Int32} {res : Int32 × Int32 × Int32 × Int32 × (Nat → Int32)} {f9 l9 : Nat} {rec_X6_readComparison : Int32 → Int32 → Int32 → Int32 → (Nat → Int32) → Int32 → (Nat → Int32) → Int32 → Option (Int32 × Int32 × Int32 × Int32 × (Nat → Int32))} (hrec_X6_readComparison : HX6_readComparison l D Y { frames := f9, cells := 0, slots := 0, locals := l9 } rec_X6_readComparison) (C : axC X l D Y cX6_readSum 5 RX6 wsX6_readSum (rmX6_readSum f9 l9) none) (hQ : axQ X 0 0 (fun r9 w9 => r9 = none ∧ w9 = [oX6 ao res.1 res.2.1 res.2.2.1 res.2.2.2.1, rI Y (ao 1) 40 res.2.2.2.2, oX10 ap1 ip1_length, rC Y (ap1 1) 80 cp1_signs])) (hf : fX6_readSum_b8 rec_X6_readComparison io_length io_at io_sign io_bad co_codes ip1_length cp1_signs x2 x3 = some res) : ax X 0 0 8 [some (.ref (ao 0)), some (.ref (ap1 0)), some (.int x2), some (.int x3), none] [oX6 ao io_length io_at io_sign io_bad, rI Y (ao 1) 40 co_codes, oX10 ap1 ip1_length, rC Y (ap1 1) 80 cp1_signs] [] := by
  unfold fX6_readSum_b8 at hf
  exact fx_loop (P := fun s : Int32 × Int32 × Int32 × Int32 × (Nat → Int32) × Int32 => ax X 0 0 8 [some (.ref (ao 0)), some (.ref (ap1 0)), some (.int x2), some (.int s.2.2.2.2.2), none] [oX6 ao s.1 s.2.1 s.2.2.1 s.2.2.2.1, rI Y (ao 1) 40 s.2.2.2.2.1, oX10 ap1 ip1_length, rC Y (ap1 1) 80 cp1_signs] []) (fun s k8 hk8 h => kX6_readSum_l8 hrec_X6_readComparison C hQ hk8 h) FUEL (io_length, io_at, io_sign, io_bad, co_codes, x3) hf
def fX6_readSum (rec_X6_readComparison : Int32 → Int32 → Int32 → Int32 → (Nat → Int32) → Int32 → (Nat → Int32) → Int32 → Option (Int32 × Int32 × Int32 × Int32 × (Nat → Int32))) (io_length : Int32) (io_at : Int32) (io_sign : Int32) (io_bad : Int32) (co_codes : Nat → Int32) (ip1_length : Int32) (cp1_signs : Nat → Int32) (x2 : Int32) : Option (Int32 × Int32 × Int32 × Int32 × (Nat → Int32)) :=
  (fX6_readProduct rec_X6_readComparison io_length io_at io_sign io_bad co_codes ip1_length cp1_signs x2).bind (fun r8 => fX6_readSum_b8 rec_X6_readComparison r8.1 r8.2.1 r8.2.2.1 r8.2.2.2.1 r8.2.2.2.2 ip1_length cp1_signs x2 (0 : Int32))
set_option maxHeartbeats 400000 in
set_option maxRecDepth 100000 in
theorem kX6_readSum (l : Launch) (D : va_G) (Y : Nat → ClassId) (f9 l9 : Nat) (rec_X6_readComparison : Int32 → Int32 → Int32 → Int32 → (Nat → Int32) → Int32 → (Nat → Int32) → Int32 → Option (Int32 × Int32 × Int32 × Int32 × (Nat → Int32))) (hrec_X6_readComparison : HX6_readComparison l D Y { frames := f9, cells := 0, slots := 0, locals := l9 } rec_X6_readComparison) (ao ap1 : Nat → Nat) (io_length : Int32) (io_at : Int32) (io_sign : Int32) (io_bad : Int32) (co_codes : Nat → Int32) (ip1_length : Int32) (cp1_signs : Nat → Int32) (x2 : Int32) (res : Int32 × Int32 × Int32 × Int32 × (Nat → Int32)) (hf : fX6_readSum rec_X6_readComparison io_length io_at io_sign io_bad co_codes ip1_length cp1_signs x2 = some res) : amf l D Y yX6_readSum wsX6_readSum (rmX6_readSum f9 l9) [.ref (ao 0), .ref (ap1 0), .int x2] [oX6 ao io_length io_at io_sign io_bad, rI Y (ao 1) 40 co_codes, oX10 ap1 ip1_length, rC Y (ap1 1) 80 cp1_signs] none [oX6 ao res.1 res.2.1 res.2.2.1 res.2.2.2.1, rI Y (ao 1) 40 res.2.2.2.2, oX10 ap1 ip1_length, rC Y (ap1 1) 80 cp1_signs] := by
  refine amf.of (cc := cX6_readSum) (maxL := 5) (rt := none) (by decide) rfl RX6 rfl (Nat.le_of_ble_eq_true rfl) [some (.ref (ao 0)), some (.ref (ap1 0)), some (.int x2), none, none] rfl ?_
  intro X C hQ
  unfold fX6_readSum at hf
  refine a_aload_n C dX6_readSum_0 rfl ?_
  refine a_aload_n C dX6_readSum_1 rfl ?_
  refine a_iload_n C dX6_readSum_2 rfl ?_
  obtain ⟨r8, h8, hf⟩ := fx_bind hf
  refine a_fV C (kX6_readProduct l D Y f9 l9 rec_X6_readComparison hrec_X6_readComparison ao ap1 io_length io_at io_sign io_bad co_codes ip1_length cp1_signs x2 r8 h8) gX6_readSum_X6_readProduct rfl dvX6_readProduct ⟨⟨rfl, rfl⟩, ⟨by dsimp only; omega, by dsimp only; omega⟩, ⟨Nat.le_of_ble_eq_true rfl, Nat.le_of_ble_eq_true rfl⟩⟩ rfl (Nat.le_of_ble_eq_true rfl) dX6_readSum_3 rfl rfl [0, 1, 2, 3] [] ⟨rfl, rfl, rfl, rfl, trivial⟩ rfl rfl [oX6 ao r8.1 r8.2.1 r8.2.2.1 r8.2.2.2.1, rI Y (ao 1) 40 r8.2.2.2.2, oX10 ap1 ip1_length, rC Y (ap1 1) 80 cp1_signs] ⟨rfl, rfl, rfl, rfl, trivial⟩ trivial rfl ?_
  refine a_iconst C (0 : Int32) dX6_readSum_6 (by decide) ?_
  refine a_istore_n C dX6_readSum_7 (by decide) rfl ?_
  exact kX6_readSum_b8 hrec_X6_readComparison C hQ hf
abbrev rmX6_readComparison (f9 l9 : Nat) : Room := { frames := f9 + 6, cells := 0, slots := 0, locals := l9 + 138 }
theorem eX6_readComparison_inX6 : ∀ w ∈ wsX60, w ∈ wsX6_readComparison := by decide +kernel
theorem eX6_readComparison_54 : aF wsX6_readComparison RX6 54 6 4 := ⟨RX6, TX6, 6, rfl, eX6_readComparison_inX6, by decide, by decide +kernel⟩
def fX6_readComparison_b68 (rec_X6_readComparison : Int32 → Int32 → Int32 → Int32 → (Nat → Int32) → Int32 → (Nat → Int32) → Int32 → Option (Int32 × Int32 × Int32 × Int32 × (Nat → Int32))) (io_length : Int32) (io_at : Int32) (io_sign : Int32) (io_bad : Int32) (co_codes : Nat → Int32) (ip1_length : Int32) (cp1_signs : Nat → Int32) : Option (Int32 × Int32 × Int32 × Int32 × (Nat → Int32)) :=
  some (io_length, io_at, io_sign, io_bad, co_codes)
set_option maxHeartbeats 400000 in
set_option maxRecDepth 100000 in
theorem kX6_readComparison_b68 {X : cxT} {l : Launch} {D : va_G} {Y : Nat → ClassId} {ao ap1 : Nat → Nat} {io_length : Int32} {io_at : Int32} {io_sign : Int32} {io_bad : Int32} {co_codes : Nat → Int32} {ip1_length : Int32} {cp1_signs : Nat → Int32} {res : Int32 × Int32 × Int32 × Int32 × (Nat → Int32)} {f9 l9 : Nat} {rec_X6_readComparison : Int32 → Int32 → Int32 → Int32 → (Nat → Int32) → Int32 → (Nat → Int32) → Int32 → Option (Int32 × Int32 × Int32 × Int32 × (Nat → Int32))} (hrec_X6_readComparison : HX6_readComparison l D Y { frames := f9, cells := 0, slots := 0, locals := l9 } rec_X6_readComparison) (C : axC X l D Y cX6_readComparison 4 RX6 wsX6_readComparison (rmX6_readComparison f9 l9) none) (hQ : axQ X 0 0 (fun r9 w9 => r9 = none ∧ w9 = [oX6 ao res.1 res.2.1 res.2.2.1 res.2.2.2.1, rI Y (ao 1) 40 res.2.2.2.2, oX10 ap1 ip1_length, rC Y (ap1 1) 80 cp1_signs])) (hf : fX6_readComparison_b68 rec_X6_readComparison io_length io_at io_sign io_bad co_codes ip1_length cp1_signs = some res) : ax X 0 0 68 [none, none, none, none] [oX6 ao io_length io_at io_sign io_bad, rI Y (ao 1) 40 co_codes, oX10 ap1 ip1_length, rC Y (ap1 1) 80 cp1_signs] [] := by
  unfold fX6_readComparison_b68 at hf
  obtain rfl := fx_some hf
  exact a_vret C hQ dX6_readComparison_68 ⟨rfl, rfl⟩
def fX6_readComparison_b65 (rec_X6_readComparison : Int32 → Int32 → Int32 → Int32 → (Nat → Int32) → Int32 → (Nat → Int32) → Int32 → Option (Int32 × Int32 × Int32 × Int32 × (Nat → Int32))) (io_length : Int32) (io_at : Int32) (io_sign : Int32) (io_bad : Int32) (co_codes : Nat → Int32) (ip1_length : Int32) (cp1_signs : Nat → Int32) (s1 : Int32) : Option (Int32 × Int32 × Int32 × Int32 × (Nat → Int32)) :=
  (fX6_put io_length co_codes s1).bind (fun r1 => fX6_readComparison_b68 rec_X6_readComparison r1.1 io_at io_sign io_bad r1.2 ip1_length cp1_signs)
set_option maxHeartbeats 400000 in
set_option maxRecDepth 100000 in
theorem kX6_readComparison_b65 {X : cxT} {l : Launch} {D : va_G} {Y : Nat → ClassId} {ao ap1 : Nat → Nat} {io_length : Int32} {io_at : Int32} {io_sign : Int32} {io_bad : Int32} {co_codes : Nat → Int32} {ip1_length : Int32} {cp1_signs : Nat → Int32} {s1 : Int32} {res : Int32 × Int32 × Int32 × Int32 × (Nat → Int32)} {f9 l9 : Nat} {rec_X6_readComparison : Int32 → Int32 → Int32 → Int32 → (Nat → Int32) → Int32 → (Nat → Int32) → Int32 → Option (Int32 × Int32 × Int32 × Int32 × (Nat → Int32))} (hrec_X6_readComparison : HX6_readComparison l D Y { frames := f9, cells := 0, slots := 0, locals := l9 } rec_X6_readComparison) (C : axC X l D Y cX6_readComparison 4 RX6 wsX6_readComparison (rmX6_readComparison f9 l9) none) (hQ : axQ X 0 0 (fun r9 w9 => r9 = none ∧ w9 = [oX6 ao res.1 res.2.1 res.2.2.1 res.2.2.2.1, rI Y (ao 1) 40 res.2.2.2.2, oX10 ap1 ip1_length, rC Y (ap1 1) 80 cp1_signs])) (hf : fX6_readComparison_b65 rec_X6_readComparison io_length io_at io_sign io_bad co_codes ip1_length cp1_signs s1 = some res) : ax X 0 0 65 [none, none, none, none] [oX6 ao io_length io_at io_sign io_bad, rI Y (ao 1) 40 co_codes, oX10 ap1 ip1_length, rC Y (ap1 1) 80 cp1_signs] [.int s1, .ref (ao 0)] := by
  unfold fX6_readComparison_b65 at hf
  obtain ⟨r1, h1, hf⟩ := fx_bind hf
  refine a_fV C (kX6_put l D Y ao io_length io_at io_sign io_bad co_codes s1 r1 h1) gX6_readComparison_X6_put rfl dvX6_put ⟨⟨rfl, rfl⟩, ⟨by dsimp only; omega, by dsimp only; omega⟩, ⟨Nat.le_of_ble_eq_true rfl, Nat.le_of_ble_eq_true rfl⟩⟩ rfl (Nat.le_of_ble_eq_true rfl) dX6_readComparison_65 rfl rfl [0, 1] [2, 3] ⟨rfl, rfl, trivial⟩ rfl rfl [oX6 ao r1.1 io_at io_sign io_bad, rI Y (ao 1) 40 r1.2, oX10 ap1 ip1_length, rC Y (ap1 1) 80 cp1_signs] ⟨rfl, rfl, trivial⟩ ⟨rfl, rfl, trivial⟩ rfl ?_
  exact kX6_readComparison_b68 hrec_X6_readComparison C hQ hf
def fX6_readComparison_b29 (rec_X6_readComparison : Int32 → Int32 → Int32 → Int32 → (Nat → Int32) → Int32 → (Nat → Int32) → Int32 → Option (Int32 × Int32 × Int32 × Int32 × (Nat → Int32))) (io_length : Int32) (io_at : Int32) (io_sign : Int32) (io_bad : Int32) (co_codes : Nat → Int32) (ip1_length : Int32) (cp1_signs : Nat → Int32) (x2 : Int32) (x3 : Int32) : Option (Int32 × Int32 × Int32 × Int32 × (Nat → Int32)) :=
  (fX6_step io_at io_sign ip1_length cp1_signs).bind (fun r2 => (fX6_readSum rec_X6_readComparison io_length r2.1 r2.2 io_bad co_codes ip1_length cp1_signs x2).bind (fun r3 => if x3 = (60 : Int32) then (fX6_readComparison_b65 rec_X6_readComparison r3.1 r3.2.1 r3.2.2.1 r3.2.2.2.1 r3.2.2.2.2 ip1_length cp1_signs (-5 : Int32)) else (if x3 = (62 : Int32) then (fX6_readComparison_b65 rec_X6_readComparison r3.1 r3.2.1 r3.2.2.1 r3.2.2.2.1 r3.2.2.2.2 ip1_length cp1_signs (-6 : Int32)) else (fX6_readComparison_b65 rec_X6_readComparison r3.1 r3.2.1 r3.2.2.1 r3.2.2.2.1 r3.2.2.2.2 ip1_length cp1_signs (-7 : Int32)))))
set_option maxHeartbeats 400000 in
set_option maxRecDepth 100000 in
theorem kX6_readComparison_b29 {X : cxT} {l : Launch} {D : va_G} {Y : Nat → ClassId} {ao ap1 : Nat → Nat} {io_length : Int32} {io_at : Int32} {io_sign : Int32} {io_bad : Int32} {co_codes : Nat → Int32} {ip1_length : Int32} {cp1_signs : Nat → Int32} {x2 : Int32} {x3 : Int32} {res : Int32 × Int32 × Int32 × Int32 × (Nat → Int32)} {f9 l9 : Nat} {rec_X6_readComparison : Int32 → Int32 → Int32 → Int32 → (Nat → Int32) → Int32 → (Nat → Int32) → Int32 → Option (Int32 × Int32 × Int32 × Int32 × (Nat → Int32))} (hrec_X6_readComparison : HX6_readComparison l D Y { frames := f9, cells := 0, slots := 0, locals := l9 } rec_X6_readComparison) (C : axC X l D Y cX6_readComparison 4 RX6 wsX6_readComparison (rmX6_readComparison f9 l9) none) (hQ : axQ X 0 0 (fun r9 w9 => r9 = none ∧ w9 = [oX6 ao res.1 res.2.1 res.2.2.1 res.2.2.2.1, rI Y (ao 1) 40 res.2.2.2.2, oX10 ap1 ip1_length, rC Y (ap1 1) 80 cp1_signs])) (hf : fX6_readComparison_b29 rec_X6_readComparison io_length io_at io_sign io_bad co_codes ip1_length cp1_signs x2 x3 = some res) : ax X 0 0 29 [some (.ref (ao 0)), some (.ref (ap1 0)), some (.int x2), some (.int x3)] [oX6 ao io_length io_at io_sign io_bad, rI Y (ao 1) 40 co_codes, oX10 ap1 ip1_length, rC Y (ap1 1) 80 cp1_signs] [] := by
  unfold fX6_readComparison_b29 at hf
  refine a_aload_n C dX6_readComparison_29 rfl ?_
  refine a_aload_n C dX6_readComparison_30 rfl ?_
  obtain ⟨r2, h2, hf⟩ := fx_bind hf
  refine a_fV C (kX6_step l D Y ao ap1 io_length io_at io_sign io_bad ip1_length cp1_signs r2 h2) gX6_readComparison_X6_step rfl dvX6_step ⟨⟨rfl, rfl⟩, ⟨by dsimp only; omega, by dsimp only; omega⟩, ⟨Nat.le_of_ble_eq_true rfl, Nat.le_of_ble_eq_true rfl⟩⟩ rfl (Nat.le_of_ble_eq_true rfl) dX6_readComparison_31 rfl rfl [0, 2, 3] [1] ⟨rfl, rfl, rfl, trivial⟩ rfl rfl [oX6 ao io_length r2.1 r2.2 io_bad, rI Y (ao 1) 40 co_codes, oX10 ap1 ip1_length, rC Y (ap1 1) 80 cp1_signs] ⟨rfl, rfl, rfl, trivial⟩ ⟨rfl, trivial⟩ rfl ?_
  refine a_aload_n C dX6_readComparison_34 rfl ?_
  refine a_aload_n C dX6_readComparison_35 rfl ?_
  refine a_iload_n C dX6_readComparison_36 rfl ?_
  obtain ⟨r3, h3, hf⟩ := fx_bind hf
  refine a_fV C (kX6_readSum l D Y f9 l9 rec_X6_readComparison hrec_X6_readComparison ao ap1 io_length r2.1 r2.2 io_bad co_codes ip1_length cp1_signs x2 r3 h3) gX6_readComparison_X6_readSum rfl dvX6_readSum ⟨⟨rfl, rfl⟩, ⟨by dsimp only; omega, by dsimp only; omega⟩, ⟨Nat.le_of_ble_eq_true rfl, Nat.le_of_ble_eq_true rfl⟩⟩ rfl (Nat.le_of_ble_eq_true rfl) dX6_readComparison_37 rfl rfl [0, 1, 2, 3] [] ⟨rfl, rfl, rfl, rfl, trivial⟩ rfl rfl [oX6 ao r3.1 r3.2.1 r3.2.2.1 r3.2.2.2.1, rI Y (ao 1) 40 r3.2.2.2.2, oX10 ap1 ip1_length, rC Y (ap1 1) 80 cp1_signs] ⟨rfl, rfl, rfl, rfl, trivial⟩ trivial rfl ?_
  refine a_aload_n C dX6_readComparison_40 rfl ?_
  refine a_iload_n C dX6_readComparison_41 rfl ?_
  refine a_bipush C (60 : Int32) dX6_readComparison_42 (by decide) ?_
  refine a_icmp_ne C 52 dX6_readComparison_44 (by decide) (fun h4 => ?_) (fun h4 => ?_)
  · have hf := fx_f h4 hf
    refine a_iload_n C dX6_readComparison_52 rfl ?_
    refine a_bipush C (62 : Int32) dX6_readComparison_53 (by decide) ?_
    refine a_icmp_ne C 63 dX6_readComparison_55 (by decide) (fun h5 => ?_) (fun h5 => ?_)
    · have hf := fx_f h5 hf
      refine a_bipush C (-7 : Int32) dX6_readComparison_63 (by decide) ?_
      refine a_kill [0, 1, 2, 3] ?_
      exact kX6_readComparison_b65 hrec_X6_readComparison C hQ hf
    · have hf := fx_t h5 hf
      refine a_bipush C (-6 : Int32) dX6_readComparison_58 (by decide) ?_
      refine a_goto C 65 dX6_readComparison_60 (by decide) ?_
      refine a_kill [0, 1, 2, 3] ?_
      exact kX6_readComparison_b65 hrec_X6_readComparison C hQ hf
  · have hf := fx_t h4 hf
    refine a_bipush C (-5 : Int32) dX6_readComparison_47 (by decide) ?_
    refine a_goto C 65 dX6_readComparison_49 (by decide) ?_
    refine a_kill [0, 1, 2, 3] ?_
    exact kX6_readComparison_b65 hrec_X6_readComparison C hQ hf
def fX6_readComparison_s (rec_X6_readComparison : Int32 → Int32 → Int32 → Int32 → (Nat → Int32) → Int32 → (Nat → Int32) → Int32 → Option (Int32 × Int32 × Int32 × Int32 × (Nat → Int32))) (io_length : Int32) (io_at : Int32) (io_sign : Int32) (io_bad : Int32) (co_codes : Nat → Int32) (ip1_length : Int32) (cp1_signs : Nat → Int32) (x2 : Int32) : Option (Int32 × Int32 × Int32 × Int32 × (Nat → Int32)) :=
  (fX6_readSum rec_X6_readComparison io_length io_at io_sign io_bad co_codes ip1_length cp1_signs x2).bind (fun r6 => if r6.2.2.1 = (60 : Int32) then (fX6_readComparison_b29 rec_X6_readComparison r6.1 r6.2.1 r6.2.2.1 r6.2.2.2.1 r6.2.2.2.2 ip1_length cp1_signs x2 r6.2.2.1) else (if r6.2.2.1 = (62 : Int32) then (fX6_readComparison_b29 rec_X6_readComparison r6.1 r6.2.1 r6.2.2.1 r6.2.2.2.1 r6.2.2.2.2 ip1_length cp1_signs x2 r6.2.2.1) else (if r6.2.2.1 = (61 : Int32) then (fX6_readComparison_b29 rec_X6_readComparison r6.1 r6.2.1 r6.2.2.1 r6.2.2.2.1 r6.2.2.2.2 ip1_length cp1_signs x2 r6.2.2.1) else (fX6_readComparison_b68 rec_X6_readComparison r6.1 r6.2.1 r6.2.2.1 r6.2.2.2.1 r6.2.2.2.2 ip1_length cp1_signs))))
set_option maxHeartbeats 400000 in
set_option maxRecDepth 100000 in
theorem kX6_readComparison_s (l : Launch) (D : va_G) (Y : Nat → ClassId) (f9 l9 : Nat) (rec_X6_readComparison : Int32 → Int32 → Int32 → Int32 → (Nat → Int32) → Int32 → (Nat → Int32) → Int32 → Option (Int32 × Int32 × Int32 × Int32 × (Nat → Int32))) (hrec_X6_readComparison : HX6_readComparison l D Y { frames := f9, cells := 0, slots := 0, locals := l9 } rec_X6_readComparison) (ao ap1 : Nat → Nat) (io_length : Int32) (io_at : Int32) (io_sign : Int32) (io_bad : Int32) (co_codes : Nat → Int32) (ip1_length : Int32) (cp1_signs : Nat → Int32) (x2 : Int32) (res : Int32 × Int32 × Int32 × Int32 × (Nat → Int32)) (hf : fX6_readComparison_s rec_X6_readComparison io_length io_at io_sign io_bad co_codes ip1_length cp1_signs x2 = some res) : amf l D Y yX6_readComparison wsX6_readComparison (rmX6_readComparison f9 l9) [.ref (ao 0), .ref (ap1 0), .int x2] [oX6 ao io_length io_at io_sign io_bad, rI Y (ao 1) 40 co_codes, oX10 ap1 ip1_length, rC Y (ap1 1) 80 cp1_signs] none [oX6 ao res.1 res.2.1 res.2.2.1 res.2.2.2.1, rI Y (ao 1) 40 res.2.2.2.2, oX10 ap1 ip1_length, rC Y (ap1 1) 80 cp1_signs] := by
  refine amf.of (cc := cX6_readComparison) (maxL := 4) (rt := none) (by decide) rfl RX6 rfl (Nat.le_of_ble_eq_true rfl) [some (.ref (ao 0)), some (.ref (ap1 0)), some (.int x2), none] rfl ?_
  intro X C hQ
  unfold fX6_readComparison_s at hf
  refine a_aload_n C dX6_readComparison_0 rfl ?_
  refine a_aload_n C dX6_readComparison_1 rfl ?_
  refine a_iload_n C dX6_readComparison_2 rfl ?_
  obtain ⟨r6, h6, hf⟩ := fx_bind hf
  refine a_fV C (kX6_readSum l D Y f9 l9 rec_X6_readComparison hrec_X6_readComparison ao ap1 io_length io_at io_sign io_bad co_codes ip1_length cp1_signs x2 r6 h6) gX6_readComparison_X6_readSum rfl dvX6_readSum ⟨⟨rfl, rfl⟩, ⟨by dsimp only; omega, by dsimp only; omega⟩, ⟨Nat.le_of_ble_eq_true rfl, Nat.le_of_ble_eq_true rfl⟩⟩ rfl (Nat.le_of_ble_eq_true rfl) dX6_readComparison_3 rfl rfl [0, 1, 2, 3] [] ⟨rfl, rfl, rfl, rfl, trivial⟩ rfl rfl [oX6 ao r6.1 r6.2.1 r6.2.2.1 r6.2.2.2.1, rI Y (ao 1) 40 r6.2.2.2.2, oX10 ap1 ip1_length, rC Y (ap1 1) 80 cp1_signs] ⟨rfl, rfl, rfl, rfl, trivial⟩ trivial rfl ?_
  refine a_aload_n C dX6_readComparison_6 rfl ?_
  refine a_get C eX6_readComparison_54 dX6_readComparison_7 0 rfl rfl ?_
  refine a_istore_n C dX6_readComparison_10 (by decide) rfl ?_
  refine a_iload_n C dX6_readComparison_11 rfl ?_
  refine a_bipush C (60 : Int32) dX6_readComparison_12 (by decide) ?_
  refine a_icmp_eq C 29 dX6_readComparison_14 (by decide) (fun h7 => ?_) (fun h7 => ?_)
  · have hf := fx_t h7 hf
    exact kX6_readComparison_b29 hrec_X6_readComparison C hQ hf
  · have hf := fx_f h7 hf
    refine a_iload_n C dX6_readComparison_17 rfl ?_
    refine a_bipush C (62 : Int32) dX6_readComparison_18 (by decide) ?_
    refine a_icmp_eq C 29 dX6_readComparison_20 (by decide) (fun h8 => ?_) (fun h8 => ?_)
    · have hf := fx_t h8 hf
      exact kX6_readComparison_b29 hrec_X6_readComparison C hQ hf
    · have hf := fx_f h8 hf
      refine a_iload_n C dX6_readComparison_23 rfl ?_
      refine a_bipush C (61 : Int32) dX6_readComparison_24 (by decide) ?_
      refine a_icmp_ne C 68 dX6_readComparison_26 (by decide) (fun h9 => ?_) (fun h9 => ?_)
      · have hf := fx_f h9 hf
        refine a_kill [0, 1, 2, 3] ?_
        exact kX6_readComparison_b68 hrec_X6_readComparison C hQ hf
      · have hf := fx_t h9 hf
        exact kX6_readComparison_b29 hrec_X6_readComparison C hQ hf
abbrev RMX6_readComparison (d : Nat) : Room := { frames := 6 * d, cells := 0, slots := 0, locals := 138 * d }
def fX6_readComparison : Nat → Int32 → Int32 → Int32 → Int32 → (Nat → Int32) → Int32 → (Nat → Int32) → Int32 → Option (Int32 × Int32 × Int32 × Int32 × (Nat → Int32))
  | 0 => fun _ _ _ _ _ _ _ _ => none
  | d + 1 => fX6_readComparison_s (fX6_readComparison d)
theorem hX6_readComparison (l : Launch) (D : va_G) (Y : Nat → ClassId) : ∀ d : Nat, HX6_readComparison l D Y (RMX6_readComparison d) (fX6_readComparison d)
  | 0 => fun _ _ _ _ _ _ _ _ _ _ _ h => by cases h
  | d + 1 => fun ao ap1 io_length io_at io_sign io_bad co_codes ip1_length cp1_signs x2 res h => kX6_readComparison_s l D Y (6 * d) (138 * d) (fX6_readComparison d) (hX6_readComparison l D Y d) ao ap1 io_length io_at io_sign io_bad co_codes ip1_length cp1_signs x2 res h
abbrev rmX6_readComparison_8 : Room := RMX6_readComparison 8
theorem kX6_readComparison (l : Launch) (D : va_G) (Y : Nat → ClassId) (d : Nat) : HX6_readComparison l D Y (RMX6_readComparison d) (fX6_readComparison d) := hX6_readComparison l D Y d
