-- X11_within
abbrev rmX11_within : Room := { frames := 0, cells := 0, slots := 0, locals := 0 }
theorem dvX11_within : yX11_within.cls ≠ "java/lang/invoke/MethodHandle" ∧ yX11_within.cls ≠ "java/lang/invoke/VarHandle" ∧ (parseMethodDescriptor yX11_within.desc).map (fun d => d.parameters.length) = some 3 := by decide +kernel
def fX11_within_b15 (s0 : Int32) : Option (Int32) :=
  if s0 = 0 ∨ s0 = 1 then some s0 else none
set_option maxHeartbeats 400000 in
set_option maxRecDepth 100000 in
theorem kX11_within_b15 {X : cxT} {l : Launch} {D : va_G} {Y : Nat → ClassId} {s0 : Int32} {res : Int32} (C : axC X l D Y cX11_within 3 RX11 wsX11_within rmX11_within (some .boolean)) (hQ : axQ X 0 0 (fun r9 w9 => r9 = (some (.int res)) ∧ w9 = [])) (hf : fX11_within_b15 s0 = some res) : ax X 0 0 15 [none, none, none] [] [.int s0] := by
  unfold fX11_within_b15 at hf
  obtain ⟨h1, hf⟩ := fx_ite hf
  obtain rfl := fx_some hf
  exact a_zret C hQ h1 dX11_within_15 ⟨rfl, rfl⟩
def fX11_within_b14 : Option (Int32) :=
  fX11_within_b15 (0 : Int32)
set_option maxHeartbeats 400000 in
set_option maxRecDepth 100000 in
theorem kX11_within_b14 {X : cxT} {l : Launch} {D : va_G} {Y : Nat → ClassId} {res : Int32} (C : axC X l D Y cX11_within 3 RX11 wsX11_within rmX11_within (some .boolean)) (hQ : axQ X 0 0 (fun r9 w9 => r9 = (some (.int res)) ∧ w9 = [])) (hf : fX11_within_b14  = some res) : ax X 0 0 14 [none, none, none] [] [] := by
  unfold fX11_within_b14 at hf
  refine a_iconst C (0 : Int32) dX11_within_14 (by decide) ?_
  exact kX11_within_b15 C hQ hf
def fX11_within (x0 : Int32) (x1 : Int32) (x2 : Int32) : Option (Int32) :=
  if x0 < x1 then (fX11_within_b14 ) else (if x2 < x0 then (fX11_within_b14 ) else (fX11_within_b15 (1 : Int32)))
set_option maxHeartbeats 400000 in
set_option maxRecDepth 100000 in
theorem kX11_within (l : Launch) (D : va_G) (Y : Nat → ClassId) (x0 : Int32) (x1 : Int32) (x2 : Int32) (res : Int32) (hf : fX11_within x0 x1 x2 = some res) : amf l D Y yX11_within wsX11_within rmX11_within [.int x0, .int x1, .int x2] [] (some (.int res)) [] := by
  refine amf.of (cc := cX11_within) (maxL := 3) (rt := (some .boolean)) (by decide) rfl RX11 rfl (Nat.le_of_ble_eq_true rfl) [some (.int x0), some (.int x1), some (.int x2)] rfl ?_
  intro X C hQ
  unfold fX11_within at hf
  refine a_iload_n C dX11_within_0 rfl ?_
  refine a_iload_n C dX11_within_1 rfl ?_
  refine a_icmp_lt C 14 dX11_within_2 (by decide) (fun h2 => ?_) (fun h2 => ?_)
  · have hf := fx_t h2 hf
    refine a_kill [0, 1, 2] ?_
    exact kX11_within_b14 C hQ hf
  · have hf := fx_f h2 hf
    refine a_iload_n C dX11_within_5 rfl ?_
    refine a_iload_n C dX11_within_6 rfl ?_
    refine a_icmp_gt C 14 dX11_within_7 (by decide) (fun h3 => ?_) (fun h3 => ?_)
    · have hf := fx_t h3 hf
      refine a_kill [0, 1, 2] ?_
      exact kX11_within_b14 C hQ hf
    · have hf := fx_f h3 hf
      refine a_iconst C (1 : Int32) dX11_within_10 (by decide) ?_
      refine a_goto C 15 dX11_within_11 (by decide) ?_
      refine a_kill [0, 1, 2] ?_
      exact kX11_within_b15 C hQ hf
-- X11_isDigit
abbrev rmX11_isDigit : Room := { frames := 0, cells := 0, slots := 0, locals := 0 }
theorem dvX11_isDigit : yX11_isDigit.cls ≠ "java/lang/invoke/MethodHandle" ∧ yX11_isDigit.cls ≠ "java/lang/invoke/VarHandle" ∧ (parseMethodDescriptor yX11_isDigit.desc).map (fun d => d.parameters.length) = some 1 := by decide +kernel
def fX11_isDigit_b17 (s0 : Int32) : Option (Int32) :=
  if s0 = 0 ∨ s0 = 1 then some s0 else none
set_option maxHeartbeats 400000 in
set_option maxRecDepth 100000 in
theorem kX11_isDigit_b17 {X : cxT} {l : Launch} {D : va_G} {Y : Nat → ClassId} {s0 : Int32} {res : Int32} (C : axC X l D Y cX11_isDigit 1 RX11 wsX11_isDigit rmX11_isDigit (some .boolean)) (hQ : axQ X 0 0 (fun r9 w9 => r9 = (some (.int res)) ∧ w9 = [])) (hf : fX11_isDigit_b17 s0 = some res) : ax X 0 0 17 [none] [] [.int s0] := by
  unfold fX11_isDigit_b17 at hf
  obtain ⟨h1, hf⟩ := fx_ite hf
  obtain rfl := fx_some hf
  exact a_zret C hQ h1 dX11_isDigit_17 ⟨rfl, rfl⟩
def fX11_isDigit_b16 : Option (Int32) :=
  fX11_isDigit_b17 (0 : Int32)
set_option maxHeartbeats 400000 in
set_option maxRecDepth 100000 in
theorem kX11_isDigit_b16 {X : cxT} {l : Launch} {D : va_G} {Y : Nat → ClassId} {res : Int32} (C : axC X l D Y cX11_isDigit 1 RX11 wsX11_isDigit rmX11_isDigit (some .boolean)) (hQ : axQ X 0 0 (fun r9 w9 => r9 = (some (.int res)) ∧ w9 = [])) (hf : fX11_isDigit_b16  = some res) : ax X 0 0 16 [none] [] [] := by
  unfold fX11_isDigit_b16 at hf
  refine a_iconst C (0 : Int32) dX11_isDigit_16 (by decide) ?_
  exact kX11_isDigit_b17 C hQ hf
def fX11_isDigit (x0 : Int32) : Option (Int32) :=
  if x0 < (48 : Int32) then (fX11_isDigit_b16 ) else (if (57 : Int32) < x0 then (fX11_isDigit_b16 ) else (fX11_isDigit_b17 (1 : Int32)))
set_option maxHeartbeats 400000 in
set_option maxRecDepth 100000 in
theorem kX11_isDigit (l : Launch) (D : va_G) (Y : Nat → ClassId) (x0 : Int32) (res : Int32) (hf : fX11_isDigit x0 = some res) : amf l D Y yX11_isDigit wsX11_isDigit rmX11_isDigit [.int x0] [] (some (.int res)) [] := by
  refine amf.of (cc := cX11_isDigit) (maxL := 1) (rt := (some .boolean)) (by decide) rfl RX11 rfl (Nat.le_of_ble_eq_true rfl) [some (.int x0)] rfl ?_
  intro X C hQ
  unfold fX11_isDigit at hf
  refine a_iload_n C dX11_isDigit_0 rfl ?_
  refine a_bipush C (48 : Int32) dX11_isDigit_1 (by decide) ?_
  refine a_icmp_lt C 16 dX11_isDigit_3 (by decide) (fun h2 => ?_) (fun h2 => ?_)
  · have hf := fx_t h2 hf
    refine a_kill [0] ?_
    exact kX11_isDigit_b16 C hQ hf
  · have hf := fx_f h2 hf
    refine a_iload_n C dX11_isDigit_6 rfl ?_
    refine a_bipush C (57 : Int32) dX11_isDigit_7 (by decide) ?_
    refine a_icmp_gt C 16 dX11_isDigit_9 (by decide) (fun h3 => ?_) (fun h3 => ?_)
    · have hf := fx_t h3 hf
      refine a_kill [0] ?_
      exact kX11_isDigit_b16 C hQ hf
    · have hf := fx_f h3 hf
      refine a_iconst C (1 : Int32) dX11_isDigit_12 (by decide) ?_
      refine a_goto C 17 dX11_isDigit_13 (by decide) ?_
      refine a_kill [0] ?_
      exact kX11_isDigit_b17 C hQ hf
-- X11_clamp
abbrev rmX11_clamp : Room := { frames := 1, cells := 0, slots := 0, locals := 21 }
theorem dvX11_clamp : yX11_clamp.cls ≠ "java/lang/invoke/MethodHandle" ∧ yX11_clamp.cls ≠ "java/lang/invoke/VarHandle" ∧ (parseMethodDescriptor yX11_clamp.desc).map (fun d => d.parameters.length) = some 2 := by decide +kernel
def fX11_clamp (x0 : Int32) (x1 : Int32) : Option (Int32) :=
  some (jmax (0 : Int32) (jmin x1 x0))
set_option maxHeartbeats 400000 in
set_option maxRecDepth 100000 in
theorem kX11_clamp (l : Launch) (D : va_G) (Y : Nat → ClassId) (x0 : Int32) (x1 : Int32) (res : Int32) (hf : fX11_clamp x0 x1 = some res) : amf l D Y yX11_clamp wsX11_clamp rmX11_clamp [.int x0, .int x1] [] (some (.int res)) [] := by
  refine amf.of (cc := cX11_clamp) (maxL := 2) (rt := (some .int)) (by decide) rfl RX11 rfl (Nat.le_of_ble_eq_true rfl) [some (.int x0), some (.int x1)] rfl ?_
  intro X C hQ
  unfold fX11_clamp at hf
  refine a_iconst C (0 : Int32) dX11_clamp_0 (by decide) ?_
  refine a_iload_n C dX11_clamp_1 rfl ?_
  refine a_iload_n C dX11_clamp_2 rfl ?_
  refine a_mmin C dX11_clamp_3 (mB_X11_415 _) ⟨⟨Nat.le_of_ble_eq_true rfl, Nat.le_of_ble_eq_true rfl⟩, ⟨Nat.le_of_ble_eq_true rfl, Nat.le_of_ble_eq_true rfl⟩⟩ (Nat.le_of_ble_eq_true rfl) ?_
  refine a_mmax C dX11_clamp_6 (mB_X11_253 _) ⟨⟨Nat.le_of_ble_eq_true rfl, Nat.le_of_ble_eq_true rfl⟩, ⟨Nat.le_of_ble_eq_true rfl, Nat.le_of_ble_eq_true rfl⟩⟩ (Nat.le_of_ble_eq_true rfl) ?_
  obtain rfl := fx_some hf
  exact a_iret C hQ dX11_clamp_9 ⟨rfl, rfl⟩
-- X11_wash
abbrev rmX11_wash : Room := { frames := 1, cells := 0, slots := 0, locals := 21 }
theorem dvX11_wash : yX11_wash.cls ≠ "java/lang/invoke/MethodHandle" ∧ yX11_wash.cls ≠ "java/lang/invoke/VarHandle" ∧ (parseMethodDescriptor yX11_wash.desc).map (fun d => d.parameters.length) = some 3 := by decide +kernel
def fX11_wash_b20 (s0 : Int32) (s1 : Int32) : Option (Int32) :=
  if ¬ s1 = 0 then some (s0 / s1) else none
set_option maxHeartbeats 400000 in
set_option maxRecDepth 100000 in
theorem kX11_wash_b20 {X : cxT} {l : Launch} {D : va_G} {Y : Nat → ClassId} {s0 : Int32} {s1 : Int32} {res : Int32} (C : axC X l D Y cX11_wash 3 RX11 wsX11_wash rmX11_wash (some .int)) (hQ : axQ X 0 0 (fun r9 w9 => r9 = (some (.int res)) ∧ w9 = [])) (hf : fX11_wash_b20 s0 s1 = some res) : ax X 0 0 20 [none, none, none] [] [.int s1, .int s0] := by
  unfold fX11_wash_b20 at hf
  obtain ⟨h1, hf⟩ := fx_ite hf
  refine a_idiv C dX11_wash_20 h1 ?_
  obtain rfl := fx_some hf
  exact a_iret C hQ dX11_wash_21 ⟨rfl, rfl⟩
def fX11_wash (x0 : Int32) (x1 : Int32) (x2 : Int32) : Option (Int32) :=
  if x2 = (0 : Int32) then (fX11_wash_b20 (jmax (0 : Int32) (x0 - ((10 : Int32) * x1))) (4 : Int32)) else (fX11_wash_b20 (jmax (0 : Int32) (x0 - ((10 : Int32) * x1))) (8 : Int32))
set_option maxHeartbeats 400000 in
set_option maxRecDepth 100000 in
theorem kX11_wash (l : Launch) (D : va_G) (Y : Nat → ClassId) (x0 : Int32) (x1 : Int32) (x2 : Int32) (res : Int32) (hf : fX11_wash x0 x1 x2 = some res) : amf l D Y yX11_wash wsX11_wash rmX11_wash [.int x0, .int x1, .int x2] [] (some (.int res)) [] := by
  refine amf.of (cc := cX11_wash) (maxL := 3) (rt := (some .int)) (by decide) rfl RX11 rfl (Nat.le_of_ble_eq_true rfl) [some (.int x0), some (.int x1), some (.int x2)] rfl ?_
  intro X C hQ
  unfold fX11_wash at hf
  refine a_iconst C (0 : Int32) dX11_wash_0 (by decide) ?_
  refine a_iload_n C dX11_wash_1 rfl ?_
  refine a_bipush C (10 : Int32) dX11_wash_2 (by decide) ?_
  refine a_iload_n C dX11_wash_4 rfl ?_
  refine a_imul C dX11_wash_5 ?_
  refine a_isub C dX11_wash_6 ?_
  refine a_mmax C dX11_wash_7 (mB_X11_253 _) ⟨⟨Nat.le_of_ble_eq_true rfl, Nat.le_of_ble_eq_true rfl⟩, ⟨Nat.le_of_ble_eq_true rfl, Nat.le_of_ble_eq_true rfl⟩⟩ (Nat.le_of_ble_eq_true rfl) ?_
  refine a_iload_n C dX11_wash_10 rfl ?_
  refine a_if_eq C 19 dX11_wash_11 (by decide) (fun h2 => ?_) (fun h2 => ?_)
  · have hf := fx_t h2 hf
    refine a_iconst C (4 : Int32) dX11_wash_19 (by decide) ?_
    refine a_kill [0, 1, 2] ?_
    exact kX11_wash_b20 C hQ hf
  · have hf := fx_f h2 hf
    refine a_bipush C (8 : Int32) dX11_wash_14 (by decide) ?_
    refine a_goto C 20 dX11_wash_16 (by decide) ?_
    refine a_kill [0, 1, 2] ?_
    exact kX11_wash_b20 C hQ hf
-- J6_bitCount_0f7a4
abbrev rmJ6_bitCount_0f7a4 : Room := { frames := 0, cells := 0, slots := 0, locals := 0 }
theorem dvJ6_bitCount_0f7a4 : yJ6_bitCount_0f7a4.cls ≠ "java/lang/invoke/MethodHandle" ∧ yJ6_bitCount_0f7a4.cls ≠ "java/lang/invoke/VarHandle" ∧ (parseMethodDescriptor yJ6_bitCount_0f7a4.desc).map (fun d => d.parameters.length) = some 1 := by decide +kernel
def fJ6_bitCount_0f7a4 (x0 : Int32) : Option (Int32) :=
  some ((((((((x0 - ((jushr x0 (1 : Int32)) &&& (1431655765 : Int32))) &&& (858993459 : Int32)) + ((jushr (x0 - ((jushr x0 (1 : Int32)) &&& (1431655765 : Int32))) (2 : Int32)) &&& (858993459 : Int32))) + (jushr (((x0 - ((jushr x0 (1 : Int32)) &&& (1431655765 : Int32))) &&& (858993459 : Int32)) + ((jushr (x0 - ((jushr x0 (1 : Int32)) &&& (1431655765 : Int32))) (2 : Int32)) &&& (858993459 : Int32))) (4 : Int32))) &&& (252645135 : Int32)) + (jushr (((((x0 - ((jushr x0 (1 : Int32)) &&& (1431655765 : Int32))) &&& (858993459 : Int32)) + ((jushr (x0 - ((jushr x0 (1 : Int32)) &&& (1431655765 : Int32))) (2 : Int32)) &&& (858993459 : Int32))) + (jushr (((x0 - ((jushr x0 (1 : Int32)) &&& (1431655765 : Int32))) &&& (858993459 : Int32)) + ((jushr (x0 - ((jushr x0 (1 : Int32)) &&& (1431655765 : Int32))) (2 : Int32)) &&& (858993459 : Int32))) (4 : Int32))) &&& (252645135 : Int32)) (8 : Int32))) + (jushr ((((((x0 - ((jushr x0 (1 : Int32)) &&& (1431655765 : Int32))) &&& (858993459 : Int32)) + ((jushr (x0 - ((jushr x0 (1 : Int32)) &&& (1431655765 : Int32))) (2 : Int32)) &&& (858993459 : Int32))) + (jushr (((x0 - ((jushr x0 (1 : Int32)) &&& (1431655765 : Int32))) &&& (858993459 : Int32)) + ((jushr (x0 - ((jushr x0 (1 : Int32)) &&& (1431655765 : Int32))) (2 : Int32)) &&& (858993459 : Int32))) (4 : Int32))) &&& (252645135 : Int32)) + (jushr (((((x0 - ((jushr x0 (1 : Int32)) &&& (1431655765 : Int32))) &&& (858993459 : Int32)) + ((jushr (x0 - ((jushr x0 (1 : Int32)) &&& (1431655765 : Int32))) (2 : Int32)) &&& (858993459 : Int32))) + (jushr (((x0 - ((jushr x0 (1 : Int32)) &&& (1431655765 : Int32))) &&& (858993459 : Int32)) + ((jushr (x0 - ((jushr x0 (1 : Int32)) &&& (1431655765 : Int32))) (2 : Int32)) &&& (858993459 : Int32))) (4 : Int32))) &&& (252645135 : Int32)) (8 : Int32))) (16 : Int32))) &&& (63 : Int32))
set_option maxHeartbeats 400000 in
set_option maxRecDepth 100000 in
theorem kJ6_bitCount_0f7a4 (l : Launch) (D : va_G) (Y : Nat → ClassId) (x0 : Int32) (res : Int32) (hf : fJ6_bitCount_0f7a4 x0 = some res) : amf l D Y yJ6_bitCount_0f7a4 wsJ6_bitCount_0f7a4 rmJ6_bitCount_0f7a4 [.int x0] [] (some (.int res)) [] := by
  refine amf.of (cc := cJ6_bitCount_0f7a4) (maxL := 1) (rt := (some .int)) (by decide) rfl RJ6 rfl (Nat.le_of_ble_eq_true rfl) [some (.int x0)] rfl ?_
  intro X C hQ
  unfold fJ6_bitCount_0f7a4 at hf
  refine a_iload_n C dJ6_bitCount_0f7a4_0 rfl ?_
  refine a_iload_n C dJ6_bitCount_0f7a4_1 rfl ?_
  refine a_iconst C (1 : Int32) dJ6_bitCount_0f7a4_2 (by decide) ?_
  refine a_iushr C dJ6_bitCount_0f7a4_3 ?_
  refine a_ldcw C (1431655765 : Int32) dJ6_bitCount_0f7a4_4 (kB_J6_265 _) ?_
  refine a_iand C dJ6_bitCount_0f7a4_7 ?_
  refine a_isub C dJ6_bitCount_0f7a4_8 ?_
  refine a_istore_n C dJ6_bitCount_0f7a4_9 (by decide) rfl ?_
  refine a_iload_n C dJ6_bitCount_0f7a4_10 rfl ?_
  refine a_ldcw C (858993459 : Int32) dJ6_bitCount_0f7a4_11 (kB_J6_266 _) ?_
  refine a_iand C dJ6_bitCount_0f7a4_14 ?_
  refine a_iload_n C dJ6_bitCount_0f7a4_15 rfl ?_
  refine a_iconst C (2 : Int32) dJ6_bitCount_0f7a4_16 (by decide) ?_
  refine a_iushr C dJ6_bitCount_0f7a4_17 ?_
  refine a_ldcw C (858993459 : Int32) dJ6_bitCount_0f7a4_18 (kB_J6_266 _) ?_
  refine a_iand C dJ6_bitCount_0f7a4_21 ?_
  refine a_iadd C dJ6_bitCount_0f7a4_22 ?_
  refine a_istore_n C dJ6_bitCount_0f7a4_23 (by decide) rfl ?_
  refine a_iload_n C dJ6_bitCount_0f7a4_24 rfl ?_
  refine a_iload_n C dJ6_bitCount_0f7a4_25 rfl ?_
  refine a_iconst C (4 : Int32) dJ6_bitCount_0f7a4_26 (by decide) ?_
  refine a_iushr C dJ6_bitCount_0f7a4_27 ?_
  refine a_iadd C dJ6_bitCount_0f7a4_28 ?_
  refine a_ldcw C (252645135 : Int32) dJ6_bitCount_0f7a4_29 (kB_J6_267 _) ?_
  refine a_iand C dJ6_bitCount_0f7a4_32 ?_
  refine a_istore_n C dJ6_bitCount_0f7a4_33 (by decide) rfl ?_
  refine a_iload_n C dJ6_bitCount_0f7a4_34 rfl ?_
  refine a_iload_n C dJ6_bitCount_0f7a4_35 rfl ?_
  refine a_bipush C (8 : Int32) dJ6_bitCount_0f7a4_36 (by decide) ?_
  refine a_iushr C dJ6_bitCount_0f7a4_38 ?_
  refine a_iadd C dJ6_bitCount_0f7a4_39 ?_
  refine a_istore_n C dJ6_bitCount_0f7a4_40 (by decide) rfl ?_
  refine a_iload_n C dJ6_bitCount_0f7a4_41 rfl ?_
  refine a_iload_n C dJ6_bitCount_0f7a4_42 rfl ?_
  refine a_bipush C (16 : Int32) dJ6_bitCount_0f7a4_43 (by decide) ?_
  refine a_iushr C dJ6_bitCount_0f7a4_45 ?_
  refine a_iadd C dJ6_bitCount_0f7a4_46 ?_
  refine a_istore_n C dJ6_bitCount_0f7a4_47 (by decide) rfl ?_
  refine a_iload_n C dJ6_bitCount_0f7a4_48 rfl ?_
  refine a_bipush C (63 : Int32) dJ6_bitCount_0f7a4_49 (by decide) ?_
  refine a_iand C dJ6_bitCount_0f7a4_51 ?_
  obtain rfl := fx_some hf
  exact a_iret C hQ dJ6_bitCount_0f7a4_52 ⟨rfl, rfl⟩
-- J7_fill_53178
abbrev rmJ7_fill_53178 : Room := { frames := 0, cells := 0, slots := 0, locals := 0 }
theorem dvJ7_fill_53178 : yJ7_fill_53178.cls ≠ "java/lang/invoke/MethodHandle" ∧ yJ7_fill_53178.cls ≠ "java/lang/invoke/VarHandle" ∧ (parseMethodDescriptor yJ7_fill_53178.desc).map (fun d => d.parameters.length) = some 2 := by decide +kernel
def fJ7_fill_53178_b20 (cp0 : Nat → Int32) (np0 : Nat) : Option ((Nat → Int32)) :=
  some cp0
set_option maxHeartbeats 400000 in
set_option maxRecDepth 100000 in
theorem kJ7_fill_53178_b20 {X : cxT} {l : Launch} {D : va_G} {Y : Nat → ClassId} {qp0 : Nat} {cp0 : Nat → Int32} {np0 : Nat} {res : (Nat → Int32)} (C : axC X l D Y cJ7_fill_53178 4 RJ7 wsJ7_fill_53178 rmJ7_fill_53178 none) (hQ : axQ X 0 0 (fun r9 w9 => r9 = none ∧ w9 = [rI Y qp0 np0 res])) (hf : fJ7_fill_53178_b20 cp0 np0 = some res) : ax X 0 0 20 [none, none, none, none] [rI Y qp0 np0 cp0] [] := by
  unfold fJ7_fill_53178_b20 at hf
  obtain rfl := fx_some hf
  exact a_vret C hQ dJ7_fill_53178_20 ⟨rfl, rfl⟩
def fJ7_fill_53178_l5 (np0 : Nat) (x1 : Int32) (x3 : Int32) (k5 : (Nat → Int32) × Int32 → Option ((Nat → Int32))) (cp0 : Nat → Int32) (x2 : Int32) : Option ((Nat → Int32)) :=
  if x3 ≤ x2 then (fJ7_fill_53178_b20 cp0 np0) else (if inb x2 np0 then k5 ((upd cp0 (Int32.toNatClampNeg x2) x1), (x2 + (1 : Int32))) else none)
def fJ7_fill_53178_b5 (cp0 : Nat → Int32) (np0 : Nat) (x1 : Int32) (x2 : Int32) (x3 : Int32) : Option ((Nat → Int32)) :=
  loopN (fun (s : (Nat → Int32) × Int32) k5 => fJ7_fill_53178_l5 np0 x1 x3 k5 s.1 s.2) FUEL (cp0, x2)
set_option maxHeartbeats 400000 in
set_option maxRecDepth 100000 in
theorem kJ7_fill_53178_l5 {X : cxT} {l : Launch} {D : va_G} {Y : Nat → ClassId} {qp0 : Nat} {cp0 : Nat → Int32} {np0 : Nat} {x1 : Int32} {x2 : Int32} {x3 : Int32} {res : (Nat → Int32)} (C : axC X l D Y cJ7_fill_53178 4 RJ7 wsJ7_fill_53178 rmJ7_fill_53178 none) (hQ : axQ X 0 0 (fun r9 w9 => r9 = none ∧ w9 = [rI Y qp0 np0 res])) {k5 : (Nat → Int32) × Int32 → Option ((Nat → Int32))} (hk5 : ∀ s : (Nat → Int32) × Int32, k5 s = some res → ax X 0 0 5 [some (.ref qp0), some (.int x1), some (.int s.2), some (.int x3)] [rI Y qp0 np0 s.1] []) (hf : fJ7_fill_53178_l5 np0 x1 x3 k5 cp0 x2 = some res) : ax X 0 0 5 [some (.ref qp0), some (.int x1), some (.int x2), some (.int x3)] [rI Y qp0 np0 cp0] [] := by
  unfold fJ7_fill_53178_l5 at hf
  refine a_iload_n C dJ7_fill_53178_5 rfl ?_
  refine a_iload_n C dJ7_fill_53178_6 rfl ?_
  refine a_icmp_ge C 20 dJ7_fill_53178_7 (by decide) (fun h1 => ?_) (fun h1 => ?_)
  · have hf := fx_t h1 hf
    refine a_kill [0, 1, 2, 3] ?_
    exact kJ7_fill_53178_b20 C hQ hf
  · have hf := fx_f h1 hf
    refine a_aload_n C dJ7_fill_53178_10 rfl ?_
    refine a_iload_n C dJ7_fill_53178_11 rfl ?_
    refine a_iload_n C dJ7_fill_53178_12 rfl ?_
    obtain ⟨h2, hf⟩ := fx_ite hf
    refine a_iast C dJ7_fill_53178_13 0 rfl h2 ?_
    refine a_iinc C (1 : Int32) dJ7_fill_53178_14 (by decide) rfl (by decide) rfl ?_
    refine a_goto C 5 dJ7_fill_53178_17 (by decide) ?_
    exact hk5 ((upd cp0 (Int32.toNatClampNeg x2) x1), (x2 + (1 : Int32))) hf
set_option maxHeartbeats 400000 in
set_option maxRecDepth 100000 in
theorem kJ7_fill_53178_b5 {X : cxT} {l : Launch} {D : va_G} {Y : Nat → ClassId} {qp0 : Nat} {cp0 : Nat → Int32} {np0 : Nat} {x1 : Int32} {x2 : Int32} {x3 : Int32} {res : (Nat → Int32)} (C : axC X l D Y cJ7_fill_53178 4 RJ7 wsJ7_fill_53178 rmJ7_fill_53178 none) (hQ : axQ X 0 0 (fun r9 w9 => r9 = none ∧ w9 = [rI Y qp0 np0 res])) (hf : fJ7_fill_53178_b5 cp0 np0 x1 x2 x3 = some res) : ax X 0 0 5 [some (.ref qp0), some (.int x1), some (.int x2), some (.int x3)] [rI Y qp0 np0 cp0] [] := by
  unfold fJ7_fill_53178_b5 at hf
  exact fx_loop (P := fun s : (Nat → Int32) × Int32 => ax X 0 0 5 [some (.ref qp0), some (.int x1), some (.int s.2), some (.int x3)] [rI Y qp0 np0 s.1] []) (fun s k5 hk5 h => kJ7_fill_53178_l5 C hQ hk5 h) FUEL (cp0, x2) hf
def fJ7_fill_53178 (cp0 : Nat → Int32) (np0 : Nat) (x1 : Int32) : Option ((Nat → Int32)) :=
  fJ7_fill_53178_b5 cp0 np0 x1 (0 : Int32) (Int32.ofNat np0)
set_option maxHeartbeats 400000 in
set_option maxRecDepth 100000 in
theorem kJ7_fill_53178 (l : Launch) (D : va_G) (Y : Nat → ClassId) (qp0 : Nat) (cp0 : Nat → Int32) (np0 : Nat) (x1 : Int32) (res : (Nat → Int32)) (hf : fJ7_fill_53178 cp0 np0 x1 = some res) : amf l D Y yJ7_fill_53178 wsJ7_fill_53178 rmJ7_fill_53178 [.ref qp0, .int x1] [rI Y qp0 np0 cp0] none [rI Y qp0 np0 res] := by
  refine amf.of (cc := cJ7_fill_53178) (maxL := 4) (rt := none) (by decide) rfl RJ7 rfl (Nat.le_of_ble_eq_true rfl) [some (.ref qp0), some (.int x1), none, none] rfl ?_
  intro X C hQ
  unfold fJ7_fill_53178 at hf
  refine a_iconst C (0 : Int32) dJ7_fill_53178_0 (by decide) ?_
  refine a_istore_n C dJ7_fill_53178_1 (by decide) rfl ?_
  refine a_aload_n C dJ7_fill_53178_2 rfl ?_
  refine a_alen (t0 := 1) C dJ7_fill_53178_3 0 rfl rfl ?_
  refine a_istore_n C dJ7_fill_53178_4 (by decide) rfl ?_
  exact kJ7_fill_53178_b5 C hQ hf
-- J7_fill_d0a16
abbrev rmJ7_fill_d0a16 : Room := { frames := 0, cells := 0, slots := 0, locals := 0 }
theorem dvJ7_fill_d0a16 : yJ7_fill_d0a16.cls ≠ "java/lang/invoke/MethodHandle" ∧ yJ7_fill_d0a16.cls ≠ "java/lang/invoke/VarHandle" ∧ (parseMethodDescriptor yJ7_fill_d0a16.desc).map (fun d => d.parameters.length) = some 2 := by decide +kernel
def fJ7_fill_d0a16_b22 (cp0 : Nat → Int64) (np0 : Nat) : Option ((Nat → Int64)) :=
  some cp0
set_option maxHeartbeats 400000 in
set_option maxRecDepth 100000 in
theorem kJ7_fill_d0a16_b22 {X : cxT} {l : Launch} {D : va_G} {Y : Nat → ClassId} {qp0 : Nat} {cp0 : Nat → Int64} {np0 : Nat} {res : (Nat → Int64)} (C : axC X l D Y cJ7_fill_d0a16 5 RJ7 wsJ7_fill_d0a16 rmJ7_fill_d0a16 none) (hQ : axQ X 0 0 (fun r9 w9 => r9 = none ∧ w9 = [rJ Y qp0 np0 res])) (hf : fJ7_fill_d0a16_b22 cp0 np0 = some res) : ax X 0 0 22 [none, none, none, none, none] [rJ Y qp0 np0 cp0] [] := by
  unfold fJ7_fill_d0a16_b22 at hf
  obtain rfl := fx_some hf
  exact a_vret C hQ dJ7_fill_d0a16_22 ⟨rfl, rfl⟩
def fJ7_fill_d0a16_l6 (np0 : Nat) (x1 : Int64) (x4 : Int32) (k6 : (Nat → Int64) × Int32 → Option ((Nat → Int64))) (cp0 : Nat → Int64) (x3 : Int32) : Option ((Nat → Int64)) :=
  if x4 ≤ x3 then (fJ7_fill_d0a16_b22 cp0 np0) else (if inb x3 np0 then k6 ((vp_updL cp0 (Int32.toNatClampNeg x3) x1), (x3 + (1 : Int32))) else none)
def fJ7_fill_d0a16_b6 (cp0 : Nat → Int64) (np0 : Nat) (x1 : Int64) (x3 : Int32) (x4 : Int32) : Option ((Nat → Int64)) :=
  loopN (fun (s : (Nat → Int64) × Int32) k6 => fJ7_fill_d0a16_l6 np0 x1 x4 k6 s.1 s.2) FUEL (cp0, x3)
set_option maxHeartbeats 400000 in
set_option maxRecDepth 100000 in
theorem kJ7_fill_d0a16_l6 {X : cxT} {l : Launch} {D : va_G} {Y : Nat → ClassId} {qp0 : Nat} {cp0 : Nat → Int64} {np0 : Nat} {x1 : Int64} {x3 : Int32} {x4 : Int32} {res : (Nat → Int64)} (C : axC X l D Y cJ7_fill_d0a16 5 RJ7 wsJ7_fill_d0a16 rmJ7_fill_d0a16 none) (hQ : axQ X 0 0 (fun r9 w9 => r9 = none ∧ w9 = [rJ Y qp0 np0 res])) {k6 : (Nat → Int64) × Int32 → Option ((Nat → Int64))} (hk6 : ∀ s : (Nat → Int64) × Int32, k6 s = some res → ax X 0 0 6 [some (.ref qp0), some (.long x1), none, some (.int s.2), some (.int x4)] [rJ Y qp0 np0 s.1] []) (hf : fJ7_fill_d0a16_l6 np0 x1 x4 k6 cp0 x3 = some res) : ax X 0 0 6 [some (.ref qp0), some (.long x1), none, some (.int x3), some (.int x4)] [rJ Y qp0 np0 cp0] [] := by
  unfold fJ7_fill_d0a16_l6 at hf
  refine a_iload_n C dJ7_fill_d0a16_6 rfl ?_
  refine a_iload C dJ7_fill_d0a16_7 rfl ?_
  refine a_icmp_ge C 22 dJ7_fill_d0a16_9 (by decide) (fun h1 => ?_) (fun h1 => ?_)
  · have hf := fx_t h1 hf
    refine a_kill [0, 1, 3, 4] ?_
    exact kJ7_fill_d0a16_b22 C hQ hf
  · have hf := fx_f h1 hf
    refine a_aload_n C dJ7_fill_d0a16_12 rfl ?_
    refine a_iload_n C dJ7_fill_d0a16_13 rfl ?_
    refine a_lload_n C dJ7_fill_d0a16_14 rfl ?_
    obtain ⟨h2, hf⟩ := fx_ite hf
    refine a_last C dJ7_fill_d0a16_15 0 rfl h2 ?_
    refine a_iinc C (1 : Int32) dJ7_fill_d0a16_16 (by decide) rfl (by decide) rfl ?_
    refine a_goto C 6 dJ7_fill_d0a16_19 (by decide) ?_
    exact hk6 ((vp_updL cp0 (Int32.toNatClampNeg x3) x1), (x3 + (1 : Int32))) hf
set_option maxHeartbeats 400000 in
set_option maxRecDepth 100000 in
theorem kJ7_fill_d0a16_b6 {X : cxT} {l : Launch} {D : va_G} {Y : Nat → ClassId} {qp0 : Nat} {cp0 : Nat → Int64} {np0 : Nat} {x1 : Int64} {x3 : Int32} {x4 : Int32} {res : (Nat → Int64)} (C : axC X l D Y cJ7_fill_d0a16 5 RJ7 wsJ7_fill_d0a16 rmJ7_fill_d0a16 none) (hQ : axQ X 0 0 (fun r9 w9 => r9 = none ∧ w9 = [rJ Y qp0 np0 res])) (hf : fJ7_fill_d0a16_b6 cp0 np0 x1 x3 x4 = some res) : ax X 0 0 6 [some (.ref qp0), some (.long x1), none, some (.int x3), some (.int x4)] [rJ Y qp0 np0 cp0] [] := by
  unfold fJ7_fill_d0a16_b6 at hf
  exact fx_loop (P := fun s : (Nat → Int64) × Int32 => ax X 0 0 6 [some (.ref qp0), some (.long x1), none, some (.int s.2), some (.int x4)] [rJ Y qp0 np0 s.1] []) (fun s k6 hk6 h => kJ7_fill_d0a16_l6 C hQ hk6 h) FUEL (cp0, x3) hf
def fJ7_fill_d0a16 (cp0 : Nat → Int64) (np0 : Nat) (x1 : Int64) : Option ((Nat → Int64)) :=
  fJ7_fill_d0a16_b6 cp0 np0 x1 (0 : Int32) (Int32.ofNat np0)
set_option maxHeartbeats 400000 in
set_option maxRecDepth 100000 in
theorem kJ7_fill_d0a16 (l : Launch) (D : va_G) (Y : Nat → ClassId) (qp0 : Nat) (cp0 : Nat → Int64) (np0 : Nat) (x1 : Int64) (res : (Nat → Int64)) (hf : fJ7_fill_d0a16 cp0 np0 x1 = some res) : amf l D Y yJ7_fill_d0a16 wsJ7_fill_d0a16 rmJ7_fill_d0a16 [.ref qp0, .long x1] [rJ Y qp0 np0 cp0] none [rJ Y qp0 np0 res] := by
  refine amf.of (cc := cJ7_fill_d0a16) (maxL := 5) (rt := none) (by decide) rfl RJ7 rfl (Nat.le_of_ble_eq_true rfl) [some (.ref qp0), some (.long x1), none, none, none] rfl ?_
  intro X C hQ
  unfold fJ7_fill_d0a16 at hf
  refine a_iconst C (0 : Int32) dJ7_fill_d0a16_0 (by decide) ?_
  refine a_istore_n C dJ7_fill_d0a16_1 (by decide) rfl ?_
  refine a_aload_n C dJ7_fill_d0a16_2 rfl ?_
  refine a_alen (t0 := 2) C dJ7_fill_d0a16_3 0 rfl rfl ?_
  refine a_istore C dJ7_fill_d0a16_4 (by decide) rfl ?_
  exact kJ7_fill_d0a16_b6 C hQ hf
