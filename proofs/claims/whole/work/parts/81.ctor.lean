def plainC : Nat → Int32 := va_cpy plainF (fun _ => 0) (Int32.toNatClampNeg (0 : Int32)) (Int32.toNatClampNeg (0 : Int32)) (Int32.toNatClampNeg (9 : Int32))
-- X10
abbrev rmX10_init : Room := { frames := 1, cells := 1, slots := 80, locals := 20 }
theorem dvX10_init : yX10_init.name = "<init>" ∧ yX10_init.cls ≠ "java/lang/invoke/MethodHandle" ∧ yX10_init.cls ≠ "java/lang/invoke/VarHandle" ∧ (parseMethodDescriptor yX10_init.desc).map (fun d => d.parameters.length) = some 0 := by decide +kernel
set_option maxHeartbeats 8000000 in
set_option maxRecDepth 100000 in
theorem kX10_init (l : Launch) (D : va_G) (Y : Nat → ClassId) (h0 : Nat) : am l D Y yX10_init wsX10_init rmX10_init [.ref h0] [(h0, .inr (10, [.null, .int 0]))] 1 80 (fun r' w'' => r' = none ∧ ∃ a : Nat → Nat, a 0 = h0 ∧ w'' = [oX10 a 0, rC Y (a 1) 80 (fun _ => 0)]) := by
  refine am.ofI (cc := cX10_init) (maxL := 1) (rt := none) (by decide) rfl RX10 rfl rfl (Nat.le_of_ble_eq_true rfl) [some (.ref h0)] rfl ?_
  intro X C hQ hI
  refine a_aload_n C dX10_init_0 rfl ?_
  refine a_objInit C dX10_init_1 (oB_X10_3 _) ⟨Nat.le_of_ble_eq_true rfl, Nat.le_of_ble_eq_true rfl⟩ (Nat.le_of_ble_eq_true rfl) ?_
  refine a_aload_n C dX10_init_4 rfl ?_
  refine a_bipush C (80 : Int32) dX10_init_5 (by decide) ?_
  refine a_newa (ty := .char) C 0 dX10_init_7 rfl (fun _ _ => Iff.rfl) (List.mem_cons_of_mem _ (inB3 _ (List.mem_of_getElem? (i := 18) rfl))) rfl 80 (80, .inl (fun _ => 0)) (fun _ => rfl) (by decide) (by decide) (by decide) ⟨Nat.le_of_ble_eq_true rfl, Nat.le_of_ble_eq_true rfl⟩ (fun q1 => ?_)
  refine a_putF (Cn := RX10) C hI (eB_X10_9 _) tfX10_0 ⟨_, _, rfl⟩ rfl dX10_init_9 0 rfl rfl rfl (Nat.le_of_ble_eq_true rfl) ?_
  refine ax_ws (ws' := [(h0, .inr (10, [.ref q1, .int 0])), (q1, .inl (Y 0, 80, .inl (fun _ => 0)))]) rfl ?_
  refine a_perm [0, 1] [oX10 (fun j => [h0, q1].getD j 0) 0, rC Y ((fun j => [h0, q1].getD j 0) 1) 80 (fun _ => 0)] ⟨rfl, rfl, trivial⟩ rfl ?_
  exact a_vret C hQ dX10_init_12 ⟨rfl, (fun j => [h0, q1].getD j 0), rfl, rfl⟩
-- X8
abbrev rmX8_init : Room := { frames := 1, cells := 1, slots := 12, locals := 20 }
theorem dvX8_init : yX8_init.name = "<init>" ∧ yX8_init.cls ≠ "java/lang/invoke/MethodHandle" ∧ yX8_init.cls ≠ "java/lang/invoke/VarHandle" ∧ (parseMethodDescriptor yX8_init.desc).map (fun d => d.parameters.length) = some 0 := by decide +kernel
set_option maxHeartbeats 8000000 in
set_option maxRecDepth 100000 in
theorem kX8_init (l : Launch) (D : va_G) (Y : Nat → ClassId) (h0 : Nat) : am l D Y yX8_init wsX8_init rmX8_init [.ref h0] [(h0, .inr (8, [.null, .int 0]))] 1 12 (fun r' w'' => r' = none ∧ ∃ a : Nat → Nat, a 0 = h0 ∧ w'' = [oX8 a 0, rJ Y (a 1) 12 (fun _ => 0)]) := by
  refine am.ofI (cc := cX8_init) (maxL := 1) (rt := none) (by decide) rfl RX8 rfl rfl (Nat.le_of_ble_eq_true rfl) [some (.ref h0)] rfl ?_
  intro X C hQ hI
  refine a_aload_n C dX8_init_0 rfl ?_
  refine a_objInit C dX8_init_1 (oB_X8_3 _) ⟨Nat.le_of_ble_eq_true rfl, Nat.le_of_ble_eq_true rfl⟩ (Nat.le_of_ble_eq_true rfl) ?_
  refine a_aload_n C dX8_init_4 rfl ?_
  refine a_bipush C (12 : Int32) dX8_init_5 (by decide) ?_
  refine a_newa (ty := .long) C 2 dX8_init_7 rfl (fun _ _ => Iff.rfl) (List.mem_cons_of_mem _ (inB1 _ (List.mem_of_getElem? (i := 6) rfl))) rfl 12 (12, .inr (.inl (fun _ => 0))) (fun _ => rfl) (by decide) (by decide) (by decide) ⟨Nat.le_of_ble_eq_true rfl, Nat.le_of_ble_eq_true rfl⟩ (fun q1 => ?_)
  refine a_putF (Cn := RX8) C hI (eB_X8_9 _) tfX8_0 ⟨_, _, rfl⟩ rfl dX8_init_9 0 rfl rfl rfl (Nat.le_of_ble_eq_true rfl) ?_
  refine ax_ws (ws' := [(h0, .inr (8, [.ref q1, .int 0])), (q1, .inl (Y 2, 12, .inr (.inl (fun _ => 0))))]) rfl ?_
  refine a_perm [0, 1] [oX8 (fun j => [h0, q1].getD j 0) 0, rJ Y ((fun j => [h0, q1].getD j 0) 1) 12 (fun _ => 0)] ⟨rfl, rfl, trivial⟩ rfl ?_
  exact a_vret C hQ dX8_init_12 ⟨rfl, (fun j => [h0, q1].getD j 0), rfl, rfl⟩
-- X5
abbrev rmX5_init : Room := { frames := 1, cells := 4, slots := 48, locals := 20 }
theorem dvX5_init : yX5_init.name = "<init>" ∧ yX5_init.cls ≠ "java/lang/invoke/MethodHandle" ∧ yX5_init.cls ≠ "java/lang/invoke/VarHandle" ∧ (parseMethodDescriptor yX5_init.desc).map (fun d => d.parameters.length) = some 0 := by decide +kernel
set_option maxHeartbeats 8000000 in
set_option maxRecDepth 100000 in
theorem kX5_init (l : Launch) (D : va_G) (Y : Nat → ClassId) (h0 : Nat) : am l D Y yX5_init wsX5_init rmX5_init [.ref h0] [(h0, .inr (5, [.int 0, .null, .null, .null, .null]))] 4 48 (fun r' w'' => r' = none ∧ ∃ a : Nat → Nat, a 0 = h0 ∧ w'' = [oX5 a (1 : Int32), rI Y (a 1) 12 (fun _ => 0), rI Y (a 2) 12 (fun _ => 0), rI Y (a 3) 12 (fun _ => 0), rI Y (a 4) 12 (fun _ => 0)]) := by
  refine am.ofI (cc := cX5_init) (maxL := 1) (rt := none) (by decide) rfl RX5 rfl rfl (Nat.le_of_ble_eq_true rfl) [some (.ref h0)] rfl ?_
  intro X C hQ hI
  refine a_aload_n C dX5_init_0 rfl ?_
  refine a_objInit C dX5_init_1 (oB_X5_3 _) ⟨Nat.le_of_ble_eq_true rfl, Nat.le_of_ble_eq_true rfl⟩ (Nat.le_of_ble_eq_true rfl) ?_
  refine a_aload_n C dX5_init_4 rfl ?_
  refine a_iconst C (1 : Int32) dX5_init_5 (by decide) ?_
  refine a_put C (eB_X5_9 _) tfX5_0 dX5_init_6 0 rfl rfl rfl (Nat.le_of_ble_eq_true rfl) ?_
  refine ax_ws (ws' := [(h0, .inr (5, [.int (1 : Int32), .null, .null, .null, .null]))]) rfl ?_
  refine a_aload_n C dX5_init_9 rfl ?_
  refine a_bipush C (12 : Int32) dX5_init_10 (by decide) ?_
  refine a_newa (ty := .int) C 1 dX5_init_12 rfl (fun _ _ => Iff.rfl) (List.mem_cons_of_mem _ (inB2 _ (List.mem_of_getElem? (i := 21) rfl))) rfl 12 (12, .inl (fun _ => 0)) (fun _ => rfl) (by decide) (by decide) (by decide) ⟨Nat.le_of_ble_eq_true rfl, Nat.le_of_ble_eq_true rfl⟩ (fun q1 => ?_)
  refine a_putF (Cn := RX5) C hI (eB_X5_15 _) tfX5_1 ⟨_, _, rfl⟩ rfl dX5_init_14 0 rfl rfl rfl (Nat.le_of_ble_eq_true rfl) ?_
  refine ax_ws (ws' := [(h0, .inr (5, [.int (1 : Int32), .ref q1, .null, .null, .null])), (q1, .inl (Y 1, 12, .inl (fun _ => 0)))]) rfl ?_
  refine a_aload_n C dX5_init_17 rfl ?_
  refine a_bipush C (12 : Int32) dX5_init_18 (by decide) ?_
  refine a_newa (ty := .int) C 1 dX5_init_20 rfl (fun _ _ => Iff.rfl) (List.mem_cons_of_mem _ (inB2 _ (List.mem_of_getElem? (i := 21) rfl))) rfl 12 (12, .inl (fun _ => 0)) (fun _ => rfl) (by decide) (by decide) (by decide) ⟨Nat.le_of_ble_eq_true rfl, Nat.le_of_ble_eq_true rfl⟩ (fun q2 => ?_)
  refine a_putF (Cn := RX5) C hI (eB_X5_19 _) tfX5_2 ⟨_, _, rfl⟩ rfl dX5_init_22 0 rfl rfl rfl (Nat.le_of_ble_eq_true rfl) ?_
  refine ax_ws (ws' := [(h0, .inr (5, [.int (1 : Int32), .ref q1, .ref q2, .null, .null])), (q1, .inl (Y 1, 12, .inl (fun _ => 0))), (q2, .inl (Y 1, 12, .inl (fun _ => 0)))]) rfl ?_
  refine a_aload_n C dX5_init_25 rfl ?_
  refine a_bipush C (12 : Int32) dX5_init_26 (by decide) ?_
  refine a_newa (ty := .int) C 1 dX5_init_28 rfl (fun _ _ => Iff.rfl) (List.mem_cons_of_mem _ (inB2 _ (List.mem_of_getElem? (i := 21) rfl))) rfl 12 (12, .inl (fun _ => 0)) (fun _ => rfl) (by decide) (by decide) (by decide) ⟨Nat.le_of_ble_eq_true rfl, Nat.le_of_ble_eq_true rfl⟩ (fun q3 => ?_)
  refine a_putF (Cn := RX5) C hI (eB_X5_22 _) tfX5_3 ⟨_, _, rfl⟩ rfl dX5_init_30 0 rfl rfl rfl (Nat.le_of_ble_eq_true rfl) ?_
  refine ax_ws (ws' := [(h0, .inr (5, [.int (1 : Int32), .ref q1, .ref q2, .ref q3, .null])), (q1, .inl (Y 1, 12, .inl (fun _ => 0))), (q2, .inl (Y 1, 12, .inl (fun _ => 0))), (q3, .inl (Y 1, 12, .inl (fun _ => 0)))]) rfl ?_
  refine a_aload_n C dX5_init_33 rfl ?_
  refine a_bipush C (12 : Int32) dX5_init_34 (by decide) ?_
  refine a_newa (ty := .int) C 1 dX5_init_36 rfl (fun _ _ => Iff.rfl) (List.mem_cons_of_mem _ (inB2 _ (List.mem_of_getElem? (i := 21) rfl))) rfl 12 (12, .inl (fun _ => 0)) (fun _ => rfl) (by decide) (by decide) (by decide) ⟨Nat.le_of_ble_eq_true rfl, Nat.le_of_ble_eq_true rfl⟩ (fun q4 => ?_)
  refine a_putF (Cn := RX5) C hI (eB_X5_25 _) tfX5_4 ⟨_, _, rfl⟩ rfl dX5_init_38 0 rfl rfl rfl (Nat.le_of_ble_eq_true rfl) ?_
  refine ax_ws (ws' := [(h0, .inr (5, [.int (1 : Int32), .ref q1, .ref q2, .ref q3, .ref q4])), (q1, .inl (Y 1, 12, .inl (fun _ => 0))), (q2, .inl (Y 1, 12, .inl (fun _ => 0))), (q3, .inl (Y 1, 12, .inl (fun _ => 0))), (q4, .inl (Y 1, 12, .inl (fun _ => 0)))]) rfl ?_
  refine a_perm [0, 1, 2, 3, 4] [oX5 (fun j => [h0, q1, q2, q3, q4].getD j 0) (1 : Int32), rI Y ((fun j => [h0, q1, q2, q3, q4].getD j 0) 1) 12 (fun _ => 0), rI Y ((fun j => [h0, q1, q2, q3, q4].getD j 0) 2) 12 (fun _ => 0), rI Y ((fun j => [h0, q1, q2, q3, q4].getD j 0) 3) 12 (fun _ => 0), rI Y ((fun j => [h0, q1, q2, q3, q4].getD j 0) 4) 12 (fun _ => 0)] ⟨rfl, rfl, rfl, rfl, rfl, trivial⟩ rfl ?_
  exact a_vret C hQ dX5_init_41 ⟨rfl, (fun j => [h0, q1, q2, q3, q4].getD j 0), rfl, rfl⟩
-- X2
abbrev rmX2_init : Room := { frames := 1, cells := 4, slots := 32, locals := 20 }
theorem dvX2_init : yX2_init.name = "<init>" ∧ yX2_init.cls ≠ "java/lang/invoke/MethodHandle" ∧ yX2_init.cls ≠ "java/lang/invoke/VarHandle" ∧ (parseMethodDescriptor yX2_init.desc).map (fun d => d.parameters.length) = some 0 := by decide +kernel
set_option maxHeartbeats 8000000 in
set_option maxRecDepth 100000 in
theorem kX2_init (l : Launch) (D : va_G) (Y : Nat → ClassId) (h0 : Nat) : am l D Y yX2_init wsX2_init rmX2_init [.ref h0] [(h0, .inr (2, [.int 0, .null, .null, .null, .null]))] 4 32 (fun r' w'' => r' = none ∧ ∃ a : Nat → Nat, a 0 = h0 ∧ w'' = [oX2 a 0, rI Y (a 1) 8 (fun _ => 0), rI Y (a 2) 8 (fun _ => 0), rI Y (a 3) 8 (fun _ => 0), rI Y (a 4) 8 (fun _ => 0)]) := by
  refine am.ofI (cc := cX2_init) (maxL := 1) (rt := none) (by decide) rfl RX2 rfl rfl (Nat.le_of_ble_eq_true rfl) [some (.ref h0)] rfl ?_
  intro X C hQ hI
  refine a_aload_n C dX2_init_0 rfl ?_
  refine a_objInit C dX2_init_1 (oB_X2_3 _) ⟨Nat.le_of_ble_eq_true rfl, Nat.le_of_ble_eq_true rfl⟩ (Nat.le_of_ble_eq_true rfl) ?_
  refine a_aload_n C dX2_init_4 rfl ?_
  refine a_bipush C (8 : Int32) dX2_init_5 (by decide) ?_
  refine a_newa (ty := .int) C 1 dX2_init_7 rfl (fun _ _ => Iff.rfl) (List.mem_cons_of_mem _ (inB2 _ (List.mem_of_getElem? (i := 21) rfl))) rfl 8 (8, .inl (fun _ => 0)) (fun _ => rfl) (by decide) (by decide) (by decide) ⟨Nat.le_of_ble_eq_true rfl, Nat.le_of_ble_eq_true rfl⟩ (fun q1 => ?_)
  refine a_putF (Cn := RX2) C hI (eB_X2_9 _) tfX2_1 ⟨_, _, rfl⟩ rfl dX2_init_9 0 rfl rfl rfl (Nat.le_of_ble_eq_true rfl) ?_
  refine ax_ws (ws' := [(h0, .inr (2, [.int 0, .ref q1, .null, .null, .null])), (q1, .inl (Y 1, 8, .inl (fun _ => 0)))]) rfl ?_
  refine a_aload_n C dX2_init_12 rfl ?_
  refine a_bipush C (8 : Int32) dX2_init_13 (by decide) ?_
  refine a_newa (ty := .int) C 1 dX2_init_15 rfl (fun _ _ => Iff.rfl) (List.mem_cons_of_mem _ (inB2 _ (List.mem_of_getElem? (i := 21) rfl))) rfl 8 (8, .inl (fun _ => 0)) (fun _ => rfl) (by decide) (by decide) (by decide) ⟨Nat.le_of_ble_eq_true rfl, Nat.le_of_ble_eq_true rfl⟩ (fun q2 => ?_)
  refine a_putF (Cn := RX2) C hI (eB_X2_15 _) tfX2_2 ⟨_, _, rfl⟩ rfl dX2_init_17 0 rfl rfl rfl (Nat.le_of_ble_eq_true rfl) ?_
  refine ax_ws (ws' := [(h0, .inr (2, [.int 0, .ref q1, .ref q2, .null, .null])), (q1, .inl (Y 1, 8, .inl (fun _ => 0))), (q2, .inl (Y 1, 8, .inl (fun _ => 0)))]) rfl ?_
  refine a_aload_n C dX2_init_20 rfl ?_
  refine a_bipush C (8 : Int32) dX2_init_21 (by decide) ?_
  refine a_newa (ty := .int) C 1 dX2_init_23 rfl (fun _ _ => Iff.rfl) (List.mem_cons_of_mem _ (inB2 _ (List.mem_of_getElem? (i := 21) rfl))) rfl 8 (8, .inl (fun _ => 0)) (fun _ => rfl) (by decide) (by decide) (by decide) ⟨Nat.le_of_ble_eq_true rfl, Nat.le_of_ble_eq_true rfl⟩ (fun q3 => ?_)
  refine a_putF (Cn := RX2) C hI (eB_X2_18 _) tfX2_3 ⟨_, _, rfl⟩ rfl dX2_init_25 0 rfl rfl rfl (Nat.le_of_ble_eq_true rfl) ?_
  refine ax_ws (ws' := [(h0, .inr (2, [.int 0, .ref q1, .ref q2, .ref q3, .null])), (q1, .inl (Y 1, 8, .inl (fun _ => 0))), (q2, .inl (Y 1, 8, .inl (fun _ => 0))), (q3, .inl (Y 1, 8, .inl (fun _ => 0)))]) rfl ?_
  refine a_aload_n C dX2_init_28 rfl ?_
  refine a_bipush C (8 : Int32) dX2_init_29 (by decide) ?_
  refine a_newa (ty := .int) C 1 dX2_init_31 rfl (fun _ _ => Iff.rfl) (List.mem_cons_of_mem _ (inB2 _ (List.mem_of_getElem? (i := 21) rfl))) rfl 8 (8, .inl (fun _ => 0)) (fun _ => rfl) (by decide) (by decide) (by decide) ⟨Nat.le_of_ble_eq_true rfl, Nat.le_of_ble_eq_true rfl⟩ (fun q4 => ?_)
  refine a_putF (Cn := RX2) C hI (eB_X2_21 _) tfX2_4 ⟨_, _, rfl⟩ rfl dX2_init_33 0 rfl rfl rfl (Nat.le_of_ble_eq_true rfl) ?_
  refine ax_ws (ws' := [(h0, .inr (2, [.int 0, .ref q1, .ref q2, .ref q3, .ref q4])), (q1, .inl (Y 1, 8, .inl (fun _ => 0))), (q2, .inl (Y 1, 8, .inl (fun _ => 0))), (q3, .inl (Y 1, 8, .inl (fun _ => 0))), (q4, .inl (Y 1, 8, .inl (fun _ => 0)))]) rfl ?_
  refine a_perm [0, 1, 2, 3, 4] [oX2 (fun j => [h0, q1, q2, q3, q4].getD j 0) 0, rI Y ((fun j => [h0, q1, q2, q3, q4].getD j 0) 1) 8 (fun _ => 0), rI Y ((fun j => [h0, q1, q2, q3, q4].getD j 0) 2) 8 (fun _ => 0), rI Y ((fun j => [h0, q1, q2, q3, q4].getD j 0) 3) 8 (fun _ => 0), rI Y ((fun j => [h0, q1, q2, q3, q4].getD j 0) 4) 8 (fun _ => 0)] ⟨rfl, rfl, rfl, rfl, rfl, trivial⟩ rfl ?_
  exact a_vret C hQ dX2_init_36 ⟨rfl, (fun j => [h0, q1, q2, q3, q4].getD j 0), rfl, rfl⟩
-- X6
abbrev rmX6_init : Room := { frames := 2, cells := 2, slots := 80, locals := 60 }
theorem dvX6_init : yX6_init.name = "<init>" ∧ yX6_init.cls ≠ "java/lang/invoke/MethodHandle" ∧ yX6_init.cls ≠ "java/lang/invoke/VarHandle" ∧ (parseMethodDescriptor yX6_init.desc).map (fun d => d.parameters.length) = some 0 := by decide +kernel
set_option maxHeartbeats 8000000 in
set_option maxRecDepth 100000 in
theorem kX6_init (l : Launch) (D : va_G) (Y : Nat → ClassId) (h0 : Nat) : am l D Y yX6_init wsX6_init rmX6_init [.ref h0] [(h0, .inr (6, [.null, .null, .int 0, .int 0, .int 0, .int 0]))] 2 80 (fun r' w'' => r' = none ∧ ∃ a : Nat → Nat, a 0 = h0 ∧ w'' = [oX6 a (9 : Int32) 0 0 0, rI Y (a 1) 40 plainC, rI Y (a 2) 40 (fun _ => 0)]) := by
  refine am.ofI (cc := cX6_init) (maxL := 1) (rt := none) (by decide) rfl RX6 rfl rfl (Nat.le_of_ble_eq_true rfl) [some (.ref h0)] rfl ?_
  intro X C hQ hI
  refine a_aload_n C dX6_init_0 rfl ?_
  refine a_objInit C dX6_init_1 (oB_X6_3 _) ⟨Nat.le_of_ble_eq_true rfl, Nat.le_of_ble_eq_true rfl⟩ (Nat.le_of_ble_eq_true rfl) ?_
  refine a_aload_n C dX6_init_4 rfl ?_
  refine a_bipush C (40 : Int32) dX6_init_5 (by decide) ?_
  refine a_newa (ty := .int) C 1 dX6_init_7 rfl (fun _ _ => Iff.rfl) (List.mem_cons_of_mem _ (inB2 _ (List.mem_of_getElem? (i := 21) rfl))) rfl 40 (40, .inl (fun _ => 0)) (fun _ => rfl) (by decide) (by decide) (by decide) ⟨Nat.le_of_ble_eq_true rfl, Nat.le_of_ble_eq_true rfl⟩ (fun q1 => ?_)
  refine a_putF (Cn := RX6) C hI (eB_X6_9 _) tfX6_0 ⟨_, _, rfl⟩ rfl dX6_init_9 0 rfl rfl rfl (Nat.le_of_ble_eq_true rfl) ?_
  refine ax_ws (ws' := [(h0, .inr (6, [.ref q1, .null, .int 0, .int 0, .int 0, .int 0])), (q1, .inl (Y 1, 40, .inl (fun _ => 0)))]) rfl ?_
  refine a_aload_n C dX6_init_12 rfl ?_
  refine a_bipush C (40 : Int32) dX6_init_13 (by decide) ?_
  refine a_newa (ty := .int) C 1 dX6_init_15 rfl (fun _ _ => Iff.rfl) (List.mem_cons_of_mem _ (inB2 _ (List.mem_of_getElem? (i := 21) rfl))) rfl 40 (40, .inl (fun _ => 0)) (fun _ => rfl) (by decide) (by decide) (by decide) ⟨Nat.le_of_ble_eq_true rfl, Nat.le_of_ble_eq_true rfl⟩ (fun q2 => ?_)
  refine a_putF (Cn := RX6) C hI (eB_X6_15 _) tfX6_1 ⟨_, _, rfl⟩ rfl dX6_init_17 0 rfl rfl rfl (Nat.le_of_ble_eq_true rfl) ?_
  refine ax_ws (ws' := [(h0, .inr (6, [.ref q1, .ref q2, .int 0, .int 0, .int 0, .int 0])), (q1, .inl (Y 1, 40, .inl (fun _ => 0))), (q2, .inl (Y 1, 40, .inl (fun _ => 0)))]) rfl ?_
  refine a_aload_n C dX6_init_20 rfl ?_
  refine a_fV C (kX6_usePlain l D Y (fun j => [h0, q1, q2].getD j 0) 0 0 0 0 (fun _ => 0) ((9 : Int32), plainC) rfl) (gB_X6_18 _) rfl dvX6_usePlain ⟨⟨rfl, rfl⟩, ⟨Nat.le_of_ble_eq_true rfl, Nat.le_of_ble_eq_true rfl⟩, ⟨Nat.le_of_ble_eq_true rfl, Nat.le_of_ble_eq_true rfl⟩⟩ rfl (Nat.le_of_ble_eq_true rfl) dX6_init_21 rfl rfl [0, 1] [2] ⟨rfl, rfl, trivial⟩ (by decide +kernel) rfl [(h0, .inr (6, [.ref q1, .ref q2, .int (9 : Int32), .int 0, .int 0, .int 0])), (q1, .inl (Y 1, 40, .inl plainC)), (q2, .inl (Y 1, 40, .inl (fun _ => 0)))] ⟨rfl, rfl, trivial⟩ ⟨rfl, trivial⟩ 3 rfl (by decide +kernel) ?_
  refine a_perm [0, 1, 2] [oX6 (fun j => [h0, q1, q2].getD j 0) (9 : Int32) 0 0 0, rI Y ((fun j => [h0, q1, q2].getD j 0) 1) 40 plainC, rI Y ((fun j => [h0, q1, q2].getD j 0) 2) 40 (fun _ => 0)] ⟨rfl, rfl, rfl, trivial⟩ rfl ?_
  exact a_vret C hQ dX6_init_24 ⟨rfl, (fun j => [h0, q1, q2].getD j 0), rfl, rfl⟩
-- X9
abbrev rmX9_init : Room := { frames := 1, cells := 4, slots := 40, locals := 20 }
theorem dvX9_init : yX9_init.name = "<init>" ∧ yX9_init.cls ≠ "java/lang/invoke/MethodHandle" ∧ yX9_init.cls ≠ "java/lang/invoke/VarHandle" ∧ (parseMethodDescriptor yX9_init.desc).map (fun d => d.parameters.length) = some 2 := by decide +kernel
set_option maxHeartbeats 8000000 in
set_option maxRecDepth 100000 in
theorem kX9_init (l : Launch) (D : va_G) (Y : Nat → ClassId) (h0 h1 h2 : Nat) : am l D Y yX9_init wsX9_init rmX9_init [.ref h0, .ref h1, .ref h2] [(h0, .inr (9, [.null, .null, .null, .null, .null, .null, .int 0, .int 0, .int 0]))] 4 40 (fun r' w'' => r' = none ∧ ∃ a : Nat → Nat, a 0 = h0 ∧ w'' = [oX9 a (fun _ => h1) (fun _ => h2) 0 0 0, rI Y (a 1) 12 (fun _ => 0), rI Y (a 2) 12 (fun _ => 0), rI Y (a 3) 8 (fun _ => 0), rI Y (a 4) 8 (fun _ => 0)]) := by
  refine am.ofI (cc := cX9_init) (maxL := 3) (rt := none) (by decide) rfl RX9 rfl rfl (Nat.le_of_ble_eq_true rfl) [some (.ref h0), some (.ref h1), some (.ref h2)] rfl ?_
  intro X C hQ hI
  refine a_aload_n C dX9_init_0 rfl ?_
  refine a_objInit C dX9_init_1 (oB_X9_3 _) ⟨Nat.le_of_ble_eq_true rfl, Nat.le_of_ble_eq_true rfl⟩ (Nat.le_of_ble_eq_true rfl) ?_
  refine a_aload_n C dX9_init_4 rfl ?_
  refine a_bipush C (12 : Int32) dX9_init_5 (by decide) ?_
  refine a_newa (ty := .int) C 1 dX9_init_7 rfl (fun _ _ => Iff.rfl) (List.mem_cons_of_mem _ (inB2 _ (List.mem_of_getElem? (i := 21) rfl))) rfl 12 (12, .inl (fun _ => 0)) (fun _ => rfl) (by decide) (by decide) (by decide) ⟨Nat.le_of_ble_eq_true rfl, Nat.le_of_ble_eq_true rfl⟩ (fun q1 => ?_)
  refine a_putF (Cn := RX9) C hI (eB_X9_9 _) tfX9_2 ⟨_, _, rfl⟩ rfl dX9_init_9 0 rfl rfl rfl (Nat.le_of_ble_eq_true rfl) ?_
  refine ax_ws (ws' := [(h0, .inr (9, [.null, .null, .ref q1, .null, .null, .null, .int 0, .int 0, .int 0])), (q1, .inl (Y 1, 12, .inl (fun _ => 0)))]) rfl ?_
  refine a_aload_n C dX9_init_12 rfl ?_
  refine a_bipush C (12 : Int32) dX9_init_13 (by decide) ?_
  refine a_newa (ty := .int) C 1 dX9_init_15 rfl (fun _ _ => Iff.rfl) (List.mem_cons_of_mem _ (inB2 _ (List.mem_of_getElem? (i := 21) rfl))) rfl 12 (12, .inl (fun _ => 0)) (fun _ => rfl) (by decide) (by decide) (by decide) ⟨Nat.le_of_ble_eq_true rfl, Nat.le_of_ble_eq_true rfl⟩ (fun q2 => ?_)
  refine a_putF (Cn := RX9) C hI (eB_X9_15 _) tfX9_3 ⟨_, _, rfl⟩ rfl dX9_init_17 0 rfl rfl rfl (Nat.le_of_ble_eq_true rfl) ?_
  refine ax_ws (ws' := [(h0, .inr (9, [.null, .null, .ref q1, .ref q2, .null, .null, .int 0, .int 0, .int 0])), (q1, .inl (Y 1, 12, .inl (fun _ => 0))), (q2, .inl (Y 1, 12, .inl (fun _ => 0)))]) rfl ?_
  refine a_aload_n C dX9_init_20 rfl ?_
  refine a_bipush C (8 : Int32) dX9_init_21 (by decide) ?_
  refine a_newa (ty := .int) C 1 dX9_init_23 rfl (fun _ _ => Iff.rfl) (List.mem_cons_of_mem _ (inB2 _ (List.mem_of_getElem? (i := 21) rfl))) rfl 8 (8, .inl (fun _ => 0)) (fun _ => rfl) (by decide) (by decide) (by decide) ⟨Nat.le_of_ble_eq_true rfl, Nat.le_of_ble_eq_true rfl⟩ (fun q3 => ?_)
  refine a_putF (Cn := RX9) C hI (eB_X9_18 _) tfX9_4 ⟨_, _, rfl⟩ rfl dX9_init_25 0 rfl rfl rfl (Nat.le_of_ble_eq_true rfl) ?_
  refine ax_ws (ws' := [(h0, .inr (9, [.null, .null, .ref q1, .ref q2, .ref q3, .null, .int 0, .int 0, .int 0])), (q1, .inl (Y 1, 12, .inl (fun _ => 0))), (q2, .inl (Y 1, 12, .inl (fun _ => 0))), (q3, .inl (Y 1, 8, .inl (fun _ => 0)))]) rfl ?_
  refine a_aload_n C dX9_init_28 rfl ?_
  refine a_bipush C (8 : Int32) dX9_init_29 (by decide) ?_
  refine a_newa (ty := .int) C 1 dX9_init_31 rfl (fun _ _ => Iff.rfl) (List.mem_cons_of_mem _ (inB2 _ (List.mem_of_getElem? (i := 21) rfl))) rfl 8 (8, .inl (fun _ => 0)) (fun _ => rfl) (by decide) (by decide) (by decide) ⟨Nat.le_of_ble_eq_true rfl, Nat.le_of_ble_eq_true rfl⟩ (fun q4 => ?_)
  refine a_putF (Cn := RX9) C hI (eB_X9_21 _) tfX9_5 ⟨_, _, rfl⟩ rfl dX9_init_33 0 rfl rfl rfl (Nat.le_of_ble_eq_true rfl) ?_
  refine ax_ws (ws' := [(h0, .inr (9, [.null, .null, .ref q1, .ref q2, .ref q3, .ref q4, .int 0, .int 0, .int 0])), (q1, .inl (Y 1, 12, .inl (fun _ => 0))), (q2, .inl (Y 1, 12, .inl (fun _ => 0))), (q3, .inl (Y 1, 8, .inl (fun _ => 0))), (q4, .inl (Y 1, 8, .inl (fun _ => 0)))]) rfl ?_
  refine a_aload_n C dX9_init_36 rfl ?_
  refine a_aload_n C dX9_init_37 rfl ?_
  refine a_putF (Cn := RX9) C hI (eB_X9_24 _) tfX9_0 ⟨_, _, rfl⟩ rfl dX9_init_38 0 rfl rfl rfl (Nat.le_of_ble_eq_true rfl) ?_
  refine ax_ws (ws' := [(h0, .inr (9, [.ref h1, .null, .ref q1, .ref q2, .ref q3, .ref q4, .int 0, .int 0, .int 0])), (q1, .inl (Y 1, 12, .inl (fun _ => 0))), (q2, .inl (Y 1, 12, .inl (fun _ => 0))), (q3, .inl (Y 1, 8, .inl (fun _ => 0))), (q4, .inl (Y 1, 8, .inl (fun _ => 0)))]) rfl ?_
  refine a_aload_n C dX9_init_41 rfl ?_
  refine a_aload_n C dX9_init_42 rfl ?_
  refine a_putF (Cn := RX9) C hI (eB_X9_28 _) tfX9_1 ⟨_, _, rfl⟩ rfl dX9_init_43 0 rfl rfl rfl (Nat.le_of_ble_eq_true rfl) ?_
  refine ax_ws (ws' := [(h0, .inr (9, [.ref h1, .ref h2, .ref q1, .ref q2, .ref q3, .ref q4, .int 0, .int 0, .int 0])), (q1, .inl (Y 1, 12, .inl (fun _ => 0))), (q2, .inl (Y 1, 12, .inl (fun _ => 0))), (q3, .inl (Y 1, 8, .inl (fun _ => 0))), (q4, .inl (Y 1, 8, .inl (fun _ => 0)))]) rfl ?_
  refine a_perm [0, 1, 2, 3, 4] [oX9 (fun j => [h0, q1, q2, q3, q4].getD j 0) (fun _ => h1) (fun _ => h2) 0 0 0, rI Y ((fun j => [h0, q1, q2, q3, q4].getD j 0) 1) 12 (fun _ => 0), rI Y ((fun j => [h0, q1, q2, q3, q4].getD j 0) 2) 12 (fun _ => 0), rI Y ((fun j => [h0, q1, q2, q3, q4].getD j 0) 3) 8 (fun _ => 0), rI Y ((fun j => [h0, q1, q2, q3, q4].getD j 0) 4) 8 (fun _ => 0)] ⟨rfl, rfl, rfl, rfl, rfl, trivial⟩ rfl ?_
  exact a_vret C hQ dX9_init_46 ⟨rfl, (fun j => [h0, q1, q2, q3, q4].getD j 0), rfl, rfl⟩
-- X3
abbrev rmX3_init : Room := { frames := 1, cells := 5, slots := 792, locals := 20 }
theorem dvX3_init : yX3_init.name = "<init>" ∧ yX3_init.cls ≠ "java/lang/invoke/MethodHandle" ∧ yX3_init.cls ≠ "java/lang/invoke/VarHandle" ∧ (parseMethodDescriptor yX3_init.desc).map (fun d => d.parameters.length) = some 1 := by decide +kernel
set_option maxHeartbeats 8000000 in
set_option maxRecDepth 100000 in
theorem kX3_init (l : Launch) (D : va_G) (Y : Nat → ClassId) (h0 h1 : Nat) : am l D Y yX3_init wsX3_init rmX3_init [.ref h0, .ref h1] [(h0, .inr (3, [.null, .int 0, .null, .null, .null, .null, .null]))] 5 792 (fun r' w'' => r' = none ∧ ∃ a : Nat → Nat, a 0 = h0 ∧ w'' = [oX3 a (fun _ => h1) 0, rI Y (a 1) 12 (fun _ => 0), rI Y (a 2) 12 (fun _ => 0), rI Y (a 3) 256 (fun _ => 0), rI Y (a 4) 256 (fun _ => 0), rI Y (a 5) 256 (fun _ => 0)]) := by
  refine am.ofI (cc := cX3_init) (maxL := 2) (rt := none) (by decide) rfl RX3 rfl rfl (Nat.le_of_ble_eq_true rfl) [some (.ref h0), some (.ref h1)] rfl ?_
  intro X C hQ hI
  refine a_aload_n C dX3_init_0 rfl ?_
  refine a_objInit C dX3_init_1 (oB_X3_3 _) ⟨Nat.le_of_ble_eq_true rfl, Nat.le_of_ble_eq_true rfl⟩ (Nat.le_of_ble_eq_true rfl) ?_
  refine a_aload_n C dX3_init_4 rfl ?_
  refine a_bipush C (12 : Int32) dX3_init_5 (by decide) ?_
  refine a_newa (ty := .int) C 1 dX3_init_7 rfl (fun _ _ => Iff.rfl) (List.mem_cons_of_mem _ (inB2 _ (List.mem_of_getElem? (i := 21) rfl))) rfl 12 (12, .inl (fun _ => 0)) (fun _ => rfl) (by decide) (by decide) (by decide) ⟨Nat.le_of_ble_eq_true rfl, Nat.le_of_ble_eq_true rfl⟩ (fun q1 => ?_)
  refine a_putF (Cn := RX3) C hI (eB_X3_9 _) tfX3_2 ⟨_, _, rfl⟩ rfl dX3_init_9 0 rfl rfl rfl (Nat.le_of_ble_eq_true rfl) ?_
  refine ax_ws (ws' := [(h0, .inr (3, [.null, .int 0, .ref q1, .null, .null, .null, .null])), (q1, .inl (Y 1, 12, .inl (fun _ => 0)))]) rfl ?_
  refine a_aload_n C dX3_init_12 rfl ?_
  refine a_bipush C (12 : Int32) dX3_init_13 (by decide) ?_
  refine a_newa (ty := .int) C 1 dX3_init_15 rfl (fun _ _ => Iff.rfl) (List.mem_cons_of_mem _ (inB2 _ (List.mem_of_getElem? (i := 21) rfl))) rfl 12 (12, .inl (fun _ => 0)) (fun _ => rfl) (by decide) (by decide) (by decide) ⟨Nat.le_of_ble_eq_true rfl, Nat.le_of_ble_eq_true rfl⟩ (fun q2 => ?_)
  refine a_putF (Cn := RX3) C hI (eB_X3_15 _) tfX3_3 ⟨_, _, rfl⟩ rfl dX3_init_17 0 rfl rfl rfl (Nat.le_of_ble_eq_true rfl) ?_
  refine ax_ws (ws' := [(h0, .inr (3, [.null, .int 0, .ref q1, .ref q2, .null, .null, .null])), (q1, .inl (Y 1, 12, .inl (fun _ => 0))), (q2, .inl (Y 1, 12, .inl (fun _ => 0)))]) rfl ?_
  refine a_aload_n C dX3_init_20 rfl ?_
  refine a_sipush C (256 : Int32) dX3_init_21 (by decide) ?_
  refine a_newa (ty := .int) C 1 dX3_init_24 rfl (fun _ _ => Iff.rfl) (List.mem_cons_of_mem _ (inB2 _ (List.mem_of_getElem? (i := 21) rfl))) rfl 256 (256, .inl (fun _ => 0)) (fun _ => rfl) (by decide) (by decide) (by decide) ⟨Nat.le_of_ble_eq_true rfl, Nat.le_of_ble_eq_true rfl⟩ (fun q3 => ?_)
  refine a_putF (Cn := RX3) C hI (eB_X3_18 _) tfX3_4 ⟨_, _, rfl⟩ rfl dX3_init_26 0 rfl rfl rfl (Nat.le_of_ble_eq_true rfl) ?_
  refine ax_ws (ws' := [(h0, .inr (3, [.null, .int 0, .ref q1, .ref q2, .ref q3, .null, .null])), (q1, .inl (Y 1, 12, .inl (fun _ => 0))), (q2, .inl (Y 1, 12, .inl (fun _ => 0))), (q3, .inl (Y 1, 256, .inl (fun _ => 0)))]) rfl ?_
  refine a_aload_n C dX3_init_29 rfl ?_
  refine a_sipush C (256 : Int32) dX3_init_30 (by decide) ?_
  refine a_newa (ty := .int) C 1 dX3_init_33 rfl (fun _ _ => Iff.rfl) (List.mem_cons_of_mem _ (inB2 _ (List.mem_of_getElem? (i := 21) rfl))) rfl 256 (256, .inl (fun _ => 0)) (fun _ => rfl) (by decide) (by decide) (by decide) ⟨Nat.le_of_ble_eq_true rfl, Nat.le_of_ble_eq_true rfl⟩ (fun q4 => ?_)
  refine a_put C (eB_X3_21 _) tfX3_5 dX3_init_35 0 rfl rfl rfl (Nat.le_of_ble_eq_true rfl) ?_
  refine ax_ws (ws' := [(h0, .inr (3, [.null, .int 0, .ref q1, .ref q2, .ref q3, .ref q4, .null])), (q1, .inl (Y 1, 12, .inl (fun _ => 0))), (q2, .inl (Y 1, 12, .inl (fun _ => 0))), (q3, .inl (Y 1, 256, .inl (fun _ => 0))), (q4, .inl (Y 1, 256, .inl (fun _ => 0)))]) rfl ?_
  refine a_aload_n C dX3_init_38 rfl ?_
  refine a_sipush C (256 : Int32) dX3_init_39 (by decide) ?_
  refine a_newa (ty := .int) C 1 dX3_init_42 rfl (fun _ _ => Iff.rfl) (List.mem_cons_of_mem _ (inB2 _ (List.mem_of_getElem? (i := 21) rfl))) rfl 256 (256, .inl (fun _ => 0)) (fun _ => rfl) (by decide) (by decide) (by decide) ⟨Nat.le_of_ble_eq_true rfl, Nat.le_of_ble_eq_true rfl⟩ (fun q5 => ?_)
  refine a_put C (eB_X3_24 _) tfX3_6 dX3_init_44 0 rfl rfl rfl (Nat.le_of_ble_eq_true rfl) ?_
  refine ax_ws (ws' := [(h0, .inr (3, [.null, .int 0, .ref q1, .ref q2, .ref q3, .ref q4, .ref q5])), (q1, .inl (Y 1, 12, .inl (fun _ => 0))), (q2, .inl (Y 1, 12, .inl (fun _ => 0))), (q3, .inl (Y 1, 256, .inl (fun _ => 0))), (q4, .inl (Y 1, 256, .inl (fun _ => 0))), (q5, .inl (Y 1, 256, .inl (fun _ => 0)))]) rfl ?_
  refine a_aload_n C dX3_init_47 rfl ?_
  refine a_aload_n C dX3_init_48 rfl ?_
  refine a_putF (Cn := RX3) C hI (eB_X3_27 _) tfX3_0 ⟨_, _, rfl⟩ rfl dX3_init_49 0 rfl rfl rfl (Nat.le_of_ble_eq_true rfl) ?_
  refine ax_ws (ws' := [(h0, .inr (3, [.ref h1, .int 0, .ref q1, .ref q2, .ref q3, .ref q4, .ref q5])), (q1, .inl (Y 1, 12, .inl (fun _ => 0))), (q2, .inl (Y 1, 12, .inl (fun _ => 0))), (q3, .inl (Y 1, 256, .inl (fun _ => 0))), (q4, .inl (Y 1, 256, .inl (fun _ => 0))), (q5, .inl (Y 1, 256, .inl (fun _ => 0)))]) rfl ?_
  refine a_perm [0, 1, 2, 3, 4, 5] [oX3 (fun j => [h0, q1, q2, q3, q4, q5].getD j 0) (fun _ => h1) 0, rI Y ((fun j => [h0, q1, q2, q3, q4, q5].getD j 0) 1) 12 (fun _ => 0), rI Y ((fun j => [h0, q1, q2, q3, q4, q5].getD j 0) 2) 12 (fun _ => 0), rI Y ((fun j => [h0, q1, q2, q3, q4, q5].getD j 0) 3) 256 (fun _ => 0), rI Y ((fun j => [h0, q1, q2, q3, q4, q5].getD j 0) 4) 256 (fun _ => 0), rI Y ((fun j => [h0, q1, q2, q3, q4, q5].getD j 0) 5) 256 (fun _ => 0)] ⟨rfl, rfl, rfl, rfl, rfl, rfl, trivial⟩ rfl ?_
  exact a_vret C hQ dX3_init_52 ⟨rfl, (fun j => [h0, q1, q2, q3, q4, q5].getD j 0), rfl, rfl⟩
-- X1
abbrev rmX1_init : Room := { frames := 1, cells := 3, slots := 28, locals := 20 }
theorem dvX1_init : yX1_init.name = "<init>" ∧ yX1_init.cls ≠ "java/lang/invoke/MethodHandle" ∧ yX1_init.cls ≠ "java/lang/invoke/VarHandle" ∧ (parseMethodDescriptor yX1_init.desc).map (fun d => d.parameters.length) = some 2 := by decide +kernel
set_option maxHeartbeats 8000000 in
set_option maxRecDepth 100000 in
theorem kX1_init (l : Launch) (D : va_G) (Y : Nat → ClassId) (h0 h1 h2 : Nat) : am l D Y yX1_init wsX1_init rmX1_init [.ref h0, .ref h1, .ref h2] [(h0, .inr (1, [.null, .null, .null, .null, .null, .int 0, .int 0, .int 0]))] 3 28 (fun r' w'' => r' = none ∧ ∃ a : Nat → Nat, a 0 = h0 ∧ w'' = [oX1 a (fun _ => h1) (fun _ => h2) 0 0 0, rI Y (a 1) 8 (fun _ => 0), rI Y (a 2) 12 (fun _ => 0), rI Y (a 3) 8 (fun _ => 0)]) := by
  refine am.ofI (cc := cX1_init) (maxL := 3) (rt := none) (by decide) rfl RX1 rfl rfl (Nat.le_of_ble_eq_true rfl) [some (.ref h0), some (.ref h1), some (.ref h2)] rfl ?_
  intro X C hQ hI
  refine a_aload_n C dX1_init_0 rfl ?_
  refine a_objInit C dX1_init_1 (oB_X1_3 _) ⟨Nat.le_of_ble_eq_true rfl, Nat.le_of_ble_eq_true rfl⟩ (Nat.le_of_ble_eq_true rfl) ?_
  refine a_aload_n C dX1_init_4 rfl ?_
  refine a_bipush C (8 : Int32) dX1_init_5 (by decide) ?_
  refine a_newa (ty := .int) C 1 dX1_init_7 rfl (fun _ _ => Iff.rfl) (List.mem_cons_of_mem _ (inB2 _ (List.mem_of_getElem? (i := 21) rfl))) rfl 8 (8, .inl (fun _ => 0)) (fun _ => rfl) (by decide) (by decide) (by decide) ⟨Nat.le_of_ble_eq_true rfl, Nat.le_of_ble_eq_true rfl⟩ (fun q1 => ?_)
  refine a_putF (Cn := RX1) C hI (eB_X1_9 _) tfX1_2 ⟨_, _, rfl⟩ rfl dX1_init_9 0 rfl rfl rfl (Nat.le_of_ble_eq_true rfl) ?_
  refine ax_ws (ws' := [(h0, .inr (1, [.null, .null, .ref q1, .null, .null, .int 0, .int 0, .int 0])), (q1, .inl (Y 1, 8, .inl (fun _ => 0)))]) rfl ?_
  refine a_aload_n C dX1_init_12 rfl ?_
  refine a_bipush C (12 : Int32) dX1_init_13 (by decide) ?_
  refine a_newa (ty := .int) C 1 dX1_init_15 rfl (fun _ _ => Iff.rfl) (List.mem_cons_of_mem _ (inB2 _ (List.mem_of_getElem? (i := 21) rfl))) rfl 12 (12, .inl (fun _ => 0)) (fun _ => rfl) (by decide) (by decide) (by decide) ⟨Nat.le_of_ble_eq_true rfl, Nat.le_of_ble_eq_true rfl⟩ (fun q2 => ?_)
  refine a_putF (Cn := RX1) C hI (eB_X1_15 _) tfX1_3 ⟨_, _, rfl⟩ rfl dX1_init_17 0 rfl rfl rfl (Nat.le_of_ble_eq_true rfl) ?_
  refine ax_ws (ws' := [(h0, .inr (1, [.null, .null, .ref q1, .ref q2, .null, .int 0, .int 0, .int 0])), (q1, .inl (Y 1, 8, .inl (fun _ => 0))), (q2, .inl (Y 1, 12, .inl (fun _ => 0)))]) rfl ?_
  refine a_aload_n C dX1_init_20 rfl ?_
  refine a_bipush C (8 : Int32) dX1_init_21 (by decide) ?_
  refine a_newa (ty := .int) C 1 dX1_init_23 rfl (fun _ _ => Iff.rfl) (List.mem_cons_of_mem _ (inB2 _ (List.mem_of_getElem? (i := 21) rfl))) rfl 8 (8, .inl (fun _ => 0)) (fun _ => rfl) (by decide) (by decide) (by decide) ⟨Nat.le_of_ble_eq_true rfl, Nat.le_of_ble_eq_true rfl⟩ (fun q3 => ?_)
  refine a_putF (Cn := RX1) C hI (eB_X1_18 _) tfX1_4 ⟨_, _, rfl⟩ rfl dX1_init_25 0 rfl rfl rfl (Nat.le_of_ble_eq_true rfl) ?_
  refine ax_ws (ws' := [(h0, .inr (1, [.null, .null, .ref q1, .ref q2, .ref q3, .int 0, .int 0, .int 0])), (q1, .inl (Y 1, 8, .inl (fun _ => 0))), (q2, .inl (Y 1, 12, .inl (fun _ => 0))), (q3, .inl (Y 1, 8, .inl (fun _ => 0)))]) rfl ?_
  refine a_aload_n C dX1_init_28 rfl ?_
  refine a_aload_n C dX1_init_29 rfl ?_
  refine a_putF (Cn := RX1) C hI (eB_X1_21 _) tfX1_0 ⟨_, _, rfl⟩ rfl dX1_init_30 0 rfl rfl rfl (Nat.le_of_ble_eq_true rfl) ?_
  refine ax_ws (ws' := [(h0, .inr (1, [.ref h1, .null, .ref q1, .ref q2, .ref q3, .int 0, .int 0, .int 0])), (q1, .inl (Y 1, 8, .inl (fun _ => 0))), (q2, .inl (Y 1, 12, .inl (fun _ => 0))), (q3, .inl (Y 1, 8, .inl (fun _ => 0)))]) rfl ?_
  refine a_aload_n C dX1_init_33 rfl ?_
  refine a_aload_n C dX1_init_34 rfl ?_
  refine a_putF (Cn := RX1) C hI (eB_X1_25 _) tfX1_1 ⟨_, _, rfl⟩ rfl dX1_init_35 0 rfl rfl rfl (Nat.le_of_ble_eq_true rfl) ?_
  refine ax_ws (ws' := [(h0, .inr (1, [.ref h1, .ref h2, .ref q1, .ref q2, .ref q3, .int 0, .int 0, .int 0])), (q1, .inl (Y 1, 8, .inl (fun _ => 0))), (q2, .inl (Y 1, 12, .inl (fun _ => 0))), (q3, .inl (Y 1, 8, .inl (fun _ => 0)))]) rfl ?_
  refine a_perm [0, 1, 2, 3] [oX1 (fun j => [h0, q1, q2, q3].getD j 0) (fun _ => h1) (fun _ => h2) 0 0 0, rI Y ((fun j => [h0, q1, q2, q3].getD j 0) 1) 8 (fun _ => 0), rI Y ((fun j => [h0, q1, q2, q3].getD j 0) 2) 12 (fun _ => 0), rI Y ((fun j => [h0, q1, q2, q3].getD j 0) 3) 8 (fun _ => 0)] ⟨rfl, rfl, rfl, rfl, trivial⟩ rfl ?_
  exact a_vret C hQ dX1_init_38 ⟨rfl, (fun j => [h0, q1, q2, q3].getD j 0), rfl, rfl⟩
-- X7
abbrev rmX7_init : Room := { frames := 1, cells := 3, slots := 32, locals := 20 }
theorem dvX7_init : yX7_init.name = "<init>" ∧ yX7_init.cls ≠ "java/lang/invoke/MethodHandle" ∧ yX7_init.cls ≠ "java/lang/invoke/VarHandle" ∧ (parseMethodDescriptor yX7_init.desc).map (fun d => d.parameters.length) = some 1 := by decide +kernel
set_option maxHeartbeats 8000000 in
set_option maxRecDepth 100000 in
theorem kX7_init (l : Launch) (D : va_G) (Y : Nat → ClassId) (h0 h1 : Nat) : am l D Y yX7_init wsX7_init rmX7_init [.ref h0, .ref h1] [(h0, .inr (7, [.null, .null, .null, .null, .int 0]))] 3 32 (fun r' w'' => r' = none ∧ ∃ a : Nat → Nat, a 0 = h0 ∧ w'' = [oX7 a (fun _ => h1) 0, rI Y (a 1) 8 (fun _ => 0), rI Y (a 2) 12 (fun _ => 0), rI Y (a 3) 12 (fun _ => 0)]) := by
  refine am.ofI (cc := cX7_init) (maxL := 2) (rt := none) (by decide) rfl RX7 rfl rfl (Nat.le_of_ble_eq_true rfl) [some (.ref h0), some (.ref h1)] rfl ?_
  intro X C hQ hI
  refine a_aload_n C dX7_init_0 rfl ?_
  refine a_objInit C dX7_init_1 (oB_X7_3 _) ⟨Nat.le_of_ble_eq_true rfl, Nat.le_of_ble_eq_true rfl⟩ (Nat.le_of_ble_eq_true rfl) ?_
  refine a_aload_n C dX7_init_4 rfl ?_
  refine a_bipush C (8 : Int32) dX7_init_5 (by decide) ?_
  refine a_newa (ty := .int) C 1 dX7_init_7 rfl (fun _ _ => Iff.rfl) (List.mem_cons_of_mem _ (inB2 _ (List.mem_of_getElem? (i := 21) rfl))) rfl 8 (8, .inl (fun _ => 0)) (fun _ => rfl) (by decide) (by decide) (by decide) ⟨Nat.le_of_ble_eq_true rfl, Nat.le_of_ble_eq_true rfl⟩ (fun q1 => ?_)
  refine a_putF (Cn := RX7) C hI (eB_X7_9 _) tfX7_1 ⟨_, _, rfl⟩ rfl dX7_init_9 0 rfl rfl rfl (Nat.le_of_ble_eq_true rfl) ?_
  refine ax_ws (ws' := [(h0, .inr (7, [.null, .ref q1, .null, .null, .int 0])), (q1, .inl (Y 1, 8, .inl (fun _ => 0)))]) rfl ?_
  refine a_aload_n C dX7_init_12 rfl ?_
  refine a_bipush C (12 : Int32) dX7_init_13 (by decide) ?_
  refine a_newa (ty := .int) C 1 dX7_init_15 rfl (fun _ _ => Iff.rfl) (List.mem_cons_of_mem _ (inB2 _ (List.mem_of_getElem? (i := 21) rfl))) rfl 12 (12, .inl (fun _ => 0)) (fun _ => rfl) (by decide) (by decide) (by decide) ⟨Nat.le_of_ble_eq_true rfl, Nat.le_of_ble_eq_true rfl⟩ (fun q2 => ?_)
  refine a_putF (Cn := RX7) C hI (eB_X7_15 _) tfX7_2 ⟨_, _, rfl⟩ rfl dX7_init_17 0 rfl rfl rfl (Nat.le_of_ble_eq_true rfl) ?_
  refine ax_ws (ws' := [(h0, .inr (7, [.null, .ref q1, .ref q2, .null, .int 0])), (q1, .inl (Y 1, 8, .inl (fun _ => 0))), (q2, .inl (Y 1, 12, .inl (fun _ => 0)))]) rfl ?_
  refine a_aload_n C dX7_init_20 rfl ?_
  refine a_bipush C (12 : Int32) dX7_init_21 (by decide) ?_
  refine a_newa (ty := .int) C 1 dX7_init_23 rfl (fun _ _ => Iff.rfl) (List.mem_cons_of_mem _ (inB2 _ (List.mem_of_getElem? (i := 21) rfl))) rfl 12 (12, .inl (fun _ => 0)) (fun _ => rfl) (by decide) (by decide) (by decide) ⟨Nat.le_of_ble_eq_true rfl, Nat.le_of_ble_eq_true rfl⟩ (fun q3 => ?_)
  refine a_putF (Cn := RX7) C hI (eB_X7_18 _) tfX7_3 ⟨_, _, rfl⟩ rfl dX7_init_25 0 rfl rfl rfl (Nat.le_of_ble_eq_true rfl) ?_
  refine ax_ws (ws' := [(h0, .inr (7, [.null, .ref q1, .ref q2, .ref q3, .int 0])), (q1, .inl (Y 1, 8, .inl (fun _ => 0))), (q2, .inl (Y 1, 12, .inl (fun _ => 0))), (q3, .inl (Y 1, 12, .inl (fun _ => 0)))]) rfl ?_
  refine a_aload_n C dX7_init_28 rfl ?_
  refine a_aload_n C dX7_init_29 rfl ?_
  refine a_putF (Cn := RX7) C hI (eB_X7_21 _) tfX7_0 ⟨_, _, rfl⟩ rfl dX7_init_30 0 rfl rfl rfl (Nat.le_of_ble_eq_true rfl) ?_
  refine ax_ws (ws' := [(h0, .inr (7, [.ref h1, .ref q1, .ref q2, .ref q3, .int 0])), (q1, .inl (Y 1, 8, .inl (fun _ => 0))), (q2, .inl (Y 1, 12, .inl (fun _ => 0))), (q3, .inl (Y 1, 12, .inl (fun _ => 0)))]) rfl ?_
  refine a_perm [0, 1, 2, 3] [oX7 (fun j => [h0, q1, q2, q3].getD j 0) (fun _ => h1) 0, rI Y ((fun j => [h0, q1, q2, q3].getD j 0) 1) 8 (fun _ => 0), rI Y ((fun j => [h0, q1, q2, q3].getD j 0) 2) 12 (fun _ => 0), rI Y ((fun j => [h0, q1, q2, q3].getD j 0) 3) 12 (fun _ => 0)] ⟨rfl, rfl, rfl, rfl, trivial⟩ rfl ?_
  exact a_vret C hQ dX7_init_33 ⟨rfl, (fun j => [h0, q1, q2, q3].getD j 0), rfl, rfl⟩
-- X0
abbrev rmX0_init : Room := { frames := 1, cells := 2, slots := 22, locals := 20 }
theorem dvX0_init : yX0_init.name = "<init>" ∧ yX0_init.cls ≠ "java/lang/invoke/MethodHandle" ∧ yX0_init.cls ≠ "java/lang/invoke/VarHandle" ∧ (parseMethodDescriptor yX0_init.desc).map (fun d => d.parameters.length) = some 0 := by decide +kernel
set_option maxHeartbeats 8000000 in
set_option maxRecDepth 100000 in
theorem kX0_init (l : Launch) (D : va_G) (Y : Nat → ClassId) (h0 : Nat) : am l D Y yX0_init wsX0_init rmX0_init [.ref h0] [(h0, .inr (0, [.int 0, .null, .null]))] 2 22 (fun r' w'' => r' = none ∧ ∃ a : Nat → Nat, a 0 = h0 ∧ w'' = [oX0 a 0, rJ Y (a 1) 12 (fun _ => 0), rI Y (a 2) 10 (fun _ => 0)]) := by
  refine am.ofI (cc := cX0_init) (maxL := 1) (rt := none) (by decide) rfl RX0 rfl rfl (Nat.le_of_ble_eq_true rfl) [some (.ref h0)] rfl ?_
  intro X C hQ hI
  refine a_aload_n C dX0_init_0 rfl ?_
  refine a_objInit C dX0_init_1 (oB_X0_3 _) ⟨Nat.le_of_ble_eq_true rfl, Nat.le_of_ble_eq_true rfl⟩ (Nat.le_of_ble_eq_true rfl) ?_
  refine a_aload_n C dX0_init_4 rfl ?_
  refine a_bipush C (12 : Int32) dX0_init_5 (by decide) ?_
  refine a_newa (ty := .long) C 2 dX0_init_7 rfl (fun _ _ => Iff.rfl) (List.mem_cons_of_mem _ (inB1 _ (List.mem_of_getElem? (i := 6) rfl))) rfl 12 (12, .inr (.inl (fun _ => 0))) (fun _ => rfl) (by decide) (by decide) (by decide) ⟨Nat.le_of_ble_eq_true rfl, Nat.le_of_ble_eq_true rfl⟩ (fun q1 => ?_)
  refine a_putF (Cn := RX0) C hI (eB_X0_9 _) tfX0_1 ⟨_, _, rfl⟩ rfl dX0_init_9 0 rfl rfl rfl (Nat.le_of_ble_eq_true rfl) ?_
  refine ax_ws (ws' := [(h0, .inr (0, [.int 0, .ref q1, .null])), (q1, .inl (Y 2, 12, .inr (.inl (fun _ => 0))))]) rfl ?_
  refine a_aload_n C dX0_init_12 rfl ?_
  refine a_bipush C (10 : Int32) dX0_init_13 (by decide) ?_
  refine a_newa (ty := .int) C 1 dX0_init_15 rfl (fun _ _ => Iff.rfl) (List.mem_cons_of_mem _ (inB2 _ (List.mem_of_getElem? (i := 21) rfl))) rfl 10 (10, .inl (fun _ => 0)) (fun _ => rfl) (by decide) (by decide) (by decide) ⟨Nat.le_of_ble_eq_true rfl, Nat.le_of_ble_eq_true rfl⟩ (fun q2 => ?_)
  refine a_putF (Cn := RX0) C hI (eB_X0_15 _) tfX0_2 ⟨_, _, rfl⟩ rfl dX0_init_17 0 rfl rfl rfl (Nat.le_of_ble_eq_true rfl) ?_
  refine ax_ws (ws' := [(h0, .inr (0, [.int 0, .ref q1, .ref q2])), (q1, .inl (Y 2, 12, .inr (.inl (fun _ => 0)))), (q2, .inl (Y 1, 10, .inl (fun _ => 0)))]) rfl ?_
  refine a_perm [0, 1, 2] [oX0 (fun j => [h0, q1, q2].getD j 0) 0, rJ Y ((fun j => [h0, q1, q2].getD j 0) 1) 12 (fun _ => 0), rI Y ((fun j => [h0, q1, q2].getD j 0) 2) 10 (fun _ => 0)] ⟨rfl, rfl, rfl, trivial⟩ rfl ?_
  exact a_vret C hQ dX0_init_20 ⟨rfl, (fun j => [h0, q1, q2].getD j 0), rfl, rfl⟩
