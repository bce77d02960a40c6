-- X2_has
abbrev rmX2_has : Room := { frames := 0, cells := 0, slots := 0, locals := 0 }
theorem dvX2_has : yX2_has.cls = RX2 ∧ yX2_has.cls ≠ "java/lang/invoke/MethodHandle" ∧ yX2_has.cls ≠ "java/lang/invoke/VarHandle" ∧ (parseMethodDescriptor yX2_has.desc).map (fun d => d.parameters.length) = some 1 := by decide +kernel
def fX2_has_b17 (io_size : Int32) (s0 : Int32) : Option (Int32) :=
  if s0 = 0 ∨ s0 = 1 then some s0 else none
set_option maxHeartbeats 400000 in
set_option maxRecDepth 100000 in
theorem kX2_has_b17 {X : cxT} {l : Launch} {D : va_G} {Y : Nat → ClassId} {ao : Nat → Nat} {io_size : Int32} {s0 : Int32} {res : Int32} (C : axC X l D Y cX2_has 2 RX2 wsX2_has rmX2_has (some .boolean)) (hQ : axQ X 0 0 (fun r9 w9 => r9 = (some (.int res)) ∧ w9 = [oX2 ao io_size])) (hf : fX2_has_b17 io_size s0 = some res) : ax X 0 0 17 [none, none] [oX2 ao io_size] [.int s0] := by
  unfold fX2_has_b17 at hf
  obtain ⟨h1, hf⟩ := fx_ite hf
  obtain rfl := fx_some hf
  exact a_zret C hQ h1 dX2_has_17 ⟨rfl, rfl⟩
def fX2_has_b16 (io_size : Int32) : Option (Int32) :=
  fX2_has_b17 io_size (0 : Int32)
set_option maxHeartbeats 400000 in
set_option maxRecDepth 100000 in
theorem kX2_has_b16 {X : cxT} {l : Launch} {D : va_G} {Y : Nat → ClassId} {ao : Nat → Nat} {io_size : Int32} {res : Int32} (C : axC X l D Y cX2_has 2 RX2 wsX2_has rmX2_has (some .boolean)) (hQ : axQ X 0 0 (fun r9 w9 => r9 = (some (.int res)) ∧ w9 = [oX2 ao io_size])) (hf : fX2_has_b16 io_size = some res) : ax X 0 0 16 [none, none] [oX2 ao io_size] [] := by
  unfold fX2_has_b16 at hf
  refine a_iconst C (0 : Int32) dX2_has_16 (by decide) ?_
  exact kX2_has_b17 C hQ hf
def fX2_has (io_size : Int32) (x1 : Int32) : Option (Int32) :=
  if x1 < (0 : Int32) then (fX2_has_b16 io_size) else (if io_size ≤ x1 then (fX2_has_b16 io_size) else (fX2_has_b17 io_size (1 : Int32)))
set_option maxHeartbeats 400000 in
set_option maxRecDepth 100000 in
theorem kX2_has (l : Launch) (D : va_G) (Y : Nat → ClassId) (ao : Nat → Nat) (io_size : Int32) (x1 : Int32) (res : Int32) (hf : fX2_has io_size x1 = some res) : amf l D Y yX2_has wsX2_has rmX2_has [.ref (ao 0), .int x1] [oX2 ao io_size] (some (.int res)) [oX2 ao io_size] := by
  refine amf.of (cc := cX2_has) (maxL := 2) (rt := (some .boolean)) (by decide) rfl RX2 rfl (Nat.le_of_ble_eq_true rfl) [some (.ref (ao 0)), some (.int x1)] rfl ?_
  intro X C hQ
  unfold fX2_has at hf
  refine a_iload_n C dX2_has_0 rfl ?_
  refine a_if_lt C 16 dX2_has_1 (by decide) (fun h2 => ?_) (fun h2 => ?_)
  · have hf := fx_t h2 hf
    refine a_kill [0, 1] ?_
    exact kX2_has_b16 C hQ hf
  · have hf := fx_f h2 hf
    refine a_iload_n C dX2_has_4 rfl ?_
    refine a_aload_n C dX2_has_5 rfl ?_
    refine a_get C (eB_X2_24 _) dX2_has_6 0 rfl rfl ?_
    refine a_icmp_ge C 16 dX2_has_9 (by decide) (fun h3 => ?_) (fun h3 => ?_)
    · have hf := fx_t h3 hf
      refine a_kill [0, 1] ?_
      exact kX2_has_b16 C hQ hf
    · have hf := fx_f h3 hf
      refine a_iconst C (1 : Int32) dX2_has_12 (by decide) ?_
      refine a_goto C 17 dX2_has_13 (by decide) ?_
      refine a_kill [0, 1] ?_
      exact kX2_has_b17 C hQ hf
-- X2_all
abbrev rmX2_all : Room := { frames := 0, cells := 0, slots := 0, locals := 0 }
theorem dvX2_all : yX2_all.cls = RX2 ∧ yX2_all.cls ≠ "java/lang/invoke/MethodHandle" ∧ yX2_all.cls ≠ "java/lang/invoke/VarHandle" ∧ (parseMethodDescriptor yX2_all.desc).map (fun d => d.parameters.length) = some 0 := by decide +kernel
def fX2_all (io_size : Int32) : Option (Int32) :=
  some ((jshl (1 : Int32) io_size) - (1 : Int32))
set_option maxHeartbeats 400000 in
set_option maxRecDepth 100000 in
theorem kX2_all (l : Launch) (D : va_G) (Y : Nat → ClassId) (ao : Nat → Nat) (io_size : Int32) (res : Int32) (hf : fX2_all io_size = some res) : amf l D Y yX2_all wsX2_all rmX2_all [.ref (ao 0)] [oX2 ao io_size] (some (.int res)) [oX2 ao io_size] := by
  refine amf.of (cc := cX2_all) (maxL := 1) (rt := (some .int)) (by decide) rfl RX2 rfl (Nat.le_of_ble_eq_true rfl) [some (.ref (ao 0))] rfl ?_
  intro X C hQ
  unfold fX2_all at hf
  refine a_iconst C (1 : Int32) dX2_all_0 (by decide) ?_
  refine a_aload_n C dX2_all_1 rfl ?_
  refine a_get C (eB_X2_24 _) dX2_all_2 0 rfl rfl ?_
  refine a_ishl C dX2_all_5 ?_
  refine a_iconst C (1 : Int32) dX2_all_6 (by decide) ?_
  refine a_isub C dX2_all_7 ?_
  obtain rfl := fx_some hf
  exact a_iret C hQ dX2_all_8 ⟨rfl, rfl⟩
-- X2_befriend
abbrev rmX2_befriend : Room := { frames := 0, cells := 0, slots := 0, locals := 0 }
theorem dvX2_befriend : yX2_befriend.cls = RX2 ∧ yX2_befriend.cls ≠ "java/lang/invoke/MethodHandle" ∧ yX2_befriend.cls ≠ "java/lang/invoke/VarHandle" ∧ (parseMethodDescriptor yX2_befriend.desc).map (fun d => d.parameters.length) = some 2 := by decide +kernel
def fX2_befriend_b71 (co_friend : Nat → Int32) (co_pals : Nat → Int32) : Option ((Nat → Int32)) :=
  some co_pals
set_option maxHeartbeats 400000 in
set_option maxRecDepth 100000 in
theorem kX2_befriend_b71 {X : cxT} {l : Launch} {D : va_G} {Y : Nat → ClassId} {ao : Nat → Nat} {io_size : Int32} {co_friend : Nat → Int32} {co_pals : Nat → Int32} {res : (Nat → Int32)} (C : axC X l D Y cX2_befriend 5 RX2 wsX2_befriend rmX2_befriend none) (hQ : axQ X 0 0 (fun r9 w9 => r9 = none ∧ w9 = [oX2 ao io_size, rI Y (ao 3) 8 co_friend, rI Y (ao 4) 8 res])) (hf : fX2_befriend_b71 co_friend co_pals = some res) : ax X 0 0 71 [none, none, none, none, none] [oX2 ao io_size, rI Y (ao 3) 8 co_friend, rI Y (ao 4) 8 co_pals] [] := by
  unfold fX2_befriend_b71 at hf
  obtain rfl := fx_some hf
  exact a_vret C hQ dX2_befriend_71 ⟨rfl, rfl⟩
def fX2_befriend_b65 (co_friend : Nat → Int32) (co_pals : Nat → Int32) (x2 : Int32) (x3 : Int32) (k2 : (Nat → Int32) × Int32 → Option ((Nat → Int32))) : Option ((Nat → Int32)) :=
  k2 (co_pals, (x3 + (1 : Int32)))
set_option maxHeartbeats 400000 in
set_option maxRecDepth 100000 in
theorem kX2_befriend_b65 {X : cxT} {l : Launch} {D : va_G} {Y : Nat → ClassId} {ao : Nat → Nat} {io_size : Int32} {co_friend : Nat → Int32} {co_pals : Nat → Int32} {x2 : Int32} {x3 : Int32} {res : (Nat → Int32)} (C : axC X l D Y cX2_befriend 5 RX2 wsX2_befriend rmX2_befriend none) (hQ : axQ X 0 0 (fun r9 w9 => r9 = none ∧ w9 = [oX2 ao io_size, rI Y (ao 3) 8 co_friend, rI Y (ao 4) 8 res])) {k2 : (Nat → Int32) × Int32 → Option ((Nat → Int32))} (hk2 : ∀ s : (Nat → Int32) × Int32, k2 s = some res → ax X 0 0 2 [some (.ref (ao 0)), none, some (.int x2), some (.int s.2), none] [oX2 ao io_size, rI Y (ao 3) 8 co_friend, rI Y (ao 4) 8 s.1] []) (hf : fX2_befriend_b65 co_friend co_pals x2 x3 k2 = some res) : ax X 0 0 65 [some (.ref (ao 0)), none, some (.int x2), some (.int x3), none] [oX2 ao io_size, rI Y (ao 3) 8 co_friend, rI Y (ao 4) 8 co_pals] [] := by
  unfold fX2_befriend_b65 at hf
  refine a_iinc C (1 : Int32) dX2_befriend_65 (by decide) rfl (by decide) rfl ?_
  refine a_goto C 2 dX2_befriend_68 (by decide) ?_
  exact hk2 (co_pals, (x3 + (1 : Int32))) hf
def fX2_befriend_l2 (co_friend : Nat → Int32) (x2 : Int32) (k2 : (Nat → Int32) × Int32 → Option ((Nat → Int32))) (co_pals : Nat → Int32) (x3 : Int32) : Option ((Nat → Int32)) :=
  if x2 ≤ x3 then (fX2_befriend_b71 co_friend co_pals) else (if (8 : Int32) ≤ x3 then (fX2_befriend_b71 co_friend co_pals) else (if inb x3 8 then if (co_friend (Int32.toNatClampNeg x3)) < (0 : Int32) then (fX2_befriend_b65 co_friend (upd co_pals (Int32.toNatClampNeg x3) (0 : Int32)) x2 x3 k2) else (if x3 ≤ (co_friend (Int32.toNatClampNeg x3)) then (fX2_befriend_b65 co_friend (upd co_pals (Int32.toNatClampNeg x3) (0 : Int32)) x2 x3 k2) else (if inb (co_friend (Int32.toNatClampNeg x3)) 8 then fX2_befriend_b65 co_friend (upd (upd (upd co_pals (Int32.toNatClampNeg x3) (0 : Int32)) (Int32.toNatClampNeg x3) (((upd co_pals (Int32.toNatClampNeg x3) (0 : Int32)) (Int32.toNatClampNeg x3)) ||| (jshl (1 : Int32) (co_friend (Int32.toNatClampNeg x3))))) (Int32.toNatClampNeg (co_friend (Int32.toNatClampNeg x3))) (((upd (upd co_pals (Int32.toNatClampNeg x3) (0 : Int32)) (Int32.toNatClampNeg x3) (((upd co_pals (Int32.toNatClampNeg x3) (0 : Int32)) (Int32.toNatClampNeg x3)) ||| (jshl (1 : Int32) (co_friend (Int32.toNatClampNeg x3))))) (Int32.toNatClampNeg (co_friend (Int32.toNatClampNeg x3)))) ||| (jshl (1 : Int32) x3))) x2 x3 k2 else none)) else none))
def fX2_befriend_b2 (co_friend : Nat → Int32) (co_pals : Nat → Int32) (x2 : Int32) (x3 : Int32) : Option ((Nat → Int32)) :=
  loopN (fun (s : (Nat → Int32) × Int32) k2 => fX2_befriend_l2 co_friend x2 k2 s.1 s.2) FUEL (co_pals, x3)
set_option maxHeartbeats 400000 in
set_option maxRecDepth 100000 in
theorem kX2_befriend_l2 {X : cxT} {l : Launch} {D : va_G} {Y : Nat → ClassId} {ao : Nat → Nat} {io_size : Int32} {co_friend : Nat → Int32} {co_pals : Nat → Int32} {x2 : Int32} {x3 : Int32} {res : (Nat → Int32)} (C : axC X l D Y cX2_befriend 5 RX2 wsX2_befriend rmX2_befriend none) (hQ : axQ X 0 0 (fun r9 w9 => r9 = none ∧ w9 = [oX2 ao io_size, rI Y (ao 3) 8 co_friend, rI Y (ao 4) 8 res])) {k2 : (Nat → Int32) × Int32 → Option ((Nat → Int32))} (hk2 : ∀ s : (Nat → Int32) × Int32, k2 s = some res → ax X 0 0 2 [some (.ref (ao 0)), none, some (.int x2), some (.int s.2), none] [oX2 ao io_size, rI Y (ao 3) 8 co_friend, rI Y (ao 4) 8 s.1] []) (hf : fX2_befriend_l2 co_friend x2 k2 co_pals x3 = some res) : ax X 0 0 2 [some (.ref (ao 0)), none, some (.int x2), some (.int x3), none] [oX2 ao io_size, rI Y (ao 3) 8 co_friend, rI Y (ao 4) 8 co_pals] [] := by
  unfold fX2_befriend_l2 at hf
  refine a_iload_n C dX2_befriend_2 rfl ?_
  refine a_iload_n C dX2_befriend_3 rfl ?_
  refine a_icmp_ge C 71 dX2_befriend_4 (by decide) (fun h1 => ?_) (fun h1 => ?_)
  · have hf := fx_t h1 hf
    refine a_kill [0, 2, 3] ?_
    exact kX2_befriend_b71 C hQ hf
  · have hf := fx_f h1 hf
    refine a_iload_n C dX2_befriend_7 rfl ?_
    refine a_bipush C (8 : Int32) dX2_befriend_8 (by decide) ?_
    refine a_icmp_ge C 71 dX2_befriend_10 (by decide) (fun h2 => ?_) (fun h2 => ?_)
    · have hf := fx_t h2 hf
      refine a_kill [0, 2, 3] ?_
      exact kX2_befriend_b71 C hQ hf
    · have hf := fx_f h2 hf
      refine a_aload_n C dX2_befriend_13 rfl ?_
      refine a_get C (eB_X2_21 _) dX2_befriend_14 0 rfl rfl ?_
      refine a_iload_n C dX2_befriend_17 rfl ?_
      refine a_iconst C (0 : Int32) dX2_befriend_18 (by decide) ?_
      obtain ⟨h3, hf⟩ := fx_ite hf
      refine a_iast C dX2_befriend_19 2 rfl h3 ?_
      refine a_aload_n C dX2_befriend_20 rfl ?_
      refine a_get C (eB_X2_18 _) dX2_befriend_21 0 rfl rfl ?_
      refine a_iload_n C dX2_befriend_24 rfl ?_
      refine a_iald C dX2_befriend_25 1 rfl h3 ?_
      refine a_istore C dX2_befriend_26 (by decide) rfl ?_
      refine a_iload C dX2_befriend_28 rfl ?_
      refine a_if_lt C 65 dX2_befriend_30 (by decide) (fun h4 => ?_) (fun h4 => ?_)
      · have hf := fx_t h4 hf
        refine a_kill [4] ?_
        exact kX2_befriend_b65 C hQ hk2 hf
      · have hf := fx_f h4 hf
        refine a_iload C dX2_befriend_33 rfl ?_
        refine a_iload_n C dX2_befriend_35 rfl ?_
        refine a_icmp_ge C 65 dX2_befriend_36 (by decide) (fun h5 => ?_) (fun h5 => ?_)
        · have hf := fx_t h5 hf
          refine a_kill [4] ?_
          exact kX2_befriend_b65 C hQ hk2 hf
        · have hf := fx_f h5 hf
          refine a_aload_n C dX2_befriend_39 rfl ?_
          refine a_get C (eB_X2_21 _) dX2_befriend_40 0 rfl rfl ?_
          refine a_iload_n C dX2_befriend_43 rfl ?_
          refine a_dup2 C dX2_befriend_44 rfl rfl ?_
          refine a_iald C dX2_befriend_45 2 rfl h3 ?_
          refine a_iconst C (1 : Int32) dX2_befriend_46 (by decide) ?_
          refine a_iload C dX2_befriend_47 rfl ?_
          refine a_ishl C dX2_befriend_49 ?_
          refine a_ior C dX2_befriend_50 ?_
          refine a_iast C dX2_befriend_51 2 rfl h3 ?_
          refine a_aload_n C dX2_befriend_52 rfl ?_
          refine a_get C (eB_X2_21 _) dX2_befriend_53 0 rfl rfl ?_
          refine a_iload C dX2_befriend_56 rfl ?_
          refine a_dup2 C dX2_befriend_58 rfl rfl ?_
          obtain ⟨h6, hf⟩ := fx_ite hf
          refine a_iald C dX2_befriend_59 2 rfl h6 ?_
          refine a_iconst C (1 : Int32) dX2_befriend_60 (by decide) ?_
          refine a_iload_n C dX2_befriend_61 rfl ?_
          refine a_ishl C dX2_befriend_62 ?_
          refine a_ior C dX2_befriend_63 ?_
          refine a_iast C dX2_befriend_64 2 rfl h6 ?_
          refine a_kill [4] ?_
          exact kX2_befriend_b65 C hQ hk2 hf
set_option maxHeartbeats 400000 in
set_option maxRecDepth 100000 in
theorem kX2_befriend_b2 {X : cxT} {l : Launch} {D : va_G} {Y : Nat → ClassId} {ao : Nat → Nat} {io_size : Int32} {co_friend : Nat → Int32} {co_pals : Nat → Int32} {x2 : Int32} {x3 : Int32} {res : (Nat → Int32)} (C : axC X l D Y cX2_befriend 5 RX2 wsX2_befriend rmX2_befriend none) (hQ : axQ X 0 0 (fun r9 w9 => r9 = none ∧ w9 = [oX2 ao io_size, rI Y (ao 3) 8 co_friend, rI Y (ao 4) 8 res])) (hf : fX2_befriend_b2 co_friend co_pals x2 x3 = some res) : ax X 0 0 2 [some (.ref (ao 0)), none, some (.int x2), some (.int x3), none] [oX2 ao io_size, rI Y (ao 3) 8 co_friend, rI Y (ao 4) 8 co_pals] [] := by
  unfold fX2_befriend_b2 at hf
  exact fx_loop (P := fun s : (Nat → Int32) × Int32 => ax X 0 0 2 [some (.ref (ao 0)), none, some (.int x2), some (.int s.2), none] [oX2 ao io_size, rI Y (ao 3) 8 co_friend, rI Y (ao 4) 8 s.1] []) (fun s k2 hk2 h => kX2_befriend_l2 C hQ hk2 h) FUEL (co_pals, x3) hf
def fX2_befriend (co_friend : Nat → Int32) (co_pals : Nat → Int32) (x1 : Int32) (x2 : Int32) : Option ((Nat → Int32)) :=
  fX2_befriend_b2 co_friend co_pals x2 x1
set_option maxHeartbeats 400000 in
set_option maxRecDepth 100000 in
theorem kX2_befriend (l : Launch) (D : va_G) (Y : Nat → ClassId) (ao : Nat → Nat) (io_size : Int32) (co_friend : Nat → Int32) (co_pals : Nat → Int32) (x1 : Int32) (x2 : Int32) (res : (Nat → Int32)) (hf : fX2_befriend co_friend co_pals x1 x2 = some res) : amf l D Y yX2_befriend wsX2_befriend rmX2_befriend [.ref (ao 0), .int x1, .int x2] [oX2 ao io_size, rI Y (ao 3) 8 co_friend, rI Y (ao 4) 8 co_pals] none [oX2 ao io_size, rI Y (ao 3) 8 co_friend, rI Y (ao 4) 8 res] := by
  refine amf.of (cc := cX2_befriend) (maxL := 5) (rt := none) (by decide) rfl RX2 rfl (Nat.le_of_ble_eq_true rfl) [some (.ref (ao 0)), some (.int x1), some (.int x2), none, none] rfl ?_
  intro X C hQ
  unfold fX2_befriend at hf
  refine a_iload_n C dX2_befriend_0 rfl ?_
  refine a_istore_n C dX2_befriend_1 (by decide) rfl ?_
  refine a_kill [1] ?_
  exact kX2_befriend_b2 C hQ hf
-- X5_has
abbrev rmX5_has : Room := { frames := 0, cells := 0, slots := 0, locals := 0 }
theorem dvX5_has : yX5_has.cls = RX5 ∧ yX5_has.cls ≠ "java/lang/invoke/MethodHandle" ∧ yX5_has.cls ≠ "java/lang/invoke/VarHandle" ∧ (parseMethodDescriptor yX5_has.desc).map (fun d => d.parameters.length) = some 1 := by decide +kernel
def fX5_has_b17 (io_cells : Int32) (s0 : Int32) : Option (Int32) :=
  if s0 = 0 ∨ s0 = 1 then some s0 else none
set_option maxHeartbeats 400000 in
set_option maxRecDepth 100000 in
theorem kX5_has_b17 {X : cxT} {l : Launch} {D : va_G} {Y : Nat → ClassId} {ao : Nat → Nat} {io_cells : Int32} {s0 : Int32} {res : Int32} (C : axC X l D Y cX5_has 2 RX5 wsX5_has rmX5_has (some .boolean)) (hQ : axQ X 0 0 (fun r9 w9 => r9 = (some (.int res)) ∧ w9 = [oX5 ao io_cells])) (hf : fX5_has_b17 io_cells s0 = some res) : ax X 0 0 17 [none, none] [oX5 ao io_cells] [.int s0] := by
  unfold fX5_has_b17 at hf
  obtain ⟨h1, hf⟩ := fx_ite hf
  obtain rfl := fx_some hf
  exact a_zret C hQ h1 dX5_has_17 ⟨rfl, rfl⟩
def fX5_has_b16 (io_cells : Int32) : Option (Int32) :=
  fX5_has_b17 io_cells (0 : Int32)
set_option maxHeartbeats 400000 in
set_option maxRecDepth 100000 in
theorem kX5_has_b16 {X : cxT} {l : Launch} {D : va_G} {Y : Nat → ClassId} {ao : Nat → Nat} {io_cells : Int32} {res : Int32} (C : axC X l D Y cX5_has 2 RX5 wsX5_has rmX5_has (some .boolean)) (hQ : axQ X 0 0 (fun r9 w9 => r9 = (some (.int res)) ∧ w9 = [oX5 ao io_cells])) (hf : fX5_has_b16 io_cells = some res) : ax X 0 0 16 [none, none] [oX5 ao io_cells] [] := by
  unfold fX5_has_b16 at hf
  refine a_iconst C (0 : Int32) dX5_has_16 (by decide) ?_
  exact kX5_has_b17 C hQ hf
def fX5_has (io_cells : Int32) (x1 : Int32) : Option (Int32) :=
  if x1 < (0 : Int32) then (fX5_has_b16 io_cells) else (if io_cells ≤ x1 then (fX5_has_b16 io_cells) else (fX5_has_b17 io_cells (1 : Int32)))
set_option maxHeartbeats 400000 in
set_option maxRecDepth 100000 in
theorem kX5_has (l : Launch) (D : va_G) (Y : Nat → ClassId) (ao : Nat → Nat) (io_cells : Int32) (x1 : Int32) (res : Int32) (hf : fX5_has io_cells x1 = some res) : amf l D Y yX5_has wsX5_has rmX5_has [.ref (ao 0), .int x1] [oX5 ao io_cells] (some (.int res)) [oX5 ao io_cells] := by
  refine amf.of (cc := cX5_has) (maxL := 2) (rt := (some .boolean)) (by decide) rfl RX5 rfl (Nat.le_of_ble_eq_true rfl) [some (.ref (ao 0)), some (.int x1)] rfl ?_
  intro X C hQ
  unfold fX5_has at hf
  refine a_iload_n C dX5_has_0 rfl ?_
  refine a_if_lt C 16 dX5_has_1 (by decide) (fun h2 => ?_) (fun h2 => ?_)
  · have hf := fx_t h2 hf
    refine a_kill [0, 1] ?_
    exact kX5_has_b16 C hQ hf
  · have hf := fx_f h2 hf
    refine a_iload_n C dX5_has_4 rfl ?_
    refine a_aload_n C dX5_has_5 rfl ?_
    refine a_get C (eB_X5_9 _) dX5_has_6 0 rfl rfl ?_
    refine a_icmp_ge C 16 dX5_has_9 (by decide) (fun h3 => ?_) (fun h3 => ?_)
    · have hf := fx_t h3 hf
      refine a_kill [0, 1] ?_
      exact kX5_has_b16 C hQ hf
    · have hf := fx_f h3 hf
      refine a_iconst C (1 : Int32) dX5_has_12 (by decide) ?_
      refine a_goto C 17 dX5_has_13 (by decide) ?_
      refine a_kill [0, 1] ?_
      exact kX5_has_b17 C hQ hf
-- X5_read
abbrev rmX5_read : Room := { frames := 1, cells := 0, slots := 0, locals := 40 }
theorem dvX5_read : yX5_read.cls = RX5 ∧ yX5_read.cls ≠ "java/lang/invoke/MethodHandle" ∧ yX5_read.cls ≠ "java/lang/invoke/VarHandle" ∧ (parseMethodDescriptor yX5_read.desc).map (fun d => d.parameters.length) = some 1 := by decide +kernel
def fX5_read_b127 (io_cells : Int32) (co_base : Nat → Int32) (co_dyke : Nat → Int32) (co_newBase : Nat → Int32) (co_newDyke : Nat → Int32) (ip1_length : Int32) (cp1_signs : Nat → Int32) (x2 : Int32) (x3 : Int32) : Option (Int32 × Int32 × (Nat → Int32) × (Nat → Int32) × (Nat → Int32) × (Nat → Int32)) :=
  if x2 = (1 : Int32) then (some ((-1 : Int32), x3, (va_cpy co_newBase co_base (Int32.toNatClampNeg (0 : Int32)) (Int32.toNatClampNeg (0 : Int32)) (Int32.toNatClampNeg (12 : Int32))), (va_cpy co_newDyke co_dyke (Int32.toNatClampNeg (0 : Int32)) (Int32.toNatClampNeg (0 : Int32)) (Int32.toNatClampNeg (12 : Int32))), co_newBase, co_newDyke)) else (some (ip1_length, io_cells, co_base, co_dyke, co_newBase, co_newDyke))
set_option maxHeartbeats 400000 in
set_option maxRecDepth 100000 in
theorem kX5_read_b127 {X : cxT} {l : Launch} {D : va_G} {Y : Nat → ClassId} {ao ap1 : Nat → Nat} {io_cells : Int32} {co_base : Nat → Int32} {co_dyke : Nat → Int32} {co_newBase : Nat → Int32} {co_newDyke : Nat → Int32} {ip1_length : Int32} {cp1_signs : Nat → Int32} {x2 : Int32} {x3 : Int32} {res : Int32 × Int32 × (Nat → Int32) × (Nat → Int32) × (Nat → Int32) × (Nat → Int32)} (C : axC X l D Y cX5_read 6 RX5 wsX5_read rmX5_read (some .int)) (hQ : axQ X 0 0 (fun r9 w9 => r9 = (some (.int res.1)) ∧ w9 = [oX5 ao res.2.1, rI Y (ao 1) 12 res.2.2.1, rI Y (ao 2) 12 res.2.2.2.1, rI Y (ao 3) 12 res.2.2.2.2.1, rI Y (ao 4) 12 res.2.2.2.2.2, oX10 ap1 ip1_length, rC Y (ap1 1) 80 cp1_signs])) (hf : fX5_read_b127 io_cells co_base co_dyke co_newBase co_newDyke ip1_length cp1_signs x2 x3 = some res) : ax X 0 0 127 [some (.ref (ao 0)), some (.ref (ap1 0)), some (.int x2), some (.int x3), none, none] [oX5 ao io_cells, rI Y (ao 1) 12 co_base, rI Y (ao 2) 12 co_dyke, rI Y (ao 3) 12 co_newBase, rI Y (ao 4) 12 co_newDyke, oX10 ap1 ip1_length, rC Y (ap1 1) 80 cp1_signs] [] := by
  unfold fX5_read_b127 at hf
  refine a_iload_n C dX5_read_127 rfl ?_
  refine a_iconst C (1 : Int32) dX5_read_128 (by decide) ?_
  refine a_icmp_eq C 137 dX5_read_129 (by decide) (fun h1 => ?_) (fun h1 => ?_)
  · have hf := fx_t h1 hf
    refine a_aload_n C dX5_read_137 rfl ?_
    refine a_iload_n C dX5_read_138 rfl ?_
    refine a_put C (eB_X5_9 _) tfX5_0 dX5_read_139 0 rfl rfl rfl (Nat.le_of_ble_eq_true rfl) ?_
    refine a_aload_n C dX5_read_142 rfl ?_
    refine a_get C (eB_X5_22 _) dX5_read_143 0 rfl rfl ?_
    refine a_iconst C (0 : Int32) dX5_read_146 (by decide) ?_
    refine a_aload_n C dX5_read_147 rfl ?_
    refine a_get C (eB_X5_15 _) dX5_read_148 0 rfl rfl ?_
    refine a_iconst C (0 : Int32) dX5_read_151 (by decide) ?_
    refine a_bipush C (12 : Int32) dX5_read_152 (by decide) ?_
    refine a_copyi C dX5_read_154 (cB_X5_41 _) ⟨Nat.le_of_ble_eq_true rfl, by decide⟩ (Nat.le_of_ble_eq_true rfl) 3 1 rfl rfl (by decide) (by decide) (by decide) (by decide) (by decide) ?_
    refine a_aload_n C dX5_read_157 rfl ?_
    refine a_get C (eB_X5_25 _) dX5_read_158 0 rfl rfl ?_
    refine a_iconst C (0 : Int32) dX5_read_161 (by decide) ?_
    refine a_aload_n C dX5_read_162 rfl ?_
    refine a_get C (eB_X5_19 _) dX5_read_163 0 rfl rfl ?_
    refine a_iconst C (0 : Int32) dX5_read_166 (by decide) ?_
    refine a_bipush C (12 : Int32) dX5_read_167 (by decide) ?_
    refine a_copyi C dX5_read_169 (cB_X5_41 _) ⟨Nat.le_of_ble_eq_true rfl, by decide⟩ (Nat.le_of_ble_eq_true rfl) 4 2 rfl rfl (by decide) (by decide) (by decide) (by decide) (by decide) ?_
    refine a_iconst C (-1 : Int32) dX5_read_172 (by decide) ?_
    obtain rfl := fx_some hf
    exact a_iret C hQ dX5_read_173 ⟨rfl, rfl⟩
  · have hf := fx_f h1 hf
    refine a_aload_n C dX5_read_132 rfl ?_
    refine a_get C (eB_X5_28 _) dX5_read_133 5 rfl rfl ?_
    obtain rfl := fx_some hf
    exact a_iret C hQ dX5_read_136 ⟨rfl, rfl⟩
def fX5_read_b56 (io_cells : Int32) (co_base : Nat → Int32) (co_dyke : Nat → Int32) (co_newBase : Nat → Int32) (co_newDyke : Nat → Int32) (ip1_length : Int32) (cp1_signs : Nat → Int32) (x4 : Int32) : Option (Int32 × Int32 × (Nat → Int32) × (Nat → Int32) × (Nat → Int32) × (Nat → Int32)) :=
  some (x4, io_cells, co_base, co_dyke, co_newBase, co_newDyke)
set_option maxHeartbeats 400000 in
set_option maxRecDepth 100000 in
theorem kX5_read_b56 {X : cxT} {l : Launch} {D : va_G} {Y : Nat → ClassId} {ao ap1 : Nat → Nat} {io_cells : Int32} {co_base : Nat → Int32} {co_dyke : Nat → Int32} {co_newBase : Nat → Int32} {co_newDyke : Nat → Int32} {ip1_length : Int32} {cp1_signs : Nat → Int32} {x4 : Int32} {res : Int32 × Int32 × (Nat → Int32) × (Nat → Int32) × (Nat → Int32) × (Nat → Int32)} (C : axC X l D Y cX5_read 6 RX5 wsX5_read rmX5_read (some .int)) (hQ : axQ X 0 0 (fun r9 w9 => r9 = (some (.int res.1)) ∧ w9 = [oX5 ao res.2.1, rI Y (ao 1) 12 res.2.2.1, rI Y (ao 2) 12 res.2.2.2.1, rI Y (ao 3) 12 res.2.2.2.2.1, rI Y (ao 4) 12 res.2.2.2.2.2, oX10 ap1 ip1_length, rC Y (ap1 1) 80 cp1_signs])) (hf : fX5_read_b56 io_cells co_base co_dyke co_newBase co_newDyke ip1_length cp1_signs x4 = some res) : ax X 0 0 56 [none, none, none, none, some (.int x4), none] [oX5 ao io_cells, rI Y (ao 1) 12 co_base, rI Y (ao 2) 12 co_dyke, rI Y (ao 3) 12 co_newBase, rI Y (ao 4) 12 co_newDyke, oX10 ap1 ip1_length, rC Y (ap1 1) 80 cp1_signs] [] := by
  unfold fX5_read_b56 at hf
  refine a_iload C dX5_read_56 rfl ?_
  obtain rfl := fx_some hf
  exact a_iret C hQ dX5_read_58 ⟨rfl, rfl⟩
def fX5_read_b118 (io_cells : Int32) (co_base : Nat → Int32) (co_dyke : Nat → Int32) (co_newBase : Nat → Int32) (co_newDyke : Nat → Int32) (ip1_length : Int32) (cp1_signs : Nat → Int32) (x4 : Int32) : Option (Int32 × Int32 × (Nat → Int32) × (Nat → Int32) × (Nat → Int32) × (Nat → Int32)) :=
  some (x4, io_cells, co_base, co_dyke, co_newBase, co_newDyke)
set_option maxHeartbeats 400000 in
set_option maxRecDepth 100000 in
theorem kX5_read_b118 {X : cxT} {l : Launch} {D : va_G} {Y : Nat → ClassId} {ao ap1 : Nat → Nat} {io_cells : Int32} {co_base : Nat → Int32} {co_dyke : Nat → Int32} {co_newBase : Nat → Int32} {co_newDyke : Nat → Int32} {ip1_length : Int32} {cp1_signs : Nat → Int32} {x4 : Int32} {res : Int32 × Int32 × (Nat → Int32) × (Nat → Int32) × (Nat → Int32) × (Nat → Int32)} (C : axC X l D Y cX5_read 6 RX5 wsX5_read rmX5_read (some .int)) (hQ : axQ X 0 0 (fun r9 w9 => r9 = (some (.int res.1)) ∧ w9 = [oX5 ao res.2.1, rI Y (ao 1) 12 res.2.2.1, rI Y (ao 2) 12 res.2.2.2.1, rI Y (ao 3) 12 res.2.2.2.2.1, rI Y (ao 4) 12 res.2.2.2.2.2, oX10 ap1 ip1_length, rC Y (ap1 1) 80 cp1_signs])) (hf : fX5_read_b118 io_cells co_base co_dyke co_newBase co_newDyke ip1_length cp1_signs x4 = some res) : ax X 0 0 118 [none, none, none, none, some (.int x4), none] [oX5 ao io_cells, rI Y (ao 1) 12 co_base, rI Y (ao 2) 12 co_dyke, rI Y (ao 3) 12 co_newBase, rI Y (ao 4) 12 co_newDyke, oX10 ap1 ip1_length, rC Y (ap1 1) 80 cp1_signs] [] := by
  unfold fX5_read_b118 at hf
  refine a_iload C dX5_read_118 rfl ?_
  obtain rfl := fx_some hf
  exact a_iret C hQ dX5_read_120 ⟨rfl, rfl⟩
def fX5_read_b121 (io_cells : Int32) (co_base : Nat → Int32) (co_dyke : Nat → Int32) (co_newBase : Nat → Int32) (co_newDyke : Nat → Int32) (ip1_length : Int32) (cp1_signs : Nat → Int32) (x2 : Int32) (x3 : Int32) (x4 : Int32) (k7 : (Nat → Int32) × (Nat → Int32) × Int32 × Int32 × Int32 → Option (Int32 × Int32 × (Nat → Int32) × (Nat → Int32) × (Nat → Int32) × (Nat → Int32))) : Option (Int32 × Int32 × (Nat → Int32) × (Nat → Int32) × (Nat → Int32) × (Nat → Int32)) :=
  k7 (co_newBase, co_newDyke, x2, x3, (x4 + (1 : Int32)))
set_option maxHeartbeats 400000 in
set_option maxRecDepth 100000 in
theorem kX5_read_b121 {X : cxT} {l : Launch} {D : va_G} {Y : Nat → ClassId} {ao ap1 : Nat → Nat} {io_cells : Int32} {co_base : Nat → Int32} {co_dyke : Nat → Int32} {co_newBase : Nat → Int32} {co_newDyke : Nat → Int32} {ip1_length : Int32} {cp1_signs : Nat → Int32} {x2 : Int32} {x3 : Int32} {x4 : Int32} {res : Int32 × Int32 × (Nat → Int32) × (Nat → Int32) × (Nat → Int32) × (Nat → Int32)} (C : axC X l D Y cX5_read 6 RX5 wsX5_read rmX5_read (some .int)) (hQ : axQ X 0 0 (fun r9 w9 => r9 = (some (.int res.1)) ∧ w9 = [oX5 ao res.2.1, rI Y (ao 1) 12 res.2.2.1, rI Y (ao 2) 12 res.2.2.2.1, rI Y (ao 3) 12 res.2.2.2.2.1, rI Y (ao 4) 12 res.2.2.2.2.2, oX10 ap1 ip1_length, rC Y (ap1 1) 80 cp1_signs])) {k7 : (Nat → Int32) × (Nat → Int32) × Int32 × Int32 × Int32 → Option (Int32 × Int32 × (Nat → Int32) × (Nat → Int32) × (Nat → Int32) × (Nat → Int32))} (hk7 : ∀ s : (Nat → Int32) × (Nat → Int32) × Int32 × Int32 × Int32, k7 s = some res → ax X 0 0 7 [some (.ref (ao 0)), some (.ref (ap1 0)), some (.int s.2.2.1), some (.int s.2.2.2.1), some (.int s.2.2.2.2), none] [oX5 ao io_cells, rI Y (ao 1) 12 co_base, rI Y (ao 2) 12 co_dyke, rI Y (ao 3) 12 s.1, rI Y (ao 4) 12 s.2.1, oX10 ap1 ip1_length, rC Y (ap1 1) 80 cp1_signs] []) (hf : fX5_read_b121 io_cells co_base co_dyke co_newBase co_newDyke ip1_length cp1_signs x2 x3 x4 k7 = some res) : ax X 0 0 121 [some (.ref (ao 0)), some (.ref (ap1 0)), some (.int x2), some (.int x3), some (.int x4), none] [oX5 ao io_cells, rI Y (ao 1) 12 co_base, rI Y (ao 2) 12 co_dyke, rI Y (ao 3) 12 co_newBase, rI Y (ao 4) 12 co_newDyke, oX10 ap1 ip1_length, rC Y (ap1 1) 80 cp1_signs] [] := by
  unfold fX5_read_b121 at hf
  refine a_iinc C (1 : Int32) dX5_read_121 (by decide) rfl (by decide) rfl ?_
  refine a_goto C 7 dX5_read_124 (by decide) ?_
  exact hk7 (co_newBase, co_newDyke, x2, x3, (x4 + (1 : Int32))) hf
def fX5_read_b86 (io_cells : Int32) (co_base : Nat → Int32) (co_dyke : Nat → Int32) (co_newBase : Nat → Int32) (co_newDyke : Nat → Int32) (ip1_length : Int32) (cp1_signs : Nat → Int32) (x3 : Int32) (x4 : Int32) (x5 : Int32) (k7 : (Nat → Int32) × (Nat → Int32) × Int32 × Int32 × Int32 → Option (Int32 × Int32 × (Nat → Int32) × (Nat → Int32) × (Nat → Int32) × (Nat → Int32))) : Option (Int32 × Int32 × (Nat → Int32) × (Nat → Int32) × (Nat → Int32) × (Nat → Int32)) :=
  if (12 : Int32) ≤ x3 then (fX5_read_b118 io_cells co_base co_dyke co_newBase co_newDyke ip1_length cp1_signs x4) else (if inb x3 12 then fX5_read_b121 io_cells co_base co_dyke (upd co_newBase (Int32.toNatClampNeg x3) (x5 - (48 : Int32))) (upd co_newDyke (Int32.toNatClampNeg x3) (0 : Int32)) ip1_length cp1_signs (1 : Int32) (x3 + (1 : Int32)) x4 k7 else none)
set_option maxHeartbeats 400000 in
set_option maxRecDepth 100000 in
theorem kX5_read_b86 {X : cxT} {l : Launch} {D : va_G} {Y : Nat → ClassId} {ao ap1 : Nat → Nat} {io_cells : Int32} {co_base : Nat → Int32} {co_dyke : Nat → Int32} {co_newBase : Nat → Int32} {co_newDyke : Nat → Int32} {ip1_length : Int32} {cp1_signs : Nat → Int32} {x3 : Int32} {x4 : Int32} {x5 : Int32} {res : Int32 × Int32 × (Nat → Int32) × (Nat → Int32) × (Nat → Int32) × (Nat → Int32)} (C : axC X l D Y cX5_read 6 RX5 wsX5_read rmX5_read (some .int)) (hQ : axQ X 0 0 (fun r9 w9 => r9 = (some (.int res.1)) ∧ w9 = [oX5 ao res.2.1, rI Y (ao 1) 12 res.2.2.1, rI Y (ao 2) 12 res.2.2.2.1, rI Y (ao 3) 12 res.2.2.2.2.1, rI Y (ao 4) 12 res.2.2.2.2.2, oX10 ap1 ip1_length, rC Y (ap1 1) 80 cp1_signs])) {k7 : (Nat → Int32) × (Nat → Int32) × Int32 × Int32 × Int32 → Option (Int32 × Int32 × (Nat → Int32) × (Nat → Int32) × (Nat → Int32) × (Nat → Int32))} (hk7 : ∀ s : (Nat → Int32) × (Nat → Int32) × Int32 × Int32 × Int32, k7 s = some res → ax X 0 0 7 [some (.ref (ao 0)), some (.ref (ap1 0)), some (.int s.2.2.1), some (.int s.2.2.2.1), some (.int s.2.2.2.2), none] [oX5 ao io_cells, rI Y (ao 1) 12 co_base, rI Y (ao 2) 12 co_dyke, rI Y (ao 3) 12 s.1, rI Y (ao 4) 12 s.2.1, oX10 ap1 ip1_length, rC Y (ap1 1) 80 cp1_signs] []) (hf : fX5_read_b86 io_cells co_base co_dyke co_newBase co_newDyke ip1_length cp1_signs x3 x4 x5 k7 = some res) : ax X 0 0 86 [some (.ref (ao 0)), some (.ref (ap1 0)), none, some (.int x3), some (.int x4), some (.int x5)] [oX5 ao io_cells, rI Y (ao 1) 12 co_base, rI Y (ao 2) 12 co_dyke, rI Y (ao 3) 12 co_newBase, rI Y (ao 4) 12 co_newDyke, oX10 ap1 ip1_length, rC Y (ap1 1) 80 cp1_signs] [] := by
  unfold fX5_read_b86 at hf
  refine a_iload_n C dX5_read_86 rfl ?_
  refine a_bipush C (12 : Int32) dX5_read_87 (by decide) ?_
  refine a_icmp_ge C 118 dX5_read_89 (by decide) (fun h2 => ?_) (fun h2 => ?_)
  · have hf := fx_t h2 hf
    refine a_kill [0, 1, 3, 5] ?_
    exact kX5_read_b118 C hQ hf
  · have hf := fx_f h2 hf
    refine a_aload_n C dX5_read_92 rfl ?_
    refine a_get C (eB_X5_22 _) dX5_read_93 0 rfl rfl ?_
    refine a_iload_n C dX5_read_96 rfl ?_
    refine a_iload C dX5_read_97 rfl ?_
    refine a_bipush C (48 : Int32) dX5_read_99 (by decide) ?_
    refine a_isub C dX5_read_101 ?_
    obtain ⟨h3, hf⟩ := fx_ite hf
    refine a_iast C dX5_read_102 3 rfl h3 ?_
    refine a_aload_n C dX5_read_103 rfl ?_
    refine a_get C (eB_X5_25 _) dX5_read_104 0 rfl rfl ?_
    refine a_iload_n C dX5_read_107 rfl ?_
    refine a_iconst C (0 : Int32) dX5_read_108 (by decide) ?_
    refine a_iast C dX5_read_109 4 rfl h3 ?_
    refine a_iinc C (1 : Int32) dX5_read_110 (by decide) rfl (by decide) rfl ?_
    refine a_iconst C (1 : Int32) dX5_read_113 (by decide) ?_
    refine a_istore_n C dX5_read_114 (by decide) rfl ?_
    refine a_goto C 121 dX5_read_115 (by decide) ?_
    refine a_kill [5] ?_
    exact kX5_read_b121 C hQ hk7 hf
def fX5_read_b48 (io_cells : Int32) (co_base : Nat → Int32) (co_dyke : Nat → Int32) (co_newBase : Nat → Int32) (co_newDyke : Nat → Int32) (ip1_length : Int32) (cp1_signs : Nat → Int32) (x2 : Int32) (x3 : Int32) (x4 : Int32) (x5 : Int32) (k7 : (Nat → Int32) × (Nat → Int32) × Int32 × Int32 × Int32 → Option (Int32 × Int32 × (Nat → Int32) × (Nat → Int32) × (Nat → Int32) × (Nat → Int32))) : Option (Int32 × Int32 × (Nat → Int32) × (Nat → Int32) × (Nat → Int32) × (Nat → Int32)) :=
  (fX11_isDigit x5).bind (fun r4 => if r4 = (0 : Int32) then (fX5_read_b56 io_cells co_base co_dyke co_newBase co_newDyke ip1_length cp1_signs x4) else (if x2 = (2 : Int32) then (if x3 ≤ (0 : Int32) then (fX5_read_b86 io_cells co_base co_dyke co_newBase co_newDyke ip1_length cp1_signs x3 x4 x5 k7) else (if inb (x3 - (1 : Int32)) 12 then fX5_read_b121 io_cells co_base co_dyke co_newBase (upd co_newDyke (Int32.toNatClampNeg (x3 - (1 : Int32))) (x5 - (48 : Int32))) ip1_length cp1_signs (0 : Int32) x3 x4 k7 else none)) else (fX5_read_b86 io_cells co_base co_dyke co_newBase co_newDyke ip1_length cp1_signs x3 x4 x5 k7)))
set_option maxHeartbeats 400000 in
set_option maxRecDepth 100000 in
theorem kX5_read_b48 {X : cxT} {l : Launch} {D : va_G} {Y : Nat → ClassId} {ao ap1 : Nat → Nat} {io_cells : Int32} {co_base : Nat → Int32} {co_dyke : Nat → Int32} {co_newBase : Nat → Int32} {co_newDyke : Nat → Int32} {ip1_length : Int32} {cp1_signs : Nat → Int32} {x2 : Int32} {x3 : Int32} {x4 : Int32} {x5 : Int32} {res : Int32 × Int32 × (Nat → Int32) × (Nat → Int32) × (Nat → Int32) × (Nat → Int32)} (C : axC X l D Y cX5_read 6 RX5 wsX5_read rmX5_read (some .int)) (hQ : axQ X 0 0 (fun r9 w9 => r9 = (some (.int res.1)) ∧ w9 = [oX5 ao res.2.1, rI Y (ao 1) 12 res.2.2.1, rI Y (ao 2) 12 res.2.2.2.1, rI Y (ao 3) 12 res.2.2.2.2.1, rI Y (ao 4) 12 res.2.2.2.2.2, oX10 ap1 ip1_length, rC Y (ap1 1) 80 cp1_signs])) {k7 : (Nat → Int32) × (Nat → Int32) × Int32 × Int32 × Int32 → Option (Int32 × Int32 × (Nat → Int32) × (Nat → Int32) × (Nat → Int32) × (Nat → Int32))} (hk7 : ∀ s : (Nat → Int32) × (Nat → Int32) × Int32 × Int32 × Int32, k7 s = some res → ax X 0 0 7 [some (.ref (ao 0)), some (.ref (ap1 0)), some (.int s.2.2.1), some (.int s.2.2.2.1), some (.int s.2.2.2.2), none] [oX5 ao io_cells, rI Y (ao 1) 12 co_base, rI Y (ao 2) 12 co_dyke, rI Y (ao 3) 12 s.1, rI Y (ao 4) 12 s.2.1, oX10 ap1 ip1_length, rC Y (ap1 1) 80 cp1_signs] []) (hf : fX5_read_b48 io_cells co_base co_dyke co_newBase co_newDyke ip1_length cp1_signs x2 x3 x4 x5 k7 = some res) : ax X 0 0 48 [some (.ref (ao 0)), some (.ref (ap1 0)), some (.int x2), some (.int x3), some (.int x4), some (.int x5)] [oX5 ao io_cells, rI Y (ao 1) 12 co_base, rI Y (ao 2) 12 co_dyke, rI Y (ao 3) 12 co_newBase, rI Y (ao 4) 12 co_newDyke, oX10 ap1 ip1_length, rC Y (ap1 1) 80 cp1_signs] [] := by
  unfold fX5_read_b48 at hf
  refine a_iload C dX5_read_48 rfl ?_
  obtain ⟨r4, h4, hf⟩ := fx_bind hf
  refine a_fN C RX11 (kX11_isDigit l D Y x5 r4 h4) (gB_X5_37 _) rfl (by decide +kernel) (wB_X5_iX11 _) (wB_X5_sX11_isDigit _) dvX11_isDigit ⟨⟨rfl, rfl⟩, ⟨Nat.le_of_ble_eq_true rfl, Nat.le_of_ble_eq_true rfl⟩, ⟨Nat.le_of_ble_eq_true rfl, Nat.le_of_ble_eq_true rfl⟩⟩ rfl (Nat.le_of_ble_eq_true rfl) dX5_read_50 [] [0, 1, 2, 3, 4, 5, 6] trivial (by decide +kernel) rfl [oX5 ao io_cells, rI Y (ao 1) 12 co_base, rI Y (ao 2) 12 co_dyke, rI Y (ao 3) 12 co_newBase, rI Y (ao 4) 12 co_newDyke, oX10 ap1 ip1_length, rC Y (ap1 1) 80 cp1_signs] trivial ⟨rfl, rfl, rfl, rfl, rfl, rfl, rfl, trivial⟩ 7 rfl (by decide +kernel) ?_
  refine a_if_ne C 59 dX5_read_53 (by decide) (fun h5 => ?_) (fun h5 => ?_)
  · have hf := fx_f h5 hf
    refine a_iload_n C dX5_read_59 rfl ?_
    refine a_iconst C (2 : Int32) dX5_read_60 (by decide) ?_
    refine a_icmp_ne C 86 dX5_read_61 (by decide) (fun h6 => ?_) (fun h6 => ?_)
    · have hf := fx_f h6 hf
      refine a_kill [2] ?_
      exact kX5_read_b86 C hQ hk7 hf
    · have hf := fx_t h6 hf
      refine a_iload_n C dX5_read_64 rfl ?_
      refine a_if_le C 86 dX5_read_65 (by decide) (fun h7 => ?_) (fun h7 => ?_)
      · have hf := fx_t h7 hf
        refine a_kill [2] ?_
        exact kX5_read_b86 C hQ hk7 hf
      · have hf := fx_f h7 hf
        refine a_aload_n C dX5_read_68 rfl ?_
        refine a_get C (eB_X5_25 _) dX5_read_69 0 rfl rfl ?_
        refine a_iload_n C dX5_read_72 rfl ?_
        refine a_iconst C (1 : Int32) dX5_read_73 (by decide) ?_
        refine a_isub C dX5_read_74 ?_
        refine a_iload C dX5_read_75 rfl ?_
        refine a_bipush C (48 : Int32) dX5_read_77 (by decide) ?_
        refine a_isub C dX5_read_79 ?_
        obtain ⟨h8, hf⟩ := fx_ite hf
        refine a_iast C dX5_read_80 4 rfl h8 ?_
        refine a_iconst C (0 : Int32) dX5_read_81 (by decide) ?_
        refine a_istore_n C dX5_read_82 (by decide) rfl ?_
        refine a_goto C 121 dX5_read_83 (by decide) ?_
        refine a_kill [5] ?_
        exact kX5_read_b121 C hQ hk7 hf
  · have hf := fx_t h5 hf
    refine a_kill [0, 1, 2, 3, 5] ?_
    exact kX5_read_b56 C hQ hf
def fX5_read_l7 (io_cells : Int32) (co_base : Nat → Int32) (co_dyke : Nat → Int32) (ip1_length : Int32) (cp1_signs : Nat → Int32) (k7 : (Nat → Int32) × (Nat → Int32) × Int32 × Int32 × Int32 → Option (Int32 × Int32 × (Nat → Int32) × (Nat → Int32) × (Nat → Int32) × (Nat → Int32))) (co_newBase : Nat → Int32) (co_newDyke : Nat → Int32) (x2 : Int32) (x3 : Int32) (x4 : Int32) : Option (Int32 × Int32 × (Nat → Int32) × (Nat → Int32) × (Nat → Int32) × (Nat → Int32)) :=
  if ip1_length ≤ x4 then (fX5_read_b127 io_cells co_base co_dyke co_newBase co_newDyke ip1_length cp1_signs x2 x3) else (if inb x4 80 then if x2 = (1 : Int32) then (if (cp1_signs (Int32.toNatClampNeg x4)) = (124 : Int32) then (if (12 : Int32) ≤ x3 then (fX5_read_b48 io_cells co_base co_dyke co_newBase co_newDyke ip1_length cp1_signs x2 x3 x4 (cp1_signs (Int32.toNatClampNeg x4)) k7) else (fX5_read_b121 io_cells co_base co_dyke co_newBase co_newDyke ip1_length cp1_signs (2 : Int32) x3 x4 k7)) else (fX5_read_b48 io_cells co_base co_dyke co_newBase co_newDyke ip1_length cp1_signs x2 x3 x4 (cp1_signs (Int32.toNatClampNeg x4)) k7)) else (fX5_read_b48 io_cells co_base co_dyke co_newBase co_newDyke ip1_length cp1_signs x2 x3 x4 (cp1_signs (Int32.toNatClampNeg x4)) k7) else none)
def fX5_read_b7 (io_cells : Int32) (co_base : Nat → Int32) (co_dyke : Nat → Int32) (co_newBase : Nat → Int32) (co_newDyke : Nat → Int32) (ip1_length : Int32) (cp1_signs : Nat → Int32) (x2 : Int32) (x3 : Int32) (x4 : Int32) : Option (Int32 × Int32 × (Nat → Int32) × (Nat → Int32) × (Nat → Int32) × (Nat → Int32)) :=
  loopN (fun (s : (Nat → Int32) × (Nat → Int32) × Int32 × Int32 × Int32) k7 => fX5_read_l7 io_cells co_base co_dyke ip1_length cp1_signs k7 s.1 s.2.1 s.2.2.1 s.2.2.2.1 s.2.2.2.2) FUEL (co_newBase, co_newDyke, x2, x3, x4)
set_option maxHeartbeats 400000 in
set_option maxRecDepth 100000 in
theorem kX5_read_l7 {X : cxT} {l : Launch} {D : va_G} {Y : Nat → ClassId} {ao ap1 : Nat → Nat} {io_cells : Int32} {co_base : Nat → Int32} {co_dyke : Nat → Int32} {co_newBase : Nat → Int32} {co_newDyke : Nat → Int32} {ip1_length : Int32} {cp1_signs : Nat → Int32} {x2 : Int32} {x3 : Int32} {x4 : Int32} {res : Int32 × Int32 × (Nat → Int32) × (Nat → Int32) × (Nat → Int32) × (Nat → Int32)} (C : axC X l D Y cX5_read 6 RX5 wsX5_read rmX5_read (some .int)) (hQ : axQ X 0 0 (fun r9 w9 => r9 = (some (.int res.1)) ∧ w9 = [oX5 ao res.2.1, rI Y (ao 1) 12 res.2.2.1, rI Y (ao 2) 12 res.2.2.2.1, rI Y (ao 3) 12 res.2.2.2.2.1, rI Y (ao 4) 12 res.2.2.2.2.2, oX10 ap1 ip1_length, rC Y (ap1 1) 80 cp1_signs])) {k7 : (Nat → Int32) × (Nat → Int32) × Int32 × Int32 × Int32 → Option (Int32 × Int32 × (Nat → Int32) × (Nat → Int32) × (Nat → Int32) × (Nat → Int32))} (hk7 : ∀ s : (Nat → Int32) × (Nat → Int32) × Int32 × Int32 × Int32, k7 s = some res → ax X 0 0 7 [some (.ref (ao 0)), some (.ref (ap1 0)), some (.int s.2.2.1), some (.int s.2.2.2.1), some (.int s.2.2.2.2), none] [oX5 ao io_cells, rI Y (ao 1) 12 co_base, rI Y (ao 2) 12 co_dyke, rI Y (ao 3) 12 s.1, rI Y (ao 4) 12 s.2.1, oX10 ap1 ip1_length, rC Y (ap1 1) 80 cp1_signs] []) (hf : fX5_read_l7 io_cells co_base co_dyke ip1_length cp1_signs k7 co_newBase co_newDyke x2 x3 x4 = some res) : ax X 0 0 7 [some (.ref (ao 0)), some (.ref (ap1 0)), some (.int x2), some (.int x3), some (.int x4), none] [oX5 ao io_cells, rI Y (ao 1) 12 co_base, rI Y (ao 2) 12 co_dyke, rI Y (ao 3) 12 co_newBase, rI Y (ao 4) 12 co_newDyke, oX10 ap1 ip1_length, rC Y (ap1 1) 80 cp1_signs] [] := by
  unfold fX5_read_l7 at hf
  refine a_iload C dX5_read_7 rfl ?_
  refine a_aload_n C dX5_read_9 rfl ?_
  refine a_get C (eB_X5_28 _) dX5_read_10 5 rfl rfl ?_
  refine a_icmp_ge C 127 dX5_read_13 (by decide) (fun h9 => ?_) (fun h9 => ?_)
  · have hf := fx_t h9 hf
    refine a_kill [4] ?_
    exact kX5_read_b127 C hQ hf
  · have hf := fx_f h9 hf
    refine a_aload_n C dX5_read_16 rfl ?_
    refine a_get C (eB_X5_33 _) dX5_read_17 5 rfl rfl ?_
    refine a_iload C dX5_read_20 rfl ?_
    obtain ⟨h10, hf⟩ := fx_ite hf
    refine a_cald C dX5_read_22 6 rfl h10 ?_
    refine a_istore C dX5_read_23 (by decide) rfl ?_
    refine a_iload_n C dX5_read_25 rfl ?_
    refine a_iconst C (1 : Int32) dX5_read_26 (by decide) ?_
    refine a_icmp_ne C 48 dX5_read_27 (by decide) (fun h11 => ?_) (fun h11 => ?_)
    · have hf := fx_f h11 hf
      exact kX5_read_b48 C hQ hk7 hf
    · have hf := fx_t h11 hf
      refine a_iload C dX5_read_30 rfl ?_
      refine a_bipush C (124 : Int32) dX5_read_32 (by decide) ?_
      refine a_icmp_ne C 48 dX5_read_34 (by decide) (fun h12 => ?_) (fun h12 => ?_)
      · have hf := fx_f h12 hf
        exact kX5_read_b48 C hQ hk7 hf
      · have hf := fx_t h12 hf
        refine a_iload_n C dX5_read_37 rfl ?_
        refine a_bipush C (12 : Int32) dX5_read_38 (by decide) ?_
        refine a_icmp_ge C 48 dX5_read_40 (by decide) (fun h13 => ?_) (fun h13 => ?_)
        · have hf := fx_t h13 hf
          exact kX5_read_b48 C hQ hk7 hf
        · have hf := fx_f h13 hf
          refine a_iconst C (2 : Int32) dX5_read_43 (by decide) ?_
          refine a_istore_n C dX5_read_44 (by decide) rfl ?_
          refine a_goto C 121 dX5_read_45 (by decide) ?_
          refine a_kill [5] ?_
          exact kX5_read_b121 C hQ hk7 hf
set_option maxHeartbeats 400000 in
set_option maxRecDepth 100000 in
theorem kX5_read_b7 {X : cxT} {l : Launch} {D : va_G} {Y : Nat → ClassId} {ao ap1 : Nat → Nat} {io_cells : Int32} {co_base : Nat → Int32} {co_dyke : Nat → Int32} {co_newBase : Nat → Int32} {co_newDyke : Nat → Int32} {ip1_length : Int32} {cp1_signs : Nat → Int32} {x2 : Int32} {x3 : Int32} {x4 : Int32} {res : Int32 × Int32 × (Nat → Int32) × (Nat → Int32) × (Nat → Int32) × (Nat → Int32)} (C : axC X l D Y cX5_read 6 RX5 wsX5_read rmX5_read (some .int)) (hQ : axQ X 0 0 (fun r9 w9 => r9 = (some (.int res.1)) ∧ w9 = [oX5 ao res.2.1, rI Y (ao 1) 12 res.2.2.1, rI Y (ao 2) 12 res.2.2.2.1, rI Y (ao 3) 12 res.2.2.2.2.1, rI Y (ao 4) 12 res.2.2.2.2.2, oX10 ap1 ip1_length, rC Y (ap1 1) 80 cp1_signs])) (hf : fX5_read_b7 io_cells co_base co_dyke co_newBase co_newDyke ip1_length cp1_signs x2 x3 x4 = some res) : ax X 0 0 7 [some (.ref (ao 0)), some (.ref (ap1 0)), some (.int x2), some (.int x3), some (.int x4), none] [oX5 ao io_cells, rI Y (ao 1) 12 co_base, rI Y (ao 2) 12 co_dyke, rI Y (ao 3) 12 co_newBase, rI Y (ao 4) 12 co_newDyke, oX10 ap1 ip1_length, rC Y (ap1 1) 80 cp1_signs] [] := by
  unfold fX5_read_b7 at hf
  exact fx_loop (P := fun s : (Nat → Int32) × (Nat → Int32) × Int32 × Int32 × Int32 => ax X 0 0 7 [some (.ref (ao 0)), some (.ref (ap1 0)), some (.int s.2.2.1), some (.int s.2.2.2.1), some (.int s.2.2.2.2), none] [oX5 ao io_cells, rI Y (ao 1) 12 co_base, rI Y (ao 2) 12 co_dyke, rI Y (ao 3) 12 s.1, rI Y (ao 4) 12 s.2.1, oX10 ap1 ip1_length, rC Y (ap1 1) 80 cp1_signs] []) (fun s k7 hk7 h => kX5_read_l7 C hQ hk7 h) FUEL (co_newBase, co_newDyke, x2, x3, x4) hf
def fX5_read (io_cells : Int32) (co_base : Nat → Int32) (co_dyke : Nat → Int32) (co_newBase : Nat → Int32) (co_newDyke : Nat → Int32) (ip1_length : Int32) (cp1_signs : Nat → Int32) : Option (Int32 × Int32 × (Nat → Int32) × (Nat → Int32) × (Nat → Int32) × (Nat → Int32)) :=
  fX5_read_b7 io_cells co_base co_dyke co_newBase co_newDyke ip1_length cp1_signs (0 : Int32) (0 : Int32) (0 : Int32)
set_option maxHeartbeats 400000 in
set_option maxRecDepth 100000 in
theorem kX5_read (l : Launch) (D : va_G) (Y : Nat → ClassId) (ao ap1 : Nat → Nat) (io_cells : Int32) (co_base : Nat → Int32) (co_dyke : Nat → Int32) (co_newBase : Nat → Int32) (co_newDyke : Nat → Int32) (ip1_length : Int32) (cp1_signs : Nat → Int32) (res : Int32 × Int32 × (Nat → Int32) × (Nat → Int32) × (Nat → Int32) × (Nat → Int32)) (hf : fX5_read io_cells co_base co_dyke co_newBase co_newDyke ip1_length cp1_signs = some res) : amf l D Y yX5_read wsX5_read rmX5_read [.ref (ao 0), .ref (ap1 0)] [oX5 ao io_cells, rI Y (ao 1) 12 co_base, rI Y (ao 2) 12 co_dyke, rI Y (ao 3) 12 co_newBase, rI Y (ao 4) 12 co_newDyke, oX10 ap1 ip1_length, rC Y (ap1 1) 80 cp1_signs] (some (.int res.1)) [oX5 ao res.2.1, rI Y (ao 1) 12 res.2.2.1, rI Y (ao 2) 12 res.2.2.2.1, rI Y (ao 3) 12 res.2.2.2.2.1, rI Y (ao 4) 12 res.2.2.2.2.2, oX10 ap1 ip1_length, rC Y (ap1 1) 80 cp1_signs] := by
  refine amf.of (cc := cX5_read) (maxL := 6) (rt := (some .int)) (by decide) rfl RX5 rfl (Nat.le_of_ble_eq_true rfl) [some (.ref (ao 0)), some (.ref (ap1 0)), none, none, none, none] rfl ?_
  intro X C hQ
  unfold fX5_read at hf
  refine a_iconst C (0 : Int32) dX5_read_0 (by decide) ?_
  refine a_istore_n C dX5_read_1 (by decide) rfl ?_
  refine a_iconst C (0 : Int32) dX5_read_2 (by decide) ?_
  refine a_istore_n C dX5_read_3 (by decide) rfl ?_
  refine a_iconst C (0 : Int32) dX5_read_4 (by decide) ?_
  refine a_istore C dX5_read_5 (by decide) rfl ?_
  exact kX5_read_b7 C hQ hf
-- X8_clear
abbrev rmX8_clear : Room := { frames := 0, cells := 0, slots := 0, locals := 0 }
theorem dvX8_clear : yX8_clear.cls = RX8 ∧ yX8_clear.cls ≠ "java/lang/invoke/MethodHandle" ∧ yX8_clear.cls ≠ "java/lang/invoke/VarHandle" ∧ (parseMethodDescriptor yX8_clear.desc).map (fun d => d.parameters.length) = some 0 := by decide +kernel
def fX8_clear (io_size : Int32) : Option (Int32) :=
  some (0 : Int32)
set_option maxHeartbeats 400000 in
set_option maxRecDepth 100000 in
theorem kX8_clear (l : Launch) (D : va_G) (Y : Nat → ClassId) (ao : Nat → Nat) (io_size : Int32) (res : Int32) (hf : fX8_clear io_size = some res) : amf l D Y yX8_clear wsX8_clear rmX8_clear [.ref (ao 0)] [oX8 ao io_size] none [oX8 ao res] := by
  refine amf.of (cc := cX8_clear) (maxL := 1) (rt := none) (by decide) rfl RX8 rfl (Nat.le_of_ble_eq_true rfl) [some (.ref (ao 0))] rfl ?_
  intro X C hQ
  unfold fX8_clear at hf
  refine a_aload_n C dX8_clear_0 rfl ?_
  refine a_iconst C (0 : Int32) dX8_clear_1 (by decide) ?_
  refine a_put C (eB_X8_15 _) tfX8_1 dX8_clear_2 0 rfl rfl rfl (Nat.le_of_ble_eq_true rfl) ?_
  obtain rfl := fx_some hf
  exact a_vret C hQ dX8_clear_5 ⟨rfl, rfl⟩
-- X8_add
abbrev rmX8_add : Room := { frames := 0, cells := 0, slots := 0, locals := 0 }
theorem dvX8_add : yX8_add.cls = RX8 ∧ yX8_add.cls ≠ "java/lang/invoke/MethodHandle" ∧ yX8_add.cls ≠ "java/lang/invoke/VarHandle" ∧ (parseMethodDescriptor yX8_add.desc).map (fun d => d.parameters.length) = some 1 := by decide +kernel
def fX8_add_b29 (io_size : Int32) (co_numbers : Nat → Int64) : Option (Int32 × (Nat → Int64)) :=
  some (io_size, co_numbers)
set_option maxHeartbeats 400000 in
set_option maxRecDepth 100000 in
theorem kX8_add_b29 {X : cxT} {l : Launch} {D : va_G} {Y : Nat → ClassId} {ao : Nat → Nat} {io_size : Int32} {co_numbers : Nat → Int64} {res : Int32 × (Nat → Int64)} (C : axC X l D Y cX8_add 3 RX8 wsX8_add rmX8_add none) (hQ : axQ X 0 0 (fun r9 w9 => r9 = none ∧ w9 = [oX8 ao res.1, rJ Y (ao 1) 12 res.2])) (hf : fX8_add_b29 io_size co_numbers = some res) : ax X 0 0 29 [none, none, none] [oX8 ao io_size, rJ Y (ao 1) 12 co_numbers] [] := by
  unfold fX8_add_b29 at hf
  obtain rfl := fx_some hf
  exact a_vret C hQ dX8_add_29 ⟨rfl, rfl⟩
def fX8_add (io_size : Int32) (co_numbers : Nat → Int64) (x1 : Int64) : Option (Int32 × (Nat → Int64)) :=
  if (12 : Int32) ≤ io_size then (fX8_add_b29 io_size co_numbers) else (if inb io_size 12 then fX8_add_b29 (io_size + (1 : Int32)) (vp_updL co_numbers (Int32.toNatClampNeg io_size) x1) else none)
set_option maxHeartbeats 400000 in
set_option maxRecDepth 100000 in
theorem kX8_add (l : Launch) (D : va_G) (Y : Nat → ClassId) (ao : Nat → Nat) (io_size : Int32) (co_numbers : Nat → Int64) (x1 : Int64) (res : Int32 × (Nat → Int64)) (hf : fX8_add io_size co_numbers x1 = some res) : amf l D Y yX8_add wsX8_add rmX8_add [.ref (ao 0), .long x1] [oX8 ao io_size, rJ Y (ao 1) 12 co_numbers] none [oX8 ao res.1, rJ Y (ao 1) 12 res.2] := by
  refine amf.of (cc := cX8_add) (maxL := 3) (rt := none) (by decide) rfl RX8 rfl (Nat.le_of_ble_eq_true rfl) [some (.ref (ao 0)), some (.long x1), none] rfl ?_
  intro X C hQ
  unfold fX8_add at hf
  refine a_aload_n C dX8_add_0 rfl ?_
  refine a_get C (eB_X8_15 _) dX8_add_1 0 rfl rfl ?_
  refine a_bipush C (12 : Int32) dX8_add_4 (by decide) ?_
  refine a_icmp_ge C 29 dX8_add_6 (by decide) (fun h1 => ?_) (fun h1 => ?_)
  · have hf := fx_t h1 hf
    refine a_kill [0, 1] ?_
    exact kX8_add_b29 C hQ hf
  · have hf := fx_f h1 hf
    refine a_aload_n C dX8_add_9 rfl ?_
    refine a_get C (eB_X8_9 _) dX8_add_10 0 rfl rfl ?_
    refine a_aload_n C dX8_add_13 rfl ?_
    refine a_get C (eB_X8_15 _) dX8_add_14 0 rfl rfl ?_
    refine a_lload_n C dX8_add_17 rfl ?_
    obtain ⟨h2, hf⟩ := fx_ite hf
    refine a_last C dX8_add_18 1 rfl h2 ?_
    refine a_aload_n C dX8_add_19 rfl ?_
    refine a_dup C dX8_add_20 rfl ?_
    refine a_get C (eB_X8_15 _) dX8_add_21 0 rfl rfl ?_
    refine a_iconst C (1 : Int32) dX8_add_24 (by decide) ?_
    refine a_iadd C dX8_add_25 ?_
    refine a_put C (eB_X8_15 _) tfX8_1 dX8_add_26 0 rfl rfl rfl (Nat.le_of_ble_eq_true rfl) ?_
    refine a_kill [0, 1] ?_
    exact kX8_add_b29 C hQ hf
-- X8_tell
abbrev rmX8_tell : Room := { frames := 1, cells := 0, slots := 0, locals := 22 }
theorem dvX8_tell : yX8_tell.cls = RX8 ∧ yX8_tell.cls ≠ "java/lang/invoke/MethodHandle" ∧ yX8_tell.cls ≠ "java/lang/invoke/VarHandle" ∧ (parseMethodDescriptor yX8_tell.desc).map (fun d => d.parameters.length) = some 1 := by decide +kernel
def fX8_tell (io_size : Int32) (co_numbers : Nat → Int64) (x1 : Int64) : Option (Int32 × (Nat → Int64)) :=
  (fX8_clear io_size).bind (fun r1 => (fX8_add r1 co_numbers x1).bind (fun r2 => some (r2.1, r2.2)))
set_option maxHeartbeats 400000 in
set_option maxRecDepth 100000 in
theorem kX8_tell (l : Launch) (D : va_G) (Y : Nat → ClassId) (ao : Nat → Nat) (io_size : Int32) (co_numbers : Nat → Int64) (x1 : Int64) (res : Int32 × (Nat → Int64)) (hf : fX8_tell io_size co_numbers x1 = some res) : amf l D Y yX8_tell wsX8_tell rmX8_tell [.ref (ao 0), .long x1] [oX8 ao io_size, rJ Y (ao 1) 12 co_numbers] none [oX8 ao res.1, rJ Y (ao 1) 12 res.2] := by
  refine amf.of (cc := cX8_tell) (maxL := 3) (rt := none) (by decide) rfl RX8 rfl (Nat.le_of_ble_eq_true rfl) [some (.ref (ao 0)), some (.long x1), none] rfl ?_
  intro X C hQ
  unfold fX8_tell at hf
  refine a_aload_n C dX8_tell_0 rfl ?_
  obtain ⟨r1, h1, hf⟩ := fx_bind hf
  refine a_fV C (kX8_clear l D Y ao io_size r1 h1) (gB_X8_19 _) rfl dvX8_clear ⟨⟨rfl, rfl⟩, ⟨Nat.le_of_ble_eq_true rfl, Nat.le_of_ble_eq_true rfl⟩, ⟨Nat.le_of_ble_eq_true rfl, Nat.le_of_ble_eq_true rfl⟩⟩ rfl (Nat.le_of_ble_eq_true rfl) dX8_tell_1 rfl rfl [0] [1] ⟨rfl, trivial⟩ (by decide +kernel) rfl [oX8 ao r1, rJ Y (ao 1) 12 co_numbers] ⟨rfl, trivial⟩ ⟨rfl, trivial⟩ 2 rfl (by decide +kernel) ?_
  refine a_aload_n C dX8_tell_4 rfl ?_
  refine a_lload_n C dX8_tell_5 rfl ?_
  obtain ⟨r2, h2, hf⟩ := fx_bind hf
  refine a_fV C (kX8_add l D Y ao r1 co_numbers x1 r2 h2) (gB_X8_22 _) rfl dvX8_add ⟨⟨rfl, rfl⟩, ⟨Nat.le_of_ble_eq_true rfl, Nat.le_of_ble_eq_true rfl⟩, ⟨Nat.le_of_ble_eq_true rfl, Nat.le_of_ble_eq_true rfl⟩⟩ rfl (Nat.le_of_ble_eq_true rfl) dX8_tell_6 rfl rfl [0, 1] [] ⟨rfl, rfl, trivial⟩ (by decide +kernel) rfl [oX8 ao r2.1, rJ Y (ao 1) 12 r2.2] ⟨rfl, rfl, trivial⟩ trivial 2 rfl (by decide +kernel) ?_
  obtain rfl := fx_some hf
  exact a_vret C hQ dX8_tell_9 ⟨rfl, rfl⟩
-- X8_tell_
abbrev rmX8_tell_ : Room := { frames := 1, cells := 0, slots := 0, locals := 22 }
theorem dvX8_tell_ : yX8_tell_.cls = RX8 ∧ yX8_tell_.cls ≠ "java/lang/invoke/MethodHandle" ∧ yX8_tell_.cls ≠ "java/lang/invoke/VarHandle" ∧ (parseMethodDescriptor yX8_tell_.desc).map (fun d => d.parameters.length) = some 2 := by decide +kernel
def fX8_tell_ (io_size : Int32) (co_numbers : Nat → Int64) (x1 : Int64) (x3 : Int64) : Option (Int32 × (Nat → Int64)) :=
  (fX8_clear io_size).bind (fun r1 => (fX8_add r1 co_numbers x1).bind (fun r2 => (fX8_add r2.1 r2.2 x3).bind (fun r3 => some (r3.1, r3.2))))
set_option maxHeartbeats 400000 in
set_option maxRecDepth 100000 in
theorem kX8_tell_ (l : Launch) (D : va_G) (Y : Nat → ClassId) (ao : Nat → Nat) (io_size : Int32) (co_numbers : Nat → Int64) (x1 : Int64) (x3 : Int64) (res : Int32 × (Nat → Int64)) (hf : fX8_tell_ io_size co_numbers x1 x3 = some res) : amf l D Y yX8_tell_ wsX8_tell_ rmX8_tell_ [.ref (ao 0), .long x1, .long x3] [oX8 ao io_size, rJ Y (ao 1) 12 co_numbers] none [oX8 ao res.1, rJ Y (ao 1) 12 res.2] := by
  refine amf.of (cc := cX8_tell_) (maxL := 5) (rt := none) (by decide) rfl RX8 rfl (Nat.le_of_ble_eq_true rfl) [some (.ref (ao 0)), some (.long x1), none, some (.long x3), none] rfl ?_
  intro X C hQ
  unfold fX8_tell_ at hf
  refine a_aload_n C dX8_tell__0 rfl ?_
  obtain ⟨r1, h1, hf⟩ := fx_bind hf
  refine a_fV C (kX8_clear l D Y ao io_size r1 h1) (gB_X8_19 _) rfl dvX8_clear ⟨⟨rfl, rfl⟩, ⟨Nat.le_of_ble_eq_true rfl, Nat.le_of_ble_eq_true rfl⟩, ⟨Nat.le_of_ble_eq_true rfl, Nat.le_of_ble_eq_true rfl⟩⟩ rfl (Nat.le_of_ble_eq_true rfl) dX8_tell__1 rfl rfl [0] [1] ⟨rfl, trivial⟩ (by decide +kernel) rfl [oX8 ao r1, rJ Y (ao 1) 12 co_numbers] ⟨rfl, trivial⟩ ⟨rfl, trivial⟩ 2 rfl (by decide +kernel) ?_
  refine a_aload_n C dX8_tell__4 rfl ?_
  refine a_lload_n C dX8_tell__5 rfl ?_
  obtain ⟨r2, h2, hf⟩ := fx_bind hf
  refine a_fV C (kX8_add l D Y ao r1 co_numbers x1 r2 h2) (gB_X8_22 _) rfl dvX8_add ⟨⟨rfl, rfl⟩, ⟨Nat.le_of_ble_eq_true rfl, Nat.le_of_ble_eq_true rfl⟩, ⟨Nat.le_of_ble_eq_true rfl, Nat.le_of_ble_eq_true rfl⟩⟩ rfl (Nat.le_of_ble_eq_true rfl) dX8_tell__6 rfl rfl [0, 1] [] ⟨rfl, rfl, trivial⟩ (by decide +kernel) rfl [oX8 ao r2.1, rJ Y (ao 1) 12 r2.2] ⟨rfl, rfl, trivial⟩ trivial 2 rfl (by decide +kernel) ?_
  refine a_aload_n C dX8_tell__9 rfl ?_
  refine a_lload_n C dX8_tell__10 rfl ?_
  obtain ⟨r3, h3, hf⟩ := fx_bind hf
  refine a_fV C (kX8_add l D Y ao r2.1 r2.2 x3 r3 h3) (gB_X8_22 _) rfl dvX8_add ⟨⟨rfl, rfl⟩, ⟨Nat.le_of_ble_eq_true rfl, Nat.le_of_ble_eq_true rfl⟩, ⟨Nat.le_of_ble_eq_true rfl, Nat.le_of_ble_eq_true rfl⟩⟩ rfl (Nat.le_of_ble_eq_true rfl) dX8_tell__11 rfl rfl [0, 1] [] ⟨rfl, rfl, trivial⟩ (by decide +kernel) rfl [oX8 ao r3.1, rJ Y (ao 1) 12 r3.2] ⟨rfl, rfl, trivial⟩ trivial 2 rfl (by decide +kernel) ?_
  obtain rfl := fx_some hf
  exact a_vret C hQ dX8_tell__14 ⟨rfl, rfl⟩
-- X10_add
abbrev rmX10_add : Room := { frames := 0, cells := 0, slots := 0, locals := 0 }
theorem dvX10_add : yX10_add.cls = RX10 ∧ yX10_add.cls ≠ "java/lang/invoke/MethodHandle" ∧ yX10_add.cls ≠ "java/lang/invoke/VarHandle" ∧ (parseMethodDescriptor yX10_add.desc).map (fun d => d.parameters.length) = some 1 := by decide +kernel
def fX10_add_b53 (io_length : Int32) (co_signs : Nat → Int32) : Option (Int32 × Int32 × (Nat → Int32)) :=
  some ((1 : Int32), io_length, co_signs)
set_option maxHeartbeats 400000 in
set_option maxRecDepth 100000 in
theorem kX10_add_b53 {X : cxT} {l : Launch} {D : va_G} {Y : Nat → ClassId} {ao : Nat → Nat} {io_length : Int32} {co_signs : Nat → Int32} {res : Int32 × Int32 × (Nat → Int32)} (C : axC X l D Y cX10_add 3 RX10 wsX10_add rmX10_add (some .boolean)) (hQ : axQ X 0 0 (fun r9 w9 => r9 = (some (.int res.1)) ∧ w9 = [oX10 ao res.2.1, rC Y (ao 1) 80 res.2.2])) (hf : fX10_add_b53 io_length co_signs = some res) : ax X 0 0 53 [none, none, none] [oX10 ao io_length, rC Y (ao 1) 80 co_signs] [] := by
  unfold fX10_add_b53 at hf
  refine a_iconst C (1 : Int32) dX10_add_53 (by decide) ?_
  obtain rfl := fx_some hf
  exact a_zret C hQ (Or.inr rfl) dX10_add_54 ⟨rfl, rfl⟩
def fX10_add_l16 (x1 : Int32) (k16 : Int32 × (Nat → Int32) × Int32 → Option (Int32 × Int32 × (Nat → Int32))) (io_length : Int32) (co_signs : Nat → Int32) (x2 : Int32) : Option (Int32 × Int32 × (Nat → Int32)) :=
  if x2 < (0 : Int32) then (fX10_add_b53 io_length co_signs) else (if inb io_length 80 then k16 ((io_length + (1 : Int32)), (upd co_signs (Int32.toNatClampNeg io_length) (vp_nar .char ((((jshr x1 x2) &&& (255 : Int32)).toUInt32 % 65536).toInt32))), (x2 + (-8 : Int32))) else none)
def fX10_add_b16 (io_length : Int32) (co_signs : Nat → Int32) (x1 : Int32) (x2 : Int32) : Option (Int32 × Int32 × (Nat → Int32)) :=
  loopN (fun (s : Int32 × (Nat → Int32) × Int32) k16 => fX10_add_l16 x1 k16 s.1 s.2.1 s.2.2) FUEL (io_length, co_signs, x2)
set_option maxHeartbeats 400000 in
set_option maxRecDepth 100000 in
theorem kX10_add_l16 {X : cxT} {l : Launch} {D : va_G} {Y : Nat → ClassId} {ao : Nat → Nat} {io_length : Int32} {co_signs : Nat → Int32} {x1 : Int32} {x2 : Int32} {res : Int32 × Int32 × (Nat → Int32)} (C : axC X l D Y cX10_add 3 RX10 wsX10_add rmX10_add (some .boolean)) (hQ : axQ X 0 0 (fun r9 w9 => r9 = (some (.int res.1)) ∧ w9 = [oX10 ao res.2.1, rC Y (ao 1) 80 res.2.2])) {k16 : Int32 × (Nat → Int32) × Int32 → Option (Int32 × Int32 × (Nat → Int32))} (hk16 : ∀ s : Int32 × (Nat → Int32) × Int32, k16 s = some res → ax X 0 0 16 [some (.ref (ao 0)), some (.int x1), some (.int s.2.2)] [oX10 ao s.1, rC Y (ao 1) 80 s.2.1] []) (hf : fX10_add_l16 x1 k16 io_length co_signs x2 = some res) : ax X 0 0 16 [some (.ref (ao 0)), some (.int x1), some (.int x2)] [oX10 ao io_length, rC Y (ao 1) 80 co_signs] [] := by
  unfold fX10_add_l16 at hf
  refine a_iload_n C dX10_add_16 rfl ?_
  refine a_if_lt C 53 dX10_add_17 (by decide) (fun h1 => ?_) (fun h1 => ?_)
  · have hf := fx_t h1 hf
    refine a_kill [0, 1, 2] ?_
    exact kX10_add_b53 C hQ hf
  · have hf := fx_f h1 hf
    refine a_aload_n C dX10_add_20 rfl ?_
    refine a_get C (eB_X10_9 _) dX10_add_21 0 rfl rfl ?_
    refine a_aload_n C dX10_add_24 rfl ?_
    refine a_get C (eB_X10_15 _) dX10_add_25 0 rfl rfl ?_
    refine a_iload_n C dX10_add_28 rfl ?_
    refine a_iload_n C dX10_add_29 rfl ?_
    refine a_ishr C dX10_add_30 ?_
    refine a_sipush C (255 : Int32) dX10_add_31 (by decide) ?_
    refine a_iand C dX10_add_34 ?_
    refine a_i2c C dX10_add_35 ?_
    obtain ⟨h2, hf⟩ := fx_ite hf
    refine a_cast C dX10_add_36 1 rfl h2 ?_
    refine a_aload_n C dX10_add_37 rfl ?_
    refine a_dup C dX10_add_38 rfl ?_
    refine a_get C (eB_X10_15 _) dX10_add_39 0 rfl rfl ?_
    refine a_iconst C (1 : Int32) dX10_add_42 (by decide) ?_
    refine a_iadd C dX10_add_43 ?_
    refine a_put C (eB_X10_15 _) tfX10_1 dX10_add_44 0 rfl rfl rfl (Nat.le_of_ble_eq_true rfl) ?_
    refine a_iinc C (-8 : Int32) dX10_add_47 (by decide) rfl (by decide) rfl ?_
    refine a_goto C 16 dX10_add_50 (by decide) ?_
    exact hk16 ((io_length + (1 : Int32)), (upd co_signs (Int32.toNatClampNeg io_length) (vp_nar .char ((((jshr x1 x2) &&& (255 : Int32)).toUInt32 % 65536).toInt32))), (x2 + (-8 : Int32))) hf
set_option maxHeartbeats 400000 in
set_option maxRecDepth 100000 in
theorem kX10_add_b16 {X : cxT} {l : Launch} {D : va_G} {Y : Nat → ClassId} {ao : Nat → Nat} {io_length : Int32} {co_signs : Nat → Int32} {x1 : Int32} {x2 : Int32} {res : Int32 × Int32 × (Nat → Int32)} (C : axC X l D Y cX10_add 3 RX10 wsX10_add rmX10_add (some .boolean)) (hQ : axQ X 0 0 (fun r9 w9 => r9 = (some (.int res.1)) ∧ w9 = [oX10 ao res.2.1, rC Y (ao 1) 80 res.2.2])) (hf : fX10_add_b16 io_length co_signs x1 x2 = some res) : ax X 0 0 16 [some (.ref (ao 0)), some (.int x1), some (.int x2)] [oX10 ao io_length, rC Y (ao 1) 80 co_signs] [] := by
  unfold fX10_add_b16 at hf
  exact fx_loop (P := fun s : Int32 × (Nat → Int32) × Int32 => ax X 0 0 16 [some (.ref (ao 0)), some (.int x1), some (.int s.2.2)] [oX10 ao s.1, rC Y (ao 1) 80 s.2.1] []) (fun s k16 hk16 h => kX10_add_l16 C hQ hk16 h) FUEL (io_length, co_signs, x2) hf
def fX10_add (io_length : Int32) (co_signs : Nat → Int32) (x1 : Int32) : Option (Int32 × Int32 × (Nat → Int32)) :=
  if (io_length + (4 : Int32)) ≤ (80 : Int32) then (fX10_add_b16 io_length co_signs x1 (24 : Int32)) else (some ((0 : Int32), io_length, co_signs))
set_option maxHeartbeats 400000 in
set_option maxRecDepth 100000 in
theorem kX10_add (l : Launch) (D : va_G) (Y : Nat → ClassId) (ao : Nat → Nat) (io_length : Int32) (co_signs : Nat → Int32) (x1 : Int32) (res : Int32 × Int32 × (Nat → Int32)) (hf : fX10_add io_length co_signs x1 = some res) : amf l D Y yX10_add wsX10_add rmX10_add [.ref (ao 0), .int x1] [oX10 ao io_length, rC Y (ao 1) 80 co_signs] (some (.int res.1)) [oX10 ao res.2.1, rC Y (ao 1) 80 res.2.2] := by
  refine amf.of (cc := cX10_add) (maxL := 3) (rt := (some .boolean)) (by decide) rfl RX10 rfl (Nat.le_of_ble_eq_true rfl) [some (.ref (ao 0)), some (.int x1), none] rfl ?_
  intro X C hQ
  unfold fX10_add at hf
  refine a_aload_n C dX10_add_0 rfl ?_
  refine a_get C (eB_X10_15 _) dX10_add_1 0 rfl rfl ?_
  refine a_iconst C (4 : Int32) dX10_add_4 (by decide) ?_
  refine a_iadd C dX10_add_5 ?_
  refine a_bipush C (80 : Int32) dX10_add_6 (by decide) ?_
  refine a_icmp_le C 13 dX10_add_8 (by decide) (fun h3 => ?_) (fun h3 => ?_)
  · have hf := fx_t h3 hf
    refine a_bipush C (24 : Int32) dX10_add_13 (by decide) ?_
    refine a_istore_n C dX10_add_15 (by decide) rfl ?_
    exact kX10_add_b16 C hQ hf
  · have hf := fx_f h3 hf
    refine a_iconst C (0 : Int32) dX10_add_11 (by decide) ?_
    obtain rfl := fx_some hf
    exact a_zret C hQ (Or.inl rfl) dX10_add_12 ⟨rfl, rfl⟩
-- X10_cut
abbrev rmX10_cut : Room := { frames := 0, cells := 0, slots := 0, locals := 0 }
theorem dvX10_cut : yX10_cut.cls = RX10 ∧ yX10_cut.cls ≠ "java/lang/invoke/MethodHandle" ∧ yX10_cut.cls ≠ "java/lang/invoke/VarHandle" ∧ (parseMethodDescriptor yX10_cut.desc).map (fun d => d.parameters.length) = some 1 := by decide +kernel
def fX10_cut_b12 (io_length : Int32) : Option (Int32 × Int32) :=
  some ((0 : Int32), io_length)
set_option maxHeartbeats 400000 in
set_option maxRecDepth 100000 in
theorem kX10_cut_b12 {X : cxT} {l : Launch} {D : va_G} {Y : Nat → ClassId} {ao : Nat → Nat} {io_length : Int32} {res : Int32 × Int32} (C : axC X l D Y cX10_cut 2 RX10 wsX10_cut rmX10_cut (some .boolean)) (hQ : axQ X 0 0 (fun r9 w9 => r9 = (some (.int res.1)) ∧ w9 = [oX10 ao res.2])) (hf : fX10_cut_b12 io_length = some res) : ax X 0 0 12 [none, none] [oX10 ao io_length] [] := by
  unfold fX10_cut_b12 at hf
  refine a_iconst C (0 : Int32) dX10_cut_12 (by decide) ?_
  obtain rfl := fx_some hf
  exact a_zret C hQ (Or.inl rfl) dX10_cut_13 ⟨rfl, rfl⟩
def fX10_cut (io_length : Int32) (x1 : Int32) : Option (Int32 × Int32) :=
  if x1 < (0 : Int32) then (fX10_cut_b12 io_length) else (if x1 ≤ io_length then (some ((1 : Int32), x1)) else (fX10_cut_b12 io_length))
set_option maxHeartbeats 400000 in
set_option maxRecDepth 100000 in
theorem kX10_cut (l : Launch) (D : va_G) (Y : Nat → ClassId) (ao : Nat → Nat) (io_length : Int32) (x1 : Int32) (res : Int32 × Int32) (hf : fX10_cut io_length x1 = some res) : amf l D Y yX10_cut wsX10_cut rmX10_cut [.ref (ao 0), .int x1] [oX10 ao io_length] (some (.int res.1)) [oX10 ao res.2] := by
  refine amf.of (cc := cX10_cut) (maxL := 2) (rt := (some .boolean)) (by decide) rfl RX10 rfl (Nat.le_of_ble_eq_true rfl) [some (.ref (ao 0)), some (.int x1)] rfl ?_
  intro X C hQ
  unfold fX10_cut at hf
  refine a_iload_n C dX10_cut_0 rfl ?_
  refine a_if_lt C 12 dX10_cut_1 (by decide) (fun h1 => ?_) (fun h1 => ?_)
  · have hf := fx_t h1 hf
    refine a_kill [0, 1] ?_
    exact kX10_cut_b12 C hQ hf
  · have hf := fx_f h1 hf
    refine a_iload_n C dX10_cut_4 rfl ?_
    refine a_aload_n C dX10_cut_5 rfl ?_
    refine a_get C (eB_X10_15 _) dX10_cut_6 0 rfl rfl ?_
    refine a_icmp_le C 14 dX10_cut_9 (by decide) (fun h2 => ?_) (fun h2 => ?_)
    · have hf := fx_t h2 hf
      refine a_aload_n C dX10_cut_14 rfl ?_
      refine a_iload_n C dX10_cut_15 rfl ?_
      refine a_put C (eB_X10_15 _) tfX10_1 dX10_cut_16 0 rfl rfl rfl (Nat.le_of_ble_eq_true rfl) ?_
      refine a_iconst C (1 : Int32) dX10_cut_19 (by decide) ?_
      obtain rfl := fx_some hf
      exact a_zret C hQ (Or.inr rfl) dX10_cut_20 ⟨rfl, rfl⟩
    · have hf := fx_f h2 hf
      refine a_kill [0, 1] ?_
      exact kX10_cut_b12 C hQ hf
-- X10_signAt
abbrev rmX10_signAt : Room := { frames := 0, cells := 0, slots := 0, locals := 0 }
theorem dvX10_signAt : yX10_signAt.cls = RX10 ∧ yX10_signAt.cls ≠ "java/lang/invoke/MethodHandle" ∧ yX10_signAt.cls ≠ "java/lang/invoke/VarHandle" ∧ (parseMethodDescriptor yX10_signAt.desc).map (fun d => d.parameters.length) = some 2 := by decide +kernel
def fX10_signAt_b27 (io_length : Int32) (co_signs : Nat → Int32) (s0 : Int32) : Option (Int32) :=
  some s0
set_option maxHeartbeats 400000 in
set_option maxRecDepth 100000 in
theorem kX10_signAt_b27 {X : cxT} {l : Launch} {D : va_G} {Y : Nat → ClassId} {ao : Nat → Nat} {io_length : Int32} {co_signs : Nat → Int32} {s0 : Int32} {res : Int32} (C : axC X l D Y cX10_signAt 3 RX10 wsX10_signAt rmX10_signAt (some .int)) (hQ : axQ X 0 0 (fun r9 w9 => r9 = (some (.int res)) ∧ w9 = [oX10 ao io_length, rC Y (ao 1) 80 co_signs])) (hf : fX10_signAt_b27 io_length co_signs s0 = some res) : ax X 0 0 27 [none, none, none] [oX10 ao io_length, rC Y (ao 1) 80 co_signs] [.int s0] := by
  unfold fX10_signAt_b27 at hf
  obtain rfl := fx_some hf
  exact a_iret C hQ dX10_signAt_27 ⟨rfl, rfl⟩
def fX10_signAt_b26 (io_length : Int32) (co_signs : Nat → Int32) : Option (Int32) :=
  fX10_signAt_b27 io_length co_signs (-1 : Int32)
set_option maxHeartbeats 400000 in
set_option maxRecDepth 100000 in
theorem kX10_signAt_b26 {X : cxT} {l : Launch} {D : va_G} {Y : Nat → ClassId} {ao : Nat → Nat} {io_length : Int32} {co_signs : Nat → Int32} {res : Int32} (C : axC X l D Y cX10_signAt 3 RX10 wsX10_signAt rmX10_signAt (some .int)) (hQ : axQ X 0 0 (fun r9 w9 => r9 = (some (.int res)) ∧ w9 = [oX10 ao io_length, rC Y (ao 1) 80 co_signs])) (hf : fX10_signAt_b26 io_length co_signs = some res) : ax X 0 0 26 [none, none, none] [oX10 ao io_length, rC Y (ao 1) 80 co_signs] [] := by
  unfold fX10_signAt_b26 at hf
  refine a_iconst C (-1 : Int32) dX10_signAt_26 (by decide) ?_
  exact kX10_signAt_b27 C hQ hf
def fX10_signAt (io_length : Int32) (co_signs : Nat → Int32) (x1 : Int32) (x2 : Int32) : Option (Int32) :=
  if x1 < (0 : Int32) then (fX10_signAt_b26 io_length co_signs) else (if io_length ≤ x1 then (fX10_signAt_b26 io_length co_signs) else (if x2 ≤ x1 then (fX10_signAt_b26 io_length co_signs) else (if inb x1 80 then fX10_signAt_b27 io_length co_signs (co_signs (Int32.toNatClampNeg x1)) else none)))
set_option maxHeartbeats 400000 in
set_option maxRecDepth 100000 in
theorem kX10_signAt (l : Launch) (D : va_G) (Y : Nat → ClassId) (ao : Nat → Nat) (io_length : Int32) (co_signs : Nat → Int32) (x1 : Int32) (x2 : Int32) (res : Int32) (hf : fX10_signAt io_length co_signs x1 x2 = some res) : amf l D Y yX10_signAt wsX10_signAt rmX10_signAt [.ref (ao 0), .int x1, .int x2] [oX10 ao io_length, rC Y (ao 1) 80 co_signs] (some (.int res)) [oX10 ao io_length, rC Y (ao 1) 80 co_signs] := by
  refine amf.of (cc := cX10_signAt) (maxL := 3) (rt := (some .int)) (by decide) rfl RX10 rfl (Nat.le_of_ble_eq_true rfl) [some (.ref (ao 0)), some (.int x1), some (.int x2)] rfl ?_
  intro X C hQ
  unfold fX10_signAt at hf
  refine a_iload_n C dX10_signAt_0 rfl ?_
  refine a_if_lt C 26 dX10_signAt_1 (by decide) (fun h1 => ?_) (fun h1 => ?_)
  · have hf := fx_t h1 hf
    refine a_kill [0, 1, 2] ?_
    exact kX10_signAt_b26 C hQ hf
  · have hf := fx_f h1 hf
    refine a_iload_n C dX10_signAt_4 rfl ?_
    refine a_aload_n C dX10_signAt_5 rfl ?_
    refine a_get C (eB_X10_15 _) dX10_signAt_6 0 rfl rfl ?_
    refine a_icmp_ge C 26 dX10_signAt_9 (by decide) (fun h2 => ?_) (fun h2 => ?_)
    · have hf := fx_t h2 hf
      refine a_kill [0, 1, 2] ?_
      exact kX10_signAt_b26 C hQ hf
    · have hf := fx_f h2 hf
      refine a_iload_n C dX10_signAt_12 rfl ?_
      refine a_iload_n C dX10_signAt_13 rfl ?_
      refine a_icmp_ge C 26 dX10_signAt_14 (by decide) (fun h3 => ?_) (fun h3 => ?_)
      · have hf := fx_t h3 hf
        refine a_kill [0, 1, 2] ?_
        exact kX10_signAt_b26 C hQ hf
      · have hf := fx_f h3 hf
        refine a_aload_n C dX10_signAt_17 rfl ?_
        refine a_get C (eB_X10_9 _) dX10_signAt_18 0 rfl rfl ?_
        refine a_iload_n C dX10_signAt_21 rfl ?_
        obtain ⟨h4, hf⟩ := fx_ite hf
        refine a_cald C dX10_signAt_22 1 rfl h4 ?_
        refine a_goto C 27 dX10_signAt_23 (by decide) ?_
        refine a_kill [0, 1, 2] ?_
        exact kX10_signAt_b27 C hQ hf
-- X2_readLine
abbrev rmX2_readLine : Room := { frames := 1, cells := 0, slots := 0, locals := 22 }
theorem dvX2_readLine : yX2_readLine.cls = RX2 ∧ yX2_readLine.cls ≠ "java/lang/invoke/MethodHandle" ∧ yX2_readLine.cls ≠ "java/lang/invoke/VarHandle" ∧ (parseMethodDescriptor yX2_readLine.desc).map (fun d => d.parameters.length) = some 3 := by decide +kernel
def fX2_readLine_b27 (co_age : Nat → Int32) (co_skill : Nat → Int32) (co_friend : Nat → Int32) (ip1_length : Int32) (cp1_signs : Nat → Int32) (x4 : Int32) : Option (Int32 × (Nat → Int32) × (Nat → Int32) × (Nat → Int32)) :=
  some (((-1 : Int32) - x4), co_age, co_skill, co_friend)
set_option maxHeartbeats 400000 in
set_option maxRecDepth 100000 in
theorem kX2_readLine_b27 {X : cxT} {l : Launch} {D : va_G} {Y : Nat → ClassId} {ao ap1 : Nat → Nat} {io_size : Int32} {co_age : Nat → Int32} {co_skill : Nat → Int32} {co_friend : Nat → Int32} {ip1_length : Int32} {cp1_signs : Nat → Int32} {x4 : Int32} {res : Int32 × (Nat → Int32) × (Nat → Int32) × (Nat → Int32)} (C : axC X l D Y cX2_readLine 7 RX2 wsX2_readLine rmX2_readLine (some .int)) (hQ : axQ X 0 0 (fun r9 w9 => r9 = (some (.int res.1)) ∧ w9 = [oX2 ao io_size, rI Y (ao 1) 8 res.2.1, rI Y (ao 2) 8 res.2.2.1, rI Y (ao 3) 8 res.2.2.2, oX10 ap1 ip1_length, rC Y (ap1 1) 80 cp1_signs])) (hf : fX2_readLine_b27 co_age co_skill co_friend ip1_length cp1_signs x4 = some res) : ax X 0 0 27 [none, none, none, none, some (.int x4), none, none] [oX2 ao io_size, rI Y (ao 1) 8 co_age, rI Y (ao 2) 8 co_skill, rI Y (ao 3) 8 co_friend, oX10 ap1 ip1_length, rC Y (ap1 1) 80 cp1_signs] [] := by
  unfold fX2_readLine_b27 at hf
  refine a_iconst C (-1 : Int32) dX2_readLine_27 (by decide) ?_
  refine a_iload C dX2_readLine_28 rfl ?_
  refine a_isub C dX2_readLine_30 ?_
  obtain rfl := fx_some hf
  exact a_iret C hQ dX2_readLine_31 ⟨rfl, rfl⟩
def fX2_readLine_b219 (co_age : Nat → Int32) (co_skill : Nat → Int32) (co_friend : Nat → Int32) (ip1_length : Int32) (cp1_signs : Nat → Int32) (x4 : Int32) (s1 : Int32) (s2 : Int32) : Option (Int32 × (Nat → Int32) × (Nat → Int32) × (Nat → Int32)) :=
  if inb s1 8 then some ((x4 + (1 : Int32)), co_age, co_skill, (upd co_friend (Int32.toNatClampNeg s1) s2)) else none
set_option maxHeartbeats 400000 in
set_option maxRecDepth 100000 in
theorem kX2_readLine_b219 {X : cxT} {l : Launch} {D : va_G} {Y : Nat → ClassId} {ao ap1 : Nat → Nat} {io_size : Int32} {co_age : Nat → Int32} {co_skill : Nat → Int32} {co_friend : Nat → Int32} {ip1_length : Int32} {cp1_signs : Nat → Int32} {x4 : Int32} {s1 : Int32} {s2 : Int32} {res : Int32 × (Nat → Int32) × (Nat → Int32) × (Nat → Int32)} (C : axC X l D Y cX2_readLine 7 RX2 wsX2_readLine rmX2_readLine (some .int)) (hQ : axQ X 0 0 (fun r9 w9 => r9 = (some (.int res.1)) ∧ w9 = [oX2 ao io_size, rI Y (ao 1) 8 res.2.1, rI Y (ao 2) 8 res.2.2.1, rI Y (ao 3) 8 res.2.2.2, oX10 ap1 ip1_length, rC Y (ap1 1) 80 cp1_signs])) (hf : fX2_readLine_b219 co_age co_skill co_friend ip1_length cp1_signs x4 s1 s2 = some res) : ax X 0 0 219 [none, none, none, none, some (.int x4), none, none] [oX2 ao io_size, rI Y (ao 1) 8 co_age, rI Y (ao 2) 8 co_skill, rI Y (ao 3) 8 co_friend, oX10 ap1 ip1_length, rC Y (ap1 1) 80 cp1_signs] [.int s2, .int s1, .ref (ao 3)] := by
  unfold fX2_readLine_b219 at hf
  obtain ⟨h1, hf⟩ := fx_ite hf
  refine a_iast C dX2_readLine_219 3 rfl h1 ?_
  refine a_iload C dX2_readLine_220 rfl ?_
  refine a_iconst C (1 : Int32) dX2_readLine_222 (by decide) ?_
  refine a_iadd C dX2_readLine_223 ?_
  obtain rfl := fx_some hf
  exact a_iret C hQ dX2_readLine_224 ⟨rfl, rfl⟩
def fX2_readLine_b198 (co_age : Nat → Int32) (co_skill : Nat → Int32) (co_friend : Nat → Int32) (ip1_length : Int32) (cp1_signs : Nat → Int32) (x3 : Int32) (x4 : Int32) (x5 : Int32) : Option (Int32 × (Nat → Int32) × (Nat → Int32) × (Nat → Int32)) :=
  if x5 = (45 : Int32) then (fX2_readLine_b219 co_age co_skill co_friend ip1_length cp1_signs x4 x3 (-1 : Int32)) else (fX2_readLine_b219 co_age co_skill co_friend ip1_length cp1_signs x4 x3 (x5 - (97 : Int32)))
set_option maxHeartbeats 400000 in
set_option maxRecDepth 100000 in
theorem kX2_readLine_b198 {X : cxT} {l : Launch} {D : va_G} {Y : Nat → ClassId} {ao ap1 : Nat → Nat} {io_size : Int32} {co_age : Nat → Int32} {co_skill : Nat → Int32} {co_friend : Nat → Int32} {ip1_length : Int32} {cp1_signs : Nat → Int32} {x3 : Int32} {x4 : Int32} {x5 : Int32} {res : Int32 × (Nat → Int32) × (Nat → Int32) × (Nat → Int32)} (C : axC X l D Y cX2_readLine 7 RX2 wsX2_readLine rmX2_readLine (some .int)) (hQ : axQ X 0 0 (fun r9 w9 => r9 = (some (.int res.1)) ∧ w9 = [oX2 ao io_size, rI Y (ao 1) 8 res.2.1, rI Y (ao 2) 8 res.2.2.1, rI Y (ao 3) 8 res.2.2.2, oX10 ap1 ip1_length, rC Y (ap1 1) 80 cp1_signs])) (hf : fX2_readLine_b198 co_age co_skill co_friend ip1_length cp1_signs x3 x4 x5 = some res) : ax X 0 0 198 [some (.ref (ao 0)), none, none, some (.int x3), some (.int x4), some (.int x5), none] [oX2 ao io_size, rI Y (ao 1) 8 co_age, rI Y (ao 2) 8 co_skill, rI Y (ao 3) 8 co_friend, oX10 ap1 ip1_length, rC Y (ap1 1) 80 cp1_signs] [] := by
  unfold fX2_readLine_b198 at hf
  refine a_aload_n C dX2_readLine_198 rfl ?_
  refine a_get C (eB_X2_18 _) dX2_readLine_199 0 rfl rfl ?_
  refine a_iload_n C dX2_readLine_202 rfl ?_
  refine a_iload C dX2_readLine_203 rfl ?_
  refine a_bipush C (45 : Int32) dX2_readLine_205 (by decide) ?_
  refine a_icmp_ne C 214 dX2_readLine_207 (by decide) (fun h2 => ?_) (fun h2 => ?_)
  · have hf := fx_f h2 hf
    refine a_iload C dX2_readLine_214 rfl ?_
    refine a_bipush C (97 : Int32) dX2_readLine_216 (by decide) ?_
    refine a_isub C dX2_readLine_218 ?_
    refine a_kill [0, 3, 5] ?_
    exact kX2_readLine_b219 C hQ hf
  · have hf := fx_t h2 hf
    refine a_iconst C (-1 : Int32) dX2_readLine_210 (by decide) ?_
    refine a_goto C 219 dX2_readLine_211 (by decide) ?_
    refine a_kill [0, 3, 5] ?_
    exact kX2_readLine_b219 C hQ hf
def fX2_readLine_b76 (co_age : Nat → Int32) (co_skill : Nat → Int32) (co_friend : Nat → Int32) (ip1_length : Int32) (cp1_signs : Nat → Int32) (x3 : Int32) (x4 : Int32) (x6 : Int32) : Option (Int32 × (Nat → Int32) × (Nat → Int32) × (Nat → Int32)) :=
  (fX11_within x6 (4 : Int32) (13 : Int32)).bind (fun r3 => if r3 = (0 : Int32) then (some ((-x4), co_age, co_skill, co_friend)) else ((fX10_signAt ip1_length cp1_signs x4 (47 : Int32)).bind (fun r5 => if r5 = (44 : Int32) then ((fX10_signAt ip1_length cp1_signs (x4 + (1 : Int32)) (47 : Int32)).bind (fun r7 => (fX11_within r7 (49 : Int32) (57 : Int32)).bind (fun r8 => if r8 = (0 : Int32) then (some (((-1 : Int32) - (x4 + (1 : Int32))), co_age, co_skill, co_friend)) else (if inb x3 8 then (fX10_signAt ip1_length cp1_signs ((x4 + (1 : Int32)) + (1 : Int32)) (47 : Int32)).bind (fun r11 => if r11 = (45 : Int32) then (fX2_readLine_b198 (upd co_age (Int32.toNatClampNeg x3) x6) (upd co_skill (Int32.toNatClampNeg x3) (r7 - (48 : Int32))) co_friend ip1_length cp1_signs x3 ((x4 + (1 : Int32)) + (1 : Int32)) r11) else ((fX11_within (r11 - (97 : Int32)) (0 : Int32) (x3 - (1 : Int32))).bind (fun r13 => if r13 = (0 : Int32) then (some (((-1 : Int32) - ((x4 + (1 : Int32)) + (1 : Int32))), (upd co_age (Int32.toNatClampNeg x3) x6), (upd co_skill (Int32.toNatClampNeg x3) (r7 - (48 : Int32))), co_friend)) else (fX2_readLine_b198 (upd co_age (Int32.toNatClampNeg x3) x6) (upd co_skill (Int32.toNatClampNeg x3) (r7 - (48 : Int32))) co_friend ip1_length cp1_signs x3 ((x4 + (1 : Int32)) + (1 : Int32)) r11)))) else none)))) else (some (((-1 : Int32) - x4), co_age, co_skill, co_friend)))))
set_option maxHeartbeats 400000 in
set_option maxRecDepth 100000 in
theorem kX2_readLine_b76 {X : cxT} {l : Launch} {D : va_G} {Y : Nat → ClassId} {ao ap1 : Nat → Nat} {io_size : Int32} {co_age : Nat → Int32} {co_skill : Nat → Int32} {co_friend : Nat → Int32} {ip1_length : Int32} {cp1_signs : Nat → Int32} {x3 : Int32} {x4 : Int32} {x6 : Int32} {res : Int32 × (Nat → Int32) × (Nat → Int32) × (Nat → Int32)} (C : axC X l D Y cX2_readLine 7 RX2 wsX2_readLine rmX2_readLine (some .int)) (hQ : axQ X 0 0 (fun r9 w9 => r9 = (some (.int res.1)) ∧ w9 = [oX2 ao io_size, rI Y (ao 1) 8 res.2.1, rI Y (ao 2) 8 res.2.2.1, rI Y (ao 3) 8 res.2.2.2, oX10 ap1 ip1_length, rC Y (ap1 1) 80 cp1_signs])) (hf : fX2_readLine_b76 co_age co_skill co_friend ip1_length cp1_signs x3 x4 x6 = some res) : ax X 0 0 76 [some (.ref (ao 0)), some (.ref (ap1 0)), none, some (.int x3), some (.int x4), none, some (.int x6)] [oX2 ao io_size, rI Y (ao 1) 8 co_age, rI Y (ao 2) 8 co_skill, rI Y (ao 3) 8 co_friend, oX10 ap1 ip1_length, rC Y (ap1 1) 80 cp1_signs] [] := by
  unfold fX2_readLine_b76 at hf
  refine a_iload C dX2_readLine_76 rfl ?_
  refine a_iconst C (4 : Int32) dX2_readLine_78 (by decide) ?_
  refine a_bipush C (13 : Int32) dX2_readLine_79 (by decide) ?_
  obtain ⟨r3, h3, hf⟩ := fx_bind hf
  refine a_fN C RX11 (kX11_within l D Y x6 (4 : Int32) (13 : Int32) r3 h3) (gB_X2_49 _) rfl (by decide +kernel) (wB_X2_iX11 _) (wB_X2_sX11_within _) dvX11_within ⟨⟨rfl, rfl⟩, ⟨Nat.le_of_ble_eq_true rfl, Nat.le_of_ble_eq_true rfl⟩, ⟨Nat.le_of_ble_eq_true rfl, Nat.le_of_ble_eq_true rfl⟩⟩ rfl (Nat.le_of_ble_eq_true rfl) dX2_readLine_81 [] [0, 1, 2, 3, 4, 5] trivial (by decide +kernel) rfl [oX2 ao io_size, rI Y (ao 1) 8 co_age, rI Y (ao 2) 8 co_skill, rI Y (ao 3) 8 co_friend, oX10 ap1 ip1_length, rC Y (ap1 1) 80 cp1_signs] trivial ⟨rfl, rfl, rfl, rfl, rfl, rfl, trivial⟩ 6 rfl (by decide +kernel) ?_
  refine a_if_ne C 91 dX2_readLine_84 (by decide) (fun h4 => ?_) (fun h4 => ?_)
  · have hf := fx_f h4 hf
    refine a_aload_n C dX2_readLine_91 rfl ?_
    refine a_iload C dX2_readLine_92 rfl ?_
    refine a_bipush C (47 : Int32) dX2_readLine_94 (by decide) ?_
    obtain ⟨r5, h5, hf⟩ := fx_bind hf
    refine a_fV C (kX10_signAt l D Y ap1 ip1_length cp1_signs x4 (47 : Int32) r5 h5) (gB_X2_37 _) rfl dvX10_signAt ⟨⟨rfl, rfl⟩, ⟨Nat.le_of_ble_eq_true rfl, Nat.le_of_ble_eq_true rfl⟩, ⟨Nat.le_of_ble_eq_true rfl, Nat.le_of_ble_eq_true rfl⟩⟩ rfl (Nat.le_of_ble_eq_true rfl) dX2_readLine_96 rfl rfl [4, 5] [0, 1, 2, 3] ⟨rfl, rfl, trivial⟩ (by decide +kernel) rfl [oX2 ao io_size, rI Y (ao 1) 8 co_age, rI Y (ao 2) 8 co_skill, rI Y (ao 3) 8 co_friend, oX10 ap1 ip1_length, rC Y (ap1 1) 80 cp1_signs] ⟨rfl, rfl, trivial⟩ ⟨rfl, rfl, rfl, rfl, trivial⟩ 6 rfl (by decide +kernel) ?_
    refine a_bipush C (44 : Int32) dX2_readLine_99 (by decide) ?_
    refine a_icmp_eq C 109 dX2_readLine_101 (by decide) (fun h6 => ?_) (fun h6 => ?_)
    · have hf := fx_t h6 hf
      refine a_iinc C (1 : Int32) dX2_readLine_109 (by decide) rfl (by decide) rfl ?_
      refine a_aload_n C dX2_readLine_112 rfl ?_
      refine a_iload C dX2_readLine_113 rfl ?_
      refine a_bipush C (47 : Int32) dX2_readLine_115 (by decide) ?_
      obtain ⟨r7, h7, hf⟩ := fx_bind hf
      refine a_fV C (kX10_signAt l D Y ap1 ip1_length cp1_signs (x4 + (1 : Int32)) (47 : Int32) r7 h7) (gB_X2_37 _) rfl dvX10_signAt ⟨⟨rfl, rfl⟩, ⟨Nat.le_of_ble_eq_true rfl, Nat.le_of_ble_eq_true rfl⟩, ⟨Nat.le_of_ble_eq_true rfl, Nat.le_of_ble_eq_true rfl⟩⟩ rfl (Nat.le_of_ble_eq_true rfl) dX2_readLine_117 rfl rfl [4, 5] [0, 1, 2, 3] ⟨rfl, rfl, trivial⟩ (by decide +kernel) rfl [oX2 ao io_size, rI Y (ao 1) 8 co_age, rI Y (ao 2) 8 co_skill, rI Y (ao 3) 8 co_friend, oX10 ap1 ip1_length, rC Y (ap1 1) 80 cp1_signs] ⟨rfl, rfl, trivial⟩ ⟨rfl, rfl, rfl, rfl, trivial⟩ 6 rfl (by decide +kernel) ?_
      refine a_istore C dX2_readLine_120 (by decide) rfl ?_
      refine a_iload C dX2_readLine_122 rfl ?_
      refine a_bipush C (49 : Int32) dX2_readLine_124 (by decide) ?_
      refine a_bipush C (57 : Int32) dX2_readLine_126 (by decide) ?_
      obtain ⟨r8, h8, hf⟩ := fx_bind hf
      refine a_fN C RX11 (kX11_within l D Y r7 (49 : Int32) (57 : Int32) r8 h8) (gB_X2_49 _) rfl (by decide +kernel) (wB_X2_iX11 _) (wB_X2_sX11_within _) dvX11_within ⟨⟨rfl, rfl⟩, ⟨Nat.le_of_ble_eq_true rfl, Nat.le_of_ble_eq_true rfl⟩, ⟨Nat.le_of_ble_eq_true rfl, Nat.le_of_ble_eq_true rfl⟩⟩ rfl (Nat.le_of_ble_eq_true rfl) dX2_readLine_128 [] [0, 1, 2, 3, 4, 5] trivial (by decide +kernel) rfl [oX2 ao io_size, rI Y (ao 1) 8 co_age, rI Y (ao 2) 8 co_skill, rI Y (ao 3) 8 co_friend, oX10 ap1 ip1_length, rC Y (ap1 1) 80 cp1_signs] trivial ⟨rfl, rfl, rfl, rfl, rfl, rfl, trivial⟩ 6 rfl (by decide +kernel) ?_
      refine a_if_ne C 139 dX2_readLine_131 (by decide) (fun h9 => ?_) (fun h9 => ?_)
      · have hf := fx_f h9 hf
        refine a_aload_n C dX2_readLine_139 rfl ?_
        refine a_get C (eB_X2_9 _) dX2_readLine_140 0 rfl rfl ?_
        refine a_iload_n C dX2_readLine_143 rfl ?_
        refine a_iload C dX2_readLine_144 rfl ?_
        obtain ⟨h10, hf⟩ := fx_ite hf
        refine a_iast C dX2_readLine_146 1 rfl h10 ?_
        refine a_aload_n C dX2_readLine_147 rfl ?_
        refine a_get C (eB_X2_15 _) dX2_readLine_148 0 rfl rfl ?_
        refine a_iload_n C dX2_readLine_151 rfl ?_
        refine a_iload C dX2_readLine_152 rfl ?_
        refine a_bipush C (48 : Int32) dX2_readLine_154 (by decide) ?_
        refine a_isub C dX2_readLine_156 ?_
        refine a_iast C dX2_readLine_157 2 rfl h10 ?_
        refine a_iinc C (1 : Int32) dX2_readLine_158 (by decide) rfl (by decide) rfl ?_
        refine a_aload_n C dX2_readLine_161 rfl ?_
        refine a_iload C dX2_readLine_162 rfl ?_
        refine a_bipush C (47 : Int32) dX2_readLine_164 (by decide) ?_
        obtain ⟨r11, h11, hf⟩ := fx_bind hf
        refine a_fV C (kX10_signAt l D Y ap1 ip1_length cp1_signs ((x4 + (1 : Int32)) + (1 : Int32)) (47 : Int32) r11 h11) (gB_X2_37 _) rfl dvX10_signAt ⟨⟨rfl, rfl⟩, ⟨Nat.le_of_ble_eq_true rfl, Nat.le_of_ble_eq_true rfl⟩, ⟨Nat.le_of_ble_eq_true rfl, Nat.le_of_ble_eq_true rfl⟩⟩ rfl (Nat.le_of_ble_eq_true rfl) dX2_readLine_166 rfl rfl [4, 5] [0, 1, 2, 3] ⟨rfl, rfl, trivial⟩ (by decide +kernel) rfl [oX2 ao io_size, rI Y (ao 1) 8 (upd co_age (Int32.toNatClampNeg x3) x6), rI Y (ao 2) 8 (upd co_skill (Int32.toNatClampNeg x3) (r7 - (48 : Int32))), rI Y (ao 3) 8 co_friend, oX10 ap1 ip1_length, rC Y (ap1 1) 80 cp1_signs] ⟨rfl, rfl, trivial⟩ ⟨rfl, rfl, rfl, rfl, trivial⟩ 6 rfl (by decide +kernel) ?_
        refine a_istore C dX2_readLine_169 (by decide) rfl ?_
        refine a_iload C dX2_readLine_171 rfl ?_
        refine a_bipush C (45 : Int32) dX2_readLine_173 (by decide) ?_
        refine a_icmp_eq C 198 dX2_readLine_175 (by decide) (fun h12 => ?_) (fun h12 => ?_)
        · have hf := fx_t h12 hf
          refine a_kill [1, 6] ?_
          exact kX2_readLine_b198 C hQ hf
        · have hf := fx_f h12 hf
          refine a_iload C dX2_readLine_178 rfl ?_
          refine a_bipush C (97 : Int32) dX2_readLine_180 (by decide) ?_
          refine a_isub C dX2_readLine_182 ?_
          refine a_iconst C (0 : Int32) dX2_readLine_183 (by decide) ?_
          refine a_iload_n C dX2_readLine_184 rfl ?_
          refine a_iconst C (1 : Int32) dX2_readLine_185 (by decide) ?_
          refine a_isub C dX2_readLine_186 ?_
          obtain ⟨r13, h13, hf⟩ := fx_bind hf
          refine a_fN C RX11 (kX11_within l D Y (r11 - (97 : Int32)) (0 : Int32) (x3 - (1 : Int32)) r13 h13) (gB_X2_49 _) rfl (by decide +kernel) (wB_X2_iX11 _) (wB_X2_sX11_within _) dvX11_within ⟨⟨rfl, rfl⟩, ⟨Nat.le_of_ble_eq_true rfl, Nat.le_of_ble_eq_true rfl⟩, ⟨Nat.le_of_ble_eq_true rfl, Nat.le_of_ble_eq_true rfl⟩⟩ rfl (Nat.le_of_ble_eq_true rfl) dX2_readLine_187 [] [0, 1, 2, 3, 4, 5] trivial (by decide +kernel) rfl [oX2 ao io_size, rI Y (ao 1) 8 (upd co_age (Int32.toNatClampNeg x3) x6), rI Y (ao 2) 8 (upd co_skill (Int32.toNatClampNeg x3) (r7 - (48 : Int32))), rI Y (ao 3) 8 co_friend, oX10 ap1 ip1_length, rC Y (ap1 1) 80 cp1_signs] trivial ⟨rfl, rfl, rfl, rfl, rfl, rfl, trivial⟩ 6 rfl (by decide +kernel) ?_
          refine a_if_ne C 198 dX2_readLine_190 (by decide) (fun h14 => ?_) (fun h14 => ?_)
          · have hf := fx_f h14 hf
            refine a_kill [1, 6] ?_
            exact kX2_readLine_b198 C hQ hf
          · have hf := fx_t h14 hf
            refine a_iconst C (-1 : Int32) dX2_readLine_193 (by decide) ?_
            refine a_iload C dX2_readLine_194 rfl ?_
            refine a_isub C dX2_readLine_196 ?_
            obtain rfl := fx_some hf
            exact a_iret C hQ dX2_readLine_197 ⟨rfl, rfl⟩
      · have hf := fx_t h9 hf
        refine a_iconst C (-1 : Int32) dX2_readLine_134 (by decide) ?_
        refine a_iload C dX2_readLine_135 rfl ?_
        refine a_isub C dX2_readLine_137 ?_
        obtain rfl := fx_some hf
        exact a_iret C hQ dX2_readLine_138 ⟨rfl, rfl⟩
    · have hf := fx_f h6 hf
      refine a_iconst C (-1 : Int32) dX2_readLine_104 (by decide) ?_
      refine a_iload C dX2_readLine_105 rfl ?_
      refine a_isub C dX2_readLine_107 ?_
      obtain rfl := fx_some hf
      exact a_iret C hQ dX2_readLine_108 ⟨rfl, rfl⟩
  · have hf := fx_t h4 hf
    refine a_iload C dX2_readLine_87 rfl ?_
    refine a_ineg C dX2_readLine_89 ?_
    obtain rfl := fx_some hf
    exact a_iret C hQ dX2_readLine_90 ⟨rfl, rfl⟩
def fX2_readLine (co_age : Nat → Int32) (co_skill : Nat → Int32) (co_friend : Nat → Int32) (ip1_length : Int32) (cp1_signs : Nat → Int32) (x2 : Int32) (x3 : Int32) : Option (Int32 × (Nat → Int32) × (Nat → Int32) × (Nat → Int32)) :=
  (fX10_signAt ip1_length cp1_signs x2 (47 : Int32)).bind (fun r15 => (fX11_isDigit r15).bind (fun r16 => if r16 = (0 : Int32) then (fX2_readLine_b27 co_age co_skill co_friend ip1_length cp1_signs x2) else (if x3 < (8 : Int32) then ((fX10_signAt ip1_length cp1_signs (x2 + (1 : Int32)) (47 : Int32)).bind (fun r19 => (fX11_isDigit r19).bind (fun r20 => if r20 = (0 : Int32) then (fX2_readLine_b76 co_age co_skill co_friend ip1_length cp1_signs x3 (x2 + (1 : Int32)) (r15 - (48 : Int32))) else (fX2_readLine_b76 co_age co_skill co_friend ip1_length cp1_signs x3 ((x2 + (1 : Int32)) + (1 : Int32)) ((((10 : Int32) * (r15 - (48 : Int32))) + r19) - (48 : Int32)))))) else (fX2_readLine_b27 co_age co_skill co_friend ip1_length cp1_signs x2))))
set_option maxHeartbeats 400000 in
set_option maxRecDepth 100000 in
theorem kX2_readLine (l : Launch) (D : va_G) (Y : Nat → ClassId) (ao ap1 : Nat → Nat) (io_size : Int32) (co_age : Nat → Int32) (co_skill : Nat → Int32) (co_friend : Nat → Int32) (ip1_length : Int32) (cp1_signs : Nat → Int32) (x2 : Int32) (x3 : Int32) (res : Int32 × (Nat → Int32) × (Nat → Int32) × (Nat → Int32)) (hf : fX2_readLine co_age co_skill co_friend ip1_length cp1_signs x2 x3 = some res) : amf l D Y yX2_readLine wsX2_readLine rmX2_readLine [.ref (ao 0), .ref (ap1 0), .int x2, .int x3] [oX2 ao io_size, rI Y (ao 1) 8 co_age, rI Y (ao 2) 8 co_skill, rI Y (ao 3) 8 co_friend, oX10 ap1 ip1_length, rC Y (ap1 1) 80 cp1_signs] (some (.int res.1)) [oX2 ao io_size, rI Y (ao 1) 8 res.2.1, rI Y (ao 2) 8 res.2.2.1, rI Y (ao 3) 8 res.2.2.2, oX10 ap1 ip1_length, rC Y (ap1 1) 80 cp1_signs] := by
  refine amf.of (cc := cX2_readLine) (maxL := 7) (rt := (some .int)) (by decide) rfl RX2 rfl (Nat.le_of_ble_eq_true rfl) [some (.ref (ao 0)), some (.ref (ap1 0)), some (.int x2), some (.int x3), none, none, none] rfl ?_
  intro X C hQ
  unfold fX2_readLine at hf
  refine a_iload_n C dX2_readLine_0 rfl ?_
  refine a_istore C dX2_readLine_1 (by decide) rfl ?_
  refine a_aload_n C dX2_readLine_3 rfl ?_
  refine a_iload C dX2_readLine_4 rfl ?_
  refine a_bipush C (47 : Int32) dX2_readLine_6 (by decide) ?_
  obtain ⟨r15, h15, hf⟩ := fx_bind hf
  refine a_fV C (kX10_signAt l D Y ap1 ip1_length cp1_signs x2 (47 : Int32) r15 h15) (gB_X2_37 _) rfl dvX10_signAt ⟨⟨rfl, rfl⟩, ⟨Nat.le_of_ble_eq_true rfl, Nat.le_of_ble_eq_true rfl⟩, ⟨Nat.le_of_ble_eq_true rfl, Nat.le_of_ble_eq_true rfl⟩⟩ rfl (Nat.le_of_ble_eq_true rfl) dX2_readLine_8 rfl rfl [4, 5] [0, 1, 2, 3] ⟨rfl, rfl, trivial⟩ (by decide +kernel) rfl [oX2 ao io_size, rI Y (ao 1) 8 co_age, rI Y (ao 2) 8 co_skill, rI Y (ao 3) 8 co_friend, oX10 ap1 ip1_length, rC Y (ap1 1) 80 cp1_signs] ⟨rfl, rfl, trivial⟩ ⟨rfl, rfl, rfl, rfl, trivial⟩ 6 rfl (by decide +kernel) ?_
  refine a_istore C dX2_readLine_11 (by decide) rfl ?_
  refine a_iload C dX2_readLine_13 rfl ?_
  obtain ⟨r16, h16, hf⟩ := fx_bind hf
  refine a_fN C RX11 (kX11_isDigit l D Y r15 r16 h16) (gB_X2_45 _) rfl (by decide +kernel) (wB_X2_iX11 _) (wB_X2_sX11_isDigit _) dvX11_isDigit ⟨⟨rfl, rfl⟩, ⟨Nat.le_of_ble_eq_true rfl, Nat.le_of_ble_eq_true rfl⟩, ⟨Nat.le_of_ble_eq_true rfl, Nat.le_of_ble_eq_true rfl⟩⟩ rfl (Nat.le_of_ble_eq_true rfl) dX2_readLine_15 [] [0, 1, 2, 3, 4, 5] trivial (by decide +kernel) rfl [oX2 ao io_size, rI Y (ao 1) 8 co_age, rI Y (ao 2) 8 co_skill, rI Y (ao 3) 8 co_friend, oX10 ap1 ip1_length, rC Y (ap1 1) 80 cp1_signs] trivial ⟨rfl, rfl, rfl, rfl, rfl, rfl, trivial⟩ 6 rfl (by decide +kernel) ?_
  refine a_if_eq C 27 dX2_readLine_18 (by decide) (fun h17 => ?_) (fun h17 => ?_)
  · have hf := fx_t h17 hf
    refine a_kill [0, 1, 2, 3, 5] ?_
    exact kX2_readLine_b27 C hQ hf
  · have hf := fx_f h17 hf
    refine a_iload_n C dX2_readLine_21 rfl ?_
    refine a_bipush C (8 : Int32) dX2_readLine_22 (by decide) ?_
    refine a_icmp_lt C 32 dX2_readLine_24 (by decide) (fun h18 => ?_) (fun h18 => ?_)
    · have hf := fx_t h18 hf
      refine a_iload C dX2_readLine_32 rfl ?_
      refine a_bipush C (48 : Int32) dX2_readLine_34 (by decide) ?_
      refine a_isub C dX2_readLine_36 ?_
      refine a_istore C dX2_readLine_37 (by decide) rfl ?_
      refine a_iinc C (1 : Int32) dX2_readLine_39 (by decide) rfl (by decide) rfl ?_
      refine a_aload_n C dX2_readLine_42 rfl ?_
      refine a_iload C dX2_readLine_43 rfl ?_
      refine a_bipush C (47 : Int32) dX2_readLine_45 (by decide) ?_
      obtain ⟨r19, h19, hf⟩ := fx_bind hf
      refine a_fV C (kX10_signAt l D Y ap1 ip1_length cp1_signs (x2 + (1 : Int32)) (47 : Int32) r19 h19) (gB_X2_37 _) rfl dvX10_signAt ⟨⟨rfl, rfl⟩, ⟨Nat.le_of_ble_eq_true rfl, Nat.le_of_ble_eq_true rfl⟩, ⟨Nat.le_of_ble_eq_true rfl, Nat.le_of_ble_eq_true rfl⟩⟩ rfl (Nat.le_of_ble_eq_true rfl) dX2_readLine_47 rfl rfl [4, 5] [0, 1, 2, 3] ⟨rfl, rfl, trivial⟩ (by decide +kernel) rfl [oX2 ao io_size, rI Y (ao 1) 8 co_age, rI Y (ao 2) 8 co_skill, rI Y (ao 3) 8 co_friend, oX10 ap1 ip1_length, rC Y (ap1 1) 80 cp1_signs] ⟨rfl, rfl, trivial⟩ ⟨rfl, rfl, rfl, rfl, trivial⟩ 6 rfl (by decide +kernel) ?_
      refine a_istore C dX2_readLine_50 (by decide) rfl ?_
      refine a_iload C dX2_readLine_52 rfl ?_
      obtain ⟨r20, h20, hf⟩ := fx_bind hf
      refine a_fN C RX11 (kX11_isDigit l D Y r19 r20 h20) (gB_X2_45 _) rfl (by decide +kernel) (wB_X2_iX11 _) (wB_X2_sX11_isDigit _) dvX11_isDigit ⟨⟨rfl, rfl⟩, ⟨Nat.le_of_ble_eq_true rfl, Nat.le_of_ble_eq_true rfl⟩, ⟨Nat.le_of_ble_eq_true rfl, Nat.le_of_ble_eq_true rfl⟩⟩ rfl (Nat.le_of_ble_eq_true rfl) dX2_readLine_54 [] [0, 1, 2, 3, 4, 5] trivial (by decide +kernel) rfl [oX2 ao io_size, rI Y (ao 1) 8 co_age, rI Y (ao 2) 8 co_skill, rI Y (ao 3) 8 co_friend, oX10 ap1 ip1_length, rC Y (ap1 1) 80 cp1_signs] trivial ⟨rfl, rfl, rfl, rfl, rfl, rfl, trivial⟩ 6 rfl (by decide +kernel) ?_
      refine a_if_eq C 76 dX2_readLine_57 (by decide) (fun h21 => ?_) (fun h21 => ?_)
      · have hf := fx_t h21 hf
        refine a_kill [2, 5] ?_
        exact kX2_readLine_b76 C hQ hf
      · have hf := fx_f h21 hf
        refine a_bipush C (10 : Int32) dX2_readLine_60 (by decide) ?_
        refine a_iload C dX2_readLine_62 rfl ?_
        refine a_imul C dX2_readLine_64 ?_
        refine a_iload C dX2_readLine_65 rfl ?_
        refine a_iadd C dX2_readLine_67 ?_
        refine a_bipush C (48 : Int32) dX2_readLine_68 (by decide) ?_
        refine a_isub C dX2_readLine_70 ?_
        refine a_istore C dX2_readLine_71 (by decide) rfl ?_
        refine a_iinc C (1 : Int32) dX2_readLine_73 (by decide) rfl (by decide) rfl ?_
        refine a_kill [2, 5] ?_
        exact kX2_readLine_b76 C hQ hf
    · have hf := fx_f h18 hf
      refine a_kill [0, 1, 2, 3, 5] ?_
      exact kX2_readLine_b27 C hQ hf
-- X2_read
abbrev rmX2_read : Room := { frames := 2, cells := 0, slots := 0, locals := 48 }
theorem dvX2_read : yX2_read.cls = RX2 ∧ yX2_read.cls ≠ "java/lang/invoke/MethodHandle" ∧ yX2_read.cls ≠ "java/lang/invoke/VarHandle" ∧ (parseMethodDescriptor yX2_read.desc).map (fun d => d.parameters.length) = some 1 := by decide +kernel
def fX2_read_b90 (io_size : Int32) (co_age : Nat → Int32) (co_skill : Nat → Int32) (co_friend : Nat → Int32) (co_pals : Nat → Int32) (ip1_length : Int32) (cp1_signs : Nat → Int32) (x3 : Int32) : Option (Int32 × Int32 × (Nat → Int32) × (Nat → Int32) × (Nat → Int32) × (Nat → Int32)) :=
  some (((-1 : Int32) - x3), io_size, co_age, co_skill, co_friend, co_pals)
set_option maxHeartbeats 400000 in
set_option maxRecDepth 100000 in
theorem kX2_read_b90 {X : cxT} {l : Launch} {D : va_G} {Y : Nat → ClassId} {ao ap1 : Nat → Nat} {io_size : Int32} {co_age : Nat → Int32} {co_skill : Nat → Int32} {co_friend : Nat → Int32} {co_pals : Nat → Int32} {ip1_length : Int32} {cp1_signs : Nat → Int32} {x3 : Int32} {res : Int32 × Int32 × (Nat → Int32) × (Nat → Int32) × (Nat → Int32) × (Nat → Int32)} (C : axC X l D Y cX2_read 6 RX2 wsX2_read rmX2_read (some .int)) (hQ : axQ X 0 0 (fun r9 w9 => r9 = (some (.int res.1)) ∧ w9 = [oX2 ao res.2.1, rI Y (ao 1) 8 res.2.2.1, rI Y (ao 2) 8 res.2.2.2.1, rI Y (ao 3) 8 res.2.2.2.2.1, rI Y (ao 4) 8 res.2.2.2.2.2, oX10 ap1 ip1_length, rC Y (ap1 1) 80 cp1_signs])) (hf : fX2_read_b90 io_size co_age co_skill co_friend co_pals ip1_length cp1_signs x3 = some res) : ax X 0 0 90 [none, none, none, some (.int x3), none, none] [oX2 ao io_size, rI Y (ao 1) 8 co_age, rI Y (ao 2) 8 co_skill, rI Y (ao 3) 8 co_friend, rI Y (ao 4) 8 co_pals, oX10 ap1 ip1_length, rC Y (ap1 1) 80 cp1_signs] [] := by
  unfold fX2_read_b90 at hf
  refine a_iconst C (-1 : Int32) dX2_read_90 (by decide) ?_
  refine a_iload_n C dX2_read_91 rfl ?_
  refine a_isub C dX2_read_92 ?_
  obtain rfl := fx_some hf
  exact a_iret C hQ dX2_read_93 ⟨rfl, rfl⟩
def fX2_read_b77 (io_size : Int32) (co_age : Nat → Int32) (co_skill : Nat → Int32) (co_friend : Nat → Int32) (co_pals : Nat → Int32) (ip1_length : Int32) (cp1_signs : Nat → Int32) (x2 : Int32) (x3 : Int32) (x4 : Int32) : Option (Int32 × Int32 × (Nat → Int32) × (Nat → Int32) × (Nat → Int32) × (Nat → Int32)) :=
  if x4 = (0 : Int32) then (if ip1_length ≤ x3 then ((fX2_befriend co_friend co_pals io_size x2).bind (fun r3 => some ((x2 - io_size), x2, co_age, co_skill, co_friend, r3))) else (fX2_read_b90 io_size co_age co_skill co_friend co_pals ip1_length cp1_signs x3)) else (fX2_read_b90 io_size co_age co_skill co_friend co_pals ip1_length cp1_signs x3)
set_option maxHeartbeats 400000 in
set_option maxRecDepth 100000 in
theorem kX2_read_b77 {X : cxT} {l : Launch} {D : va_G} {Y : Nat → ClassId} {ao ap1 : Nat → Nat} {io_size : Int32} {co_age : Nat → Int32} {co_skill : Nat → Int32} {co_friend : Nat → Int32} {co_pals : Nat → Int32} {ip1_length : Int32} {cp1_signs : Nat → Int32} {x2 : Int32} {x3 : Int32} {x4 : Int32} {res : Int32 × Int32 × (Nat → Int32) × (Nat → Int32) × (Nat → Int32) × (Nat → Int32)} (C : axC X l D Y cX2_read 6 RX2 wsX2_read rmX2_read (some .int)) (hQ : axQ X 0 0 (fun r9 w9 => r9 = (some (.int res.1)) ∧ w9 = [oX2 ao res.2.1, rI Y (ao 1) 8 res.2.2.1, rI Y (ao 2) 8 res.2.2.2.1, rI Y (ao 3) 8 res.2.2.2.2.1, rI Y (ao 4) 8 res.2.2.2.2.2, oX10 ap1 ip1_length, rC Y (ap1 1) 80 cp1_signs])) (hf : fX2_read_b77 io_size co_age co_skill co_friend co_pals ip1_length cp1_signs x2 x3 x4 = some res) : ax X 0 0 77 [some (.ref (ao 0)), some (.ref (ap1 0)), some (.int x2), some (.int x3), some (.int x4), none] [oX2 ao io_size, rI Y (ao 1) 8 co_age, rI Y (ao 2) 8 co_skill, rI Y (ao 3) 8 co_friend, rI Y (ao 4) 8 co_pals, oX10 ap1 ip1_length, rC Y (ap1 1) 80 cp1_signs] [] := by
  unfold fX2_read_b77 at hf
  refine a_iload C dX2_read_77 rfl ?_
  refine a_if_ne C 90 dX2_read_79 (by decide) (fun h1 => ?_) (fun h1 => ?_)
  · have hf := fx_f h1 hf
    refine a_kill [0, 1, 2, 4] ?_
    exact kX2_read_b90 C hQ hf
  · have hf := fx_t h1 hf
    refine a_iload_n C dX2_read_82 rfl ?_
    refine a_aload_n C dX2_read_83 rfl ?_
    refine a_get C (eB_X2_28 _) dX2_read_84 5 rfl rfl ?_
    refine a_icmp_ge C 94 dX2_read_87 (by decide) (fun h2 => ?_) (fun h2 => ?_)
    · have hf := fx_t h2 hf
      refine a_iload_n C dX2_read_94 rfl ?_
      refine a_aload_n C dX2_read_95 rfl ?_
      refine a_get C (eB_X2_24 _) dX2_read_96 0 rfl rfl ?_
      refine a_isub C dX2_read_99 ?_
      refine a_istore C dX2_read_100 (by decide) rfl ?_
      refine a_aload_n C dX2_read_102 rfl ?_
      refine a_aload_n C dX2_read_103 rfl ?_
      refine a_get C (eB_X2_24 _) dX2_read_104 0 rfl rfl ?_
      refine a_iload_n C dX2_read_107 rfl ?_
      obtain ⟨r3, h3, hf⟩ := fx_bind hf
      refine a_fV C (kX2_befriend l D Y ao io_size co_friend co_pals io_size x2 r3 h3) (gB_X2_41 _) rfl dvX2_befriend ⟨⟨rfl, rfl⟩, ⟨Nat.le_of_ble_eq_true rfl, Nat.le_of_ble_eq_true rfl⟩, ⟨Nat.le_of_ble_eq_true rfl, Nat.le_of_ble_eq_true rfl⟩⟩ rfl (Nat.le_of_ble_eq_true rfl) dX2_read_108 rfl rfl [0, 3, 4] [1, 2, 5, 6] ⟨rfl, rfl, rfl, trivial⟩ (by decide +kernel) rfl [oX2 ao io_size, rI Y (ao 1) 8 co_age, rI Y (ao 2) 8 co_skill, rI Y (ao 3) 8 co_friend, rI Y (ao 4) 8 r3, oX10 ap1 ip1_length, rC Y (ap1 1) 80 cp1_signs] ⟨rfl, rfl, rfl, trivial⟩ ⟨rfl, rfl, rfl, rfl, trivial⟩ 7 rfl (by decide +kernel) ?_
      refine a_aload_n C dX2_read_111 rfl ?_
      refine a_iload_n C dX2_read_112 rfl ?_
      refine a_put C (eB_X2_24 _) tfX2_0 dX2_read_113 0 rfl rfl rfl (Nat.le_of_ble_eq_true rfl) ?_
      refine a_iload C dX2_read_116 rfl ?_
      obtain rfl := fx_some hf
      exact a_iret C hQ dX2_read_118 ⟨rfl, rfl⟩
    · have hf := fx_f h2 hf
      refine a_kill [0, 1, 2, 4] ?_
      exact kX2_read_b90 C hQ hf
def fX2_read_b42 (io_size : Int32) (co_age : Nat → Int32) (co_skill : Nat → Int32) (co_friend : Nat → Int32) (co_pals : Nat → Int32) (ip1_length : Int32) (cp1_signs : Nat → Int32) (x3 : Int32) : Option (Int32 × Int32 × (Nat → Int32) × (Nat → Int32) × (Nat → Int32) × (Nat → Int32)) :=
  some (x3, io_size, co_age, co_skill, co_friend, co_pals)
set_option maxHeartbeats 400000 in
set_option maxRecDepth 100000 in
theorem kX2_read_b42 {X : cxT} {l : Launch} {D : va_G} {Y : Nat → ClassId} {ao ap1 : Nat → Nat} {io_size : Int32} {co_age : Nat → Int32} {co_skill : Nat → Int32} {co_friend : Nat → Int32} {co_pals : Nat → Int32} {ip1_length : Int32} {cp1_signs : Nat → Int32} {x3 : Int32} {res : Int32 × Int32 × (Nat → Int32) × (Nat → Int32) × (Nat → Int32) × (Nat → Int32)} (C : axC X l D Y cX2_read 6 RX2 wsX2_read rmX2_read (some .int)) (hQ : axQ X 0 0 (fun r9 w9 => r9 = (some (.int res.1)) ∧ w9 = [oX2 ao res.2.1, rI Y (ao 1) 8 res.2.2.1, rI Y (ao 2) 8 res.2.2.2.1, rI Y (ao 3) 8 res.2.2.2.2.1, rI Y (ao 4) 8 res.2.2.2.2.2, oX10 ap1 ip1_length, rC Y (ap1 1) 80 cp1_signs])) (hf : fX2_read_b42 io_size co_age co_skill co_friend co_pals ip1_length cp1_signs x3 = some res) : ax X 0 0 42 [none, none, none, some (.int x3), none, none] [oX2 ao io_size, rI Y (ao 1) 8 co_age, rI Y (ao 2) 8 co_skill, rI Y (ao 3) 8 co_friend, rI Y (ao 4) 8 co_pals, oX10 ap1 ip1_length, rC Y (ap1 1) 80 cp1_signs] [] := by
  unfold fX2_read_b42 at hf
  refine a_iload_n C dX2_read_42 rfl ?_
  obtain rfl := fx_some hf
  exact a_iret C hQ dX2_read_43 ⟨rfl, rfl⟩
def fX2_read_b64 (io_size : Int32) (co_age : Nat → Int32) (co_skill : Nat → Int32) (co_friend : Nat → Int32) (co_pals : Nat → Int32) (ip1_length : Int32) (cp1_signs : Nat → Int32) (x2 : Int32) (x3 : Int32) (s0 : Int32) (k19 : (Nat → Int32) × (Nat → Int32) × (Nat → Int32) × Int32 × Int32 × Int32 → Option (Int32 × Int32 × (Nat → Int32) × (Nat → Int32) × (Nat → Int32) × (Nat → Int32))) : Option (Int32 × Int32 × (Nat → Int32) × (Nat → Int32) × (Nat → Int32) × (Nat → Int32)) :=
  if s0 = (0 : Int32) then (k19 (co_age, co_skill, co_friend, x2, x3, s0)) else (k19 (co_age, co_skill, co_friend, x2, (x3 + (1 : Int32)), s0))
set_option maxHeartbeats 400000 in
set_option maxRecDepth 100000 in
theorem kX2_read_b64 {X : cxT} {l : Launch} {D : va_G} {Y : Nat → ClassId} {ao ap1 : Nat → Nat} {io_size : Int32} {co_age : Nat → Int32} {co_skill : Nat → Int32} {co_friend : Nat → Int32} {co_pals : Nat → Int32} {ip1_length : Int32} {cp1_signs : Nat → Int32} {x2 : Int32} {x3 : Int32} {s0 : Int32} {res : Int32 × Int32 × (Nat → Int32) × (Nat → Int32) × (Nat → Int32) × (Nat → Int32)} (C : axC X l D Y cX2_read 6 RX2 wsX2_read rmX2_read (some .int)) (hQ : axQ X 0 0 (fun r9 w9 => r9 = (some (.int res.1)) ∧ w9 = [oX2 ao res.2.1, rI Y (ao 1) 8 res.2.2.1, rI Y (ao 2) 8 res.2.2.2.1, rI Y (ao 3) 8 res.2.2.2.2.1, rI Y (ao 4) 8 res.2.2.2.2.2, oX10 ap1 ip1_length, rC Y (ap1 1) 80 cp1_signs])) {k19 : (Nat → Int32) × (Nat → Int32) × (Nat → Int32) × Int32 × Int32 × Int32 → Option (Int32 × Int32 × (Nat → Int32) × (Nat → Int32) × (Nat → Int32) × (Nat → Int32))} (hk19 : ∀ s : (Nat → Int32) × (Nat → Int32) × (Nat → Int32) × Int32 × Int32 × Int32, k19 s = some res → ax X 0 0 19 [some (.ref (ao 0)), some (.ref (ap1 0)), some (.int s.2.2.2.1), some (.int s.2.2.2.2.1), some (.int s.2.2.2.2.2), none] [oX2 ao io_size, rI Y (ao 1) 8 s.1, rI Y (ao 2) 8 s.2.1, rI Y (ao 3) 8 s.2.2.1, rI Y (ao 4) 8 co_pals, oX10 ap1 ip1_length, rC Y (ap1 1) 80 cp1_signs] []) (hf : fX2_read_b64 io_size co_age co_skill co_friend co_pals ip1_length cp1_signs x2 x3 s0 k19 = some res) : ax X 0 0 64 [some (.ref (ao 0)), some (.ref (ap1 0)), some (.int x2), some (.int x3), none, none] [oX2 ao io_size, rI Y (ao 1) 8 co_age, rI Y (ao 2) 8 co_skill, rI Y (ao 3) 8 co_friend, rI Y (ao 4) 8 co_pals, oX10 ap1 ip1_length, rC Y (ap1 1) 80 cp1_signs] [.int s0] := by
  unfold fX2_read_b64 at hf
  refine a_istore C dX2_read_64 (by decide) rfl ?_
  refine a_iload C dX2_read_66 rfl ?_
  refine a_if_eq C 19 dX2_read_68 (by decide) (fun h4 => ?_) (fun h4 => ?_)
  · have hf := fx_t h4 hf
    exact hk19 (co_age, co_skill, co_friend, x2, x3, s0) hf
  · have hf := fx_f h4 hf
    refine a_iinc C (1 : Int32) dX2_read_71 (by decide) rfl (by decide) rfl ?_
    refine a_goto C 19 dX2_read_74 (by decide) ?_
    exact hk19 (co_age, co_skill, co_friend, x2, (x3 + (1 : Int32)), s0) hf
def fX2_read_l19 (io_size : Int32) (co_pals : Nat → Int32) (ip1_length : Int32) (cp1_signs : Nat → Int32) (k19 : (Nat → Int32) × (Nat → Int32) × (Nat → Int32) × Int32 × Int32 × Int32 → Option (Int32 × Int32 × (Nat → Int32) × (Nat → Int32) × (Nat → Int32) × (Nat → Int32))) (co_age : Nat → Int32) (co_skill : Nat → Int32) (co_friend : Nat → Int32) (x2 : Int32) (x3 : Int32) (x4 : Int32) : Option (Int32 × Int32 × (Nat → Int32) × (Nat → Int32) × (Nat → Int32) × (Nat → Int32)) :=
  if x4 = (0 : Int32) then (fX2_read_b77 io_size co_age co_skill co_friend co_pals ip1_length cp1_signs x2 x3 x4) else (if (8 : Int32) ≤ x2 then (fX2_read_b77 io_size co_age co_skill co_friend co_pals ip1_length cp1_signs x2 x3 x4) else ((fX2_readLine co_age co_skill co_friend ip1_length cp1_signs x3 x2).bind (fun r7 => if (0 : Int32) ≤ r7.1 then ((fX10_signAt ip1_length cp1_signs r7.1 (47 : Int32)).bind (fun r9 => if r9 = (59 : Int32) then (fX2_read_b64 io_size r7.2.1 r7.2.2.1 r7.2.2.2 co_pals ip1_length cp1_signs (x2 + (1 : Int32)) r7.1 (1 : Int32) k19) else (fX2_read_b64 io_size r7.2.1 r7.2.2.1 r7.2.2.2 co_pals ip1_length cp1_signs (x2 + (1 : Int32)) r7.1 (0 : Int32) k19))) else (fX2_read_b42 io_size r7.2.1 r7.2.2.1 r7.2.2.2 co_pals ip1_length cp1_signs r7.1))))
def fX2_read_b19 (io_size : Int32) (co_age : Nat → Int32) (co_skill : Nat → Int32) (co_friend : Nat → Int32) (co_pals : Nat → Int32) (ip1_length : Int32) (cp1_signs : Nat → Int32) (x2 : Int32) (x3 : Int32) (x4 : Int32) : Option (Int32 × Int32 × (Nat → Int32) × (Nat → Int32) × (Nat → Int32) × (Nat → Int32)) :=
  loopN (fun (s : (Nat → Int32) × (Nat → Int32) × (Nat → Int32) × Int32 × Int32 × Int32) k19 => fX2_read_l19 io_size co_pals ip1_length cp1_signs k19 s.1 s.2.1 s.2.2.1 s.2.2.2.1 s.2.2.2.2.1 s.2.2.2.2.2) FUEL (co_age, co_skill, co_friend, x2, x3, x4)
set_option maxHeartbeats 400000 in
set_option maxRecDepth 100000 in
theorem kX2_read_l19 {X : cxT} {l : Launch} {D : va_G} {Y : Nat → ClassId} {ao ap1 : Nat → Nat} {io_size : Int32} {co_age : Nat → Int32} {co_skill : Nat → Int32} {co_friend : Nat → Int32} {co_pals : Nat → Int32} {ip1_length : Int32} {cp1_signs : Nat → Int32} {x2 : Int32} {x3 : Int32} {x4 : Int32} {res : Int32 × Int32 × (Nat → Int32) × (Nat → Int32) × (Nat → Int32) × (Nat → Int32)} (C : axC X l D Y cX2_read 6 RX2 wsX2_read rmX2_read (some .int)) (hQ : axQ X 0 0 (fun r9 w9 => r9 = (some (.int res.1)) ∧ w9 = [oX2 ao res.2.1, rI Y (ao 1) 8 res.2.2.1, rI Y (ao 2) 8 res.2.2.2.1, rI Y (ao 3) 8 res.2.2.2.2.1, rI Y (ao 4) 8 res.2.2.2.2.2, oX10 ap1 ip1_length, rC Y (ap1 1) 80 cp1_signs])) {k19 : (Nat → Int32) × (Nat → Int32) × (Nat → Int32) × Int32 × Int32 × Int32 → Option (Int32 × Int32 × (Nat → Int32) × (Nat → Int32) × (Nat → Int32) × (Nat → Int32))} (hk19 : ∀ s : (Nat → Int32) × (Nat → Int32) × (Nat → Int32) × Int32 × Int32 × Int32, k19 s = some res → ax X 0 0 19 [some (.ref (ao 0)), some (.ref (ap1 0)), some (.int s.2.2.2.1), some (.int s.2.2.2.2.1), some (.int s.2.2.2.2.2), none] [oX2 ao io_size, rI Y (ao 1) 8 s.1, rI Y (ao 2) 8 s.2.1, rI Y (ao 3) 8 s.2.2.1, rI Y (ao 4) 8 co_pals, oX10 ap1 ip1_length, rC Y (ap1 1) 80 cp1_signs] []) (hf : fX2_read_l19 io_size co_pals ip1_length cp1_signs k19 co_age co_skill co_friend x2 x3 x4 = some res) : ax X 0 0 19 [some (.ref (ao 0)), some (.ref (ap1 0)), some (.int x2), some (.int x3), some (.int x4), none] [oX2 ao io_size, rI Y (ao 1) 8 co_age, rI Y (ao 2) 8 co_skill, rI Y (ao 3) 8 co_friend, rI Y (ao 4) 8 co_pals, oX10 ap1 ip1_length, rC Y (ap1 1) 80 cp1_signs] [] := by
  unfold fX2_read_l19 at hf
  refine a_iload C dX2_read_19 rfl ?_
  refine a_if_eq C 77 dX2_read_21 (by decide) (fun h5 => ?_) (fun h5 => ?_)
  · have hf := fx_t h5 hf
    exact kX2_read_b77 C hQ hf
  · have hf := fx_f h5 hf
    refine a_iload_n C dX2_read_24 rfl ?_
    refine a_bipush C (8 : Int32) dX2_read_25 (by decide) ?_
    refine a_icmp_ge C 77 dX2_read_27 (by decide) (fun h6 => ?_) (fun h6 => ?_)
    · have hf := fx_t h6 hf
      exact kX2_read_b77 C hQ hf
    · have hf := fx_f h6 hf
      refine a_aload_n C dX2_read_30 rfl ?_
      refine a_aload_n C dX2_read_31 rfl ?_
      refine a_iload_n C dX2_read_32 rfl ?_
      refine a_iload_n C dX2_read_33 rfl ?_
      obtain ⟨r7, h7, hf⟩ := fx_bind hf
      refine a_fV C (kX2_readLine l D Y ao ap1 io_size co_age co_skill co_friend ip1_length cp1_signs x3 x2 r7 h7) (gB_X2_33 _) rfl dvX2_readLine ⟨⟨rfl, rfl⟩, ⟨Nat.le_of_ble_eq_true rfl, Nat.le_of_ble_eq_true rfl⟩, ⟨Nat.le_of_ble_eq_true rfl, Nat.le_of_ble_eq_true rfl⟩⟩ rfl (Nat.le_of_ble_eq_true rfl) dX2_read_34 rfl rfl [0, 1, 2, 3, 5, 6] [4] ⟨rfl, rfl, rfl, rfl, rfl, rfl, trivial⟩ (by decide +kernel) rfl [oX2 ao io_size, rI Y (ao 1) 8 r7.2.1, rI Y (ao 2) 8 r7.2.2.1, rI Y (ao 3) 8 r7.2.2.2, rI Y (ao 4) 8 co_pals, oX10 ap1 ip1_length, rC Y (ap1 1) 80 cp1_signs] ⟨rfl, rfl, rfl, rfl, rfl, rfl, trivial⟩ ⟨rfl, trivial⟩ 7 rfl (by decide +kernel) ?_
      refine a_istore_n C dX2_read_37 (by decide) rfl ?_
      refine a_iload_n C dX2_read_38 rfl ?_
      refine a_if_ge C 44 dX2_read_39 (by decide) (fun h8 => ?_) (fun h8 => ?_)
      · have hf := fx_t h8 hf
        refine a_iinc C (1 : Int32) dX2_read_44 (by decide) rfl (by decide) rfl ?_
        refine a_aload_n C dX2_read_47 rfl ?_
        refine a_iload_n C dX2_read_48 rfl ?_
        refine a_bipush C (47 : Int32) dX2_read_49 (by decide) ?_
        obtain ⟨r9, h9, hf⟩ := fx_bind hf
        refine a_fV C (kX10_signAt l D Y ap1 ip1_length cp1_signs r7.1 (47 : Int32) r9 h9) (gB_X2_37 _) rfl dvX10_signAt ⟨⟨rfl, rfl⟩, ⟨Nat.le_of_ble_eq_true rfl, Nat.le_of_ble_eq_true rfl⟩, ⟨Nat.le_of_ble_eq_true rfl, Nat.le_of_ble_eq_true rfl⟩⟩ rfl (Nat.le_of_ble_eq_true rfl) dX2_read_51 rfl rfl [5, 6] [0, 1, 2, 3, 4] ⟨rfl, rfl, trivial⟩ (by decide +kernel) rfl [oX2 ao io_size, rI Y (ao 1) 8 r7.2.1, rI Y (ao 2) 8 r7.2.2.1, rI Y (ao 3) 8 r7.2.2.2, rI Y (ao 4) 8 co_pals, oX10 ap1 ip1_length, rC Y (ap1 1) 80 cp1_signs] ⟨rfl, rfl, trivial⟩ ⟨rfl, rfl, rfl, rfl, rfl, trivial⟩ 7 rfl (by decide +kernel) ?_
        refine a_bipush C (59 : Int32) dX2_read_54 (by decide) ?_
        refine a_icmp_ne C 63 dX2_read_56 (by decide) (fun h10 => ?_) (fun h10 => ?_)
        · have hf := fx_f h10 hf
          refine a_iconst C (0 : Int32) dX2_read_63 (by decide) ?_
          refine a_kill [4] ?_
          exact kX2_read_b64 C hQ hk19 hf
        · have hf := fx_t h10 hf
          refine a_iconst C (1 : Int32) dX2_read_59 (by decide) ?_
          refine a_goto C 64 dX2_read_60 (by decide) ?_
          refine a_kill [4] ?_
          exact kX2_read_b64 C hQ hk19 hf
      · have hf := fx_f h8 hf
        refine a_kill [0, 1, 2, 4] ?_
        exact kX2_read_b42 C hQ hf
set_option maxHeartbeats 400000 in
set_option maxRecDepth 100000 in
theorem kX2_read_b19 {X : cxT} {l : Launch} {D : va_G} {Y : Nat → ClassId} {ao ap1 : Nat → Nat} {io_size : Int32} {co_age : Nat → Int32} {co_skill : Nat → Int32} {co_friend : Nat → Int32} {co_pals : Nat → Int32} {ip1_length : Int32} {cp1_signs : Nat → Int32} {x2 : Int32} {x3 : Int32} {x4 : Int32} {res : Int32 × Int32 × (Nat → Int32) × (Nat → Int32) × (Nat → Int32) × (Nat → Int32)} (C : axC X l D Y cX2_read 6 RX2 wsX2_read rmX2_read (some .int)) (hQ : axQ X 0 0 (fun r9 w9 => r9 = (some (.int res.1)) ∧ w9 = [oX2 ao res.2.1, rI Y (ao 1) 8 res.2.2.1, rI Y (ao 2) 8 res.2.2.2.1, rI Y (ao 3) 8 res.2.2.2.2.1, rI Y (ao 4) 8 res.2.2.2.2.2, oX10 ap1 ip1_length, rC Y (ap1 1) 80 cp1_signs])) (hf : fX2_read_b19 io_size co_age co_skill co_friend co_pals ip1_length cp1_signs x2 x3 x4 = some res) : ax X 0 0 19 [some (.ref (ao 0)), some (.ref (ap1 0)), some (.int x2), some (.int x3), some (.int x4), none] [oX2 ao io_size, rI Y (ao 1) 8 co_age, rI Y (ao 2) 8 co_skill, rI Y (ao 3) 8 co_friend, rI Y (ao 4) 8 co_pals, oX10 ap1 ip1_length, rC Y (ap1 1) 80 cp1_signs] [] := by
  unfold fX2_read_b19 at hf
  exact fx_loop (P := fun s : (Nat → Int32) × (Nat → Int32) × (Nat → Int32) × Int32 × Int32 × Int32 => ax X 0 0 19 [some (.ref (ao 0)), some (.ref (ap1 0)), some (.int s.2.2.2.1), some (.int s.2.2.2.2.1), some (.int s.2.2.2.2.2), none] [oX2 ao io_size, rI Y (ao 1) 8 s.1, rI Y (ao 2) 8 s.2.1, rI Y (ao 3) 8 s.2.2.1, rI Y (ao 4) 8 co_pals, oX10 ap1 ip1_length, rC Y (ap1 1) 80 cp1_signs] []) (fun s k19 hk19 h => kX2_read_l19 C hQ hk19 h) FUEL (co_age, co_skill, co_friend, x2, x3, x4) hf
def fX2_read (io_size : Int32) (co_age : Nat → Int32) (co_skill : Nat → Int32) (co_friend : Nat → Int32) (co_pals : Nat → Int32) (ip1_length : Int32) (cp1_signs : Nat → Int32) : Option (Int32 × Int32 × (Nat → Int32) × (Nat → Int32) × (Nat → Int32) × (Nat → Int32)) :=
  if ip1_length = (0 : Int32) then (some ((0 : Int32), io_size, co_age, co_skill, co_friend, co_pals)) else (fX2_read_b19 io_size co_age co_skill co_friend co_pals ip1_length cp1_signs io_size (0 : Int32) (1 : Int32))
set_option maxHeartbeats 400000 in
set_option maxRecDepth 100000 in
theorem kX2_read (l : Launch) (D : va_G) (Y : Nat → ClassId) (ao ap1 : Nat → Nat) (io_size : Int32) (co_age : Nat → Int32) (co_skill : Nat → Int32) (co_friend : Nat → Int32) (co_pals : Nat → Int32) (ip1_length : Int32) (cp1_signs : Nat → Int32) (res : Int32 × Int32 × (Nat → Int32) × (Nat → Int32) × (Nat → Int32) × (Nat → Int32)) (hf : fX2_read io_size co_age co_skill co_friend co_pals ip1_length cp1_signs = some res) : amf l D Y yX2_read wsX2_read rmX2_read [.ref (ao 0), .ref (ap1 0)] [oX2 ao io_size, rI Y (ao 1) 8 co_age, rI Y (ao 2) 8 co_skill, rI Y (ao 3) 8 co_friend, rI Y (ao 4) 8 co_pals, oX10 ap1 ip1_length, rC Y (ap1 1) 80 cp1_signs] (some (.int res.1)) [oX2 ao res.2.1, rI Y (ao 1) 8 res.2.2.1, rI Y (ao 2) 8 res.2.2.2.1, rI Y (ao 3) 8 res.2.2.2.2.1, rI Y (ao 4) 8 res.2.2.2.2.2, oX10 ap1 ip1_length, rC Y (ap1 1) 80 cp1_signs] := by
  refine amf.of (cc := cX2_read) (maxL := 6) (rt := (some .int)) (by decide) rfl RX2 rfl (Nat.le_of_ble_eq_true rfl) [some (.ref (ao 0)), some (.ref (ap1 0)), none, none, none, none] rfl ?_
  intro X C hQ
  unfold fX2_read at hf
  refine a_aload_n C dX2_read_0 rfl ?_
  refine a_get C (eB_X2_28 _) dX2_read_1 5 rfl rfl ?_
  refine a_if_ne C 9 dX2_read_4 (by decide) (fun h11 => ?_) (fun h11 => ?_)
  · have hf := fx_f h11 hf
    refine a_aload_n C dX2_read_9 rfl ?_
    refine a_get C (eB_X2_24 _) dX2_read_10 0 rfl rfl ?_
    refine a_istore_n C dX2_read_13 (by decide) rfl ?_
    refine a_iconst C (0 : Int32) dX2_read_14 (by decide) ?_
    refine a_istore_n C dX2_read_15 (by decide) rfl ?_
    refine a_iconst C (1 : Int32) dX2_read_16 (by decide) ?_
    refine a_istore C dX2_read_17 (by decide) rfl ?_
    exact kX2_read_b19 C hQ hf
  · have hf := fx_t h11 hf
    refine a_iconst C (0 : Int32) dX2_read_7 (by decide) ?_
    obtain rfl := fx_some hf
    exact a_iret C hQ dX2_read_8 ⟨rfl, rfl⟩
