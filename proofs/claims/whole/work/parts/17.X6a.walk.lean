-- X0_draw
abbrev rmX0_draw : Room := { frames := 0, cells := 0, slots := 0, locals := 0 }
theorem dvX0_draw : yX0_draw.cls = RX0 ∧ yX0_draw.cls ≠ "java/lang/invoke/MethodHandle" ∧ yX0_draw.cls ≠ "java/lang/invoke/VarHandle" ∧ (parseMethodDescriptor yX0_draw.desc).map (fun d => d.parameters.length) = some 1 := by decide +kernel
def fX0_draw_b32 (io_seed : Int32) (s0 : Int32) : Option (Int32 × Int32) :=
  some (s0, io_seed)
set_option maxHeartbeats 400000 in
set_option maxRecDepth 100000 in
theorem kX0_draw_b32 {X : cxT} {l : Launch} {D : va_G} {Y : Nat → ClassId} {ao : Nat → Nat} {io_seed : Int32} {s0 : Int32} {res : Int32 × Int32} (C : axC X l D Y cX0_draw 2 RX0 wsX0_draw rmX0_draw (some .int)) (hQ : axQ X 0 0 (fun r9 w9 => r9 = (some (.int res.1)) ∧ w9 = [oX0 ao res.2])) (hf : fX0_draw_b32 io_seed s0 = some res) : ax X 0 0 32 [none, none] [oX0 ao io_seed] [.int s0] := by
  unfold fX0_draw_b32 at hf
  obtain rfl := fx_some hf
  exact a_iret C hQ dX0_draw_32 ⟨rfl, rfl⟩
def fX0_draw (io_seed : Int32) (x1 : Int32) : Option (Int32 × Int32) :=
  if x1 ≤ (0 : Int32) then (fX0_draw_b32 ((io_seed * (1103515245 : Int32)) + (12345 : Int32)) (0 : Int32)) else (if ¬ x1 = 0 then fX0_draw_b32 ((io_seed * (1103515245 : Int32)) + (12345 : Int32)) (jrem (jushr ((io_seed * (1103515245 : Int32)) + (12345 : Int32)) (16 : Int32)) x1) else none)
set_option maxHeartbeats 400000 in
set_option maxRecDepth 100000 in
theorem kX0_draw (l : Launch) (D : va_G) (Y : Nat → ClassId) (ao : Nat → Nat) (io_seed : Int32) (x1 : Int32) (res : Int32 × Int32) (hf : fX0_draw io_seed x1 = some res) : amf l D Y yX0_draw wsX0_draw rmX0_draw [.ref (ao 0), .int x1] [oX0 ao io_seed] (some (.int res.1)) [oX0 ao res.2] := by
  refine amf.of (cc := cX0_draw) (maxL := 2) (rt := (some .int)) (by decide) rfl RX0 rfl (Nat.le_of_ble_eq_true rfl) [some (.ref (ao 0)), some (.int x1)] rfl ?_
  intro X C hQ
  unfold fX0_draw at hf
  refine a_aload_n C dX0_draw_0 rfl ?_
  refine a_aload_n C dX0_draw_1 rfl ?_
  refine a_get C (eB_X0_19 _) dX0_draw_2 0 rfl rfl ?_
  refine a_ldc C (1103515245 : Int32) dX0_draw_5 (kB_X0_23 _) ?_
  refine a_imul C dX0_draw_7 ?_
  refine a_sipush C (12345 : Int32) dX0_draw_8 (by decide) ?_
  refine a_iadd C dX0_draw_11 ?_
  refine a_put C (eB_X0_19 _) tfX0_0 dX0_draw_12 0 rfl rfl rfl (Nat.le_of_ble_eq_true rfl) ?_
  refine a_iload_n C dX0_draw_15 rfl ?_
  refine a_if_le C 31 dX0_draw_16 (by decide) (fun h1 => ?_) (fun h1 => ?_)
  · have hf := fx_t h1 hf
    refine a_iconst C (0 : Int32) dX0_draw_31 (by decide) ?_
    refine a_kill [0, 1] ?_
    exact kX0_draw_b32 C hQ hf
  · have hf := fx_f h1 hf
    refine a_aload_n C dX0_draw_19 rfl ?_
    refine a_get C (eB_X0_19 _) dX0_draw_20 0 rfl rfl ?_
    refine a_bipush C (16 : Int32) dX0_draw_23 (by decide) ?_
    refine a_iushr C dX0_draw_25 ?_
    refine a_iload_n C dX0_draw_26 rfl ?_
    obtain ⟨h2, hf⟩ := fx_ite hf
    refine a_irem C dX0_draw_27 h2 ?_
    refine a_goto C 32 dX0_draw_28 (by decide) ?_
    refine a_kill [0, 1] ?_
    exact kX0_draw_b32 C hQ hf
-- X0_longRains
abbrev rmX0_longRains : Room := { frames := 1, cells := 0, slots := 0, locals := 24 }
theorem dvX0_longRains : yX0_longRains.cls = RX0 ∧ yX0_longRains.cls ≠ "java/lang/invoke/MethodHandle" ∧ yX0_longRains.cls ≠ "java/lang/invoke/VarHandle" ∧ (parseMethodDescriptor yX0_longRains.desc).map (fun d => d.parameters.length) = some 3 := by decide +kernel
def fX0_longRains_b158 (co_runs : Nat → Int64) (x4 : Int64) : Option (Int64 × (Nat → Int64)) :=
  some (x4, co_runs)
set_option maxHeartbeats 400000 in
set_option maxRecDepth 100000 in
theorem kX0_longRains_b158 {X : cxT} {l : Launch} {D : va_G} {Y : Nat → ClassId} {ao : Nat → Nat} {io_seed : Int32} {co_runs : Nat → Int64} {x4 : Int64} {res : Int64 × (Nat → Int64)} (C : axC X l D Y cX0_longRains 10 RX0 wsX0_longRains rmX0_longRains (some .long)) (hQ : axQ X 0 0 (fun r9 w9 => r9 = (some (.long res.1)) ∧ w9 = [oX0 ao io_seed, rJ Y (ao 1) 12 res.2])) (hf : fX0_longRains_b158 co_runs x4 = some res) : ax X 0 0 158 [none, none, none, none, some (.long x4), none, none, none, none, none] [oX0 ao io_seed, rJ Y (ao 1) 12 co_runs] [] := by
  unfold fX0_longRains_b158 at hf
  refine a_lload C dX0_longRains_158 rfl ?_
  obtain rfl := fx_some hf
  exact a_lret C hQ dX0_longRains_160 ⟨rfl, rfl⟩
def fX0_longRains_b138 (co_runs : Nat → Int64) (x1 : Int32) (x2 : Int32) (x3 : Int32) (x4 : Int64) (x6 : Int32) (x7 : Int64) (k21 : (Nat → Int64) × Int64 × Int32 → Option (Int64 × (Nat → Int64))) : Option (Int64 × (Nat → Int64)) :=
  if inb (0 : Int32) 12 then k21 ((vp_updL co_runs (Int32.toNatClampNeg (0 : Int32)) (x7 * (((10 : Int32) - x3).toInt64))), x4, (x6 + (1 : Int32))) else none
set_option maxHeartbeats 400000 in
set_option maxRecDepth 100000 in
theorem kX0_longRains_b138 {X : cxT} {l : Launch} {D : va_G} {Y : Nat → ClassId} {ao : Nat → Nat} {io_seed : Int32} {co_runs : Nat → Int64} {x1 : Int32} {x2 : Int32} {x3 : Int32} {x4 : Int64} {x6 : Int32} {x7 : Int64} {res : Int64 × (Nat → Int64)} (C : axC X l D Y cX0_longRains 10 RX0 wsX0_longRains rmX0_longRains (some .long)) (hQ : axQ X 0 0 (fun r9 w9 => r9 = (some (.long res.1)) ∧ w9 = [oX0 ao io_seed, rJ Y (ao 1) 12 res.2])) {k21 : (Nat → Int64) × Int64 × Int32 → Option (Int64 × (Nat → Int64))} (hk21 : ∀ s : (Nat → Int64) × Int64 × Int32, k21 s = some res → ax X 0 0 21 [some (.ref (ao 0)), some (.int x1), some (.int x2), some (.int x3), some (.long s.2.1), none, some (.int s.2.2), none, none, none] [oX0 ao io_seed, rJ Y (ao 1) 12 s.1] []) (hf : fX0_longRains_b138 co_runs x1 x2 x3 x4 x6 x7 k21 = some res) : ax X 0 0 138 [some (.ref (ao 0)), some (.int x1), some (.int x2), some (.int x3), some (.long x4), none, some (.int x6), some (.long x7), none, none] [oX0 ao io_seed, rJ Y (ao 1) 12 co_runs] [] := by
  unfold fX0_longRains_b138 at hf
  refine a_aload_n C dX0_longRains_138 rfl ?_
  refine a_get C (eB_X0_9 _) dX0_longRains_139 0 rfl rfl ?_
  refine a_iconst C (0 : Int32) dX0_longRains_142 (by decide) ?_
  refine a_lload C dX0_longRains_143 rfl ?_
  refine a_bipush C (10 : Int32) dX0_longRains_145 (by decide) ?_
  refine a_iload_n C dX0_longRains_147 rfl ?_
  refine a_isub C dX0_longRains_148 ?_
  refine a_i2l C dX0_longRains_149 ?_
  refine a_lmul C dX0_longRains_150 ?_
  obtain ⟨h1, hf⟩ := fx_ite hf
  refine a_last C dX0_longRains_151 1 rfl h1 ?_
  refine a_iinc C (1 : Int32) dX0_longRains_152 (by decide) rfl (by decide) rfl ?_
  refine a_goto C 21 dX0_longRains_155 (by decide) ?_
  refine a_kill [7] ?_
  exact hk21 ((vp_updL co_runs (Int32.toNatClampNeg (0 : Int32)) (x7 * (((10 : Int32) - x3).toInt64))), x4, (x6 + (1 : Int32))) hf
def fX0_longRains_b132 (co_runs : Nat → Int64) (x1 : Int32) (x2 : Int32) (x3 : Int32) (x4 : Int64) (x6 : Int32) (x7 : Int64) (x9 : Int32) (k21 : (Nat → Int64) × Int64 × Int32 → Option (Int64 × (Nat → Int64))) (k82 : (Nat → Int64) × Int64 × Int32 → Option (Int64 × (Nat → Int64))) : Option (Int64 × (Nat → Int64)) :=
  k82 (co_runs, x4, (x9 + (-1 : Int32)))
set_option maxHeartbeats 400000 in
set_option maxRecDepth 100000 in
theorem kX0_longRains_b132 {X : cxT} {l : Launch} {D : va_G} {Y : Nat → ClassId} {ao : Nat → Nat} {io_seed : Int32} {co_runs : Nat → Int64} {x1 : Int32} {x2 : Int32} {x3 : Int32} {x4 : Int64} {x6 : Int32} {x7 : Int64} {x9 : Int32} {res : Int64 × (Nat → Int64)} (C : axC X l D Y cX0_longRains 10 RX0 wsX0_longRains rmX0_longRains (some .long)) (hQ : axQ X 0 0 (fun r9 w9 => r9 = (some (.long res.1)) ∧ w9 = [oX0 ao io_seed, rJ Y (ao 1) 12 res.2])) {k21 : (Nat → Int64) × Int64 × Int32 → Option (Int64 × (Nat → Int64))} (hk21 : ∀ s : (Nat → Int64) × Int64 × Int32, k21 s = some res → ax X 0 0 21 [some (.ref (ao 0)), some (.int x1), some (.int x2), some (.int x3), some (.long s.2.1), none, some (.int s.2.2), none, none, none] [oX0 ao io_seed, rJ Y (ao 1) 12 s.1] []) {k82 : (Nat → Int64) × Int64 × Int32 → Option (Int64 × (Nat → Int64))} (hk82 : ∀ s : (Nat → Int64) × Int64 × Int32, k82 s = some res → ax X 0 0 82 [some (.ref (ao 0)), some (.int x1), some (.int x2), some (.int x3), some (.long s.2.1), none, some (.int x6), some (.long x7), none, some (.int s.2.2)] [oX0 ao io_seed, rJ Y (ao 1) 12 s.1] []) (hf : fX0_longRains_b132 co_runs x1 x2 x3 x4 x6 x7 x9 k21 k82 = some res) : ax X 0 0 132 [some (.ref (ao 0)), some (.int x1), some (.int x2), some (.int x3), some (.long x4), none, some (.int x6), some (.long x7), none, some (.int x9)] [oX0 ao io_seed, rJ Y (ao 1) 12 co_runs] [] := by
  unfold fX0_longRains_b132 at hf
  refine a_iinc C (-1 : Int32) dX0_longRains_132 (by decide) rfl (by decide) rfl ?_
  refine a_goto C 82 dX0_longRains_135 (by decide) ?_
  exact hk82 (co_runs, x4, (x9 + (-1 : Int32))) hf
def fX0_longRains_l82 (x1 : Int32) (x2 : Int32) (x3 : Int32) (x6 : Int32) (x7 : Int64) (k21 : (Nat → Int64) × Int64 × Int32 → Option (Int64 × (Nat → Int64))) (k82 : (Nat → Int64) × Int64 × Int32 → Option (Int64 × (Nat → Int64))) (co_runs : Nat → Int64) (x4 : Int64) (x9 : Int32) : Option (Int64 × (Nat → Int64)) :=
  if x9 < (0 : Int32) then (fX0_longRains_b138 co_runs x1 x2 x3 x4 x6 x7 k21) else (if x9 = (x2 - (1 : Int32)) then (if inb x9 12 then fX0_longRains_b132 co_runs x1 x2 x3 (x4 + ((co_runs (Int32.toNatClampNeg x9)) * (x3.toInt64))) x6 x7 x9 k21 k82 else none) else (if inb x9 12 then if inb (x9 + (1 : Int32)) 12 then fX0_longRains_b132 (vp_updL co_runs (Int32.toNatClampNeg (x9 + (1 : Int32))) ((co_runs (Int32.toNatClampNeg x9)) * (x3.toInt64))) x1 x2 x3 x4 x6 x7 x9 k21 k82 else none else none))
def fX0_longRains_b82 (co_runs : Nat → Int64) (x1 : Int32) (x2 : Int32) (x3 : Int32) (x4 : Int64) (x6 : Int32) (x7 : Int64) (x9 : Int32) (k21 : (Nat → Int64) × Int64 × Int32 → Option (Int64 × (Nat → Int64))) : Option (Int64 × (Nat → Int64)) :=
  loopN (fun (s : (Nat → Int64) × Int64 × Int32) k82 => fX0_longRains_l82 x1 x2 x3 x6 x7 k21 k82 s.1 s.2.1 s.2.2) FUEL (co_runs, x4, x9)
set_option maxHeartbeats 400000 in
set_option maxRecDepth 100000 in
theorem kX0_longRains_l82 {X : cxT} {l : Launch} {D : va_G} {Y : Nat → ClassId} {ao : Nat → Nat} {io_seed : Int32} {co_runs : Nat → Int64} {x1 : Int32} {x2 : Int32} {x3 : Int32} {x4 : Int64} {x6 : Int32} {x7 : Int64} {x9 : Int32} {res : Int64 × (Nat → Int64)} (C : axC X l D Y cX0_longRains 10 RX0 wsX0_longRains rmX0_longRains (some .long)) (hQ : axQ X 0 0 (fun r9 w9 => r9 = (some (.long res.1)) ∧ w9 = [oX0 ao io_seed, rJ Y (ao 1) 12 res.2])) {k21 : (Nat → Int64) × Int64 × Int32 → Option (Int64 × (Nat → Int64))} (hk21 : ∀ s : (Nat → Int64) × Int64 × Int32, k21 s = some res → ax X 0 0 21 [some (.ref (ao 0)), some (.int x1), some (.int x2), some (.int x3), some (.long s.2.1), none, some (.int s.2.2), none, none, none] [oX0 ao io_seed, rJ Y (ao 1) 12 s.1] []) {k82 : (Nat → Int64) × Int64 × Int32 → Option (Int64 × (Nat → Int64))} (hk82 : ∀ s : (Nat → Int64) × Int64 × Int32, k82 s = some res → ax X 0 0 82 [some (.ref (ao 0)), some (.int x1), some (.int x2), some (.int x3), some (.long s.2.1), none, some (.int x6), some (.long x7), none, some (.int s.2.2)] [oX0 ao io_seed, rJ Y (ao 1) 12 s.1] []) (hf : fX0_longRains_l82 x1 x2 x3 x6 x7 k21 k82 co_runs x4 x9 = some res) : ax X 0 0 82 [some (.ref (ao 0)), some (.int x1), some (.int x2), some (.int x3), some (.long x4), none, some (.int x6), some (.long x7), none, some (.int x9)] [oX0 ao io_seed, rJ Y (ao 1) 12 co_runs] [] := by
  unfold fX0_longRains_l82 at hf
  refine a_iload C dX0_longRains_82 rfl ?_
  refine a_if_lt C 138 dX0_longRains_84 (by decide) (fun h2 => ?_) (fun h2 => ?_)
  · have hf := fx_t h2 hf
    refine a_kill [9] ?_
    exact kX0_longRains_b138 C hQ hk21 hf
  · have hf := fx_f h2 hf
    refine a_iload C dX0_longRains_87 rfl ?_
    refine a_iload_n C dX0_longRains_89 rfl ?_
    refine a_iconst C (1 : Int32) dX0_longRains_90 (by decide) ?_
    refine a_isub C dX0_longRains_91 ?_
    refine a_icmp_ne C 113 dX0_longRains_92 (by decide) (fun h3 => ?_) (fun h3 => ?_)
    · have hf := fx_f h3 hf
      refine a_aload_n C dX0_longRains_113 rfl ?_
      refine a_get C (eB_X0_9 _) dX0_longRains_114 0 rfl rfl ?_
      refine a_iload C dX0_longRains_117 rfl ?_
      refine a_iconst C (1 : Int32) dX0_longRains_119 (by decide) ?_
      refine a_iadd C dX0_longRains_120 ?_
      refine a_aload_n C dX0_longRains_121 rfl ?_
      refine a_get C (eB_X0_9 _) dX0_longRains_122 0 rfl rfl ?_
      refine a_iload C dX0_longRains_125 rfl ?_
      obtain ⟨h4, hf⟩ := fx_ite hf
      refine a_lald C dX0_longRains_127 1 rfl h4 ?_
      refine a_iload_n C dX0_longRains_128 rfl ?_
      refine a_i2l C dX0_longRains_129 ?_
      refine a_lmul C dX0_longRains_130 ?_
      obtain ⟨h5, hf⟩ := fx_ite hf
      refine a_last C dX0_longRains_131 1 rfl h5 ?_
      exact kX0_longRains_b132 C hQ hk21 hk82 hf
    · have hf := fx_t h3 hf
      refine a_lload C dX0_longRains_95 rfl ?_
      refine a_aload_n C dX0_longRains_97 rfl ?_
      refine a_get C (eB_X0_9 _) dX0_longRains_98 0 rfl rfl ?_
      refine a_iload C dX0_longRains_101 rfl ?_
      obtain ⟨h6, hf⟩ := fx_ite hf
      refine a_lald C dX0_longRains_103 1 rfl h6 ?_
      refine a_iload_n C dX0_longRains_104 rfl ?_
      refine a_i2l C dX0_longRains_105 ?_
      refine a_lmul C dX0_longRains_106 ?_
      refine a_ladd C dX0_longRains_107 ?_
      refine a_lstore C dX0_longRains_108 (by decide) rfl ?_
      refine a_goto C 132 dX0_longRains_110 (by decide) ?_
      exact kX0_longRains_b132 C hQ hk21 hk82 hf
set_option maxHeartbeats 400000 in
set_option maxRecDepth 100000 in
theorem kX0_longRains_b82 {X : cxT} {l : Launch} {D : va_G} {Y : Nat → ClassId} {ao : Nat → Nat} {io_seed : Int32} {co_runs : Nat → Int64} {x1 : Int32} {x2 : Int32} {x3 : Int32} {x4 : Int64} {x6 : Int32} {x7 : Int64} {x9 : Int32} {res : Int64 × (Nat → Int64)} (C : axC X l D Y cX0_longRains 10 RX0 wsX0_longRains rmX0_longRains (some .long)) (hQ : axQ X 0 0 (fun r9 w9 => r9 = (some (.long res.1)) ∧ w9 = [oX0 ao io_seed, rJ Y (ao 1) 12 res.2])) {k21 : (Nat → Int64) × Int64 × Int32 → Option (Int64 × (Nat → Int64))} (hk21 : ∀ s : (Nat → Int64) × Int64 × Int32, k21 s = some res → ax X 0 0 21 [some (.ref (ao 0)), some (.int x1), some (.int x2), some (.int x3), some (.long s.2.1), none, some (.int s.2.2), none, none, none] [oX0 ao io_seed, rJ Y (ao 1) 12 s.1] []) (hf : fX0_longRains_b82 co_runs x1 x2 x3 x4 x6 x7 x9 k21 = some res) : ax X 0 0 82 [some (.ref (ao 0)), some (.int x1), some (.int x2), some (.int x3), some (.long x4), none, some (.int x6), some (.long x7), none, some (.int x9)] [oX0 ao io_seed, rJ Y (ao 1) 12 co_runs] [] := by
  unfold fX0_longRains_b82 at hf
  exact fx_loop (P := fun s : (Nat → Int64) × Int64 × Int32 => ax X 0 0 82 [some (.ref (ao 0)), some (.int x1), some (.int x2), some (.int x3), some (.long s.2.1), none, some (.int x6), some (.long x7), none, some (.int s.2.2)] [oX0 ao io_seed, rJ Y (ao 1) 12 s.1] []) (fun s k82 hk82 h => kX0_longRains_l82 C hQ hk21 hk82 h) FUEL (co_runs, x4, x9) hf
def fX0_longRains_b64 (co_runs : Nat → Int64) (x1 : Int32) (x2 : Int32) (x3 : Int32) (x4 : Int64) (x6 : Int32) (x7 : Int64) (k21 : (Nat → Int64) × Int64 × Int32 → Option (Int64 × (Nat → Int64))) : Option (Int64 × (Nat → Int64)) :=
  fX0_longRains_b82 co_runs x1 x2 x3 (x4 * (10 : Int64)) x6 x7 ((jmin x2 (12 : Int32)) - (1 : Int32)) k21
set_option maxHeartbeats 400000 in
set_option maxRecDepth 100000 in
theorem kX0_longRains_b64 {X : cxT} {l : Launch} {D : va_G} {Y : Nat → ClassId} {ao : Nat → Nat} {io_seed : Int32} {co_runs : Nat → Int64} {x1 : Int32} {x2 : Int32} {x3 : Int32} {x4 : Int64} {x6 : Int32} {x7 : Int64} {res : Int64 × (Nat → Int64)} (C : axC X l D Y cX0_longRains 10 RX0 wsX0_longRains rmX0_longRains (some .long)) (hQ : axQ X 0 0 (fun r9 w9 => r9 = (some (.long res.1)) ∧ w9 = [oX0 ao io_seed, rJ Y (ao 1) 12 res.2])) {k21 : (Nat → Int64) × Int64 × Int32 → Option (Int64 × (Nat → Int64))} (hk21 : ∀ s : (Nat → Int64) × Int64 × Int32, k21 s = some res → ax X 0 0 21 [some (.ref (ao 0)), some (.int x1), some (.int x2), some (.int x3), some (.long s.2.1), none, some (.int s.2.2), none, none, none] [oX0 ao io_seed, rJ Y (ao 1) 12 s.1] []) (hf : fX0_longRains_b64 co_runs x1 x2 x3 x4 x6 x7 k21 = some res) : ax X 0 0 64 [some (.ref (ao 0)), some (.int x1), some (.int x2), some (.int x3), some (.long x4), none, some (.int x6), some (.long x7), none, none] [oX0 ao io_seed, rJ Y (ao 1) 12 co_runs] [] := by
  unfold fX0_longRains_b64 at hf
  refine a_lload C dX0_longRains_64 rfl ?_
  refine a_ldc2 C (10 : Int64) dX0_longRains_66 (kB_X0_30 _) ?_
  refine a_lmul C dX0_longRains_69 ?_
  refine a_lstore C dX0_longRains_70 (by decide) rfl ?_
  refine a_iload_n C dX0_longRains_72 rfl ?_
  refine a_bipush C (12 : Int32) dX0_longRains_73 (by decide) ?_
  refine a_mmin C dX0_longRains_75 (mB_X0_32 _) ⟨⟨Nat.le_of_ble_eq_true rfl, Nat.le_of_ble_eq_true rfl⟩, ⟨Nat.le_of_ble_eq_true rfl, Nat.le_of_ble_eq_true rfl⟩⟩ (Nat.le_of_ble_eq_true rfl) ?_
  refine a_iconst C (1 : Int32) dX0_longRains_78 (by decide) ?_
  refine a_isub C dX0_longRains_79 ?_
  refine a_istore C dX0_longRains_80 (by decide) rfl ?_
  exact kX0_longRains_b82 C hQ hk21 hf
def fX0_longRains_l33 (co_runs : Nat → Int64) (x1 : Int32) (x2 : Int32) (x3 : Int32) (x4 : Int64) (x6 : Int32) (k21 : (Nat → Int64) × Int64 × Int32 → Option (Int64 × (Nat → Int64))) (k33 : Int64 × Int32 → Option (Int64 × (Nat → Int64))) (x7 : Int64) (x9 : Int32) : Option (Int64 × (Nat → Int64)) :=
  if x2 ≤ x9 then (fX0_longRains_b64 co_runs x1 x2 x3 x4 x6 x7 k21) else (if (12 : Int32) ≤ x9 then (fX0_longRains_b64 co_runs x1 x2 x3 x4 x6 x7 k21) else (if inb x9 12 then k33 ((x7 + (co_runs (Int32.toNatClampNeg x9))), (x9 + (1 : Int32))) else none))
def fX0_longRains_b33 (co_runs : Nat → Int64) (x1 : Int32) (x2 : Int32) (x3 : Int32) (x4 : Int64) (x6 : Int32) (x7 : Int64) (x9 : Int32) (k21 : (Nat → Int64) × Int64 × Int32 → Option (Int64 × (Nat → Int64))) : Option (Int64 × (Nat → Int64)) :=
  loopN (fun (s : Int64 × Int32) k33 => fX0_longRains_l33 co_runs x1 x2 x3 x4 x6 k21 k33 s.1 s.2) FUEL (x7, x9)
set_option maxHeartbeats 400000 in
set_option maxRecDepth 100000 in
theorem kX0_longRains_l33 {X : cxT} {l : Launch} {D : va_G} {Y : Nat → ClassId} {ao : Nat → Nat} {io_seed : Int32} {co_runs : Nat → Int64} {x1 : Int32} {x2 : Int32} {x3 : Int32} {x4 : Int64} {x6 : Int32} {x7 : Int64} {x9 : Int32} {res : Int64 × (Nat → Int64)} (C : axC X l D Y cX0_longRains 10 RX0 wsX0_longRains rmX0_longRains (some .long)) (hQ : axQ X 0 0 (fun r9 w9 => r9 = (some (.long res.1)) ∧ w9 = [oX0 ao io_seed, rJ Y (ao 1) 12 res.2])) {k21 : (Nat → Int64) × Int64 × Int32 → Option (Int64 × (Nat → Int64))} (hk21 : ∀ s : (Nat → Int64) × Int64 × Int32, k21 s = some res → ax X 0 0 21 [some (.ref (ao 0)), some (.int x1), some (.int x2), some (.int x3), some (.long s.2.1), none, some (.int s.2.2), none, none, none] [oX0 ao io_seed, rJ Y (ao 1) 12 s.1] []) {k33 : Int64 × Int32 → Option (Int64 × (Nat → Int64))} (hk33 : ∀ s : Int64 × Int32, k33 s = some res → ax X 0 0 33 [some (.ref (ao 0)), some (.int x1), some (.int x2), some (.int x3), some (.long x4), none, some (.int x6), some (.long s.1), none, some (.int s.2)] [oX0 ao io_seed, rJ Y (ao 1) 12 co_runs] []) (hf : fX0_longRains_l33 co_runs x1 x2 x3 x4 x6 k21 k33 x7 x9 = some res) : ax X 0 0 33 [some (.ref (ao 0)), some (.int x1), some (.int x2), some (.int x3), some (.long x4), none, some (.int x6), some (.long x7), none, some (.int x9)] [oX0 ao io_seed, rJ Y (ao 1) 12 co_runs] [] := by
  unfold fX0_longRains_l33 at hf
  refine a_iload C dX0_longRains_33 rfl ?_
  refine a_iload_n C dX0_longRains_35 rfl ?_
  refine a_icmp_ge C 64 dX0_longRains_36 (by decide) (fun h7 => ?_) (fun h7 => ?_)
  · have hf := fx_t h7 hf
    refine a_kill [9] ?_
    exact kX0_longRains_b64 C hQ hk21 hf
  · have hf := fx_f h7 hf
    refine a_iload C dX0_longRains_39 rfl ?_
    refine a_bipush C (12 : Int32) dX0_longRains_41 (by decide) ?_
    refine a_icmp_ge C 64 dX0_longRains_43 (by decide) (fun h8 => ?_) (fun h8 => ?_)
    · have hf := fx_t h8 hf
      refine a_kill [9] ?_
      exact kX0_longRains_b64 C hQ hk21 hf
    · have hf := fx_f h8 hf
      refine a_lload C dX0_longRains_46 rfl ?_
      refine a_aload_n C dX0_longRains_48 rfl ?_
      refine a_get C (eB_X0_9 _) dX0_longRains_49 0 rfl rfl ?_
      refine a_iload C dX0_longRains_52 rfl ?_
      obtain ⟨h9, hf⟩ := fx_ite hf
      refine a_lald C dX0_longRains_54 1 rfl h9 ?_
      refine a_ladd C dX0_longRains_55 ?_
      refine a_lstore C dX0_longRains_56 (by decide) rfl ?_
      refine a_iinc C (1 : Int32) dX0_longRains_58 (by decide) rfl (by decide) rfl ?_
      refine a_goto C 33 dX0_longRains_61 (by decide) ?_
      exact hk33 ((x7 + (co_runs (Int32.toNatClampNeg x9))), (x9 + (1 : Int32))) hf
set_option maxHeartbeats 400000 in
set_option maxRecDepth 100000 in
theorem kX0_longRains_b33 {X : cxT} {l : Launch} {D : va_G} {Y : Nat → ClassId} {ao : Nat → Nat} {io_seed : Int32} {co_runs : Nat → Int64} {x1 : Int32} {x2 : Int32} {x3 : Int32} {x4 : Int64} {x6 : Int32} {x7 : Int64} {x9 : Int32} {res : Int64 × (Nat → Int64)} (C : axC X l D Y cX0_longRains 10 RX0 wsX0_longRains rmX0_longRains (some .long)) (hQ : axQ X 0 0 (fun r9 w9 => r9 = (some (.long res.1)) ∧ w9 = [oX0 ao io_seed, rJ Y (ao 1) 12 res.2])) {k21 : (Nat → Int64) × Int64 × Int32 → Option (Int64 × (Nat → Int64))} (hk21 : ∀ s : (Nat → Int64) × Int64 × Int32, k21 s = some res → ax X 0 0 21 [some (.ref (ao 0)), some (.int x1), some (.int x2), some (.int x3), some (.long s.2.1), none, some (.int s.2.2), none, none, none] [oX0 ao io_seed, rJ Y (ao 1) 12 s.1] []) (hf : fX0_longRains_b33 co_runs x1 x2 x3 x4 x6 x7 x9 k21 = some res) : ax X 0 0 33 [some (.ref (ao 0)), some (.int x1), some (.int x2), some (.int x3), some (.long x4), none, some (.int x6), some (.long x7), none, some (.int x9)] [oX0 ao io_seed, rJ Y (ao 1) 12 co_runs] [] := by
  unfold fX0_longRains_b33 at hf
  exact fx_loop (P := fun s : Int64 × Int32 => ax X 0 0 33 [some (.ref (ao 0)), some (.int x1), some (.int x2), some (.int x3), some (.long x4), none, some (.int x6), some (.long s.1), none, some (.int s.2)] [oX0 ao io_seed, rJ Y (ao 1) 12 co_runs] []) (fun s k33 hk33 h => kX0_longRains_l33 C hQ hk21 hk33 h) FUEL (x7, x9) hf
def fX0_longRains_l21 (x1 : Int32) (x2 : Int32) (x3 : Int32) (k21 : (Nat → Int64) × Int64 × Int32 → Option (Int64 × (Nat → Int64))) (co_runs : Nat → Int64) (x4 : Int64) (x6 : Int32) : Option (Int64 × (Nat → Int64)) :=
  if x1 ≤ x6 then (fX0_longRains_b158 co_runs x4) else (fX0_longRains_b33 co_runs x1 x2 x3 x4 x6 (0 : Int64) (0 : Int32) k21)
def fX0_longRains_b21 (co_runs : Nat → Int64) (x1 : Int32) (x2 : Int32) (x3 : Int32) (x4 : Int64) (x6 : Int32) : Option (Int64 × (Nat → Int64)) :=
  loopN (fun (s : (Nat → Int64) × Int64 × Int32) k21 => fX0_longRains_l21 x1 x2 x3 k21 s.1 s.2.1 s.2.2) FUEL (co_runs, x4, x6)
set_option maxHeartbeats 400000 in
set_option maxRecDepth 100000 in
theorem kX0_longRains_l21 {X : cxT} {l : Launch} {D : va_G} {Y : Nat → ClassId} {ao : Nat → Nat} {io_seed : Int32} {co_runs : Nat → Int64} {x1 : Int32} {x2 : Int32} {x3 : Int32} {x4 : Int64} {x6 : Int32} {res : Int64 × (Nat → Int64)} (C : axC X l D Y cX0_longRains 10 RX0 wsX0_longRains rmX0_longRains (some .long)) (hQ : axQ X 0 0 (fun r9 w9 => r9 = (some (.long res.1)) ∧ w9 = [oX0 ao io_seed, rJ Y (ao 1) 12 res.2])) {k21 : (Nat → Int64) × Int64 × Int32 → Option (Int64 × (Nat → Int64))} (hk21 : ∀ s : (Nat → Int64) × Int64 × Int32, k21 s = some res → ax X 0 0 21 [some (.ref (ao 0)), some (.int x1), some (.int x2), some (.int x3), some (.long s.2.1), none, some (.int s.2.2), none, none, none] [oX0 ao io_seed, rJ Y (ao 1) 12 s.1] []) (hf : fX0_longRains_l21 x1 x2 x3 k21 co_runs x4 x6 = some res) : ax X 0 0 21 [some (.ref (ao 0)), some (.int x1), some (.int x2), some (.int x3), some (.long x4), none, some (.int x6), none, none, none] [oX0 ao io_seed, rJ Y (ao 1) 12 co_runs] [] := by
  unfold fX0_longRains_l21 at hf
  refine a_iload C dX0_longRains_21 rfl ?_
  refine a_iload_n C dX0_longRains_23 rfl ?_
  refine a_icmp_ge C 158 dX0_longRains_24 (by decide) (fun h10 => ?_) (fun h10 => ?_)
  · have hf := fx_t h10 hf
    refine a_kill [0, 1, 2, 3, 6] ?_
    exact kX0_longRains_b158 C hQ hf
  · have hf := fx_f h10 hf
    refine a_lconst C (0 : Int64) dX0_longRains_27 (by decide) ?_
    refine a_lstore C dX0_longRains_28 (by decide) rfl ?_
    refine a_iconst C (0 : Int32) dX0_longRains_30 (by decide) ?_
    refine a_istore C dX0_longRains_31 (by decide) rfl ?_
    exact kX0_longRains_b33 C hQ hk21 hf
set_option maxHeartbeats 400000 in
set_option maxRecDepth 100000 in
theorem kX0_longRains_b21 {X : cxT} {l : Launch} {D : va_G} {Y : Nat → ClassId} {ao : Nat → Nat} {io_seed : Int32} {co_runs : Nat → Int64} {x1 : Int32} {x2 : Int32} {x3 : Int32} {x4 : Int64} {x6 : Int32} {res : Int64 × (Nat → Int64)} (C : axC X l D Y cX0_longRains 10 RX0 wsX0_longRains rmX0_longRains (some .long)) (hQ : axQ X 0 0 (fun r9 w9 => r9 = (some (.long res.1)) ∧ w9 = [oX0 ao io_seed, rJ Y (ao 1) 12 res.2])) (hf : fX0_longRains_b21 co_runs x1 x2 x3 x4 x6 = some res) : ax X 0 0 21 [some (.ref (ao 0)), some (.int x1), some (.int x2), some (.int x3), some (.long x4), none, some (.int x6), none, none, none] [oX0 ao io_seed, rJ Y (ao 1) 12 co_runs] [] := by
  unfold fX0_longRains_b21 at hf
  exact fx_loop (P := fun s : (Nat → Int64) × Int64 × Int32 => ax X 0 0 21 [some (.ref (ao 0)), some (.int x1), some (.int x2), some (.int x3), some (.long s.2.1), none, some (.int s.2.2), none, none, none] [oX0 ao io_seed, rJ Y (ao 1) 12 s.1] []) (fun s k21 hk21 h => kX0_longRains_l21 C hQ hk21 h) FUEL (co_runs, x4, x6) hf
def fX0_longRains (co_runs : Nat → Int64) (x1 : Int32) (x2 : Int32) (x3 : Int32) : Option (Int64 × (Nat → Int64)) :=
  (fJ7_fill_d0a16 co_runs 12 (0 : Int64)).bind (fun r11 => if inb (0 : Int32) 12 then fX0_longRains_b21 (vp_updL r11 (Int32.toNatClampNeg (0 : Int32)) (1 : Int64)) x1 x2 x3 (0 : Int64) (0 : Int32) else none)
set_option maxHeartbeats 400000 in
set_option maxRecDepth 100000 in
theorem kX0_longRains (l : Launch) (D : va_G) (Y : Nat → ClassId) (ao : Nat → Nat) (io_seed : Int32) (co_runs : Nat → Int64) (x1 : Int32) (x2 : Int32) (x3 : Int32) (res : Int64 × (Nat → Int64)) (hf : fX0_longRains co_runs x1 x2 x3 = some res) : amf l D Y yX0_longRains wsX0_longRains rmX0_longRains [.ref (ao 0), .int x1, .int x2, .int x3] [oX0 ao io_seed, rJ Y (ao 1) 12 co_runs] (some (.long res.1)) [oX0 ao io_seed, rJ Y (ao 1) 12 res.2] := by
  refine amf.of (cc := cX0_longRains) (maxL := 10) (rt := (some .long)) (by decide) rfl RX0 rfl (Nat.le_of_ble_eq_true rfl) [some (.ref (ao 0)), some (.int x1), some (.int x2), some (.int x3), none, none, none, none, none, none] rfl ?_
  intro X C hQ
  unfold fX0_longRains at hf
  refine a_aload_n C dX0_longRains_0 rfl ?_
  refine a_get C (eB_X0_9 _) dX0_longRains_1 0 rfl rfl ?_
  refine a_lconst C (0 : Int64) dX0_longRains_4 (by decide) ?_
  obtain ⟨r11, h11, hf⟩ := fx_bind hf
  refine a_fS C (kJ7_fill_d0a16 l D Y (ao 1) co_runs 12 (0 : Int64) r11 h11) (gB_X0_24 _) rfl dvJ7_fill_d0a16 ⟨⟨rfl, rfl⟩, ⟨Nat.le_of_ble_eq_true rfl, Nat.le_of_ble_eq_true rfl⟩, ⟨Nat.le_of_ble_eq_true rfl, Nat.le_of_ble_eq_true rfl⟩⟩ rfl (Nat.le_of_ble_eq_true rfl) dX0_longRains_5 [1] [0] ⟨rfl, trivial⟩ (by decide +kernel) rfl [oX0 ao io_seed, rJ Y (ao 1) 12 r11] ⟨rfl, trivial⟩ ⟨rfl, trivial⟩ 2 rfl (by decide +kernel) ?_
  refine a_aload_n C dX0_longRains_8 rfl ?_
  refine a_get C (eB_X0_9 _) dX0_longRains_9 0 rfl rfl ?_
  refine a_iconst C (0 : Int32) dX0_longRains_12 (by decide) ?_
  refine a_lconst C (1 : Int64) dX0_longRains_13 (by decide) ?_
  obtain ⟨h12, hf⟩ := fx_ite hf
  refine a_last C dX0_longRains_14 1 rfl h12 ?_
  refine a_lconst C (0 : Int64) dX0_longRains_15 (by decide) ?_
  refine a_lstore C dX0_longRains_16 (by decide) rfl ?_
  refine a_iconst C (0 : Int32) dX0_longRains_18 (by decide) ?_
  refine a_istore C dX0_longRains_19 (by decide) rfl ?_
  exact kX0_longRains_b21 C hQ hf
-- X0_share
abbrev rmX0_share : Room := { frames := 0, cells := 0, slots := 0, locals := 0 }
theorem dvX0_share : yX0_share.cls ≠ "java/lang/invoke/MethodHandle" ∧ yX0_share.cls ≠ "java/lang/invoke/VarHandle" ∧ (parseMethodDescriptor yX0_share.desc).map (fun d => d.parameters.length) = some 4 := by decide +kernel
def fX0_share_b24 (s0 : Int32) : Option (Int32) :=
  some s0
set_option maxHeartbeats 400000 in
set_option maxRecDepth 100000 in
theorem kX0_share_b24 {X : cxT} {l : Launch} {D : va_G} {Y : Nat → ClassId} {s0 : Int32} {res : Int32} (C : axC X l D Y cX0_share 5 RX0 wsX0_share rmX0_share (some .int)) (hQ : axQ X 0 0 (fun r9 w9 => r9 = (some (.int res)) ∧ w9 = [])) (hf : fX0_share_b24 s0 = some res) : ax X 0 0 24 [none, none, none, none, none] [] [.int s0] := by
  unfold fX0_share_b24 at hf
  obtain rfl := fx_some hf
  exact a_iret C hQ dX0_share_24 ⟨rfl, rfl⟩
def fX0_share (x0 : Int32) (x1 : Int32) (x2 : Int32) (x3 : Int32) : Option (Int32) :=
  if (x0 + x1) ≤ (0 : Int32) then (fX0_share_b24 (0 : Int32)) else (if ¬ (x0 + x1) = 0 then fX0_share_b24 (((x2 * x0) / (x0 + x1)) - (x3 * x0)) else none)
set_option maxHeartbeats 400000 in
set_option maxRecDepth 100000 in
theorem kX0_share (l : Launch) (D : va_G) (Y : Nat → ClassId) (x0 : Int32) (x1 : Int32) (x2 : Int32) (x3 : Int32) (res : Int32) (hf : fX0_share x0 x1 x2 x3 = some res) : amf l D Y yX0_share wsX0_share rmX0_share [.int x0, .int x1, .int x2, .int x3] [] (some (.int res)) [] := by
  refine amf.of (cc := cX0_share) (maxL := 5) (rt := (some .int)) (by decide) rfl RX0 rfl (Nat.le_of_ble_eq_true rfl) [some (.int x0), some (.int x1), some (.int x2), some (.int x3), none] rfl ?_
  intro X C hQ
  unfold fX0_share at hf
  refine a_iload_n C dX0_share_0 rfl ?_
  refine a_iload_n C dX0_share_1 rfl ?_
  refine a_iadd C dX0_share_2 ?_
  refine a_istore C dX0_share_3 (by decide) rfl ?_
  refine a_iload C dX0_share_5 rfl ?_
  refine a_if_le C 23 dX0_share_7 (by decide) (fun h1 => ?_) (fun h1 => ?_)
  · have hf := fx_t h1 hf
    refine a_iconst C (0 : Int32) dX0_share_23 (by decide) ?_
    refine a_kill [0, 1, 2, 3, 4] ?_
    exact kX0_share_b24 C hQ hf
  · have hf := fx_f h1 hf
    refine a_iload_n C dX0_share_10 rfl ?_
    refine a_iload_n C dX0_share_11 rfl ?_
    refine a_imul C dX0_share_12 ?_
    refine a_iload C dX0_share_13 rfl ?_
    obtain ⟨h2, hf⟩ := fx_ite hf
    refine a_idiv C dX0_share_15 h2 ?_
    refine a_iload_n C dX0_share_16 rfl ?_
    refine a_iload_n C dX0_share_17 rfl ?_
    refine a_imul C dX0_share_18 ?_
    refine a_isub C dX0_share_19 ?_
    refine a_goto C 24 dX0_share_20 (by decide) ?_
    refine a_kill [0, 1, 2, 3, 4] ?_
    exact kX0_share_b24 C hQ hf
-- X6_usePlain
abbrev rmX6_usePlain : Room := { frames := 1, cells := 0, slots := 0, locals := 40 }
theorem dvX6_usePlain : yX6_usePlain.cls = RX6 ∧ yX6_usePlain.cls ≠ "java/lang/invoke/MethodHandle" ∧ yX6_usePlain.cls ≠ "java/lang/invoke/VarHandle" ∧ (parseMethodDescriptor yX6_usePlain.desc).map (fun d => d.parameters.length) = some 0 := by decide +kernel
def fX6_usePlain (io_length : Int32) (co_codes : Nat → Int32) : Option (Int32 × (Nat → Int32)) :=
  some ((9 : Int32), (va_cpy plainF co_codes (Int32.toNatClampNeg (0 : Int32)) (Int32.toNatClampNeg (0 : Int32)) (Int32.toNatClampNeg (9 : Int32))))
set_option maxHeartbeats 400000 in
set_option maxRecDepth 100000 in
theorem kX6_usePlain (l : Launch) (D : va_G) (Y : Nat → ClassId) (ao : Nat → Nat) (io_length : Int32) (io_at : Int32) (io_sign : Int32) (io_bad : Int32) (co_codes : Nat → Int32) (res : Int32 × (Nat → Int32)) (hf : fX6_usePlain io_length co_codes = some res) : amf l D Y yX6_usePlain wsX6_usePlain rmX6_usePlain [.ref (ao 0)] [oX6 ao io_length io_at io_sign io_bad, rI Y (ao 1) 40 co_codes] none [oX6 ao res.1 io_at io_sign io_bad, rI Y (ao 1) 40 res.2] := by
  refine amf.of (cc := cX6_usePlain) (maxL := 1) (rt := none) (by decide) rfl RX6 rfl (Nat.le_of_ble_eq_true rfl) [some (.ref (ao 0))] rfl ?_
  intro X C hQ
  unfold fX6_usePlain at hf
  refine a_plain C dX6_usePlain_0 (wB_X6_pl21 _) ?_
  refine a_iconst C (0 : Int32) dX6_usePlain_3 (by decide) ?_
  refine a_aload_n C dX6_usePlain_4 rfl ?_
  refine a_get C (eB_X6_9 _) dX6_usePlain_5 0 rfl rfl ?_
  refine a_iconst C (0 : Int32) dX6_usePlain_8 (by decide) ?_
  refine a_plain C dX6_usePlain_9 (wB_X6_pl21 _) ?_
  refine a_plainlen C dX6_usePlain_12 ?_
  refine a_plaincopy C dX6_usePlain_13 (cB_X6_24 _) ⟨Nat.le_of_ble_eq_true rfl, by decide⟩ (Nat.le_of_ble_eq_true rfl) 1 rfl (by decide) (by decide) (by decide) (by decide) (by decide) ?_
  refine a_aload_n C dX6_usePlain_16 rfl ?_
  refine a_plain C dX6_usePlain_17 (wB_X6_pl21 _) ?_
  refine a_plainlen C dX6_usePlain_20 ?_
  refine a_put C (eB_X6_30 _) tfX6_2 dX6_usePlain_21 0 rfl rfl rfl (Nat.le_of_ble_eq_true rfl) ?_
  obtain rfl := fx_some hf
  exact a_vret C hQ dX6_usePlain_24 ⟨rfl, rfl⟩
-- X6_variable
abbrev rmX6_variable : Room := { frames := 0, cells := 0, slots := 0, locals := 0 }
theorem dvX6_variable : yX6_variable.cls ≠ "java/lang/invoke/MethodHandle" ∧ yX6_variable.cls ≠ "java/lang/invoke/VarHandle" ∧ (parseMethodDescriptor yX6_variable.desc).map (fun d => d.parameters.length) = some 1 := by decide +kernel
def fX6_variable (x0 : Int32) : Option (Int32) :=
  if x0 = (99 : Int32) then (some (1002 : Int32)) else if x0 = (109 : Int32) then (some (1003 : Int32)) else if x0 = (110 : Int32) then (some (1000 : Int32)) else if x0 = (119 : Int32) then (some (1001 : Int32)) else (some (-9 : Int32))
set_option maxHeartbeats 400000 in
set_option maxRecDepth 100000 in
theorem kX6_variable (l : Launch) (D : va_G) (Y : Nat → ClassId) (x0 : Int32) (res : Int32) (hf : fX6_variable x0 = some res) : amf l D Y yX6_variable wsX6_variable rmX6_variable [.int x0] [] (some (.int res)) [] := by
  refine amf.of (cc := cX6_variable) (maxL := 1) (rt := (some .int)) (by decide) rfl RX6 rfl (Nat.le_of_ble_eq_true rfl) [some (.int x0)] rfl ?_
  intro X C hQ
  unfold fX6_variable at hf
  refine a_iload_n C dX6_variable_0 rfl ?_
  by_cases h1 : x0 = (99 : Int32)
  · have hf := fx_t h1 hf
    refine a_lookup (off := 51) C 52 dX6_variable_1 rfl (by rw [h1]; first | done | rfl | decide) (by decide) ?_
    refine a_sipush C (1002 : Int32) dX6_variable_52 (by decide) ?_
    obtain rfl := fx_some hf
    exact a_iret C hQ dX6_variable_55 ⟨rfl, rfl⟩
  have hf := fx_f h1 hf
  by_cases h2 : x0 = (109 : Int32)
  · have hf := fx_t h2 hf
    refine a_lookup (off := 55) C 56 dX6_variable_1 rfl (by rw [h2]; first | done | rfl | decide) (by decide) ?_
    refine a_sipush C (1003 : Int32) dX6_variable_56 (by decide) ?_
    obtain rfl := fx_some hf
    exact a_iret C hQ dX6_variable_59 ⟨rfl, rfl⟩
  have hf := fx_f h2 hf
  by_cases h3 : x0 = (110 : Int32)
  · have hf := fx_t h3 hf
    refine a_lookup (off := 43) C 44 dX6_variable_1 rfl (by rw [h3]; first | done | rfl | decide) (by decide) ?_
    refine a_sipush C (1000 : Int32) dX6_variable_44 (by decide) ?_
    obtain rfl := fx_some hf
    exact a_iret C hQ dX6_variable_47 ⟨rfl, rfl⟩
  have hf := fx_f h3 hf
  by_cases h4 : x0 = (119 : Int32)
  · have hf := fx_t h4 hf
    refine a_lookup (off := 47) C 48 dX6_variable_1 rfl (by rw [h4]; first | done | rfl | decide) (by decide) ?_
    refine a_sipush C (1001 : Int32) dX6_variable_48 (by decide) ?_
    obtain rfl := fx_some hf
    exact a_iret C hQ dX6_variable_51 ⟨rfl, rfl⟩
  have hf := fx_f h4 hf
  refine a_lookup (off := 59) C 60 dX6_variable_1 rfl (by show Op.lookupswitch.offset (_ :: _) _ _ = _; rw [lv_osw h1 (by decide), lv_osw h2 (by decide), lv_osw h3 (by decide), lv_osw h4 (by decide)]; first | done | rfl) (by decide) ?_
  refine a_bipush C (-9 : Int32) dX6_variable_60 (by decide) ?_
  obtain rfl := fx_some hf
  exact a_iret C hQ dX6_variable_62 ⟨rfl, rfl⟩
-- X6_step
abbrev rmX6_step : Room := { frames := 1, cells := 0, slots := 0, locals := 22 }
theorem dvX6_step : yX6_step.cls = RX6 ∧ yX6_step.cls ≠ "java/lang/invoke/MethodHandle" ∧ yX6_step.cls ≠ "java/lang/invoke/VarHandle" ∧ (parseMethodDescriptor yX6_step.desc).map (fun d => d.parameters.length) = some 1 := by decide +kernel
def fX6_step (io_at : Int32) (io_sign : Int32) (ip1_length : Int32) (cp1_signs : Nat → Int32) : Option (Int32 × Int32) :=
  (fX10_signAt ip1_length cp1_signs (io_at + (1 : Int32)) (40 : Int32)).bind (fun r1 => some ((io_at + (1 : Int32)), r1))
set_option maxHeartbeats 400000 in
set_option maxRecDepth 100000 in
theorem kX6_step (l : Launch) (D : va_G) (Y : Nat → ClassId) (ao ap1 : Nat → Nat) (io_length : Int32) (io_at : Int32) (io_sign : Int32) (io_bad : Int32) (ip1_length : Int32) (cp1_signs : Nat → Int32) (res : Int32 × Int32) (hf : fX6_step io_at io_sign ip1_length cp1_signs = some res) : amf l D Y yX6_step wsX6_step rmX6_step [.ref (ao 0), .ref (ap1 0)] [oX6 ao io_length io_at io_sign io_bad, oX10 ap1 ip1_length, rC Y (ap1 1) 80 cp1_signs] none [oX6 ao io_length res.1 res.2 io_bad, oX10 ap1 ip1_length, rC Y (ap1 1) 80 cp1_signs] := by
  refine amf.of (cc := cX6_step) (maxL := 2) (rt := none) (by decide) rfl RX6 rfl (Nat.le_of_ble_eq_true rfl) [some (.ref (ao 0)), some (.ref (ap1 0))] rfl ?_
  intro X C hQ
  unfold fX6_step at hf
  refine a_aload_n C dX6_step_0 rfl ?_
  refine a_dup C dX6_step_1 rfl ?_
  refine a_get C (eB_X6_40 _) dX6_step_2 0 rfl rfl ?_
  refine a_iconst C (1 : Int32) dX6_step_5 (by decide) ?_
  refine a_iadd C dX6_step_6 ?_
  refine a_put C (eB_X6_40 _) tfX6_3 dX6_step_7 0 rfl rfl rfl (Nat.le_of_ble_eq_true rfl) ?_
  refine a_aload_n C dX6_step_10 rfl ?_
  refine a_aload_n C dX6_step_11 rfl ?_
  refine a_aload_n C dX6_step_12 rfl ?_
  refine a_get C (eB_X6_40 _) dX6_step_13 0 rfl rfl ?_
  refine a_bipush C (40 : Int32) dX6_step_16 (by decide) ?_
  obtain ⟨r1, h1, hf⟩ := fx_bind hf
  refine a_fV C (kX10_signAt l D Y ap1 ip1_length cp1_signs (io_at + (1 : Int32)) (40 : Int32) r1 h1) (gB_X6_81 _) rfl dvX10_signAt ⟨⟨rfl, rfl⟩, ⟨Nat.le_of_ble_eq_true rfl, Nat.le_of_ble_eq_true rfl⟩, ⟨Nat.le_of_ble_eq_true rfl, Nat.le_of_ble_eq_true rfl⟩⟩ rfl (Nat.le_of_ble_eq_true rfl) dX6_step_18 rfl rfl [1, 2] [0] ⟨rfl, rfl, trivial⟩ (by decide +kernel) rfl [oX6 ao io_length (io_at + (1 : Int32)) io_sign io_bad, oX10 ap1 ip1_length, rC Y (ap1 1) 80 cp1_signs] ⟨rfl, rfl, trivial⟩ ⟨rfl, trivial⟩ 3 rfl (by decide +kernel) ?_
  refine a_put C (eB_X6_54 _) tfX6_4 dX6_step_21 0 rfl rfl rfl (Nat.le_of_ble_eq_true rfl) ?_
  obtain rfl := fx_some hf
  exact a_vret C hQ dX6_step_24 ⟨rfl, rfl⟩
-- X6_fail
abbrev rmX6_fail : Room := { frames := 0, cells := 0, slots := 0, locals := 0 }
theorem dvX6_fail : yX6_fail.cls = RX6 ∧ yX6_fail.cls ≠ "java/lang/invoke/MethodHandle" ∧ yX6_fail.cls ≠ "java/lang/invoke/VarHandle" ∧ (parseMethodDescriptor yX6_fail.desc).map (fun d => d.parameters.length) = some 0 := by decide +kernel
def fX6_fail_b16 (io_at : Int32) (io_sign : Int32) (io_bad : Int32) : Option (Int32 × Int32) :=
  some ((-1 : Int32), io_bad)
set_option maxHeartbeats 400000 in
set_option maxRecDepth 100000 in
theorem kX6_fail_b16 {X : cxT} {l : Launch} {D : va_G} {Y : Nat → ClassId} {ao : Nat → Nat} {io_length : Int32} {io_at : Int32} {io_sign : Int32} {io_bad : Int32} {res : Int32 × Int32} (C : axC X l D Y cX6_fail 1 RX6 wsX6_fail rmX6_fail none) (hQ : axQ X 0 0 (fun r9 w9 => r9 = none ∧ w9 = [oX6 ao io_length io_at res.1 res.2])) (hf : fX6_fail_b16 io_at io_sign io_bad = some res) : ax X 0 0 16 [some (.ref (ao 0))] [oX6 ao io_length io_at io_sign io_bad] [] := by
  unfold fX6_fail_b16 at hf
  refine a_aload_n C dX6_fail_16 rfl ?_
  refine a_iconst C (-1 : Int32) dX6_fail_17 (by decide) ?_
  refine a_put C (eB_X6_54 _) tfX6_4 dX6_fail_18 0 rfl rfl rfl (Nat.le_of_ble_eq_true rfl) ?_
  obtain rfl := fx_some hf
  exact a_vret C hQ dX6_fail_21 ⟨rfl, rfl⟩
def fX6_fail (io_at : Int32) (io_sign : Int32) (io_bad : Int32) : Option (Int32 × Int32) :=
  if io_bad = (-1 : Int32) then (fX6_fail_b16 io_at io_sign io_at) else (fX6_fail_b16 io_at io_sign io_bad)
set_option maxHeartbeats 400000 in
set_option maxRecDepth 100000 in
theorem kX6_fail (l : Launch) (D : va_G) (Y : Nat → ClassId) (ao : Nat → Nat) (io_length : Int32) (io_at : Int32) (io_sign : Int32) (io_bad : Int32) (res : Int32 × Int32) (hf : fX6_fail io_at io_sign io_bad = some res) : amf l D Y yX6_fail wsX6_fail rmX6_fail [.ref (ao 0)] [oX6 ao io_length io_at io_sign io_bad] none [oX6 ao io_length io_at res.1 res.2] := by
  refine amf.of (cc := cX6_fail) (maxL := 1) (rt := none) (by decide) rfl RX6 rfl (Nat.le_of_ble_eq_true rfl) [some (.ref (ao 0))] rfl ?_
  intro X C hQ
  unfold fX6_fail at hf
  refine a_aload_n C dX6_fail_0 rfl ?_
  refine a_get C (eB_X6_37 _) dX6_fail_1 0 rfl rfl ?_
  refine a_iconst C (-1 : Int32) dX6_fail_4 (by decide) ?_
  refine a_icmp_ne C 16 dX6_fail_5 (by decide) (fun h1 => ?_) (fun h1 => ?_)
  · have hf := fx_f h1 hf
    exact kX6_fail_b16 C hQ hf
  · have hf := fx_t h1 hf
    refine a_aload_n C dX6_fail_8 rfl ?_
    refine a_aload_n C dX6_fail_9 rfl ?_
    refine a_get C (eB_X6_40 _) dX6_fail_10 0 rfl rfl ?_
    refine a_put C (eB_X6_37 _) tfX6_5 dX6_fail_13 0 rfl rfl rfl (Nat.le_of_ble_eq_true rfl) ?_
    exact kX6_fail_b16 C hQ hf
-- X6_put
abbrev rmX6_put : Room := { frames := 0, cells := 0, slots := 0, locals := 0 }
theorem dvX6_put : yX6_put.cls = RX6 ∧ yX6_put.cls ≠ "java/lang/invoke/MethodHandle" ∧ yX6_put.cls ≠ "java/lang/invoke/VarHandle" ∧ (parseMethodDescriptor yX6_put.desc).map (fun d => d.parameters.length) = some 1 := by decide +kernel
def fX6_put_b29 (io_length : Int32) (co_codes : Nat → Int32) : Option (Int32 × (Nat → Int32)) :=
  some (io_length, co_codes)
set_option maxHeartbeats 400000 in
set_option maxRecDepth 100000 in
theorem kX6_put_b29 {X : cxT} {l : Launch} {D : va_G} {Y : Nat → ClassId} {ao : Nat → Nat} {io_length : Int32} {io_at : Int32} {io_sign : Int32} {io_bad : Int32} {co_codes : Nat → Int32} {res : Int32 × (Nat → Int32)} (C : axC X l D Y cX6_put 2 RX6 wsX6_put rmX6_put none) (hQ : axQ X 0 0 (fun r9 w9 => r9 = none ∧ w9 = [oX6 ao res.1 io_at io_sign io_bad, rI Y (ao 1) 40 res.2])) (hf : fX6_put_b29 io_length co_codes = some res) : ax X 0 0 29 [none, none] [oX6 ao io_length io_at io_sign io_bad, rI Y (ao 1) 40 co_codes] [] := by
  unfold fX6_put_b29 at hf
  obtain rfl := fx_some hf
  exact a_vret C hQ dX6_put_29 ⟨rfl, rfl⟩
def fX6_put (io_length : Int32) (co_codes : Nat → Int32) (x1 : Int32) : Option (Int32 × (Nat → Int32)) :=
  if (40 : Int32) ≤ io_length then (fX6_put_b29 io_length co_codes) else (if inb io_length 40 then fX6_put_b29 (io_length + (1 : Int32)) (upd co_codes (Int32.toNatClampNeg io_length) x1) else none)
set_option maxHeartbeats 400000 in
set_option maxRecDepth 100000 in
theorem kX6_put (l : Launch) (D : va_G) (Y : Nat → ClassId) (ao : Nat → Nat) (io_length : Int32) (io_at : Int32) (io_sign : Int32) (io_bad : Int32) (co_codes : Nat → Int32) (x1 : Int32) (res : Int32 × (Nat → Int32)) (hf : fX6_put io_length co_codes x1 = some res) : amf l D Y yX6_put wsX6_put rmX6_put [.ref (ao 0), .int x1] [oX6 ao io_length io_at io_sign io_bad, rI Y (ao 1) 40 co_codes] none [oX6 ao res.1 io_at io_sign io_bad, rI Y (ao 1) 40 res.2] := by
  refine amf.of (cc := cX6_put) (maxL := 2) (rt := none) (by decide) rfl RX6 rfl (Nat.le_of_ble_eq_true rfl) [some (.ref (ao 0)), some (.int x1)] rfl ?_
  intro X C hQ
  unfold fX6_put at hf
  refine a_aload_n C dX6_put_0 rfl ?_
  refine a_get C (eB_X6_30 _) dX6_put_1 0 rfl rfl ?_
  refine a_bipush C (40 : Int32) dX6_put_4 (by decide) ?_
  refine a_icmp_ge C 29 dX6_put_6 (by decide) (fun h1 => ?_) (fun h1 => ?_)
  · have hf := fx_t h1 hf
    refine a_kill [0, 1] ?_
    exact kX6_put_b29 C hQ hf
  · have hf := fx_f h1 hf
    refine a_aload_n C dX6_put_9 rfl ?_
    refine a_get C (eB_X6_9 _) dX6_put_10 0 rfl rfl ?_
    refine a_aload_n C dX6_put_13 rfl ?_
    refine a_get C (eB_X6_30 _) dX6_put_14 0 rfl rfl ?_
    refine a_iload_n C dX6_put_17 rfl ?_
    obtain ⟨h2, hf⟩ := fx_ite hf
    refine a_iast C dX6_put_18 1 rfl h2 ?_
    refine a_aload_n C dX6_put_19 rfl ?_
    refine a_dup C dX6_put_20 rfl ?_
    refine a_get C (eB_X6_30 _) dX6_put_21 0 rfl rfl ?_
    refine a_iconst C (1 : Int32) dX6_put_24 (by decide) ?_
    refine a_iadd C dX6_put_25 ?_
    refine a_put C (eB_X6_30 _) tfX6_2 dX6_put_26 0 rfl rfl rfl (Nat.le_of_ble_eq_true rfl) ?_
    refine a_kill [0, 1] ?_
    exact kX6_put_b29 C hQ hf
-- X6_operand
abbrev rmX6_operand : Room := { frames := 0, cells := 0, slots := 0, locals := 0 }
theorem dvX6_operand : yX6_operand.cls ≠ "java/lang/invoke/MethodHandle" ∧ yX6_operand.cls ≠ "java/lang/invoke/VarHandle" ∧ (parseMethodDescriptor yX6_operand.desc).map (fun d => d.parameters.length) = some 5 := by decide +kernel
def fX6_operand (x0 : Int32) (x1 : Int32) (x2 : Int32) (x3 : Int32) (x4 : Int32) : Option (Int32) :=
  if x0 = (1000 : Int32) then (some x1) else if x0 = (1001 : Int32) then (some x2) else if x0 = (1002 : Int32) then (some x3) else if x0 = (1003 : Int32) then (some x4) else (some x0)
set_option maxHeartbeats 400000 in
set_option maxRecDepth 100000 in
theorem kX6_operand (l : Launch) (D : va_G) (Y : Nat → ClassId) (x0 : Int32) (x1 : Int32) (x2 : Int32) (x3 : Int32) (x4 : Int32) (res : Int32) (hf : fX6_operand x0 x1 x2 x3 x4 = some res) : amf l D Y yX6_operand wsX6_operand rmX6_operand [.int x0, .int x1, .int x2, .int x3, .int x4] [] (some (.int res)) [] := by
  refine amf.of (cc := cX6_operand) (maxL := 5) (rt := (some .int)) (by decide) rfl RX6 rfl (Nat.le_of_ble_eq_true rfl) [some (.int x0), some (.int x1), some (.int x2), some (.int x3), some (.int x4)] rfl ?_
  intro X C hQ
  unfold fX6_operand at hf
  refine a_iload_n C dX6_operand_0 rfl ?_
  by_cases h1 : x0 = (1000 : Int32)
  · have hf := fx_t h1 hf
    refine a_tableIn (off := 31) C 32 dX6_operand_1 (by rw [h1]; decide) (by rw [h1]; decide) (by rw [h1]; first | done | rfl | decide) (by decide) ?_
    refine a_iload_n C dX6_operand_32 rfl ?_
    obtain rfl := fx_some hf
    exact a_iret C hQ dX6_operand_33 ⟨rfl, rfl⟩
  have hf := fx_f h1 hf
  by_cases h2 : x0 = (1001 : Int32)
  · have hf := fx_t h2 hf
    refine a_tableIn (off := 33) C 34 dX6_operand_1 (by rw [h2]; decide) (by rw [h2]; decide) (by rw [h2]; first | done | rfl | decide) (by decide) ?_
    refine a_iload_n C dX6_operand_34 rfl ?_
    obtain rfl := fx_some hf
    exact a_iret C hQ dX6_operand_35 ⟨rfl, rfl⟩
  have hf := fx_f h2 hf
  by_cases h3 : x0 = (1002 : Int32)
  · have hf := fx_t h3 hf
    refine a_tableIn (off := 35) C 36 dX6_operand_1 (by rw [h3]; decide) (by rw [h3]; decide) (by rw [h3]; first | done | rfl | decide) (by decide) ?_
    refine a_iload_n C dX6_operand_36 rfl ?_
    obtain rfl := fx_some hf
    exact a_iret C hQ dX6_operand_37 ⟨rfl, rfl⟩
  have hf := fx_f h3 hf
  by_cases h4 : x0 = (1003 : Int32)
  · have hf := fx_t h4 hf
    refine a_tableIn (off := 37) C 38 dX6_operand_1 (by rw [h4]; decide) (by rw [h4]; decide) (by rw [h4]; first | done | rfl | decide) (by decide) ?_
    refine a_iload C dX6_operand_38 rfl ?_
    obtain rfl := fx_some hf
    exact a_iret C hQ dX6_operand_40 ⟨rfl, rfl⟩
  have hf := fx_f h4 hf
  refine a_tableOut C 41 dX6_operand_1 (by have z0 := lv_neT (a := 1000) h1 (by decide); have z1 := lv_neT (a := 1001) h2 (by decide); have z2 := lv_neT (a := 1002) h3 (by decide); have z3 := lv_neT (a := 1003) h4 (by decide); omega) (by decide) ?_
  refine a_iload_n C dX6_operand_41 rfl ?_
  obtain rfl := fx_some hf
  exact a_iret C hQ dX6_operand_42 ⟨rfl, rfl⟩
-- X6_joined
abbrev rmX6_joined : Room := { frames := 0, cells := 0, slots := 0, locals := 0 }
theorem dvX6_joined : yX6_joined.cls ≠ "java/lang/invoke/MethodHandle" ∧ yX6_joined.cls ≠ "java/lang/invoke/VarHandle" ∧ (parseMethodDescriptor yX6_joined.desc).map (fun d => d.parameters.length) = some 3 := by decide +kernel
def fX6_joined_b96 (s0 : Int32) : Option (Int32) :=
  some s0
set_option maxHeartbeats 400000 in
set_option maxRecDepth 100000 in
theorem kX6_joined_b96 {X : cxT} {l : Launch} {D : va_G} {Y : Nat → ClassId} {s0 : Int32} {res : Int32} (C : axC X l D Y cX6_joined 3 RX6 wsX6_joined rmX6_joined (some .int)) (hQ : axQ X 0 0 (fun r9 w9 => r9 = (some (.int res)) ∧ w9 = [])) (hf : fX6_joined_b96 s0 = some res) : ax X 0 0 96 [none, none, none] [] [.int s0] := by
  unfold fX6_joined_b96 at hf
  obtain rfl := fx_some hf
  exact a_iret C hQ dX6_joined_96 ⟨rfl, rfl⟩
def fX6_joined_b63 (s0 : Int32) : Option (Int32) :=
  some s0
set_option maxHeartbeats 400000 in
set_option maxRecDepth 100000 in
theorem kX6_joined_b63 {X : cxT} {l : Launch} {D : va_G} {Y : Nat → ClassId} {s0 : Int32} {res : Int32} (C : axC X l D Y cX6_joined 3 RX6 wsX6_joined rmX6_joined (some .int)) (hQ : axQ X 0 0 (fun r9 w9 => r9 = (some (.int res)) ∧ w9 = [])) (hf : fX6_joined_b63 s0 = some res) : ax X 0 0 63 [none, none, none] [] [.int s0] := by
  unfold fX6_joined_b63 at hf
  obtain rfl := fx_some hf
  exact a_iret C hQ dX6_joined_63 ⟨rfl, rfl⟩
def fX6_joined_b74 (s0 : Int32) : Option (Int32) :=
  some s0
set_option maxHeartbeats 400000 in
set_option maxRecDepth 100000 in
theorem kX6_joined_b74 {X : cxT} {l : Launch} {D : va_G} {Y : Nat → ClassId} {s0 : Int32} {res : Int32} (C : axC X l D Y cX6_joined 3 RX6 wsX6_joined rmX6_joined (some .int)) (hQ : axQ X 0 0 (fun r9 w9 => r9 = (some (.int res)) ∧ w9 = [])) (hf : fX6_joined_b74 s0 = some res) : ax X 0 0 74 [none, none, none] [] [.int s0] := by
  unfold fX6_joined_b74 at hf
  obtain rfl := fx_some hf
  exact a_iret C hQ dX6_joined_74 ⟨rfl, rfl⟩
def fX6_joined_b85 (s0 : Int32) : Option (Int32) :=
  some s0
set_option maxHeartbeats 400000 in
set_option maxRecDepth 100000 in
theorem kX6_joined_b85 {X : cxT} {l : Launch} {D : va_G} {Y : Nat → ClassId} {s0 : Int32} {res : Int32} (C : axC X l D Y cX6_joined 3 RX6 wsX6_joined rmX6_joined (some .int)) (hQ : axQ X 0 0 (fun r9 w9 => r9 = (some (.int res)) ∧ w9 = [])) (hf : fX6_joined_b85 s0 = some res) : ax X 0 0 85 [none, none, none] [] [.int s0] := by
  unfold fX6_joined_b85 at hf
  obtain rfl := fx_some hf
  exact a_iret C hQ dX6_joined_85 ⟨rfl, rfl⟩
def fX6_joined (x0 : Int32) (x1 : Int32) (x2 : Int32) : Option (Int32) :=
  if x0 = (-6 : Int32) then (if x1 ≤ x2 then (fX6_joined_b85 (0 : Int32)) else (fX6_joined_b85 (1 : Int32))) else if x0 = (-5 : Int32) then (if x2 ≤ x1 then (fX6_joined_b74 (0 : Int32)) else (fX6_joined_b74 (1 : Int32))) else if x0 = (-4 : Int32) then (if x2 = (0 : Int32) then (fX6_joined_b63 (0 : Int32)) else (if ¬ x2 = 0 then fX6_joined_b63 (x1 / x2) else none)) else if x0 = (-3 : Int32) then (some (x1 * x2)) else if x0 = (-2 : Int32) then (some (x1 - x2)) else if x0 = (-1 : Int32) then (some (x1 + x2)) else (if x1 = x2 then (fX6_joined_b96 (1 : Int32)) else (fX6_joined_b96 (0 : Int32)))
set_option maxHeartbeats 400000 in
set_option maxRecDepth 100000 in
theorem kX6_joined (l : Launch) (D : va_G) (Y : Nat → ClassId) (x0 : Int32) (x1 : Int32) (x2 : Int32) (res : Int32) (hf : fX6_joined x0 x1 x2 = some res) : amf l D Y yX6_joined wsX6_joined rmX6_joined [.int x0, .int x1, .int x2] [] (some (.int res)) [] := by
  refine amf.of (cc := cX6_joined) (maxL := 3) (rt := (some .int)) (by decide) rfl RX6 rfl (Nat.le_of_ble_eq_true rfl) [some (.int x0), some (.int x1), some (.int x2)] rfl ?_
  intro X C hQ
  unfold fX6_joined at hf
  refine a_iload_n C dX6_joined_0 rfl ?_
  by_cases h1 : x0 = (-6 : Int32)
  · have hf := fx_t h1 hf
    refine a_tableIn (off := 74) C 75 dX6_joined_1 (by rw [h1]; decide) (by rw [h1]; decide) (by rw [h1]; first | done | rfl | decide) (by decide) ?_
    refine a_iload_n C dX6_joined_75 rfl ?_
    refine a_iload_n C dX6_joined_76 rfl ?_
    refine a_icmp_le C 84 dX6_joined_77 (by decide) (fun h2 => ?_) (fun h2 => ?_)
    · have hf := fx_t h2 hf
      refine a_iconst C (0 : Int32) dX6_joined_84 (by decide) ?_
      refine a_kill [0, 1, 2] ?_
      exact kX6_joined_b85 C hQ hf
    · have hf := fx_f h2 hf
      refine a_iconst C (1 : Int32) dX6_joined_80 (by decide) ?_
      refine a_goto C 85 dX6_joined_81 (by decide) ?_
      refine a_kill [0, 1, 2] ?_
      exact kX6_joined_b85 C hQ hf
  have hf := fx_f h1 hf
  by_cases h3 : x0 = (-5 : Int32)
  · have hf := fx_t h3 hf
    refine a_tableIn (off := 63) C 64 dX6_joined_1 (by rw [h3]; decide) (by rw [h3]; decide) (by rw [h3]; first | done | rfl | decide) (by decide) ?_
    refine a_iload_n C dX6_joined_64 rfl ?_
    refine a_iload_n C dX6_joined_65 rfl ?_
    refine a_icmp_ge C 73 dX6_joined_66 (by decide) (fun h4 => ?_) (fun h4 => ?_)
    · have hf := fx_t h4 hf
      refine a_iconst C (0 : Int32) dX6_joined_73 (by decide) ?_
      refine a_kill [0, 1, 2] ?_
      exact kX6_joined_b74 C hQ hf
    · have hf := fx_f h4 hf
      refine a_iconst C (1 : Int32) dX6_joined_69 (by decide) ?_
      refine a_goto C 74 dX6_joined_70 (by decide) ?_
      refine a_kill [0, 1, 2] ?_
      exact kX6_joined_b74 C hQ hf
  have hf := fx_f h3 hf
  by_cases h5 : x0 = (-4 : Int32)
  · have hf := fx_t h5 hf
    refine a_tableIn (off := 51) C 52 dX6_joined_1 (by rw [h5]; decide) (by rw [h5]; decide) (by rw [h5]; first | done | rfl | decide) (by decide) ?_
    refine a_iload_n C dX6_joined_52 rfl ?_
    refine a_if_ne C 60 dX6_joined_53 (by decide) (fun h6 => ?_) (fun h6 => ?_)
    · have hf := fx_f h6 hf
      refine a_iload_n C dX6_joined_60 rfl ?_
      refine a_iload_n C dX6_joined_61 rfl ?_
      obtain ⟨h7, hf⟩ := fx_ite hf
      refine a_idiv C dX6_joined_62 h7 ?_
      refine a_kill [0, 1, 2] ?_
      exact kX6_joined_b63 C hQ hf
    · have hf := fx_t h6 hf
      refine a_iconst C (0 : Int32) dX6_joined_56 (by decide) ?_
      refine a_goto C 63 dX6_joined_57 (by decide) ?_
      refine a_kill [0, 1, 2] ?_
      exact kX6_joined_b63 C hQ hf
  have hf := fx_f h5 hf
  by_cases h8 : x0 = (-3 : Int32)
  · have hf := fx_t h8 hf
    refine a_tableIn (off := 47) C 48 dX6_joined_1 (by rw [h8]; decide) (by rw [h8]; decide) (by rw [h8]; first | done | rfl | decide) (by decide) ?_
    refine a_iload_n C dX6_joined_48 rfl ?_
    refine a_iload_n C dX6_joined_49 rfl ?_
    refine a_imul C dX6_joined_50 ?_
    obtain rfl := fx_some hf
    exact a_iret C hQ dX6_joined_51 ⟨rfl, rfl⟩
  have hf := fx_f h8 hf
  by_cases h9 : x0 = (-2 : Int32)
  · have hf := fx_t h9 hf
    refine a_tableIn (off := 43) C 44 dX6_joined_1 (by rw [h9]; decide) (by rw [h9]; decide) (by rw [h9]; first | done | rfl | decide) (by decide) ?_
    refine a_iload_n C dX6_joined_44 rfl ?_
    refine a_iload_n C dX6_joined_45 rfl ?_
    refine a_isub C dX6_joined_46 ?_
    obtain rfl := fx_some hf
    exact a_iret C hQ dX6_joined_47 ⟨rfl, rfl⟩
  have hf := fx_f h9 hf
  by_cases h10 : x0 = (-1 : Int32)
  · have hf := fx_t h10 hf
    refine a_tableIn (off := 39) C 40 dX6_joined_1 (by rw [h10]; decide) (by rw [h10]; decide) (by rw [h10]; first | done | rfl | decide) (by decide) ?_
    refine a_iload_n C dX6_joined_40 rfl ?_
    refine a_iload_n C dX6_joined_41 rfl ?_
    refine a_iadd C dX6_joined_42 ?_
    obtain rfl := fx_some hf
    exact a_iret C hQ dX6_joined_43 ⟨rfl, rfl⟩
  have hf := fx_f h10 hf
  refine a_tableOut C 86 dX6_joined_1 (by have z0 := lv_neT (a := -6) h1 (by decide); have z1 := lv_neT (a := -5) h3 (by decide); have z2 := lv_neT (a := -4) h5 (by decide); have z3 := lv_neT (a := -3) h8 (by decide); have z4 := lv_neT (a := -2) h9 (by decide); have z5 := lv_neT (a := -1) h10 (by decide); omega) (by decide) ?_
  refine a_iload_n C dX6_joined_86 rfl ?_
  refine a_iload_n C dX6_joined_87 rfl ?_
  refine a_icmp_ne C 95 dX6_joined_88 (by decide) (fun h11 => ?_) (fun h11 => ?_)
  · have hf := fx_f h11 hf
    refine a_iconst C (0 : Int32) dX6_joined_95 (by decide) ?_
    refine a_kill [0, 1, 2] ?_
    exact kX6_joined_b96 C hQ hf
  · have hf := fx_t h11 hf
    refine a_iconst C (1 : Int32) dX6_joined_91 (by decide) ?_
    refine a_goto C 96 dX6_joined_92 (by decide) ?_
    refine a_kill [0, 1, 2] ?_
    exact kX6_joined_b96 C hQ hf
-- X7_lasts
abbrev rmX7_lasts : Room := { frames := 2, cells := 0, slots := 0, locals := 43 }
theorem dvX7_lasts : yX7_lasts.cls = RX7 ∧ yX7_lasts.cls ≠ "java/lang/invoke/MethodHandle" ∧ yX7_lasts.cls ≠ "java/lang/invoke/VarHandle" ∧ (parseMethodDescriptor yX7_lasts.desc).map (fun d => d.parameters.length) = some 3 := by decide +kernel
def fX7_lasts_b90 (co_heights : Nat → Int32) (ip1_tides : Int32) (cp1_wall : Nat → Int32) (cL_base : Nat → Int32) : Option (Int32) :=
  some (100 : Int32)
set_option maxHeartbeats 400000 in
set_option maxRecDepth 100000 in
theorem kX7_lasts_b90 {X : cxT} {l : Launch} {D : va_G} {Y : Nat → ClassId} {ao aL ap1 aC : Nat → Nat} {io_chosen : Int32} {co_heights : Nat → Int32} {ip1_moats : Int32} {ip1_spades : Int32} {ip1_tides : Int32} {cp1_wall : Nat → Int32} {iL_cells : Int32} {cL_base : Nat → Int32} {res : Int32} (C : axC X l D Y cX7_lasts 7 RX7 wsX7_lasts rmX7_lasts (some .int)) (hQ : axQ X 0 0 (fun r9 w9 => r9 = (some (.int res)) ∧ w9 = [oX7 ao aL io_chosen, rI Y (ao 1) 8 co_heights, oX9 ap1 aL aC ip1_moats ip1_spades ip1_tides, rI Y (ap1 1) 12 cp1_wall, oX5 aL iL_cells, rI Y (aL 1) 12 cL_base])) (hf : fX7_lasts_b90 co_heights ip1_tides cp1_wall cL_base = some res) : ax X 0 0 90 [none, none, none, none, none, none, none] [oX7 ao aL io_chosen, rI Y (ao 1) 8 co_heights, oX9 ap1 aL aC ip1_moats ip1_spades ip1_tides, rI Y (ap1 1) 12 cp1_wall, oX5 aL iL_cells, rI Y (aL 1) 12 cL_base] [] := by
  unfold fX7_lasts_b90 at hf
  refine a_bipush C (100 : Int32) dX7_lasts_90 (by decide) ?_
  obtain rfl := fx_some hf
  exact a_iret C hQ dX7_lasts_92 ⟨rfl, rfl⟩
def fX7_lasts_b57 (co_heights : Nat → Int32) (ip1_tides : Int32) (cp1_wall : Nat → Int32) (cL_base : Nat → Int32) (x5 : Int32) : Option (Int32) :=
  some x5
set_option maxHeartbeats 400000 in
set_option maxRecDepth 100000 in
theorem kX7_lasts_b57 {X : cxT} {l : Launch} {D : va_G} {Y : Nat → ClassId} {ao aL ap1 aC : Nat → Nat} {io_chosen : Int32} {co_heights : Nat → Int32} {ip1_moats : Int32} {ip1_spades : Int32} {ip1_tides : Int32} {cp1_wall : Nat → Int32} {iL_cells : Int32} {cL_base : Nat → Int32} {x5 : Int32} {res : Int32} (C : axC X l D Y cX7_lasts 7 RX7 wsX7_lasts rmX7_lasts (some .int)) (hQ : axQ X 0 0 (fun r9 w9 => r9 = (some (.int res)) ∧ w9 = [oX7 ao aL io_chosen, rI Y (ao 1) 8 co_heights, oX9 ap1 aL aC ip1_moats ip1_spades ip1_tides, rI Y (ap1 1) 12 cp1_wall, oX5 aL iL_cells, rI Y (aL 1) 12 cL_base])) (hf : fX7_lasts_b57 co_heights ip1_tides cp1_wall cL_base x5 = some res) : ax X 0 0 57 [none, none, none, none, none, some (.int x5), none] [oX7 ao aL io_chosen, rI Y (ao 1) 8 co_heights, oX9 ap1 aL aC ip1_moats ip1_spades ip1_tides, rI Y (ap1 1) 12 cp1_wall, oX5 aL iL_cells, rI Y (aL 1) 12 cL_base] [] := by
  unfold fX7_lasts_b57 at hf
  refine a_iload C dX7_lasts_57 rfl ?_
  obtain rfl := fx_some hf
  exact a_iret C hQ dX7_lasts_59 ⟨rfl, rfl⟩
def fX7_lasts_l11 (co_heights : Nat → Int32) (ip1_tides : Int32) (cp1_wall : Nat → Int32) (cL_base : Nat → Int32) (x2 : Int32) (x3 : Int32) (k11 : Int32 × Int32 → Option (Int32)) (x4 : Int32) (x5 : Int32) : Option (Int32) :=
  if (99 : Int32) < x5 then (fX7_lasts_b90 co_heights ip1_tides cp1_wall cL_base) else (if inb (jrem ((ip1_tides + x5) - (1 : Int32)) (8 : Int32)) 8 then if inb x2 12 then if (co_heights (Int32.toNatClampNeg (jrem ((ip1_tides + x5) - (1 : Int32)) (8 : Int32)))) ≤ (((10 : Int32) * (cL_base (Int32.toNatClampNeg x2))) + x4) then ((fX11_wash (co_heights (Int32.toNatClampNeg (jrem ((ip1_tides + x5) - (1 : Int32)) (8 : Int32)))) (cL_base (Int32.toNatClampNeg x2)) x3).bind (fun r5 => k11 ((jmax (0 : Int32) (x4 - r5)), (x5 + (1 : Int32))))) else (fX7_lasts_b57 co_heights ip1_tides cp1_wall cL_base x5) else none else none)
def fX7_lasts_b11 (co_heights : Nat → Int32) (ip1_tides : Int32) (cp1_wall : Nat → Int32) (cL_base : Nat → Int32) (x2 : Int32) (x3 : Int32) (x4 : Int32) (x5 : Int32) : Option (Int32) :=
  loopN (fun (s : Int32 × Int32) k11 => fX7_lasts_l11 co_heights ip1_tides cp1_wall cL_base x2 x3 k11 s.1 s.2) FUEL (x4, x5)
set_option maxHeartbeats 400000 in
set_option maxRecDepth 100000 in
theorem kX7_lasts_l11 {X : cxT} {l : Launch} {D : va_G} {Y : Nat → ClassId} {ao aL ap1 aC : Nat → Nat} {io_chosen : Int32} {co_heights : Nat → Int32} {ip1_moats : Int32} {ip1_spades : Int32} {ip1_tides : Int32} {cp1_wall : Nat → Int32} {iL_cells : Int32} {cL_base : Nat → Int32} {x2 : Int32} {x3 : Int32} {x4 : Int32} {x5 : Int32} {res : Int32} (C : axC X l D Y cX7_lasts 7 RX7 wsX7_lasts rmX7_lasts (some .int)) (hQ : axQ X 0 0 (fun r9 w9 => r9 = (some (.int res)) ∧ w9 = [oX7 ao aL io_chosen, rI Y (ao 1) 8 co_heights, oX9 ap1 aL aC ip1_moats ip1_spades ip1_tides, rI Y (ap1 1) 12 cp1_wall, oX5 aL iL_cells, rI Y (aL 1) 12 cL_base])) {k11 : Int32 × Int32 → Option (Int32)} (hk11 : ∀ s : Int32 × Int32, k11 s = some res → ax X 0 0 11 [some (.ref (ao 0)), some (.ref (ap1 0)), some (.int x2), some (.int x3), some (.int s.1), some (.int s.2), none] [oX7 ao aL io_chosen, rI Y (ao 1) 8 co_heights, oX9 ap1 aL aC ip1_moats ip1_spades ip1_tides, rI Y (ap1 1) 12 cp1_wall, oX5 aL iL_cells, rI Y (aL 1) 12 cL_base] []) (hf : fX7_lasts_l11 co_heights ip1_tides cp1_wall cL_base x2 x3 k11 x4 x5 = some res) : ax X 0 0 11 [some (.ref (ao 0)), some (.ref (ap1 0)), some (.int x2), some (.int x3), some (.int x4), some (.int x5), none] [oX7 ao aL io_chosen, rI Y (ao 1) 8 co_heights, oX9 ap1 aL aC ip1_moats ip1_spades ip1_tides, rI Y (ap1 1) 12 cp1_wall, oX5 aL iL_cells, rI Y (aL 1) 12 cL_base] [] := by
  unfold fX7_lasts_l11 at hf
  refine a_iload C dX7_lasts_11 rfl ?_
  refine a_bipush C (99 : Int32) dX7_lasts_13 (by decide) ?_
  refine a_icmp_gt C 90 dX7_lasts_15 (by decide) (fun h1 => ?_) (fun h1 => ?_)
  · have hf := fx_t h1 hf
    refine a_kill [0, 1, 2, 3, 4, 5] ?_
    exact kX7_lasts_b90 C hQ hf
  · have hf := fx_f h1 hf
    refine a_aload_n C dX7_lasts_18 rfl ?_
    refine a_get C (eB_X7_9 _) dX7_lasts_19 0 rfl rfl ?_
    refine a_aload_n C dX7_lasts_22 rfl ?_
    refine a_get C (eB_X7_58 _) dX7_lasts_23 2 rfl rfl ?_
    refine a_iload C dX7_lasts_26 rfl ?_
    refine a_iadd C dX7_lasts_28 ?_
    refine a_iconst C (1 : Int32) dX7_lasts_29 (by decide) ?_
    refine a_isub C dX7_lasts_30 ?_
    refine a_bipush C (8 : Int32) dX7_lasts_31 (by decide) ?_
    refine a_irem C dX7_lasts_33 (by decide) ?_
    obtain ⟨h2, hf⟩ := fx_ite hf
    refine a_iald C dX7_lasts_34 1 rfl h2 ?_
    refine a_istore C dX7_lasts_35 (by decide) rfl ?_
    refine a_iload C dX7_lasts_37 rfl ?_
    refine a_bipush C (10 : Int32) dX7_lasts_39 (by decide) ?_
    refine a_aload_n C dX7_lasts_41 rfl ?_
    refine a_get C (eB_X7_21 _) dX7_lasts_42 0 rfl rfl ?_
    refine a_get C (eB_X7_61 _) dX7_lasts_45 4 rfl rfl ?_
    refine a_iload_n C dX7_lasts_48 rfl ?_
    obtain ⟨h3, hf⟩ := fx_ite hf
    refine a_iald C dX7_lasts_49 5 rfl h3 ?_
    refine a_imul C dX7_lasts_50 ?_
    refine a_iload C dX7_lasts_51 rfl ?_
    refine a_iadd C dX7_lasts_53 ?_
    refine a_icmp_le C 60 dX7_lasts_54 (by decide) (fun h4 => ?_) (fun h4 => ?_)
    · have hf := fx_t h4 hf
      refine a_iconst C (0 : Int32) dX7_lasts_60 (by decide) ?_
      refine a_iload C dX7_lasts_61 rfl ?_
      refine a_iload C dX7_lasts_63 rfl ?_
      refine a_aload_n C dX7_lasts_65 rfl ?_
      refine a_get C (eB_X7_21 _) dX7_lasts_66 0 rfl rfl ?_
      refine a_get C (eB_X7_61 _) dX7_lasts_69 4 rfl rfl ?_
      refine a_iload_n C dX7_lasts_72 rfl ?_
      refine a_iald C dX7_lasts_73 5 rfl h3 ?_
      refine a_iload_n C dX7_lasts_74 rfl ?_
      obtain ⟨r5, h5, hf⟩ := fx_bind hf
      refine a_fN C RX11 (kX11_wash l D Y (co_heights (Int32.toNatClampNeg (jrem ((ip1_tides + x5) - (1 : Int32)) (8 : Int32)))) (cL_base (Int32.toNatClampNeg x2)) x3 r5 h5) (gB_X7_64 _) rfl (by decide +kernel) (wB_X7_iX11 _) (wB_X7_sX11_wash _) dvX11_wash ⟨⟨rfl, rfl⟩, ⟨Nat.le_of_ble_eq_true rfl, Nat.le_of_ble_eq_true rfl⟩, ⟨Nat.le_of_ble_eq_true rfl, Nat.le_of_ble_eq_true rfl⟩⟩ rfl (Nat.le_of_ble_eq_true rfl) dX7_lasts_75 [] [0, 1, 2, 3, 4, 5] trivial (by decide +kernel) rfl [oX7 ao aL io_chosen, rI Y (ao 1) 8 co_heights, oX9 ap1 aL aC ip1_moats ip1_spades ip1_tides, rI Y (ap1 1) 12 cp1_wall, oX5 aL iL_cells, rI Y (aL 1) 12 cL_base] trivial ⟨rfl, rfl, rfl, rfl, rfl, rfl, trivial⟩ 6 rfl (by decide +kernel) ?_
      refine a_isub C dX7_lasts_78 ?_
      refine a_mmax C dX7_lasts_79 (mB_X7_68 _) ⟨⟨Nat.le_of_ble_eq_true rfl, Nat.le_of_ble_eq_true rfl⟩, ⟨Nat.le_of_ble_eq_true rfl, Nat.le_of_ble_eq_true rfl⟩⟩ (Nat.le_of_ble_eq_true rfl) ?_
      refine a_istore C dX7_lasts_82 (by decide) rfl ?_
      refine a_iinc C (1 : Int32) dX7_lasts_84 (by decide) rfl (by decide) rfl ?_
      refine a_goto C 11 dX7_lasts_87 (by decide) ?_
      refine a_kill [6] ?_
      exact hk11 ((jmax (0 : Int32) (x4 - r5)), (x5 + (1 : Int32))) hf
    · have hf := fx_f h4 hf
      refine a_kill [0, 1, 2, 3, 4, 6] ?_
      exact kX7_lasts_b57 C hQ hf
set_option maxHeartbeats 400000 in
set_option maxRecDepth 100000 in
theorem kX7_lasts_b11 {X : cxT} {l : Launch} {D : va_G} {Y : Nat → ClassId} {ao aL ap1 aC : Nat → Nat} {io_chosen : Int32} {co_heights : Nat → Int32} {ip1_moats : Int32} {ip1_spades : Int32} {ip1_tides : Int32} {cp1_wall : Nat → Int32} {iL_cells : Int32} {cL_base : Nat → Int32} {x2 : Int32} {x3 : Int32} {x4 : Int32} {x5 : Int32} {res : Int32} (C : axC X l D Y cX7_lasts 7 RX7 wsX7_lasts rmX7_lasts (some .int)) (hQ : axQ X 0 0 (fun r9 w9 => r9 = (some (.int res)) ∧ w9 = [oX7 ao aL io_chosen, rI Y (ao 1) 8 co_heights, oX9 ap1 aL aC ip1_moats ip1_spades ip1_tides, rI Y (ap1 1) 12 cp1_wall, oX5 aL iL_cells, rI Y (aL 1) 12 cL_base])) (hf : fX7_lasts_b11 co_heights ip1_tides cp1_wall cL_base x2 x3 x4 x5 = some res) : ax X 0 0 11 [some (.ref (ao 0)), some (.ref (ap1 0)), some (.int x2), some (.int x3), some (.int x4), some (.int x5), none] [oX7 ao aL io_chosen, rI Y (ao 1) 8 co_heights, oX9 ap1 aL aC ip1_moats ip1_spades ip1_tides, rI Y (ap1 1) 12 cp1_wall, oX5 aL iL_cells, rI Y (aL 1) 12 cL_base] [] := by
  unfold fX7_lasts_b11 at hf
  exact fx_loop (P := fun s : Int32 × Int32 => ax X 0 0 11 [some (.ref (ao 0)), some (.ref (ap1 0)), some (.int x2), some (.int x3), some (.int s.1), some (.int s.2), none] [oX7 ao aL io_chosen, rI Y (ao 1) 8 co_heights, oX9 ap1 aL aC ip1_moats ip1_spades ip1_tides, rI Y (ap1 1) 12 cp1_wall, oX5 aL iL_cells, rI Y (aL 1) 12 cL_base] []) (fun s k11 hk11 h => kX7_lasts_l11 C hQ hk11 h) FUEL (x4, x5) hf
def fX7_lasts (co_heights : Nat → Int32) (ip1_tides : Int32) (cp1_wall : Nat → Int32) (cL_base : Nat → Int32) (x2 : Int32) (x3 : Int32) : Option (Int32) :=
  if inb x2 12 then fX7_lasts_b11 co_heights ip1_tides cp1_wall cL_base x2 x3 (cp1_wall (Int32.toNatClampNeg x2)) (1 : Int32) else none
set_option maxHeartbeats 400000 in
set_option maxRecDepth 100000 in
theorem kX7_lasts (l : Launch) (D : va_G) (Y : Nat → ClassId) (ao aL ap1 aC : Nat → Nat) (io_chosen : Int32) (co_heights : Nat → Int32) (ip1_moats : Int32) (ip1_spades : Int32) (ip1_tides : Int32) (cp1_wall : Nat → Int32) (iL_cells : Int32) (cL_base : Nat → Int32) (x2 : Int32) (x3 : Int32) (res : Int32) (hf : fX7_lasts co_heights ip1_tides cp1_wall cL_base x2 x3 = some res) : amf l D Y yX7_lasts wsX7_lasts rmX7_lasts [.ref (ao 0), .ref (ap1 0), .int x2, .int x3] [oX7 ao aL io_chosen, rI Y (ao 1) 8 co_heights, oX9 ap1 aL aC ip1_moats ip1_spades ip1_tides, rI Y (ap1 1) 12 cp1_wall, oX5 aL iL_cells, rI Y (aL 1) 12 cL_base] (some (.int res)) [oX7 ao aL io_chosen, rI Y (ao 1) 8 co_heights, oX9 ap1 aL aC ip1_moats ip1_spades ip1_tides, rI Y (ap1 1) 12 cp1_wall, oX5 aL iL_cells, rI Y (aL 1) 12 cL_base] := by
  refine amf.of (cc := cX7_lasts) (maxL := 7) (rt := (some .int)) (by decide) rfl RX7 rfl (Nat.le_of_ble_eq_true rfl) [some (.ref (ao 0)), some (.ref (ap1 0)), some (.int x2), some (.int x3), none, none, none] rfl ?_
  intro X C hQ
  unfold fX7_lasts at hf
  refine a_aload_n C dX7_lasts_0 rfl ?_
  refine a_get C (eB_X7_53 _) dX7_lasts_1 2 rfl rfl ?_
  refine a_iload_n C dX7_lasts_4 rfl ?_
  obtain ⟨h6, hf⟩ := fx_ite hf
  refine a_iald C dX7_lasts_5 3 rfl h6 ?_
  refine a_istore C dX7_lasts_6 (by decide) rfl ?_
  refine a_iconst C (1 : Int32) dX7_lasts_8 (by decide) ?_
  refine a_istore C dX7_lasts_9 (by decide) rfl ?_
  exact kX7_lasts_b11 C hQ hf
-- X7_firstBreak
abbrev rmX7_firstBreak : Room := { frames := 1, cells := 0, slots := 0, locals := 21 }
theorem dvX7_firstBreak : yX7_firstBreak.cls = RX7 ∧ yX7_firstBreak.cls ≠ "java/lang/invoke/MethodHandle" ∧ yX7_firstBreak.cls ≠ "java/lang/invoke/VarHandle" ∧ (parseMethodDescriptor yX7_firstBreak.desc).map (fun d => d.parameters.length) = some 1 := by decide +kernel
def fX7_firstBreak_b50 (co_bare : Nat → Int32) (co_moated : Nat → Int32) (iL_cells : Int32) (x2 : Int32) : Option (Int32) :=
  some x2
set_option maxHeartbeats 400000 in
set_option maxRecDepth 100000 in
theorem kX7_firstBreak_b50 {X : cxT} {l : Launch} {D : va_G} {Y : Nat → ClassId} {ao aL : Nat → Nat} {io_chosen : Int32} {co_bare : Nat → Int32} {co_moated : Nat → Int32} {iL_cells : Int32} {x2 : Int32} {res : Int32} (C : axC X l D Y cX7_firstBreak 4 RX7 wsX7_firstBreak rmX7_firstBreak (some .int)) (hQ : axQ X 0 0 (fun r9 w9 => r9 = (some (.int res)) ∧ w9 = [oX7 ao aL io_chosen, rI Y (ao 2) 12 co_bare, rI Y (ao 3) 12 co_moated, oX5 aL iL_cells])) (hf : fX7_firstBreak_b50 co_bare co_moated iL_cells x2 = some res) : ax X 0 0 50 [none, none, some (.int x2), none] [oX7 ao aL io_chosen, rI Y (ao 2) 12 co_bare, rI Y (ao 3) 12 co_moated, oX5 aL iL_cells] [] := by
  unfold fX7_firstBreak_b50 at hf
  refine a_iload_n C dX7_firstBreak_50 rfl ?_
  obtain rfl := fx_some hf
  exact a_iret C hQ dX7_firstBreak_51 ⟨rfl, rfl⟩
def fX7_firstBreak_b40 (co_bare : Nat → Int32) (co_moated : Nat → Int32) (iL_cells : Int32) (x1 : Int32) (x3 : Int32) (s0 : Int32) (s1 : Int32) (k5 : Int32 × Int32 → Option (Int32)) : Option (Int32) :=
  k5 ((jmin s0 s1), (x3 + (1 : Int32)))
set_option maxHeartbeats 400000 in
set_option maxRecDepth 100000 in
theorem kX7_firstBreak_b40 {X : cxT} {l : Launch} {D : va_G} {Y : Nat → ClassId} {ao aL : Nat → Nat} {io_chosen : Int32} {co_bare : Nat → Int32} {co_moated : Nat → Int32} {iL_cells : Int32} {x1 : Int32} {x3 : Int32} {s0 : Int32} {s1 : Int32} {res : Int32} (C : axC X l D Y cX7_firstBreak 4 RX7 wsX7_firstBreak rmX7_firstBreak (some .int)) (hQ : axQ X 0 0 (fun r9 w9 => r9 = (some (.int res)) ∧ w9 = [oX7 ao aL io_chosen, rI Y (ao 2) 12 co_bare, rI Y (ao 3) 12 co_moated, oX5 aL iL_cells])) {k5 : Int32 × Int32 → Option (Int32)} (hk5 : ∀ s : Int32 × Int32, k5 s = some res → ax X 0 0 5 [some (.ref (ao 0)), some (.int x1), some (.int s.1), some (.int s.2)] [oX7 ao aL io_chosen, rI Y (ao 2) 12 co_bare, rI Y (ao 3) 12 co_moated, oX5 aL iL_cells] []) (hf : fX7_firstBreak_b40 co_bare co_moated iL_cells x1 x3 s0 s1 k5 = some res) : ax X 0 0 40 [some (.ref (ao 0)), some (.int x1), none, some (.int x3)] [oX7 ao aL io_chosen, rI Y (ao 2) 12 co_bare, rI Y (ao 3) 12 co_moated, oX5 aL iL_cells] [.int s1, .int s0] := by
  unfold fX7_firstBreak_b40 at hf
  refine a_mmin C dX7_firstBreak_40 (mB_X7_74 _) ⟨⟨Nat.le_of_ble_eq_true rfl, Nat.le_of_ble_eq_true rfl⟩, ⟨Nat.le_of_ble_eq_true rfl, Nat.le_of_ble_eq_true rfl⟩⟩ (Nat.le_of_ble_eq_true rfl) ?_
  refine a_istore_n C dX7_firstBreak_43 (by decide) rfl ?_
  refine a_iinc C (1 : Int32) dX7_firstBreak_44 (by decide) rfl (by decide) rfl ?_
  refine a_goto C 5 dX7_firstBreak_47 (by decide) ?_
  exact hk5 ((jmin s0 s1), (x3 + (1 : Int32))) hf
def fX7_firstBreak_l5 (co_bare : Nat → Int32) (co_moated : Nat → Int32) (iL_cells : Int32) (x1 : Int32) (k5 : Int32 × Int32 → Option (Int32)) (x2 : Int32) (x3 : Int32) : Option (Int32) :=
  if iL_cells ≤ x3 then (fX7_firstBreak_b50 co_bare co_moated iL_cells x2) else (if ((jshr x1 x3) &&& (1 : Int32)) = (0 : Int32) then (if inb x3 12 then fX7_firstBreak_b40 co_bare co_moated iL_cells x1 x3 x2 (co_bare (Int32.toNatClampNeg x3)) k5 else none) else (if inb x3 12 then fX7_firstBreak_b40 co_bare co_moated iL_cells x1 x3 x2 (co_moated (Int32.toNatClampNeg x3)) k5 else none))
def fX7_firstBreak_b5 (co_bare : Nat → Int32) (co_moated : Nat → Int32) (iL_cells : Int32) (x1 : Int32) (x2 : Int32) (x3 : Int32) : Option (Int32) :=
  loopN (fun (s : Int32 × Int32) k5 => fX7_firstBreak_l5 co_bare co_moated iL_cells x1 k5 s.1 s.2) FUEL (x2, x3)
set_option maxHeartbeats 400000 in
set_option maxRecDepth 100000 in
theorem kX7_firstBreak_l5 {X : cxT} {l : Launch} {D : va_G} {Y : Nat → ClassId} {ao aL : Nat → Nat} {io_chosen : Int32} {co_bare : Nat → Int32} {co_moated : Nat → Int32} {iL_cells : Int32} {x1 : Int32} {x2 : Int32} {x3 : Int32} {res : Int32} (C : axC X l D Y cX7_firstBreak 4 RX7 wsX7_firstBreak rmX7_firstBreak (some .int)) (hQ : axQ X 0 0 (fun r9 w9 => r9 = (some (.int res)) ∧ w9 = [oX7 ao aL io_chosen, rI Y (ao 2) 12 co_bare, rI Y (ao 3) 12 co_moated, oX5 aL iL_cells])) {k5 : Int32 × Int32 → Option (Int32)} (hk5 : ∀ s : Int32 × Int32, k5 s = some res → ax X 0 0 5 [some (.ref (ao 0)), some (.int x1), some (.int s.1), some (.int s.2)] [oX7 ao aL io_chosen, rI Y (ao 2) 12 co_bare, rI Y (ao 3) 12 co_moated, oX5 aL iL_cells] []) (hf : fX7_firstBreak_l5 co_bare co_moated iL_cells x1 k5 x2 x3 = some res) : ax X 0 0 5 [some (.ref (ao 0)), some (.int x1), some (.int x2), some (.int x3)] [oX7 ao aL io_chosen, rI Y (ao 2) 12 co_bare, rI Y (ao 3) 12 co_moated, oX5 aL iL_cells] [] := by
  unfold fX7_firstBreak_l5 at hf
  refine a_iload_n C dX7_firstBreak_5 rfl ?_
  refine a_aload_n C dX7_firstBreak_6 rfl ?_
  refine a_get C (eB_X7_21 _) dX7_firstBreak_7 0 rfl rfl ?_
  refine a_get C (eB_X7_25 _) dX7_firstBreak_10 3 rfl rfl ?_
  refine a_icmp_ge C 50 dX7_firstBreak_13 (by decide) (fun h1 => ?_) (fun h1 => ?_)
  · have hf := fx_t h1 hf
    refine a_kill [0, 1, 3] ?_
    exact kX7_firstBreak_b50 C hQ hf
  · have hf := fx_f h1 hf
    refine a_iload_n C dX7_firstBreak_16 rfl ?_
    refine a_iload_n C dX7_firstBreak_17 rfl ?_
    refine a_iload_n C dX7_firstBreak_18 rfl ?_
    refine a_ishr C dX7_firstBreak_19 ?_
    refine a_iconst C (1 : Int32) dX7_firstBreak_20 (by decide) ?_
    refine a_iand C dX7_firstBreak_21 ?_
    refine a_if_eq C 34 dX7_firstBreak_22 (by decide) (fun h2 => ?_) (fun h2 => ?_)
    · have hf := fx_t h2 hf
      refine a_aload_n C dX7_firstBreak_34 rfl ?_
      refine a_get C (eB_X7_15 _) dX7_firstBreak_35 0 rfl rfl ?_
      refine a_iload_n C dX7_firstBreak_38 rfl ?_
      obtain ⟨h3, hf⟩ := fx_ite hf
      refine a_iald C dX7_firstBreak_39 1 rfl h3 ?_
      refine a_kill [2] ?_
      exact kX7_firstBreak_b40 C hQ hk5 hf
    · have hf := fx_f h2 hf
      refine a_aload_n C dX7_firstBreak_25 rfl ?_
      refine a_get C (eB_X7_18 _) dX7_firstBreak_26 0 rfl rfl ?_
      refine a_iload_n C dX7_firstBreak_29 rfl ?_
      obtain ⟨h4, hf⟩ := fx_ite hf
      refine a_iald C dX7_firstBreak_30 2 rfl h4 ?_
      refine a_goto C 40 dX7_firstBreak_31 (by decide) ?_
      refine a_kill [2] ?_
      exact kX7_firstBreak_b40 C hQ hk5 hf
set_option maxHeartbeats 400000 in
set_option maxRecDepth 100000 in
theorem kX7_firstBreak_b5 {X : cxT} {l : Launch} {D : va_G} {Y : Nat → ClassId} {ao aL : Nat → Nat} {io_chosen : Int32} {co_bare : Nat → Int32} {co_moated : Nat → Int32} {iL_cells : Int32} {x1 : Int32} {x2 : Int32} {x3 : Int32} {res : Int32} (C : axC X l D Y cX7_firstBreak 4 RX7 wsX7_firstBreak rmX7_firstBreak (some .int)) (hQ : axQ X 0 0 (fun r9 w9 => r9 = (some (.int res)) ∧ w9 = [oX7 ao aL io_chosen, rI Y (ao 2) 12 co_bare, rI Y (ao 3) 12 co_moated, oX5 aL iL_cells])) (hf : fX7_firstBreak_b5 co_bare co_moated iL_cells x1 x2 x3 = some res) : ax X 0 0 5 [some (.ref (ao 0)), some (.int x1), some (.int x2), some (.int x3)] [oX7 ao aL io_chosen, rI Y (ao 2) 12 co_bare, rI Y (ao 3) 12 co_moated, oX5 aL iL_cells] [] := by
  unfold fX7_firstBreak_b5 at hf
  exact fx_loop (P := fun s : Int32 × Int32 => ax X 0 0 5 [some (.ref (ao 0)), some (.int x1), some (.int s.1), some (.int s.2)] [oX7 ao aL io_chosen, rI Y (ao 2) 12 co_bare, rI Y (ao 3) 12 co_moated, oX5 aL iL_cells] []) (fun s k5 hk5 h => kX7_firstBreak_l5 C hQ hk5 h) FUEL (x2, x3) hf
def fX7_firstBreak (co_bare : Nat → Int32) (co_moated : Nat → Int32) (iL_cells : Int32) (x1 : Int32) : Option (Int32) :=
  fX7_firstBreak_b5 co_bare co_moated iL_cells x1 (100 : Int32) (0 : Int32)
set_option maxHeartbeats 400000 in
set_option maxRecDepth 100000 in
theorem kX7_firstBreak (l : Launch) (D : va_G) (Y : Nat → ClassId) (ao aL : Nat → Nat) (io_chosen : Int32) (co_bare : Nat → Int32) (co_moated : Nat → Int32) (iL_cells : Int32) (x1 : Int32) (res : Int32) (hf : fX7_firstBreak co_bare co_moated iL_cells x1 = some res) : amf l D Y yX7_firstBreak wsX7_firstBreak rmX7_firstBreak [.ref (ao 0), .int x1] [oX7 ao aL io_chosen, rI Y (ao 2) 12 co_bare, rI Y (ao 3) 12 co_moated, oX5 aL iL_cells] (some (.int res)) [oX7 ao aL io_chosen, rI Y (ao 2) 12 co_bare, rI Y (ao 3) 12 co_moated, oX5 aL iL_cells] := by
  refine amf.of (cc := cX7_firstBreak) (maxL := 4) (rt := (some .int)) (by decide) rfl RX7 rfl (Nat.le_of_ble_eq_true rfl) [some (.ref (ao 0)), some (.int x1), none, none] rfl ?_
  intro X C hQ
  unfold fX7_firstBreak at hf
  refine a_bipush C (100 : Int32) dX7_firstBreak_0 (by decide) ?_
  refine a_istore_n C dX7_firstBreak_2 (by decide) rfl ?_
  refine a_iconst C (0 : Int32) dX7_firstBreak_3 (by decide) ?_
  refine a_istore_n C dX7_firstBreak_4 (by decide) rfl ?_
  exact kX7_firstBreak_b5 C hQ hf
-- X0_weigh
abbrev rmX0_weigh : Room := { frames := 1, cells := 0, slots := 0, locals := 24 }
theorem dvX0_weigh : yX0_weigh.cls = RX0 ∧ yX0_weigh.cls ≠ "java/lang/invoke/MethodHandle" ∧ yX0_weigh.cls ≠ "java/lang/invoke/VarHandle" ∧ (parseMethodDescriptor yX0_weigh.desc).map (fun d => d.parameters.length) = some 2 := by decide +kernel
def fX0_weigh_b66 (co_best : Nat → Int32) : Option ((Nat → Int32)) :=
  some co_best
set_option maxHeartbeats 400000 in
set_option maxRecDepth 100000 in
theorem kX0_weigh_b66 {X : cxT} {l : Launch} {D : va_G} {Y : Nat → ClassId} {ao : Nat → Nat} {io_seed : Int32} {co_best : Nat → Int32} {res : (Nat → Int32)} (C : axC X l D Y cX0_weigh 5 RX0 wsX0_weigh rmX0_weigh none) (hQ : axQ X 0 0 (fun r9 w9 => r9 = none ∧ w9 = [oX0 ao io_seed, rI Y (ao 2) 10 res])) (hf : fX0_weigh_b66 co_best = some res) : ax X 0 0 66 [none, none, none, none, none] [oX0 ao io_seed, rI Y (ao 2) 10 co_best] [] := by
  unfold fX0_weigh_b66 at hf
  obtain rfl := fx_some hf
  exact a_vret C hQ dX0_weigh_66 ⟨rfl, rfl⟩
def fX0_weigh_b60 (co_best : Nat → Int32) (x1 : Int32) (x2 : Int32) (x3 : Int32) (k2 : (Nat → Int32) × Int32 → Option ((Nat → Int32))) : Option ((Nat → Int32)) :=
  k2 (co_best, (x3 + (1 : Int32)))
set_option maxHeartbeats 400000 in
set_option maxRecDepth 100000 in
theorem kX0_weigh_b60 {X : cxT} {l : Launch} {D : va_G} {Y : Nat → ClassId} {ao : Nat → Nat} {io_seed : Int32} {co_best : Nat → Int32} {x1 : Int32} {x2 : Int32} {x3 : Int32} {res : (Nat → Int32)} (C : axC X l D Y cX0_weigh 5 RX0 wsX0_weigh rmX0_weigh none) (hQ : axQ X 0 0 (fun r9 w9 => r9 = none ∧ w9 = [oX0 ao io_seed, rI Y (ao 2) 10 res])) {k2 : (Nat → Int32) × Int32 → Option ((Nat → Int32))} (hk2 : ∀ s : (Nat → Int32) × Int32, k2 s = some res → ax X 0 0 2 [some (.ref (ao 0)), some (.int x1), some (.int x2), some (.int s.2), none] [oX0 ao io_seed, rI Y (ao 2) 10 s.1] []) (hf : fX0_weigh_b60 co_best x1 x2 x3 k2 = some res) : ax X 0 0 60 [some (.ref (ao 0)), some (.int x1), some (.int x2), some (.int x3), none] [oX0 ao io_seed, rI Y (ao 2) 10 co_best] [] := by
  unfold fX0_weigh_b60 at hf
  refine a_iinc C (1 : Int32) dX0_weigh_60 (by decide) rfl (by decide) rfl ?_
  refine a_goto C 2 dX0_weigh_63 (by decide) ?_
  exact hk2 (co_best, (x3 + (1 : Int32))) hf
def fX0_weigh_l24 (x1 : Int32) (x2 : Int32) (x3 : Int32) (k2 : (Nat → Int32) × Int32 → Option ((Nat → Int32))) (k24 : (Nat → Int32) × Int32 → Option ((Nat → Int32))) (co_best : Nat → Int32) (x4 : Int32) : Option ((Nat → Int32)) :=
  if (9 : Int32) < x4 then (fX0_weigh_b60 co_best x1 x2 x3 k2) else (if inb x3 10 then (fX0_share x4 x3 x1 x2).bind (fun r3 => k24 ((upd co_best (Int32.toNatClampNeg x3) (jmax (co_best (Int32.toNatClampNeg x3)) r3)), (x4 + (1 : Int32)))) else none)
def fX0_weigh_b24 (co_best : Nat → Int32) (x1 : Int32) (x2 : Int32) (x3 : Int32) (x4 : Int32) (k2 : (Nat → Int32) × Int32 → Option ((Nat → Int32))) : Option ((Nat → Int32)) :=
  loopN (fun (s : (Nat → Int32) × Int32) k24 => fX0_weigh_l24 x1 x2 x3 k2 k24 s.1 s.2) FUEL (co_best, x4)
set_option maxHeartbeats 400000 in
set_option maxRecDepth 100000 in
theorem kX0_weigh_l24 {X : cxT} {l : Launch} {D : va_G} {Y : Nat → ClassId} {ao : Nat → Nat} {io_seed : Int32} {co_best : Nat → Int32} {x1 : Int32} {x2 : Int32} {x3 : Int32} {x4 : Int32} {res : (Nat → Int32)} (C : axC X l D Y cX0_weigh 5 RX0 wsX0_weigh rmX0_weigh none) (hQ : axQ X 0 0 (fun r9 w9 => r9 = none ∧ w9 = [oX0 ao io_seed, rI Y (ao 2) 10 res])) {k2 : (Nat → Int32) × Int32 → Option ((Nat → Int32))} (hk2 : ∀ s : (Nat → Int32) × Int32, k2 s = some res → ax X 0 0 2 [some (.ref (ao 0)), some (.int x1), some (.int x2), some (.int s.2), none] [oX0 ao io_seed, rI Y (ao 2) 10 s.1] []) {k24 : (Nat → Int32) × Int32 → Option ((Nat → Int32))} (hk24 : ∀ s : (Nat → Int32) × Int32, k24 s = some res → ax X 0 0 24 [some (.ref (ao 0)), some (.int x1), some (.int x2), some (.int x3), some (.int s.2)] [oX0 ao io_seed, rI Y (ao 2) 10 s.1] []) (hf : fX0_weigh_l24 x1 x2 x3 k2 k24 co_best x4 = some res) : ax X 0 0 24 [some (.ref (ao 0)), some (.int x1), some (.int x2), some (.int x3), some (.int x4)] [oX0 ao io_seed, rI Y (ao 2) 10 co_best] [] := by
  unfold fX0_weigh_l24 at hf
  refine a_iload C dX0_weigh_24 rfl ?_
  refine a_bipush C (9 : Int32) dX0_weigh_26 (by decide) ?_
  refine a_icmp_gt C 60 dX0_weigh_28 (by decide) (fun h1 => ?_) (fun h1 => ?_)
  · have hf := fx_t h1 hf
    refine a_kill [4] ?_
    exact kX0_weigh_b60 C hQ hk2 hf
  · have hf := fx_f h1 hf
    refine a_aload_n C dX0_weigh_31 rfl ?_
    refine a_get C (eB_X0_15 _) dX0_weigh_32 0 rfl rfl ?_
    refine a_iload_n C dX0_weigh_35 rfl ?_
    refine a_aload_n C dX0_weigh_36 rfl ?_
    refine a_get C (eB_X0_15 _) dX0_weigh_37 0 rfl rfl ?_
    refine a_iload_n C dX0_weigh_40 rfl ?_
    obtain ⟨h2, hf⟩ := fx_ite hf
    refine a_iald C dX0_weigh_41 1 rfl h2 ?_
    refine a_iload C dX0_weigh_42 rfl ?_
    refine a_iload_n C dX0_weigh_44 rfl ?_
    refine a_iload_n C dX0_weigh_45 rfl ?_
    refine a_iload_n C dX0_weigh_46 rfl ?_
    obtain ⟨r3, h3, hf⟩ := fx_bind hf
    refine a_fS C (kX0_share l D Y x4 x3 x1 x2 r3 h3) (gB_X0_38 _) rfl dvX0_share ⟨⟨rfl, rfl⟩, ⟨Nat.le_of_ble_eq_true rfl, Nat.le_of_ble_eq_true rfl⟩, ⟨Nat.le_of_ble_eq_true rfl, Nat.le_of_ble_eq_true rfl⟩⟩ rfl (Nat.le_of_ble_eq_true rfl) dX0_weigh_47 [] [0, 1] trivial (by decide +kernel) rfl [oX0 ao io_seed, rI Y (ao 2) 10 co_best] trivial ⟨rfl, rfl, trivial⟩ 2 rfl (by decide +kernel) ?_
    refine a_mmax C dX0_weigh_50 (mB_X0_42 _) ⟨⟨Nat.le_of_ble_eq_true rfl, Nat.le_of_ble_eq_true rfl⟩, ⟨Nat.le_of_ble_eq_true rfl, Nat.le_of_ble_eq_true rfl⟩⟩ (Nat.le_of_ble_eq_true rfl) ?_
    refine a_iast C dX0_weigh_53 1 rfl h2 ?_
    refine a_iinc C (1 : Int32) dX0_weigh_54 (by decide) rfl (by decide) rfl ?_
    refine a_goto C 24 dX0_weigh_57 (by decide) ?_
    exact hk24 ((upd co_best (Int32.toNatClampNeg x3) (jmax (co_best (Int32.toNatClampNeg x3)) r3)), (x4 + (1 : Int32))) hf
set_option maxHeartbeats 400000 in
set_option maxRecDepth 100000 in
theorem kX0_weigh_b24 {X : cxT} {l : Launch} {D : va_G} {Y : Nat → ClassId} {ao : Nat → Nat} {io_seed : Int32} {co_best : Nat → Int32} {x1 : Int32} {x2 : Int32} {x3 : Int32} {x4 : Int32} {res : (Nat → Int32)} (C : axC X l D Y cX0_weigh 5 RX0 wsX0_weigh rmX0_weigh none) (hQ : axQ X 0 0 (fun r9 w9 => r9 = none ∧ w9 = [oX0 ao io_seed, rI Y (ao 2) 10 res])) {k2 : (Nat → Int32) × Int32 → Option ((Nat → Int32))} (hk2 : ∀ s : (Nat → Int32) × Int32, k2 s = some res → ax X 0 0 2 [some (.ref (ao 0)), some (.int x1), some (.int x2), some (.int s.2), none] [oX0 ao io_seed, rI Y (ao 2) 10 s.1] []) (hf : fX0_weigh_b24 co_best x1 x2 x3 x4 k2 = some res) : ax X 0 0 24 [some (.ref (ao 0)), some (.int x1), some (.int x2), some (.int x3), some (.int x4)] [oX0 ao io_seed, rI Y (ao 2) 10 co_best] [] := by
  unfold fX0_weigh_b24 at hf
  exact fx_loop (P := fun s : (Nat → Int32) × Int32 => ax X 0 0 24 [some (.ref (ao 0)), some (.int x1), some (.int x2), some (.int x3), some (.int s.2)] [oX0 ao io_seed, rI Y (ao 2) 10 s.1] []) (fun s k24 hk24 h => kX0_weigh_l24 C hQ hk2 hk24 h) FUEL (co_best, x4) hf
def fX0_weigh_l2 (x1 : Int32) (x2 : Int32) (k2 : (Nat → Int32) × Int32 → Option ((Nat → Int32))) (co_best : Nat → Int32) (x3 : Int32) : Option ((Nat → Int32)) :=
  if (9 : Int32) < x3 then (fX0_weigh_b66 co_best) else ((fX0_share (0 : Int32) x3 x1 x2).bind (fun r5 => if inb x3 10 then fX0_weigh_b24 (upd co_best (Int32.toNatClampNeg x3) r5) x1 x2 x3 (1 : Int32) k2 else none))
def fX0_weigh_b2 (co_best : Nat → Int32) (x1 : Int32) (x2 : Int32) (x3 : Int32) : Option ((Nat → Int32)) :=
  loopN (fun (s : (Nat → Int32) × Int32) k2 => fX0_weigh_l2 x1 x2 k2 s.1 s.2) FUEL (co_best, x3)
set_option maxHeartbeats 400000 in
set_option maxRecDepth 100000 in
theorem kX0_weigh_l2 {X : cxT} {l : Launch} {D : va_G} {Y : Nat → ClassId} {ao : Nat → Nat} {io_seed : Int32} {co_best : Nat → Int32} {x1 : Int32} {x2 : Int32} {x3 : Int32} {res : (Nat → Int32)} (C : axC X l D Y cX0_weigh 5 RX0 wsX0_weigh rmX0_weigh none) (hQ : axQ X 0 0 (fun r9 w9 => r9 = none ∧ w9 = [oX0 ao io_seed, rI Y (ao 2) 10 res])) {k2 : (Nat → Int32) × Int32 → Option ((Nat → Int32))} (hk2 : ∀ s : (Nat → Int32) × Int32, k2 s = some res → ax X 0 0 2 [some (.ref (ao 0)), some (.int x1), some (.int x2), some (.int s.2), none] [oX0 ao io_seed, rI Y (ao 2) 10 s.1] []) (hf : fX0_weigh_l2 x1 x2 k2 co_best x3 = some res) : ax X 0 0 2 [some (.ref (ao 0)), some (.int x1), some (.int x2), some (.int x3), none] [oX0 ao io_seed, rI Y (ao 2) 10 co_best] [] := by
  unfold fX0_weigh_l2 at hf
  refine a_iload_n C dX0_weigh_2 rfl ?_
  refine a_bipush C (9 : Int32) dX0_weigh_3 (by decide) ?_
  refine a_icmp_gt C 66 dX0_weigh_5 (by decide) (fun h4 => ?_) (fun h4 => ?_)
  · have hf := fx_t h4 hf
    refine a_kill [0, 1, 2, 3] ?_
    exact kX0_weigh_b66 C hQ hf
  · have hf := fx_f h4 hf
    refine a_aload_n C dX0_weigh_8 rfl ?_
    refine a_get C (eB_X0_15 _) dX0_weigh_9 0 rfl rfl ?_
    refine a_iload_n C dX0_weigh_12 rfl ?_
    refine a_iconst C (0 : Int32) dX0_weigh_13 (by decide) ?_
    refine a_iload_n C dX0_weigh_14 rfl ?_
    refine a_iload_n C dX0_weigh_15 rfl ?_
    refine a_iload_n C dX0_weigh_16 rfl ?_
    obtain ⟨r5, h5, hf⟩ := fx_bind hf
    refine a_fS C (kX0_share l D Y (0 : Int32) x3 x1 x2 r5 h5) (gB_X0_38 _) rfl dvX0_share ⟨⟨rfl, rfl⟩, ⟨Nat.le_of_ble_eq_true rfl, Nat.le_of_ble_eq_true rfl⟩, ⟨Nat.le_of_ble_eq_true rfl, Nat.le_of_ble_eq_true rfl⟩⟩ rfl (Nat.le_of_ble_eq_true rfl) dX0_weigh_17 [] [0, 1] trivial (by decide +kernel) rfl [oX0 ao io_seed, rI Y (ao 2) 10 co_best] trivial ⟨rfl, rfl, trivial⟩ 2 rfl (by decide +kernel) ?_
    obtain ⟨h6, hf⟩ := fx_ite hf
    refine a_iast C dX0_weigh_20 1 rfl h6 ?_
    refine a_iconst C (1 : Int32) dX0_weigh_21 (by decide) ?_
    refine a_istore C dX0_weigh_22 (by decide) rfl ?_
    exact kX0_weigh_b24 C hQ hk2 hf
set_option maxHeartbeats 400000 in
set_option maxRecDepth 100000 in
theorem kX0_weigh_b2 {X : cxT} {l : Launch} {D : va_G} {Y : Nat → ClassId} {ao : Nat → Nat} {io_seed : Int32} {co_best : Nat → Int32} {x1 : Int32} {x2 : Int32} {x3 : Int32} {res : (Nat → Int32)} (C : axC X l D Y cX0_weigh 5 RX0 wsX0_weigh rmX0_weigh none) (hQ : axQ X 0 0 (fun r9 w9 => r9 = none ∧ w9 = [oX0 ao io_seed, rI Y (ao 2) 10 res])) (hf : fX0_weigh_b2 co_best x1 x2 x3 = some res) : ax X 0 0 2 [some (.ref (ao 0)), some (.int x1), some (.int x2), some (.int x3), none] [oX0 ao io_seed, rI Y (ao 2) 10 co_best] [] := by
  unfold fX0_weigh_b2 at hf
  exact fx_loop (P := fun s : (Nat → Int32) × Int32 => ax X 0 0 2 [some (.ref (ao 0)), some (.int x1), some (.int x2), some (.int s.2), none] [oX0 ao io_seed, rI Y (ao 2) 10 s.1] []) (fun s k2 hk2 h => kX0_weigh_l2 C hQ hk2 h) FUEL (co_best, x3) hf
def fX0_weigh (co_best : Nat → Int32) (x1 : Int32) (x2 : Int32) : Option ((Nat → Int32)) :=
  fX0_weigh_b2 co_best x1 x2 (0 : Int32)
set_option maxHeartbeats 400000 in
set_option maxRecDepth 100000 in
theorem kX0_weigh (l : Launch) (D : va_G) (Y : Nat → ClassId) (ao : Nat → Nat) (io_seed : Int32) (co_best : Nat → Int32) (x1 : Int32) (x2 : Int32) (res : (Nat → Int32)) (hf : fX0_weigh co_best x1 x2 = some res) : amf l D Y yX0_weigh wsX0_weigh rmX0_weigh [.ref (ao 0), .int x1, .int x2] [oX0 ao io_seed, rI Y (ao 2) 10 co_best] none [oX0 ao io_seed, rI Y (ao 2) 10 res] := by
  refine amf.of (cc := cX0_weigh) (maxL := 5) (rt := none) (by decide) rfl RX0 rfl (Nat.le_of_ble_eq_true rfl) [some (.ref (ao 0)), some (.int x1), some (.int x2), none, none] rfl ?_
  intro X C hQ
  unfold fX0_weigh at hf
  refine a_iconst C (0 : Int32) dX0_weigh_0 (by decide) ?_
  refine a_istore_n C dX0_weigh_1 (by decide) rfl ?_
  exact kX0_weigh_b2 C hQ hf
-- X0_atRest
abbrev rmX0_atRest : Room := { frames := 1, cells := 0, slots := 0, locals := 24 }
theorem dvX0_atRest : yX0_atRest.cls = RX0 ∧ yX0_atRest.cls ≠ "java/lang/invoke/MethodHandle" ∧ yX0_atRest.cls ≠ "java/lang/invoke/VarHandle" ∧ (parseMethodDescriptor yX0_atRest.desc).map (fun d => d.parameters.length) = some 4 := by decide +kernel
def fX0_atRest_b39 (co_best : Nat → Int32) (s0 : Int32) : Option (Int32) :=
  if s0 = 0 ∨ s0 = 1 then some s0 else none
set_option maxHeartbeats 400000 in
set_option maxRecDepth 100000 in
theorem kX0_atRest_b39 {X : cxT} {l : Launch} {D : va_G} {Y : Nat → ClassId} {ao : Nat → Nat} {io_seed : Int32} {co_best : Nat → Int32} {s0 : Int32} {res : Int32} (C : axC X l D Y cX0_atRest 5 RX0 wsX0_atRest rmX0_atRest (some .boolean)) (hQ : axQ X 0 0 (fun r9 w9 => r9 = (some (.int res)) ∧ w9 = [oX0 ao io_seed, rI Y (ao 2) 10 co_best])) (hf : fX0_atRest_b39 co_best s0 = some res) : ax X 0 0 39 [none, none, none, none, none] [oX0 ao io_seed, rI Y (ao 2) 10 co_best] [.int s0] := by
  unfold fX0_atRest_b39 at hf
  obtain ⟨h1, hf⟩ := fx_ite hf
  obtain rfl := fx_some hf
  exact a_zret C hQ h1 dX0_atRest_39 ⟨rfl, rfl⟩
def fX0_atRest_b38 (co_best : Nat → Int32) : Option (Int32) :=
  fX0_atRest_b39 co_best (0 : Int32)
set_option maxHeartbeats 400000 in
set_option maxRecDepth 100000 in
theorem kX0_atRest_b38 {X : cxT} {l : Launch} {D : va_G} {Y : Nat → ClassId} {ao : Nat → Nat} {io_seed : Int32} {co_best : Nat → Int32} {res : Int32} (C : axC X l D Y cX0_atRest 5 RX0 wsX0_atRest rmX0_atRest (some .boolean)) (hQ : axQ X 0 0 (fun r9 w9 => r9 = (some (.int res)) ∧ w9 = [oX0 ao io_seed, rI Y (ao 2) 10 co_best])) (hf : fX0_atRest_b38 co_best = some res) : ax X 0 0 38 [none, none, none, none, none] [oX0 ao io_seed, rI Y (ao 2) 10 co_best] [] := by
  unfold fX0_atRest_b38 at hf
  refine a_iconst C (0 : Int32) dX0_atRest_38 (by decide) ?_
  exact kX0_atRest_b39 C hQ hf
def fX0_atRest (co_best : Nat → Int32) (x1 : Int32) (x2 : Int32) (x3 : Int32) (x4 : Int32) : Option (Int32) :=
  (fX0_share x1 x2 x3 x4).bind (fun r2 => if inb x2 10 then if r2 = (co_best (Int32.toNatClampNeg x2)) then ((fX0_share x2 x1 x3 x4).bind (fun r5 => if inb x1 10 then if r5 = (co_best (Int32.toNatClampNeg x1)) then (fX0_atRest_b39 co_best (1 : Int32)) else (fX0_atRest_b38 co_best) else none)) else (fX0_atRest_b38 co_best) else none)
set_option maxHeartbeats 400000 in
set_option maxRecDepth 100000 in
theorem kX0_atRest (l : Launch) (D : va_G) (Y : Nat → ClassId) (ao : Nat → Nat) (io_seed : Int32) (co_best : Nat → Int32) (x1 : Int32) (x2 : Int32) (x3 : Int32) (x4 : Int32) (res : Int32) (hf : fX0_atRest co_best x1 x2 x3 x4 = some res) : amf l D Y yX0_atRest wsX0_atRest rmX0_atRest [.ref (ao 0), .int x1, .int x2, .int x3, .int x4] [oX0 ao io_seed, rI Y (ao 2) 10 co_best] (some (.int res)) [oX0 ao io_seed, rI Y (ao 2) 10 co_best] := by
  refine amf.of (cc := cX0_atRest) (maxL := 5) (rt := (some .boolean)) (by decide) rfl RX0 rfl (Nat.le_of_ble_eq_true rfl) [some (.ref (ao 0)), some (.int x1), some (.int x2), some (.int x3), some (.int x4)] rfl ?_
  intro X C hQ
  unfold fX0_atRest at hf
  refine a_iload_n C dX0_atRest_0 rfl ?_
  refine a_iload_n C dX0_atRest_1 rfl ?_
  refine a_iload_n C dX0_atRest_2 rfl ?_
  refine a_iload C dX0_atRest_3 rfl ?_
  obtain ⟨r2, h2, hf⟩ := fx_bind hf
  refine a_fS C (kX0_share l D Y x1 x2 x3 x4 r2 h2) (gB_X0_38 _) rfl dvX0_share ⟨⟨rfl, rfl⟩, ⟨Nat.le_of_ble_eq_true rfl, Nat.le_of_ble_eq_true rfl⟩, ⟨Nat.le_of_ble_eq_true rfl, Nat.le_of_ble_eq_true rfl⟩⟩ rfl (Nat.le_of_ble_eq_true rfl) dX0_atRest_5 [] [0, 1] trivial (by decide +kernel) rfl [oX0 ao io_seed, rI Y (ao 2) 10 co_best] trivial ⟨rfl, rfl, trivial⟩ 2 rfl (by decide +kernel) ?_
  refine a_aload_n C dX0_atRest_8 rfl ?_
  refine a_get C (eB_X0_15 _) dX0_atRest_9 0 rfl rfl ?_
  refine a_iload_n C dX0_atRest_12 rfl ?_
  obtain ⟨h3, hf⟩ := fx_ite hf
  refine a_iald C dX0_atRest_13 1 rfl h3 ?_
  refine a_icmp_ne C 38 dX0_atRest_14 (by decide) (fun h4 => ?_) (fun h4 => ?_)
  · have hf := fx_f h4 hf
    refine a_kill [0, 1, 2, 3, 4] ?_
    exact kX0_atRest_b38 C hQ hf
  · have hf := fx_t h4 hf
    refine a_iload_n C dX0_atRest_17 rfl ?_
    refine a_iload_n C dX0_atRest_18 rfl ?_
    refine a_iload_n C dX0_atRest_19 rfl ?_
    refine a_iload C dX0_atRest_20 rfl ?_
    obtain ⟨r5, h5, hf⟩ := fx_bind hf
    refine a_fS C (kX0_share l D Y x2 x1 x3 x4 r5 h5) (gB_X0_38 _) rfl dvX0_share ⟨⟨rfl, rfl⟩, ⟨Nat.le_of_ble_eq_true rfl, Nat.le_of_ble_eq_true rfl⟩, ⟨Nat.le_of_ble_eq_true rfl, Nat.le_of_ble_eq_true rfl⟩⟩ rfl (Nat.le_of_ble_eq_true rfl) dX0_atRest_22 [] [0, 1] trivial (by decide +kernel) rfl [oX0 ao io_seed, rI Y (ao 2) 10 co_best] trivial ⟨rfl, rfl, trivial⟩ 2 rfl (by decide +kernel) ?_
    refine a_aload_n C dX0_atRest_25 rfl ?_
    refine a_get C (eB_X0_15 _) dX0_atRest_26 0 rfl rfl ?_
    refine a_iload_n C dX0_atRest_29 rfl ?_
    obtain ⟨h6, hf⟩ := fx_ite hf
    refine a_iald C dX0_atRest_30 1 rfl h6 ?_
    refine a_icmp_ne C 38 dX0_atRest_31 (by decide) (fun h7 => ?_) (fun h7 => ?_)
    · have hf := fx_f h7 hf
      refine a_kill [0, 1, 2, 3, 4] ?_
      exact kX0_atRest_b38 C hQ hf
    · have hf := fx_t h7 hf
      refine a_iconst C (1 : Int32) dX0_atRest_34 (by decide) ?_
      refine a_goto C 39 dX0_atRest_35 (by decide) ?_
      refine a_kill [0, 1, 2, 3, 4] ?_
      exact kX0_atRest_b39 C hQ hf
-- X6_readNumber
abbrev rmX6_readNumber : Room := { frames := 2, cells := 0, slots := 0, locals := 43 }
theorem dvX6_readNumber : yX6_readNumber.cls = RX6 ∧ yX6_readNumber.cls ≠ "java/lang/invoke/MethodHandle" ∧ yX6_readNumber.cls ≠ "java/lang/invoke/VarHandle" ∧ (parseMethodDescriptor yX6_readNumber.desc).map (fun d => d.parameters.length) = some 1 := by decide +kernel
def fX6_readNumber_b43 (io_length : Int32) (io_at : Int32) (io_sign : Int32) (co_codes : Nat → Int32) (ip1_length : Int32) (cp1_signs : Nat → Int32) (x2 : Int32) : Option (Int32 × Int32 × Int32 × (Nat → Int32)) :=
  (fX6_put io_length co_codes x2).bind (fun r1 => some (r1.1, io_at, io_sign, r1.2))
set_option maxHeartbeats 400000 in
set_option maxRecDepth 100000 in
theorem kX6_readNumber_b43 {X : cxT} {l : Launch} {D : va_G} {Y : Nat → ClassId} {ao ap1 : Nat → Nat} {io_length : Int32} {io_at : Int32} {io_sign : Int32} {io_bad : Int32} {co_codes : Nat → Int32} {ip1_length : Int32} {cp1_signs : Nat → Int32} {x2 : Int32} {res : Int32 × Int32 × Int32 × (Nat → Int32)} (C : axC X l D Y cX6_readNumber 4 RX6 wsX6_readNumber rmX6_readNumber none) (hQ : axQ X 0 0 (fun r9 w9 => r9 = none ∧ w9 = [oX6 ao res.1 res.2.1 res.2.2.1 io_bad, rI Y (ao 1) 40 res.2.2.2, oX10 ap1 ip1_length, rC Y (ap1 1) 80 cp1_signs])) (hf : fX6_readNumber_b43 io_length io_at io_sign co_codes ip1_length cp1_signs x2 = some res) : ax X 0 0 43 [some (.ref (ao 0)), none, some (.int x2), none] [oX6 ao io_length io_at io_sign io_bad, rI Y (ao 1) 40 co_codes, oX10 ap1 ip1_length, rC Y (ap1 1) 80 cp1_signs] [] := by
  unfold fX6_readNumber_b43 at hf
  refine a_aload_n C dX6_readNumber_43 rfl ?_
  refine a_iload_n C dX6_readNumber_44 rfl ?_
  obtain ⟨r1, h1, hf⟩ := fx_bind hf
  refine a_fV C (kX6_put l D Y ao io_length io_at io_sign io_bad co_codes x2 r1 h1) (gB_X6_57 _) rfl dvX6_put ⟨⟨rfl, rfl⟩, ⟨Nat.le_of_ble_eq_true rfl, Nat.le_of_ble_eq_true rfl⟩, ⟨Nat.le_of_ble_eq_true rfl, Nat.le_of_ble_eq_true rfl⟩⟩ rfl (Nat.le_of_ble_eq_true rfl) dX6_readNumber_45 rfl rfl [0, 1] [2, 3] ⟨rfl, rfl, trivial⟩ (by decide +kernel) rfl [oX6 ao r1.1 io_at io_sign io_bad, rI Y (ao 1) 40 r1.2, oX10 ap1 ip1_length, rC Y (ap1 1) 80 cp1_signs] ⟨rfl, rfl, trivial⟩ ⟨rfl, rfl, trivial⟩ 4 rfl (by decide +kernel) ?_
  obtain rfl := fx_some hf
  exact a_vret C hQ dX6_readNumber_48 ⟨rfl, rfl⟩
def fX6_readNumber_l4 (io_length : Int32) (co_codes : Nat → Int32) (ip1_length : Int32) (cp1_signs : Nat → Int32) (k4 : Int32 × Int32 × Int32 × Int32 → Option (Int32 × Int32 × Int32 × (Nat → Int32))) (io_at : Int32) (io_sign : Int32) (x2 : Int32) (x3 : Int32) : Option (Int32 × Int32 × Int32 × (Nat → Int32)) :=
  if (3 : Int32) ≤ x3 then (fX6_readNumber_b43 io_length io_at io_sign co_codes ip1_length cp1_signs x2) else ((fX11_isDigit io_sign).bind (fun r3 => if r3 = (0 : Int32) then (fX6_readNumber_b43 io_length io_at io_sign co_codes ip1_length cp1_signs x2) else ((fX6_step io_at io_sign ip1_length cp1_signs).bind (fun r5 => k4 (r5.1, r5.2, ((((10 : Int32) * x2) + io_sign) - (48 : Int32)), (x3 + (1 : Int32)))))))
def fX6_readNumber_b4 (io_length : Int32) (io_at : Int32) (io_sign : Int32) (co_codes : Nat → Int32) (ip1_length : Int32) (cp1_signs : Nat → Int32) (x2 : Int32) (x3 : Int32) : Option (Int32 × Int32 × Int32 × (Nat → Int32)) :=
  loopN (fun (s : Int32 × Int32 × Int32 × Int32) k4 => fX6_readNumber_l4 io_length co_codes ip1_length cp1_signs k4 s.1 s.2.1 s.2.2.1 s.2.2.2) FUEL (io_at, io_sign, x2, x3)
set_option maxHeartbeats 400000 in
set_option maxRecDepth 100000 in
theorem kX6_readNumber_l4 {X : cxT} {l : Launch} {D : va_G} {Y : Nat → ClassId} {ao ap1 : Nat → Nat} {io_length : Int32} {io_at : Int32} {io_sign : Int32} {io_bad : Int32} {co_codes : Nat → Int32} {ip1_length : Int32} {cp1_signs : Nat → Int32} {x2 : Int32} {x3 : Int32} {res : Int32 × Int32 × Int32 × (Nat → Int32)} (C : axC X l D Y cX6_readNumber 4 RX6 wsX6_readNumber rmX6_readNumber none) (hQ : axQ X 0 0 (fun r9 w9 => r9 = none ∧ w9 = [oX6 ao res.1 res.2.1 res.2.2.1 io_bad, rI Y (ao 1) 40 res.2.2.2, oX10 ap1 ip1_length, rC Y (ap1 1) 80 cp1_signs])) {k4 : Int32 × Int32 × Int32 × Int32 → Option (Int32 × Int32 × Int32 × (Nat → Int32))} (hk4 : ∀ s : Int32 × Int32 × Int32 × Int32, k4 s = some res → ax X 0 0 4 [some (.ref (ao 0)), some (.ref (ap1 0)), some (.int s.2.2.1), some (.int s.2.2.2)] [oX6 ao io_length s.1 s.2.1 io_bad, rI Y (ao 1) 40 co_codes, oX10 ap1 ip1_length, rC Y (ap1 1) 80 cp1_signs] []) (hf : fX6_readNumber_l4 io_length co_codes ip1_length cp1_signs k4 io_at io_sign x2 x3 = some res) : ax X 0 0 4 [some (.ref (ao 0)), some (.ref (ap1 0)), some (.int x2), some (.int x3)] [oX6 ao io_length io_at io_sign io_bad, rI Y (ao 1) 40 co_codes, oX10 ap1 ip1_length, rC Y (ap1 1) 80 cp1_signs] [] := by
  unfold fX6_readNumber_l4 at hf
  refine a_iload_n C dX6_readNumber_4 rfl ?_
  refine a_iconst C (3 : Int32) dX6_readNumber_5 (by decide) ?_
  refine a_icmp_ge C 43 dX6_readNumber_6 (by decide) (fun h2 => ?_) (fun h2 => ?_)
  · have hf := fx_t h2 hf
    refine a_kill [1, 3] ?_
    exact kX6_readNumber_b43 C hQ hf
  · have hf := fx_f h2 hf
    refine a_aload_n C dX6_readNumber_9 rfl ?_
    refine a_get C (eB_X6_54 _) dX6_readNumber_10 0 rfl rfl ?_
    obtain ⟨r3, h3, hf⟩ := fx_bind hf
    refine a_fN C RX11 (kX11_isDigit l D Y io_sign r3 h3) (gB_X6_67 _) rfl (by decide +kernel) (wB_X6_iX11 _) (wB_X6_sX11_isDigit _) dvX11_isDigit ⟨⟨rfl, rfl⟩, ⟨Nat.le_of_ble_eq_true rfl, Nat.le_of_ble_eq_true rfl⟩, ⟨Nat.le_of_ble_eq_true rfl, Nat.le_of_ble_eq_true rfl⟩⟩ rfl (Nat.le_of_ble_eq_true rfl) dX6_readNumber_13 [] [0, 1, 2, 3] trivial (by decide +kernel) rfl [oX6 ao io_length io_at io_sign io_bad, rI Y (ao 1) 40 co_codes, oX10 ap1 ip1_length, rC Y (ap1 1) 80 cp1_signs] trivial ⟨rfl, rfl, rfl, rfl, trivial⟩ 4 rfl (by decide +kernel) ?_
    refine a_if_eq C 43 dX6_readNumber_16 (by decide) (fun h4 => ?_) (fun h4 => ?_)
    · have hf := fx_t h4 hf
      refine a_kill [1, 3] ?_
      exact kX6_readNumber_b43 C hQ hf
    · have hf := fx_f h4 hf
      refine a_bipush C (10 : Int32) dX6_readNumber_19 (by decide) ?_
      refine a_iload_n C dX6_readNumber_21 rfl ?_
      refine a_imul C dX6_readNumber_22 ?_
      refine a_aload_n C dX6_readNumber_23 rfl ?_
      refine a_get C (eB_X6_54 _) dX6_readNumber_24 0 rfl rfl ?_
      refine a_iadd C dX6_readNumber_27 ?_
      refine a_bipush C (48 : Int32) dX6_readNumber_28 (by decide) ?_
      refine a_isub C dX6_readNumber_30 ?_
      refine a_istore_n C dX6_readNumber_31 (by decide) rfl ?_
      refine a_aload_n C dX6_readNumber_32 rfl ?_
      refine a_aload_n C dX6_readNumber_33 rfl ?_
      obtain ⟨r5, h5, hf⟩ := fx_bind hf
      refine a_fV C (kX6_step l D Y ao ap1 io_length io_at io_sign io_bad ip1_length cp1_signs r5 h5) (gB_X6_43 _) rfl dvX6_step ⟨⟨rfl, rfl⟩, ⟨Nat.le_of_ble_eq_true rfl, Nat.le_of_ble_eq_true rfl⟩, ⟨Nat.le_of_ble_eq_true rfl, Nat.le_of_ble_eq_true rfl⟩⟩ rfl (Nat.le_of_ble_eq_true rfl) dX6_readNumber_34 rfl rfl [0, 2, 3] [1] ⟨rfl, rfl, rfl, trivial⟩ (by decide +kernel) rfl [oX6 ao io_length r5.1 r5.2 io_bad, rI Y (ao 1) 40 co_codes, oX10 ap1 ip1_length, rC Y (ap1 1) 80 cp1_signs] ⟨rfl, rfl, rfl, trivial⟩ ⟨rfl, trivial⟩ 4 rfl (by decide +kernel) ?_
      refine a_iinc C (1 : Int32) dX6_readNumber_37 (by decide) rfl (by decide) rfl ?_
      refine a_goto C 4 dX6_readNumber_40 (by decide) ?_
      exact hk4 (r5.1, r5.2, ((((10 : Int32) * x2) + io_sign) - (48 : Int32)), (x3 + (1 : Int32))) hf
set_option maxHeartbeats 400000 in
set_option maxRecDepth 100000 in
theorem kX6_readNumber_b4 {X : cxT} {l : Launch} {D : va_G} {Y : Nat → ClassId} {ao ap1 : Nat → Nat} {io_length : Int32} {io_at : Int32} {io_sign : Int32} {io_bad : Int32} {co_codes : Nat → Int32} {ip1_length : Int32} {cp1_signs : Nat → Int32} {x2 : Int32} {x3 : Int32} {res : Int32 × Int32 × Int32 × (Nat → Int32)} (C : axC X l D Y cX6_readNumber 4 RX6 wsX6_readNumber rmX6_readNumber none) (hQ : axQ X 0 0 (fun r9 w9 => r9 = none ∧ w9 = [oX6 ao res.1 res.2.1 res.2.2.1 io_bad, rI Y (ao 1) 40 res.2.2.2, oX10 ap1 ip1_length, rC Y (ap1 1) 80 cp1_signs])) (hf : fX6_readNumber_b4 io_length io_at io_sign co_codes ip1_length cp1_signs x2 x3 = some res) : ax X 0 0 4 [some (.ref (ao 0)), some (.ref (ap1 0)), some (.int x2), some (.int x3)] [oX6 ao io_length io_at io_sign io_bad, rI Y (ao 1) 40 co_codes, oX10 ap1 ip1_length, rC Y (ap1 1) 80 cp1_signs] [] := by
  unfold fX6_readNumber_b4 at hf
  exact fx_loop (P := fun s : Int32 × Int32 × Int32 × Int32 => ax X 0 0 4 [some (.ref (ao 0)), some (.ref (ap1 0)), some (.int s.2.2.1), some (.int s.2.2.2)] [oX6 ao io_length s.1 s.2.1 io_bad, rI Y (ao 1) 40 co_codes, oX10 ap1 ip1_length, rC Y (ap1 1) 80 cp1_signs] []) (fun s k4 hk4 h => kX6_readNumber_l4 C hQ hk4 h) FUEL (io_at, io_sign, x2, x3) hf
def fX6_readNumber (io_length : Int32) (io_at : Int32) (io_sign : Int32) (co_codes : Nat → Int32) (ip1_length : Int32) (cp1_signs : Nat → Int32) : Option (Int32 × Int32 × Int32 × (Nat → Int32)) :=
  fX6_readNumber_b4 io_length io_at io_sign co_codes ip1_length cp1_signs (0 : Int32) (0 : Int32)
set_option maxHeartbeats 400000 in
set_option maxRecDepth 100000 in
theorem kX6_readNumber (l : Launch) (D : va_G) (Y : Nat → ClassId) (ao ap1 : Nat → Nat) (io_length : Int32) (io_at : Int32) (io_sign : Int32) (io_bad : Int32) (co_codes : Nat → Int32) (ip1_length : Int32) (cp1_signs : Nat → Int32) (res : Int32 × Int32 × Int32 × (Nat → Int32)) (hf : fX6_readNumber io_length io_at io_sign co_codes ip1_length cp1_signs = some res) : amf l D Y yX6_readNumber wsX6_readNumber rmX6_readNumber [.ref (ao 0), .ref (ap1 0)] [oX6 ao io_length io_at io_sign io_bad, rI Y (ao 1) 40 co_codes, oX10 ap1 ip1_length, rC Y (ap1 1) 80 cp1_signs] none [oX6 ao res.1 res.2.1 res.2.2.1 io_bad, rI Y (ao 1) 40 res.2.2.2, oX10 ap1 ip1_length, rC Y (ap1 1) 80 cp1_signs] := by
  refine amf.of (cc := cX6_readNumber) (maxL := 4) (rt := none) (by decide) rfl RX6 rfl (Nat.le_of_ble_eq_true rfl) [some (.ref (ao 0)), some (.ref (ap1 0)), none, none] rfl ?_
  intro X C hQ
  unfold fX6_readNumber at hf
  refine a_iconst C (0 : Int32) dX6_readNumber_0 (by decide) ?_
  refine a_istore_n C dX6_readNumber_1 (by decide) rfl ?_
  refine a_iconst C (0 : Int32) dX6_readNumber_2 (by decide) ?_
  refine a_istore_n C dX6_readNumber_3 (by decide) rfl ?_
  exact kX6_readNumber_b4 C hQ hf
-- X6_value
abbrev rmX6_value : Room := { frames := 2, cells := 0, slots := 0, locals := 42 }
theorem dvX6_value : yX6_value.cls = RX6 ∧ yX6_value.cls ≠ "java/lang/invoke/MethodHandle" ∧ yX6_value.cls ≠ "java/lang/invoke/VarHandle" ∧ (parseMethodDescriptor yX6_value.desc).map (fun d => d.parameters.length) = some 4 := by decide +kernel
def fX6_value_b138 (io_length : Int32) (co_codes : Nat → Int32) (co_stack : Nat → Int32) : Option (Int32 × (Nat → Int32)) :=
  if inb (0 : Int32) 40 then (fX11_clamp (co_stack (Int32.toNatClampNeg (0 : Int32))) (999 : Int32)).bind (fun r2 => some (r2, co_stack)) else none
set_option maxHeartbeats 400000 in
set_option maxRecDepth 100000 in
theorem kX6_value_b138 {X : cxT} {l : Launch} {D : va_G} {Y : Nat → ClassId} {ao : Nat → Nat} {io_length : Int32} {io_at : Int32} {io_sign : Int32} {io_bad : Int32} {co_codes : Nat → Int32} {co_stack : Nat → Int32} {res : Int32 × (Nat → Int32)} (C : axC X l D Y cX6_value 8 RX6 wsX6_value rmX6_value (some .int)) (hQ : axQ X 0 0 (fun r9 w9 => r9 = (some (.int res.1)) ∧ w9 = [oX6 ao io_length io_at io_sign io_bad, rI Y (ao 1) 40 co_codes, rI Y (ao 2) 40 res.2])) (hf : fX6_value_b138 io_length co_codes co_stack = some res) : ax X 0 0 138 [some (.ref (ao 0)), none, none, none, none, none, none, none] [oX6 ao io_length io_at io_sign io_bad, rI Y (ao 1) 40 co_codes, rI Y (ao 2) 40 co_stack] [] := by
  unfold fX6_value_b138 at hf
  refine a_aload_n C dX6_value_138 rfl ?_
  refine a_get C (eB_X6_15 _) dX6_value_139 0 rfl rfl ?_
  refine a_iconst C (0 : Int32) dX6_value_142 (by decide) ?_
  obtain ⟨h1, hf⟩ := fx_ite hf
  refine a_iald C dX6_value_143 2 rfl h1 ?_
  refine a_sipush C (999 : Int32) dX6_value_144 (by decide) ?_
  obtain ⟨r2, h2, hf⟩ := fx_bind hf
  refine a_fN C RX11 (kX11_clamp l D Y (co_stack (Int32.toNatClampNeg (0 : Int32))) (999 : Int32) r2 h2) (gB_X6_93 _) rfl (by decide +kernel) (wB_X6_iX11 _) (wB_X6_sX11_clamp _) dvX11_clamp ⟨⟨rfl, rfl⟩, ⟨Nat.le_of_ble_eq_true rfl, Nat.le_of_ble_eq_true rfl⟩, ⟨Nat.le_of_ble_eq_true rfl, Nat.le_of_ble_eq_true rfl⟩⟩ rfl (Nat.le_of_ble_eq_true rfl) dX6_value_147 [] [0, 1, 2] trivial (by decide +kernel) rfl [oX6 ao io_length io_at io_sign io_bad, rI Y (ao 1) 40 co_codes, rI Y (ao 2) 40 co_stack] trivial ⟨rfl, rfl, rfl, trivial⟩ 3 rfl (by decide +kernel) ?_
  obtain rfl := fx_some hf
  exact a_iret C hQ dX6_value_150 ⟨rfl, rfl⟩
def fX6_value_b132 (io_length : Int32) (co_codes : Nat → Int32) (co_stack : Nat → Int32) (x1 : Int32) (x2 : Int32) (x3 : Int32) (x4 : Int32) (x5 : Int32) (x6 : Int32) (k6 : (Nat → Int32) × Int32 × Int32 → Option (Int32 × (Nat → Int32))) : Option (Int32 × (Nat → Int32)) :=
  k6 (co_stack, x5, (x6 + (1 : Int32)))
set_option maxHeartbeats 400000 in
set_option maxRecDepth 100000 in
theorem kX6_value_b132 {X : cxT} {l : Launch} {D : va_G} {Y : Nat → ClassId} {ao : Nat → Nat} {io_length : Int32} {io_at : Int32} {io_sign : Int32} {io_bad : Int32} {co_codes : Nat → Int32} {co_stack : Nat → Int32} {x1 : Int32} {x2 : Int32} {x3 : Int32} {x4 : Int32} {x5 : Int32} {x6 : Int32} {res : Int32 × (Nat → Int32)} (C : axC X l D Y cX6_value 8 RX6 wsX6_value rmX6_value (some .int)) (hQ : axQ X 0 0 (fun r9 w9 => r9 = (some (.int res.1)) ∧ w9 = [oX6 ao io_length io_at io_sign io_bad, rI Y (ao 1) 40 co_codes, rI Y (ao 2) 40 res.2])) {k6 : (Nat → Int32) × Int32 × Int32 → Option (Int32 × (Nat → Int32))} (hk6 : ∀ s : (Nat → Int32) × Int32 × Int32, k6 s = some res → ax X 0 0 6 [some (.ref (ao 0)), some (.int x1), some (.int x2), some (.int x3), some (.int x4), some (.int s.2.1), some (.int s.2.2), none] [oX6 ao io_length io_at io_sign io_bad, rI Y (ao 1) 40 co_codes, rI Y (ao 2) 40 s.1] []) (hf : fX6_value_b132 io_length co_codes co_stack x1 x2 x3 x4 x5 x6 k6 = some res) : ax X 0 0 132 [some (.ref (ao 0)), some (.int x1), some (.int x2), some (.int x3), some (.int x4), some (.int x5), some (.int x6), none] [oX6 ao io_length io_at io_sign io_bad, rI Y (ao 1) 40 co_codes, rI Y (ao 2) 40 co_stack] [] := by
  unfold fX6_value_b132 at hf
  refine a_iinc C (1 : Int32) dX6_value_132 (by decide) rfl (by decide) rfl ?_
  refine a_goto C 6 dX6_value_135 (by decide) ?_
  exact hk6 (co_stack, x5, (x6 + (1 : Int32))) hf
def fX6_value_b93 (io_length : Int32) (co_codes : Nat → Int32) (co_stack : Nat → Int32) (x1 : Int32) (x2 : Int32) (x3 : Int32) (x4 : Int32) (x5 : Int32) (x6 : Int32) (x7 : Int32) (k6 : (Nat → Int32) × Int32 × Int32 → Option (Int32 × (Nat → Int32))) : Option (Int32 × (Nat → Int32)) :=
  if x5 ≤ (1 : Int32) then (fX6_value_b132 io_length co_codes co_stack x1 x2 x3 x4 x5 x6 k6) else (if inb ((x5 + (-1 : Int32)) - (1 : Int32)) 40 then if inb (x5 + (-1 : Int32)) 40 then (fX6_joined x7 (co_stack (Int32.toNatClampNeg ((x5 + (-1 : Int32)) - (1 : Int32)))) (co_stack (Int32.toNatClampNeg (x5 + (-1 : Int32))))).bind (fun r6 => fX6_value_b132 io_length co_codes (upd co_stack (Int32.toNatClampNeg ((x5 + (-1 : Int32)) - (1 : Int32))) r6) x1 x2 x3 x4 (x5 + (-1 : Int32)) x6 k6) else none else none)
set_option maxHeartbeats 400000 in
set_option maxRecDepth 100000 in
theorem kX6_value_b93 {X : cxT} {l : Launch} {D : va_G} {Y : Nat → ClassId} {ao : Nat → Nat} {io_length : Int32} {io_at : Int32} {io_sign : Int32} {io_bad : Int32} {co_codes : Nat → Int32} {co_stack : Nat → Int32} {x1 : Int32} {x2 : Int32} {x3 : Int32} {x4 : Int32} {x5 : Int32} {x6 : Int32} {x7 : Int32} {res : Int32 × (Nat → Int32)} (C : axC X l D Y cX6_value 8 RX6 wsX6_value rmX6_value (some .int)) (hQ : axQ X 0 0 (fun r9 w9 => r9 = (some (.int res.1)) ∧ w9 = [oX6 ao io_length io_at io_sign io_bad, rI Y (ao 1) 40 co_codes, rI Y (ao 2) 40 res.2])) {k6 : (Nat → Int32) × Int32 × Int32 → Option (Int32 × (Nat → Int32))} (hk6 : ∀ s : (Nat → Int32) × Int32 × Int32, k6 s = some res → ax X 0 0 6 [some (.ref (ao 0)), some (.int x1), some (.int x2), some (.int x3), some (.int x4), some (.int s.2.1), some (.int s.2.2), none] [oX6 ao io_length io_at io_sign io_bad, rI Y (ao 1) 40 co_codes, rI Y (ao 2) 40 s.1] []) (hf : fX6_value_b93 io_length co_codes co_stack x1 x2 x3 x4 x5 x6 x7 k6 = some res) : ax X 0 0 93 [some (.ref (ao 0)), some (.int x1), some (.int x2), some (.int x3), some (.int x4), some (.int x5), some (.int x6), some (.int x7)] [oX6 ao io_length io_at io_sign io_bad, rI Y (ao 1) 40 co_codes, rI Y (ao 2) 40 co_stack] [] := by
  unfold fX6_value_b93 at hf
  refine a_iload C dX6_value_93 rfl ?_
  refine a_iconst C (1 : Int32) dX6_value_95 (by decide) ?_
  refine a_icmp_le C 132 dX6_value_96 (by decide) (fun h3 => ?_) (fun h3 => ?_)
  · have hf := fx_t h3 hf
    refine a_kill [7] ?_
    exact kX6_value_b132 C hQ hk6 hf
  · have hf := fx_f h3 hf
    refine a_iinc C (-1 : Int32) dX6_value_99 (by decide) rfl (by decide) rfl ?_
    refine a_aload_n C dX6_value_102 rfl ?_
    refine a_get C (eB_X6_15 _) dX6_value_103 0 rfl rfl ?_
    refine a_iload C dX6_value_106 rfl ?_
    refine a_iconst C (1 : Int32) dX6_value_108 (by decide) ?_
    refine a_isub C dX6_value_109 ?_
    refine a_iload C dX6_value_110 rfl ?_
    refine a_aload_n C dX6_value_112 rfl ?_
    refine a_get C (eB_X6_15 _) dX6_value_113 0 rfl rfl ?_
    refine a_iload C dX6_value_116 rfl ?_
    refine a_iconst C (1 : Int32) dX6_value_118 (by decide) ?_
    refine a_isub C dX6_value_119 ?_
    obtain ⟨h4, hf⟩ := fx_ite hf
    refine a_iald C dX6_value_120 2 rfl h4 ?_
    refine a_aload_n C dX6_value_121 rfl ?_
    refine a_get C (eB_X6_15 _) dX6_value_122 0 rfl rfl ?_
    refine a_iload C dX6_value_125 rfl ?_
    obtain ⟨h5, hf⟩ := fx_ite hf
    refine a_iald C dX6_value_127 2 rfl h5 ?_
    obtain ⟨r6, h6, hf⟩ := fx_bind hf
    refine a_fS C (kX6_joined l D Y x7 (co_stack (Int32.toNatClampNeg ((x5 + (-1 : Int32)) - (1 : Int32)))) (co_stack (Int32.toNatClampNeg (x5 + (-1 : Int32)))) r6 h6) (gB_X6_89 _) rfl dvX6_joined ⟨⟨rfl, rfl⟩, ⟨Nat.le_of_ble_eq_true rfl, Nat.le_of_ble_eq_true rfl⟩, ⟨Nat.le_of_ble_eq_true rfl, Nat.le_of_ble_eq_true rfl⟩⟩ rfl (Nat.le_of_ble_eq_true rfl) dX6_value_128 [] [0, 1, 2] trivial (by decide +kernel) rfl [oX6 ao io_length io_at io_sign io_bad, rI Y (ao 1) 40 co_codes, rI Y (ao 2) 40 co_stack] trivial ⟨rfl, rfl, rfl, trivial⟩ 3 rfl (by decide +kernel) ?_
    refine a_iast C dX6_value_131 2 rfl h4 ?_
    refine a_kill [7] ?_
    exact kX6_value_b132 C hQ hk6 hf
def fX6_value_b59 (io_length : Int32) (co_codes : Nat → Int32) (co_stack : Nat → Int32) (x1 : Int32) (x2 : Int32) (x3 : Int32) (x4 : Int32) (x5 : Int32) (x6 : Int32) (x7 : Int32) (k6 : (Nat → Int32) × Int32 × Int32 → Option (Int32 × (Nat → Int32))) : Option (Int32 × (Nat → Int32)) :=
  if x7 = (-8 : Int32) then (if x5 ≤ (0 : Int32) then (fX6_value_b93 io_length co_codes co_stack x1 x2 x3 x4 x5 x6 x7 k6) else (if inb (x5 - (1 : Int32)) 40 then fX6_value_b132 io_length co_codes (upd co_stack (Int32.toNatClampNeg (x5 - (1 : Int32))) (-(co_stack (Int32.toNatClampNeg (x5 - (1 : Int32)))))) x1 x2 x3 x4 x5 x6 k6 else none)) else (fX6_value_b93 io_length co_codes co_stack x1 x2 x3 x4 x5 x6 x7 k6)
set_option maxHeartbeats 400000 in
set_option maxRecDepth 100000 in
theorem kX6_value_b59 {X : cxT} {l : Launch} {D : va_G} {Y : Nat → ClassId} {ao : Nat → Nat} {io_length : Int32} {io_at : Int32} {io_sign : Int32} {io_bad : Int32} {co_codes : Nat → Int32} {co_stack : Nat → Int32} {x1 : Int32} {x2 : Int32} {x3 : Int32} {x4 : Int32} {x5 : Int32} {x6 : Int32} {x7 : Int32} {res : Int32 × (Nat → Int32)} (C : axC X l D Y cX6_value 8 RX6 wsX6_value rmX6_value (some .int)) (hQ : axQ X 0 0 (fun r9 w9 => r9 = (some (.int res.1)) ∧ w9 = [oX6 ao io_length io_at io_sign io_bad, rI Y (ao 1) 40 co_codes, rI Y (ao 2) 40 res.2])) {k6 : (Nat → Int32) × Int32 × Int32 → Option (Int32 × (Nat → Int32))} (hk6 : ∀ s : (Nat → Int32) × Int32 × Int32, k6 s = some res → ax X 0 0 6 [some (.ref (ao 0)), some (.int x1), some (.int x2), some (.int x3), some (.int x4), some (.int s.2.1), some (.int s.2.2), none] [oX6 ao io_length io_at io_sign io_bad, rI Y (ao 1) 40 co_codes, rI Y (ao 2) 40 s.1] []) (hf : fX6_value_b59 io_length co_codes co_stack x1 x2 x3 x4 x5 x6 x7 k6 = some res) : ax X 0 0 59 [some (.ref (ao 0)), some (.int x1), some (.int x2), some (.int x3), some (.int x4), some (.int x5), some (.int x6), some (.int x7)] [oX6 ao io_length io_at io_sign io_bad, rI Y (ao 1) 40 co_codes, rI Y (ao 2) 40 co_stack] [] := by
  unfold fX6_value_b59 at hf
  refine a_iload C dX6_value_59 rfl ?_
  refine a_bipush C (-8 : Int32) dX6_value_61 (by decide) ?_
  refine a_icmp_ne C 93 dX6_value_63 (by decide) (fun h7 => ?_) (fun h7 => ?_)
  · have hf := fx_f h7 hf
    exact kX6_value_b93 C hQ hk6 hf
  · have hf := fx_t h7 hf
    refine a_iload C dX6_value_66 rfl ?_
    refine a_if_le C 93 dX6_value_68 (by decide) (fun h8 => ?_) (fun h8 => ?_)
    · have hf := fx_t h8 hf
      exact kX6_value_b93 C hQ hk6 hf
    · have hf := fx_f h8 hf
      refine a_aload_n C dX6_value_71 rfl ?_
      refine a_get C (eB_X6_15 _) dX6_value_72 0 rfl rfl ?_
      refine a_iload C dX6_value_75 rfl ?_
      refine a_iconst C (1 : Int32) dX6_value_77 (by decide) ?_
      refine a_isub C dX6_value_78 ?_
      refine a_aload_n C dX6_value_79 rfl ?_
      refine a_get C (eB_X6_15 _) dX6_value_80 0 rfl rfl ?_
      refine a_iload C dX6_value_83 rfl ?_
      refine a_iconst C (1 : Int32) dX6_value_85 (by decide) ?_
      refine a_isub C dX6_value_86 ?_
      obtain ⟨h9, hf⟩ := fx_ite hf
      refine a_iald C dX6_value_87 2 rfl h9 ?_
      refine a_ineg C dX6_value_88 ?_
      refine a_iast C dX6_value_89 2 rfl h9 ?_
      refine a_goto C 132 dX6_value_90 (by decide) ?_
      refine a_kill [7] ?_
      exact kX6_value_b132 C hQ hk6 hf
def fX6_value_l6 (io_length : Int32) (co_codes : Nat → Int32) (x1 : Int32) (x2 : Int32) (x3 : Int32) (x4 : Int32) (k6 : (Nat → Int32) × Int32 × Int32 → Option (Int32 × (Nat → Int32))) (co_stack : Nat → Int32) (x5 : Int32) (x6 : Int32) : Option (Int32 × (Nat → Int32)) :=
  if io_length ≤ x6 then (fX6_value_b138 io_length co_codes co_stack) else (if inb x6 40 then if (co_codes (Int32.toNatClampNeg x6)) < (0 : Int32) then (fX6_value_b59 io_length co_codes co_stack x1 x2 x3 x4 x5 x6 (co_codes (Int32.toNatClampNeg x6)) k6) else (if (40 : Int32) ≤ x5 then (fX6_value_b59 io_length co_codes co_stack x1 x2 x3 x4 x5 x6 (co_codes (Int32.toNatClampNeg x6)) k6) else ((fX6_operand (co_codes (Int32.toNatClampNeg x6)) x1 x2 x3 x4).bind (fun r14 => if inb x5 40 then fX6_value_b132 io_length co_codes (upd co_stack (Int32.toNatClampNeg x5) r14) x1 x2 x3 x4 (x5 + (1 : Int32)) x6 k6 else none))) else none)
def fX6_value_b6 (io_length : Int32) (co_codes : Nat → Int32) (co_stack : Nat → Int32) (x1 : Int32) (x2 : Int32) (x3 : Int32) (x4 : Int32) (x5 : Int32) (x6 : Int32) : Option (Int32 × (Nat → Int32)) :=
  loopN (fun (s : (Nat → Int32) × Int32 × Int32) k6 => fX6_value_l6 io_length co_codes x1 x2 x3 x4 k6 s.1 s.2.1 s.2.2) FUEL (co_stack, x5, x6)
set_option maxHeartbeats 400000 in
set_option maxRecDepth 100000 in
theorem kX6_value_l6 {X : cxT} {l : Launch} {D : va_G} {Y : Nat → ClassId} {ao : Nat → Nat} {io_length : Int32} {io_at : Int32} {io_sign : Int32} {io_bad : Int32} {co_codes : Nat → Int32} {co_stack : Nat → Int32} {x1 : Int32} {x2 : Int32} {x3 : Int32} {x4 : Int32} {x5 : Int32} {x6 : Int32} {res : Int32 × (Nat → Int32)} (C : axC X l D Y cX6_value 8 RX6 wsX6_value rmX6_value (some .int)) (hQ : axQ X 0 0 (fun r9 w9 => r9 = (some (.int res.1)) ∧ w9 = [oX6 ao io_length io_at io_sign io_bad, rI Y (ao 1) 40 co_codes, rI Y (ao 2) 40 res.2])) {k6 : (Nat → Int32) × Int32 × Int32 → Option (Int32 × (Nat → Int32))} (hk6 : ∀ s : (Nat → Int32) × Int32 × Int32, k6 s = some res → ax X 0 0 6 [some (.ref (ao 0)), some (.int x1), some (.int x2), some (.int x3), some (.int x4), some (.int s.2.1), some (.int s.2.2), none] [oX6 ao io_length io_at io_sign io_bad, rI Y (ao 1) 40 co_codes, rI Y (ao 2) 40 s.1] []) (hf : fX6_value_l6 io_length co_codes x1 x2 x3 x4 k6 co_stack x5 x6 = some res) : ax X 0 0 6 [some (.ref (ao 0)), some (.int x1), some (.int x2), some (.int x3), some (.int x4), some (.int x5), some (.int x6), none] [oX6 ao io_length io_at io_sign io_bad, rI Y (ao 1) 40 co_codes, rI Y (ao 2) 40 co_stack] [] := by
  unfold fX6_value_l6 at hf
  refine a_iload C dX6_value_6 rfl ?_
  refine a_aload_n C dX6_value_8 rfl ?_
  refine a_get C (eB_X6_30 _) dX6_value_9 0 rfl rfl ?_
  refine a_icmp_ge C 138 dX6_value_12 (by decide) (fun h10 => ?_) (fun h10 => ?_)
  · have hf := fx_t h10 hf
    refine a_kill [1, 2, 3, 4, 5, 6] ?_
    exact kX6_value_b138 C hQ hf
  · have hf := fx_f h10 hf
    refine a_aload_n C dX6_value_15 rfl ?_
    refine a_get C (eB_X6_9 _) dX6_value_16 0 rfl rfl ?_
    refine a_iload C dX6_value_19 rfl ?_
    obtain ⟨h11, hf⟩ := fx_ite hf
    refine a_iald C dX6_value_21 1 rfl h11 ?_
    refine a_istore C dX6_value_22 (by decide) rfl ?_
    refine a_iload C dX6_value_24 rfl ?_
    refine a_if_lt C 59 dX6_value_26 (by decide) (fun h12 => ?_) (fun h12 => ?_)
    · have hf := fx_t h12 hf
      exact kX6_value_b59 C hQ hk6 hf
    · have hf := fx_f h12 hf
      refine a_iload C dX6_value_29 rfl ?_
      refine a_bipush C (40 : Int32) dX6_value_31 (by decide) ?_
      refine a_icmp_ge C 59 dX6_value_33 (by decide) (fun h13 => ?_) (fun h13 => ?_)
      · have hf := fx_t h13 hf
        exact kX6_value_b59 C hQ hk6 hf
      · have hf := fx_f h13 hf
        refine a_aload_n C dX6_value_36 rfl ?_
        refine a_get C (eB_X6_15 _) dX6_value_37 0 rfl rfl ?_
        refine a_iload C dX6_value_40 rfl ?_
        refine a_iload C dX6_value_42 rfl ?_
        refine a_iload_n C dX6_value_44 rfl ?_
        refine a_iload_n C dX6_value_45 rfl ?_
        refine a_iload_n C dX6_value_46 rfl ?_
        refine a_iload C dX6_value_47 rfl ?_
        obtain ⟨r14, h14, hf⟩ := fx_bind hf
        refine a_fS C (kX6_operand l D Y (co_codes (Int32.toNatClampNeg x6)) x1 x2 x3 x4 r14 h14) (gB_X6_85 _) rfl dvX6_operand ⟨⟨rfl, rfl⟩, ⟨Nat.le_of_ble_eq_true rfl, Nat.le_of_ble_eq_true rfl⟩, ⟨Nat.le_of_ble_eq_true rfl, Nat.le_of_ble_eq_true rfl⟩⟩ rfl (Nat.le_of_ble_eq_true rfl) dX6_value_49 [] [0, 1, 2] trivial (by decide +kernel) rfl [oX6 ao io_length io_at io_sign io_bad, rI Y (ao 1) 40 co_codes, rI Y (ao 2) 40 co_stack] trivial ⟨rfl, rfl, rfl, trivial⟩ 3 rfl (by decide +kernel) ?_
        obtain ⟨h15, hf⟩ := fx_ite hf
        refine a_iast C dX6_value_52 2 rfl h15 ?_
        refine a_iinc C (1 : Int32) dX6_value_53 (by decide) rfl (by decide) rfl ?_
        refine a_goto C 132 dX6_value_56 (by decide) ?_
        refine a_kill [7] ?_
        exact kX6_value_b132 C hQ hk6 hf
set_option maxHeartbeats 400000 in
set_option maxRecDepth 100000 in
theorem kX6_value_b6 {X : cxT} {l : Launch} {D : va_G} {Y : Nat → ClassId} {ao : Nat → Nat} {io_length : Int32} {io_at : Int32} {io_sign : Int32} {io_bad : Int32} {co_codes : Nat → Int32} {co_stack : Nat → Int32} {x1 : Int32} {x2 : Int32} {x3 : Int32} {x4 : Int32} {x5 : Int32} {x6 : Int32} {res : Int32 × (Nat → Int32)} (C : axC X l D Y cX6_value 8 RX6 wsX6_value rmX6_value (some .int)) (hQ : axQ X 0 0 (fun r9 w9 => r9 = (some (.int res.1)) ∧ w9 = [oX6 ao io_length io_at io_sign io_bad, rI Y (ao 1) 40 co_codes, rI Y (ao 2) 40 res.2])) (hf : fX6_value_b6 io_length co_codes co_stack x1 x2 x3 x4 x5 x6 = some res) : ax X 0 0 6 [some (.ref (ao 0)), some (.int x1), some (.int x2), some (.int x3), some (.int x4), some (.int x5), some (.int x6), none] [oX6 ao io_length io_at io_sign io_bad, rI Y (ao 1) 40 co_codes, rI Y (ao 2) 40 co_stack] [] := by
  unfold fX6_value_b6 at hf
  exact fx_loop (P := fun s : (Nat → Int32) × Int32 × Int32 => ax X 0 0 6 [some (.ref (ao 0)), some (.int x1), some (.int x2), some (.int x3), some (.int x4), some (.int s.2.1), some (.int s.2.2), none] [oX6 ao io_length io_at io_sign io_bad, rI Y (ao 1) 40 co_codes, rI Y (ao 2) 40 s.1] []) (fun s k6 hk6 h => kX6_value_l6 C hQ hk6 h) FUEL (co_stack, x5, x6) hf
def fX6_value (io_length : Int32) (co_codes : Nat → Int32) (co_stack : Nat → Int32) (x1 : Int32) (x2 : Int32) (x3 : Int32) (x4 : Int32) : Option (Int32 × (Nat → Int32)) :=
  fX6_value_b6 io_length co_codes co_stack x1 x2 x3 x4 (0 : Int32) (0 : Int32)
set_option maxHeartbeats 400000 in
set_option maxRecDepth 100000 in
theorem kX6_value (l : Launch) (D : va_G) (Y : Nat → ClassId) (ao : Nat → Nat) (io_length : Int32) (io_at : Int32) (io_sign : Int32) (io_bad : Int32) (co_codes : Nat → Int32) (co_stack : Nat → Int32) (x1 : Int32) (x2 : Int32) (x3 : Int32) (x4 : Int32) (res : Int32 × (Nat → Int32)) (hf : fX6_value io_length co_codes co_stack x1 x2 x3 x4 = some res) : amf l D Y yX6_value wsX6_value rmX6_value [.ref (ao 0), .int x1, .int x2, .int x3, .int x4] [oX6 ao io_length io_at io_sign io_bad, rI Y (ao 1) 40 co_codes, rI Y (ao 2) 40 co_stack] (some (.int res.1)) [oX6 ao io_length io_at io_sign io_bad, rI Y (ao 1) 40 co_codes, rI Y (ao 2) 40 res.2] := by
  refine amf.of (cc := cX6_value) (maxL := 8) (rt := (some .int)) (by decide) rfl RX6 rfl (Nat.le_of_ble_eq_true rfl) [some (.ref (ao 0)), some (.int x1), some (.int x2), some (.int x3), some (.int x4), none, none, none] rfl ?_
  intro X C hQ
  unfold fX6_value at hf
  refine a_iconst C (0 : Int32) dX6_value_0 (by decide) ?_
  refine a_istore C dX6_value_1 (by decide) rfl ?_
  refine a_iconst C (0 : Int32) dX6_value_3 (by decide) ?_
  refine a_istore C dX6_value_4 (by decide) rfl ?_
  exact kX6_value_b6 C hQ hf
