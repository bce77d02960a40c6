-- X12_thrown
abbrev rmX12_thrown : Room := { frames := 0, cells := 0, slots := 0, locals := 0 }
theorem dvX12_thrown : yX12_thrown.cls = RX12 ∧ yX12_thrown.cls ≠ "java/lang/invoke/MethodHandle" ∧ yX12_thrown.cls ≠ "java/lang/invoke/VarHandle" ∧ (parseMethodDescriptor yX12_thrown.desc).map (fun d => d.parameters.length) = some 0 := by decide +kernel
def fX12_thrown (io_thrown : Int32) : Option (Int32) :=
  some io_thrown
set_option maxHeartbeats 400000 in
set_option maxRecDepth 100000 in
theorem kX12_thrown (l : Launch) (D : va_G) (Y : Nat → ClassId) (ao : Nat → Nat) (io_thrown : Int32) (io_rows : Int32) (io_cells : Int32) (io_children : Int32) (io_changes : Int32) (io_taped : Int32) (io_at : Int32) (io_to : Int32) (io_nest : Int32) (io_readMany : Int32) (io_codeLong : Int32) (io_readLong : Int32) (io_undos : Int32) (io_wentHome : Int32) (io_tideLevel : Int32) (io_acts : Int32) (io_firstBreaks : Int32) (io_bestCrew : Int32) (io_sights : Int32) (io_wayMany : Int32) (io_random : Int32) (res : Int32) (hf : fX12_thrown io_thrown = some res) : amf l D Y yX12_thrown wsX12_thrown rmX12_thrown [.ref (ao 0)] [oX12 ao io_thrown io_rows io_cells io_children io_changes io_taped io_at io_to io_nest io_readMany io_codeLong io_readLong io_undos io_wentHome io_tideLevel io_acts io_firstBreaks io_bestCrew io_sights io_wayMany io_random] (some (.int res)) [oX12 ao io_thrown io_rows io_cells io_children io_changes io_taped io_at io_to io_nest io_readMany io_codeLong io_readLong io_undos io_wentHome io_tideLevel io_acts io_firstBreaks io_bestCrew io_sights io_wayMany io_random] := by
  refine amf.of (cc := cX12_thrown) (maxL := 1) (rt := (some .int)) (by decide) rfl RX12 rfl (Nat.le_of_ble_eq_true rfl) [some (.ref (ao 0))] rfl ?_
  intro X C hQ
  unfold fX12_thrown at hf
  refine a_aload_n C dX12_thrown_0 rfl ?_
  refine a_get C (eB_X12_112 _) dX12_thrown_1 0 rfl rfl ?_
  obtain rfl := fx_some hf
  exact a_iret C hQ dX12_thrown_4 ⟨rfl, rfl⟩
-- X12_refuse
abbrev rmX12_refuse : Room := { frames := 0, cells := 0, slots := 0, locals := 0 }
theorem dvX12_refuse : yX12_refuse.cls = RX12 ∧ yX12_refuse.cls ≠ "java/lang/invoke/MethodHandle" ∧ yX12_refuse.cls ≠ "java/lang/invoke/VarHandle" ∧ (parseMethodDescriptor yX12_refuse.desc).map (fun d => d.parameters.length) = some 0 := by decide +kernel
def fX12_refuse (io_thrown : Int32) : Option (Int32 × Int32) :=
  some ((0 : Int32), (1 : Int32))
set_option maxHeartbeats 400000 in
set_option maxRecDepth 100000 in
theorem kX12_refuse (l : Launch) (D : va_G) (Y : Nat → ClassId) (ao : Nat → Nat) (io_thrown : Int32) (io_rows : Int32) (io_cells : Int32) (io_children : Int32) (io_changes : Int32) (io_taped : Int32) (io_at : Int32) (io_to : Int32) (io_nest : Int32) (io_readMany : Int32) (io_codeLong : Int32) (io_readLong : Int32) (io_undos : Int32) (io_wentHome : Int32) (io_tideLevel : Int32) (io_acts : Int32) (io_firstBreaks : Int32) (io_bestCrew : Int32) (io_sights : Int32) (io_wayMany : Int32) (io_random : Int32) (res : Int32 × Int32) (hf : fX12_refuse io_thrown = some res) : amf l D Y yX12_refuse wsX12_refuse rmX12_refuse [.ref (ao 0)] [oX12 ao io_thrown io_rows io_cells io_children io_changes io_taped io_at io_to io_nest io_readMany io_codeLong io_readLong io_undos io_wentHome io_tideLevel io_acts io_firstBreaks io_bestCrew io_sights io_wayMany io_random] (some (.int res.1)) [oX12 ao res.2 io_rows io_cells io_children io_changes io_taped io_at io_to io_nest io_readMany io_codeLong io_readLong io_undos io_wentHome io_tideLevel io_acts io_firstBreaks io_bestCrew io_sights io_wayMany io_random] := by
  refine amf.of (cc := cX12_refuse) (maxL := 1) (rt := (some .int)) (by decide) rfl RX12 rfl (Nat.le_of_ble_eq_true rfl) [some (.ref (ao 0))] rfl ?_
  intro X C hQ
  unfold fX12_refuse at hf
  refine a_aload_n C dX12_refuse_0 rfl ?_
  refine a_iconst C (1 : Int32) dX12_refuse_1 (by decide) ?_
  refine a_put C (eB_X12_112 _) tfX12_0 dX12_refuse_2 0 rfl rfl rfl (Nat.le_of_ble_eq_true rfl) ?_
  refine a_iconst C (0 : Int32) dX12_refuse_5 (by decide) ?_
  obtain rfl := fx_some hf
  exact a_iret C hQ dX12_refuse_6 ⟨rfl, rfl⟩
-- X12_in
abbrev rmX12_in : Room := { frames := 0, cells := 0, slots := 0, locals := 0 }
theorem dvX12_in : yX12_in.cls ≠ "java/lang/invoke/MethodHandle" ∧ yX12_in.cls ≠ "java/lang/invoke/VarHandle" ∧ (parseMethodDescriptor yX12_in.desc).map (fun d => d.parameters.length) = some 3 := by decide +kernel
def fX12_in_b18 (s0 : Int32) : Option (Int32) :=
  if s0 = 0 ∨ s0 = 1 then some s0 else none
set_option maxHeartbeats 400000 in
set_option maxRecDepth 100000 in
theorem kX12_in_b18 {X : cxT} {l : Launch} {D : va_G} {Y : Nat → ClassId} {s0 : Int32} {res : Int32} (C : axC X l D Y cX12_in 6 RX12 wsX12_in rmX12_in (some .boolean)) (hQ : axQ X 0 0 (fun r9 w9 => r9 = (some (.int res)) ∧ w9 = [])) (hf : fX12_in_b18 s0 = some res) : ax X 0 0 18 [none, none, none, none, none, none] [] [.int s0] := by
  unfold fX12_in_b18 at hf
  obtain ⟨h1, hf⟩ := fx_ite hf
  obtain rfl := fx_some hf
  exact a_zret C hQ h1 dX12_in_18 ⟨rfl, rfl⟩
def fX12_in_b17 : Option (Int32) :=
  fX12_in_b18 (0 : Int32)
set_option maxHeartbeats 400000 in
set_option maxRecDepth 100000 in
theorem kX12_in_b17 {X : cxT} {l : Launch} {D : va_G} {Y : Nat → ClassId} {res : Int32} (C : axC X l D Y cX12_in 6 RX12 wsX12_in rmX12_in (some .boolean)) (hQ : axQ X 0 0 (fun r9 w9 => r9 = (some (.int res)) ∧ w9 = [])) (hf : fX12_in_b17  = some res) : ax X 0 0 17 [none, none, none, none, none, none] [] [] := by
  unfold fX12_in_b17 at hf
  refine a_iconst C (0 : Int32) dX12_in_17 (by decide) ?_
  exact kX12_in_b18 C hQ hf
def fX12_in (x0 : Int64) (x2 : Int64) (x4 : Int64) : Option (Int32) :=
  if (lg_cmp x0 x2) < (0 : Int32) then (fX12_in_b17 ) else (if (0 : Int32) < (lg_cmp x0 x4) then (fX12_in_b17 ) else (fX12_in_b18 (1 : Int32)))
set_option maxHeartbeats 400000 in
set_option maxRecDepth 100000 in
theorem kX12_in (l : Launch) (D : va_G) (Y : Nat → ClassId) (x0 : Int64) (x2 : Int64) (x4 : Int64) (res : Int32) (hf : fX12_in x0 x2 x4 = some res) : amf l D Y yX12_in wsX12_in rmX12_in [.long x0, .long x2, .long x4] [] (some (.int res)) [] := by
  refine amf.of (cc := cX12_in) (maxL := 6) (rt := (some .boolean)) (by decide) rfl RX12 rfl (Nat.le_of_ble_eq_true rfl) [some (.long x0), none, some (.long x2), none, some (.long x4), none] rfl ?_
  intro X C hQ
  unfold fX12_in at hf
  refine a_lload_n C dX12_in_0 rfl ?_
  refine a_lload_n C dX12_in_1 rfl ?_
  refine a_lcmp C dX12_in_2 ?_
  refine a_if_lt C 17 dX12_in_3 (by decide) (fun h2 => ?_) (fun h2 => ?_)
  · have hf := fx_t h2 hf
    refine a_kill [0, 2, 4] ?_
    exact kX12_in_b17 C hQ hf
  · have hf := fx_f h2 hf
    refine a_lload_n C dX12_in_6 rfl ?_
    refine a_lload C dX12_in_7 rfl ?_
    refine a_lcmp C dX12_in_9 ?_
    refine a_if_gt C 17 dX12_in_10 (by decide) (fun h3 => ?_) (fun h3 => ?_)
    · have hf := fx_t h3 hf
      refine a_kill [0, 2, 4] ?_
      exact kX12_in_b17 C hQ hf
    · have hf := fx_f h3 hf
      refine a_iconst C (1 : Int32) dX12_in_13 (by decide) ?_
      refine a_goto C 18 dX12_in_14 (by decide) ?_
      refine a_kill [0, 2, 4] ?_
      exact kX12_in_b18 C hQ hf
-- X12_has
abbrev rmX12_has : Room := { frames := 0, cells := 0, slots := 0, locals := 0 }
theorem dvX12_has : yX12_has.cls ≠ "java/lang/invoke/MethodHandle" ∧ yX12_has.cls ≠ "java/lang/invoke/VarHandle" ∧ (parseMethodDescriptor yX12_has.desc).map (fun d => d.parameters.length) = some 2 := by decide +kernel
def fX12_has_b14 (s0 : Int32) : Option (Int32) :=
  if s0 = 0 ∨ s0 = 1 then some s0 else none
set_option maxHeartbeats 400000 in
set_option maxRecDepth 100000 in
theorem kX12_has_b14 {X : cxT} {l : Launch} {D : va_G} {Y : Nat → ClassId} {s0 : Int32} {res : Int32} (C : axC X l D Y cX12_has 2 RX12 wsX12_has rmX12_has (some .boolean)) (hQ : axQ X 0 0 (fun r9 w9 => r9 = (some (.int res)) ∧ w9 = [])) (hf : fX12_has_b14 s0 = some res) : ax X 0 0 14 [none, none] [] [.int s0] := by
  unfold fX12_has_b14 at hf
  obtain ⟨h1, hf⟩ := fx_ite hf
  obtain rfl := fx_some hf
  exact a_zret C hQ h1 dX12_has_14 ⟨rfl, rfl⟩
def fX12_has (x0 : Int32) (x1 : Int32) : Option (Int32) :=
  if ((jshr x0 x1) &&& (1 : Int32)) = (1 : Int32) then (fX12_has_b14 (1 : Int32)) else (fX12_has_b14 (0 : Int32))
set_option maxHeartbeats 400000 in
set_option maxRecDepth 100000 in
theorem kX12_has (l : Launch) (D : va_G) (Y : Nat → ClassId) (x0 : Int32) (x1 : Int32) (res : Int32) (hf : fX12_has x0 x1 = some res) : amf l D Y yX12_has wsX12_has rmX12_has [.int x0, .int x1] [] (some (.int res)) [] := by
  refine amf.of (cc := cX12_has) (maxL := 2) (rt := (some .boolean)) (by decide) rfl RX12 rfl (Nat.le_of_ble_eq_true rfl) [some (.int x0), some (.int x1)] rfl ?_
  intro X C hQ
  unfold fX12_has at hf
  refine a_iload_n C dX12_has_0 rfl ?_
  refine a_iload_n C dX12_has_1 rfl ?_
  refine a_ishr C dX12_has_2 ?_
  refine a_iconst C (1 : Int32) dX12_has_3 (by decide) ?_
  refine a_iand C dX12_has_4 ?_
  refine a_iconst C (1 : Int32) dX12_has_5 (by decide) ?_
  refine a_icmp_ne C 13 dX12_has_6 (by decide) (fun h2 => ?_) (fun h2 => ?_)
  · have hf := fx_f h2 hf
    refine a_iconst C (0 : Int32) dX12_has_13 (by decide) ?_
    refine a_kill [0, 1] ?_
    exact kX12_has_b14 C hQ hf
  · have hf := fx_t h2 hf
    refine a_iconst C (1 : Int32) dX12_has_9 (by decide) ?_
    refine a_goto C 14 dX12_has_10 (by decide) ?_
    refine a_kill [0, 1] ?_
    exact kX12_has_b14 C hQ hf
-- X12_flag
abbrev rmX12_flag : Room := { frames := 0, cells := 0, slots := 0, locals := 0 }
theorem dvX12_flag : yX12_flag.cls ≠ "java/lang/invoke/MethodHandle" ∧ yX12_flag.cls ≠ "java/lang/invoke/VarHandle" ∧ (parseMethodDescriptor yX12_flag.desc).map (fun d => d.parameters.length) = some 1 := by decide +kernel
def fX12_flag_b9 (s0 : Int32) : Option (Int32) :=
  some s0
set_option maxHeartbeats 400000 in
set_option maxRecDepth 100000 in
theorem kX12_flag_b9 {X : cxT} {l : Launch} {D : va_G} {Y : Nat → ClassId} {s0 : Int32} {res : Int32} (C : axC X l D Y cX12_flag 1 RX12 wsX12_flag rmX12_flag (some .int)) (hQ : axQ X 0 0 (fun r9 w9 => r9 = (some (.int res)) ∧ w9 = [])) (hf : fX12_flag_b9 s0 = some res) : ax X 0 0 9 [none] [] [.int s0] := by
  unfold fX12_flag_b9 at hf
  obtain rfl := fx_some hf
  exact a_iret C hQ dX12_flag_9 ⟨rfl, rfl⟩
def fX12_flag (x0 : Int32) : Option (Int32) :=
  if x0 = (0 : Int32) then (fX12_flag_b9 (0 : Int32)) else (fX12_flag_b9 (1 : Int32))
set_option maxHeartbeats 400000 in
set_option maxRecDepth 100000 in
theorem kX12_flag (l : Launch) (D : va_G) (Y : Nat → ClassId) (x0 : Int32) (res : Int32) (hf : fX12_flag x0 = some res) : amf l D Y yX12_flag wsX12_flag rmX12_flag [.int x0] [] (some (.int res)) [] := by
  refine amf.of (cc := cX12_flag) (maxL := 1) (rt := (some .int)) (by decide) rfl RX12 rfl (Nat.le_of_ble_eq_true rfl) [some (.int x0)] rfl ?_
  intro X C hQ
  unfold fX12_flag at hf
  refine a_iload_n C dX12_flag_0 rfl ?_
  refine a_if_eq C 8 dX12_flag_1 (by decide) (fun h1 => ?_) (fun h1 => ?_)
  · have hf := fx_t h1 hf
    refine a_iconst C (0 : Int32) dX12_flag_8 (by decide) ?_
    refine a_kill [0] ?_
    exact kX12_flag_b9 C hQ hf
  · have hf := fx_f h1 hf
    refine a_iconst C (1 : Int32) dX12_flag_4 (by decide) ?_
    refine a_goto C 9 dX12_flag_5 (by decide) ?_
    refine a_kill [0] ?_
    exact kX12_flag_b9 C hQ hf
-- X12_common
theorem dvX12_common : yX12_common.cls ≠ "java/lang/invoke/MethodHandle" ∧ yX12_common.cls ≠ "java/lang/invoke/VarHandle" ∧ (parseMethodDescriptor yX12_common.desc).map (fun d => d.parameters.length) = some 2 := by decide +kernel
def HX12_common (l : Launch) (D : va_G) (Y : Nat → ClassId) (rm : Room) (fn : Int64 → Int64 → Option (Int64)) : Prop := ∀ (x0 : Int64) (x2 : Int64) (res : Int64), fn x0 x2 = some res → amf l D Y yX12_common wsX12_common rm [.long x0, .long x2] [] (some (.long res)) []
abbrev rmX12_common (f9 l9 : Nat) : Room := { frames := f9 + 1, cells := 0, slots := 0, locals := l9 + 23 }
def fX12_common_b17 (rec_X12_common : Int64 → Int64 → Option (Int64)) (s0 : Int64) : Option (Int64) :=
  some s0
set_option maxHeartbeats 400000 in
set_option maxRecDepth 100000 in
theorem kX12_common_b17 {X : cxT} {l : Launch} {D : va_G} {Y : Nat → ClassId} {s0 : Int64} {res : Int64} {f9 l9 : Nat} {rec_X12_common : Int64 → Int64 → Option (Int64)} (hrec_X12_common : HX12_common l D Y { frames := f9, cells := 0, slots := 0, locals := l9 } rec_X12_common) (C : axC X l D Y cX12_common 4 RX12 wsX12_common (rmX12_common f9 l9) (some .long)) (hQ : axQ X 0 0 (fun r9 w9 => r9 = (some (.long res)) ∧ w9 = [])) (hf : fX12_common_b17 rec_X12_common s0 = some res) : ax X 0 0 17 [none, none, none, none] [] [.long s0] := by
  unfold fX12_common_b17 at hf
  obtain rfl := fx_some hf
  exact a_lret C hQ dX12_common_17 ⟨rfl, rfl⟩
def fX12_common_s (rec_X12_common : Int64 → Int64 → Option (Int64)) (x0 : Int64) (x2 : Int64) : Option (Int64) :=
  if (lg_cmp x2 (0 : Int64)) = (0 : Int32) then (fX12_common_b17 rec_X12_common x0) else (if ¬ x2 = 0 then (rec_X12_common x2 (jlrem x0 x2)).bind (fun r3 => fX12_common_b17 rec_X12_common r3) else none)
set_option maxHeartbeats 400000 in
set_option maxRecDepth 100000 in
theorem kX12_common_s (l : Launch) (D : va_G) (Y : Nat → ClassId) (f9 l9 : Nat) (rec_X12_common : Int64 → Int64 → Option (Int64)) (hrec_X12_common : HX12_common l D Y { frames := f9, cells := 0, slots := 0, locals := l9 } rec_X12_common) (x0 : Int64) (x2 : Int64) (res : Int64) (hf : fX12_common_s rec_X12_common x0 x2 = some res) : amf l D Y yX12_common wsX12_common (rmX12_common f9 l9) [.long x0, .long x2] [] (some (.long res)) [] := by
  refine amf.of (cc := cX12_common) (maxL := 4) (rt := (some .long)) (by decide) rfl RX12 rfl (Nat.le_of_ble_eq_true rfl) [some (.long x0), none, some (.long x2), none] rfl ?_
  intro X C hQ
  unfold fX12_common_s at hf
  refine a_lload_n C dX12_common_0 rfl ?_
  refine a_lconst C (0 : Int64) dX12_common_1 (by decide) ?_
  refine a_lcmp C dX12_common_2 ?_
  refine a_if_ne C 10 dX12_common_3 (by decide) (fun h1 => ?_) (fun h1 => ?_)
  · have hf := fx_f h1 hf
    refine a_lload_n C dX12_common_10 rfl ?_
    refine a_lload_n C dX12_common_11 rfl ?_
    refine a_lload_n C dX12_common_12 rfl ?_
    obtain ⟨h2, hf⟩ := fx_ite hf
    refine a_lrem C dX12_common_13 h2 ?_
    obtain ⟨r3, h3, hf⟩ := fx_bind hf
    refine a_fS C (hrec_X12_common x2 (jlrem x0 x2) r3 h3) (gB_X12_115 _) rfl dvX12_common ⟨⟨rfl, rfl⟩, ⟨by dsimp only; omega, by dsimp only; omega⟩, ⟨Nat.le_of_ble_eq_true rfl, Nat.le_of_ble_eq_true rfl⟩⟩ rfl (Nat.le_of_ble_eq_true rfl) dX12_common_14 [] [] trivial (by decide +kernel) rfl [] trivial trivial 0 rfl (by decide +kernel) ?_
    refine a_kill [0, 2] ?_
    exact kX12_common_b17 hrec_X12_common C hQ hf
  · have hf := fx_t h1 hf
    refine a_lload_n C dX12_common_6 rfl ?_
    refine a_goto C 17 dX12_common_7 (by decide) ?_
    refine a_kill [0, 2] ?_
    exact kX12_common_b17 hrec_X12_common C hQ hf
abbrev RMX12_common (d : Nat) : Room := { frames := 1 * d, cells := 0, slots := 0, locals := 23 * d }
def fX12_common : Nat → Int64 → Int64 → Option (Int64)
  | 0 => fun _ _ => none
  | d + 1 => fX12_common_s (fX12_common d)
theorem hX12_common (l : Launch) (D : va_G) (Y : Nat → ClassId) : ∀ d : Nat, HX12_common l D Y (RMX12_common d) (fX12_common d)
  | 0 => fun _ _ _ h => by cases h
  | d + 1 => fun x0 x2 res h => kX12_common_s l D Y (1 * d) (23 * d) (fX12_common d) (hX12_common l D Y d) x0 x2 res h
abbrev rmX12_common_100 : Room := RMX12_common 100
theorem kX12_common (l : Launch) (D : va_G) (Y : Nat → ClassId) (d : Nat) : HX12_common l D Y (RMX12_common d) (fX12_common d) := hX12_common l D Y d
-- X12_enters
abbrev rmX12_enters : Room := { frames := 0, cells := 0, slots := 0, locals := 0 }
theorem dvX12_enters : yX12_enters.cls = RX12 ∧ yX12_enters.cls ≠ "java/lang/invoke/MethodHandle" ∧ yX12_enters.cls ≠ "java/lang/invoke/VarHandle" ∧ (parseMethodDescriptor yX12_enters.desc).map (fun d => d.parameters.length) = some 1 := by decide +kernel
def fX12_enters (io_rows : Int32) (co_row : Nat → Int64) (x1 : Int64) : Option (Int32 × (Nat → Int64)) :=
  if inb io_rows 24 then some ((io_rows + (1 : Int32)), (vp_updL co_row (Int32.toNatClampNeg io_rows) x1)) else none
set_option maxHeartbeats 400000 in
set_option maxRecDepth 100000 in
theorem kX12_enters (l : Launch) (D : va_G) (Y : Nat → ClassId) (ao : Nat → Nat) (io_thrown : Int32) (io_rows : Int32) (io_cells : Int32) (io_children : Int32) (io_changes : Int32) (io_taped : Int32) (io_at : Int32) (io_to : Int32) (io_nest : Int32) (io_readMany : Int32) (io_codeLong : Int32) (io_readLong : Int32) (io_undos : Int32) (io_wentHome : Int32) (io_tideLevel : Int32) (io_acts : Int32) (io_firstBreaks : Int32) (io_bestCrew : Int32) (io_sights : Int32) (io_wayMany : Int32) (io_random : Int32) (co_row : Nat → Int64) (x1 : Int64) (res : Int32 × (Nat → Int64)) (hf : fX12_enters io_rows co_row x1 = some res) : amf l D Y yX12_enters wsX12_enters rmX12_enters [.ref (ao 0), .long x1] [oX12 ao io_thrown io_rows io_cells io_children io_changes io_taped io_at io_to io_nest io_readMany io_codeLong io_readLong io_undos io_wentHome io_tideLevel io_acts io_firstBreaks io_bestCrew io_sights io_wayMany io_random, rJ Y (ao 1) 24 co_row] none [oX12 ao io_thrown res.1 io_cells io_children io_changes io_taped io_at io_to io_nest io_readMany io_codeLong io_readLong io_undos io_wentHome io_tideLevel io_acts io_firstBreaks io_bestCrew io_sights io_wayMany io_random, rJ Y (ao 1) 24 res.2] := by
  refine amf.of (cc := cX12_enters) (maxL := 3) (rt := none) (by decide) rfl RX12 rfl (Nat.le_of_ble_eq_true rfl) [some (.ref (ao 0)), some (.long x1), none] rfl ?_
  intro X C hQ
  unfold fX12_enters at hf
  refine a_aload_n C dX12_enters_0 rfl ?_
  refine a_get C (eB_X12_9 _) dX12_enters_1 0 rfl rfl ?_
  refine a_aload_n C dX12_enters_4 rfl ?_
  refine a_get C (eB_X12_119 _) dX12_enters_5 0 rfl rfl ?_
  refine a_lload_n C dX12_enters_8 rfl ?_
  obtain ⟨h1, hf⟩ := fx_ite hf
  refine a_last C dX12_enters_9 1 rfl h1 ?_
  refine a_aload_n C dX12_enters_10 rfl ?_
  refine a_dup C dX12_enters_11 rfl ?_
  refine a_get C (eB_X12_119 _) dX12_enters_12 0 rfl rfl ?_
  refine a_iconst C (1 : Int32) dX12_enters_15 (by decide) ?_
  refine a_iadd C dX12_enters_16 ?_
  refine a_put C (eB_X12_119 _) tfX12_1 dX12_enters_17 0 rfl rfl rfl (Nat.le_of_ble_eq_true rfl) ?_
  obtain rfl := fx_some hf
  exact a_vret C hQ dX12_enters_20 ⟨rfl, rfl⟩
-- X12_isCell
abbrev rmX12_isCell : Room := { frames := 1, cells := 0, slots := 0, locals := 25 }
theorem dvX12_isCell : yX12_isCell.cls = RX12 ∧ yX12_isCell.cls ≠ "java/lang/invoke/MethodHandle" ∧ yX12_isCell.cls ≠ "java/lang/invoke/VarHandle" ∧ (parseMethodDescriptor yX12_isCell.desc).map (fun d => d.parameters.length) = some 1 := by decide +kernel
def fX12_isCell (io_cells : Int32) (x1 : Int32) : Option (Int32) :=
  (fX12_in (x1.toInt64) (0 : Int64) ((io_cells - (1 : Int32)).toInt64)).bind (fun r1 => if r1 = 0 ∨ r1 = 1 then some r1 else none)
set_option maxHeartbeats 400000 in
set_option maxRecDepth 100000 in
theorem kX12_isCell (l : Launch) (D : va_G) (Y : Nat → ClassId) (ao : Nat → Nat) (io_thrown : Int32) (io_rows : Int32) (io_cells : Int32) (io_children : Int32) (io_changes : Int32) (io_taped : Int32) (io_at : Int32) (io_to : Int32) (io_nest : Int32) (io_readMany : Int32) (io_codeLong : Int32) (io_readLong : Int32) (io_undos : Int32) (io_wentHome : Int32) (io_tideLevel : Int32) (io_acts : Int32) (io_firstBreaks : Int32) (io_bestCrew : Int32) (io_sights : Int32) (io_wayMany : Int32) (io_random : Int32) (x1 : Int32) (res : Int32) (hf : fX12_isCell io_cells x1 = some res) : amf l D Y yX12_isCell wsX12_isCell rmX12_isCell [.ref (ao 0), .int x1] [oX12 ao io_thrown io_rows io_cells io_children io_changes io_taped io_at io_to io_nest io_readMany io_codeLong io_readLong io_undos io_wentHome io_tideLevel io_acts io_firstBreaks io_bestCrew io_sights io_wayMany io_random] (some (.int res)) [oX12 ao io_thrown io_rows io_cells io_children io_changes io_taped io_at io_to io_nest io_readMany io_codeLong io_readLong io_undos io_wentHome io_tideLevel io_acts io_firstBreaks io_bestCrew io_sights io_wayMany io_random] := by
  refine amf.of (cc := cX12_isCell) (maxL := 2) (rt := (some .boolean)) (by decide) rfl RX12 rfl (Nat.le_of_ble_eq_true rfl) [some (.ref (ao 0)), some (.int x1)] rfl ?_
  intro X C hQ
  unfold fX12_isCell at hf
  refine a_iload_n C dX12_isCell_0 rfl ?_
  refine a_i2l C dX12_isCell_1 ?_
  refine a_lconst C (0 : Int64) dX12_isCell_2 (by decide) ?_
  refine a_aload_n C dX12_isCell_3 rfl ?_
  refine a_get C (eB_X12_13 _) dX12_isCell_4 0 rfl rfl ?_
  refine a_iconst C (1 : Int32) dX12_isCell_7 (by decide) ?_
  refine a_isub C dX12_isCell_8 ?_
  refine a_i2l C dX12_isCell_9 ?_
  obtain ⟨r1, h1, hf⟩ := fx_bind hf
  refine a_fS C (kX12_in l D Y (x1.toInt64) (0 : Int64) ((io_cells - (1 : Int32)).toInt64) r1 h1) (gB_X12_122 _) rfl dvX12_in ⟨⟨rfl, rfl⟩, ⟨Nat.le_of_ble_eq_true rfl, Nat.le_of_ble_eq_true rfl⟩, ⟨Nat.le_of_ble_eq_true rfl, Nat.le_of_ble_eq_true rfl⟩⟩ rfl (Nat.le_of_ble_eq_true rfl) dX12_isCell_10 [] [0] trivial (by decide +kernel) rfl [oX12 ao io_thrown io_rows io_cells io_children io_changes io_taped io_at io_to io_nest io_readMany io_codeLong io_readLong io_undos io_wentHome io_tideLevel io_acts io_firstBreaks io_bestCrew io_sights io_wayMany io_random] trivial ⟨rfl, trivial⟩ 1 rfl (by decide +kernel) ?_
  obtain ⟨h2, hf⟩ := fx_ite hf
  obtain rfl := fx_some hf
  exact a_zret C hQ h2 dX12_isCell_13 ⟨rfl, rfl⟩
-- X12_isChild
abbrev rmX12_isChild : Room := { frames := 1, cells := 0, slots := 0, locals := 25 }
theorem dvX12_isChild : yX12_isChild.cls = RX12 ∧ yX12_isChild.cls ≠ "java/lang/invoke/MethodHandle" ∧ yX12_isChild.cls ≠ "java/lang/invoke/VarHandle" ∧ (parseMethodDescriptor yX12_isChild.desc).map (fun d => d.parameters.length) = some 1 := by decide +kernel
def fX12_isChild (io_children : Int32) (x1 : Int32) : Option (Int32) :=
  (fX12_in (x1.toInt64) (0 : Int64) ((io_children - (1 : Int32)).toInt64)).bind (fun r1 => if r1 = 0 ∨ r1 = 1 then some r1 else none)
set_option maxHeartbeats 400000 in
set_option maxRecDepth 100000 in
theorem kX12_isChild (l : Launch) (D : va_G) (Y : Nat → ClassId) (ao : Nat → Nat) (io_thrown : Int32) (io_rows : Int32) (io_cells : Int32) (io_children : Int32) (io_changes : Int32) (io_taped : Int32) (io_at : Int32) (io_to : Int32) (io_nest : Int32) (io_readMany : Int32) (io_codeLong : Int32) (io_readLong : Int32) (io_undos : Int32) (io_wentHome : Int32) (io_tideLevel : Int32) (io_acts : Int32) (io_firstBreaks : Int32) (io_bestCrew : Int32) (io_sights : Int32) (io_wayMany : Int32) (io_random : Int32) (x1 : Int32) (res : Int32) (hf : fX12_isChild io_children x1 = some res) : amf l D Y yX12_isChild wsX12_isChild rmX12_isChild [.ref (ao 0), .int x1] [oX12 ao io_thrown io_rows io_cells io_children io_changes io_taped io_at io_to io_nest io_readMany io_codeLong io_readLong io_undos io_wentHome io_tideLevel io_acts io_firstBreaks io_bestCrew io_sights io_wayMany io_random] (some (.int res)) [oX12 ao io_thrown io_rows io_cells io_children io_changes io_taped io_at io_to io_nest io_readMany io_codeLong io_readLong io_undos io_wentHome io_tideLevel io_acts io_firstBreaks io_bestCrew io_sights io_wayMany io_random] := by
  refine amf.of (cc := cX12_isChild) (maxL := 2) (rt := (some .boolean)) (by decide) rfl RX12 rfl (Nat.le_of_ble_eq_true rfl) [some (.ref (ao 0)), some (.int x1)] rfl ?_
  intro X C hQ
  unfold fX12_isChild at hf
  refine a_iload_n C dX12_isChild_0 rfl ?_
  refine a_i2l C dX12_isChild_1 ?_
  refine a_lconst C (0 : Int64) dX12_isChild_2 (by decide) ?_
  refine a_aload_n C dX12_isChild_3 rfl ?_
  refine a_get C (eB_X12_126 _) dX12_isChild_4 0 rfl rfl ?_
  refine a_iconst C (1 : Int32) dX12_isChild_7 (by decide) ?_
  refine a_isub C dX12_isChild_8 ?_
  refine a_i2l C dX12_isChild_9 ?_
  obtain ⟨r1, h1, hf⟩ := fx_bind hf
  refine a_fS C (kX12_in l D Y (x1.toInt64) (0 : Int64) ((io_children - (1 : Int32)).toInt64) r1 h1) (gB_X12_122 _) rfl dvX12_in ⟨⟨rfl, rfl⟩, ⟨Nat.le_of_ble_eq_true rfl, Nat.le_of_ble_eq_true rfl⟩, ⟨Nat.le_of_ble_eq_true rfl, Nat.le_of_ble_eq_true rfl⟩⟩ rfl (Nat.le_of_ble_eq_true rfl) dX12_isChild_10 [] [0] trivial (by decide +kernel) rfl [oX12 ao io_thrown io_rows io_cells io_children io_changes io_taped io_at io_to io_nest io_readMany io_codeLong io_readLong io_undos io_wentHome io_tideLevel io_acts io_firstBreaks io_bestCrew io_sights io_wayMany io_random] trivial ⟨rfl, trivial⟩ 1 rfl (by decide +kernel) ?_
  obtain ⟨h2, hf⟩ := fx_ite hf
  obtain rfl := fx_some hf
  exact a_zret C hQ h2 dX12_isChild_13 ⟨rfl, rfl⟩
-- X12_atOf
abbrev rmX12_atOf : Room := { frames := 0, cells := 0, slots := 0, locals := 0 }
theorem dvX12_atOf : yX12_atOf.cls ≠ "java/lang/invoke/MethodHandle" ∧ yX12_atOf.cls ≠ "java/lang/invoke/VarHandle" ∧ (parseMethodDescriptor yX12_atOf.desc).map (fun d => d.parameters.length) = some 2 := by decide +kernel
def fX12_atOf (cp0 : Nat → Int32) (x1 : Int32) : Option (Int32) :=
  if inb (((25 : Int32) + ((2 : Int32) * x1)) + (0 : Int32)) 43 then some (cp0 (Int32.toNatClampNeg (((25 : Int32) + ((2 : Int32) * x1)) + (0 : Int32)))) else none
set_option maxHeartbeats 400000 in
set_option maxRecDepth 100000 in
theorem kX12_atOf (l : Launch) (D : va_G) (Y : Nat → ClassId) (qp0 : Nat) (cp0 : Nat → Int32) (x1 : Int32) (res : Int32) (hf : fX12_atOf cp0 x1 = some res) : amf l D Y yX12_atOf wsX12_atOf rmX12_atOf [.ref qp0, .int x1] [rI Y qp0 43 cp0] (some (.int res)) [rI Y qp0 43 cp0] := by
  refine amf.of (cc := cX12_atOf) (maxL := 2) (rt := (some .int)) (by decide) rfl RX12 rfl (Nat.le_of_ble_eq_true rfl) [some (.ref qp0), some (.int x1)] rfl ?_
  intro X C hQ
  unfold fX12_atOf at hf
  refine a_aload_n C dX12_atOf_0 rfl ?_
  refine a_bipush C (25 : Int32) dX12_atOf_1 (by decide) ?_
  refine a_iconst C (2 : Int32) dX12_atOf_3 (by decide) ?_
  refine a_iload_n C dX12_atOf_4 rfl ?_
  refine a_imul C dX12_atOf_5 ?_
  refine a_iadd C dX12_atOf_6 ?_
  refine a_iconst C (0 : Int32) dX12_atOf_7 (by decide) ?_
  refine a_iadd C dX12_atOf_8 ?_
  obtain ⟨h1, hf⟩ := fx_ite hf
  refine a_iald C dX12_atOf_9 0 rfl h1 ?_
  obtain rfl := fx_some hf
  exact a_iret C hQ dX12_atOf_10 ⟨rfl, rfl⟩
-- X12_moodOf
abbrev rmX12_moodOf : Room := { frames := 0, cells := 0, slots := 0, locals := 0 }
theorem dvX12_moodOf : yX12_moodOf.cls ≠ "java/lang/invoke/MethodHandle" ∧ yX12_moodOf.cls ≠ "java/lang/invoke/VarHandle" ∧ (parseMethodDescriptor yX12_moodOf.desc).map (fun d => d.parameters.length) = some 2 := by decide +kernel
def fX12_moodOf (cp0 : Nat → Int32) (x1 : Int32) : Option (Int32) :=
  if inb (((25 : Int32) + ((2 : Int32) * x1)) + (1 : Int32)) 43 then some (cp0 (Int32.toNatClampNeg (((25 : Int32) + ((2 : Int32) * x1)) + (1 : Int32)))) else none
set_option maxHeartbeats 400000 in
set_option maxRecDepth 100000 in
theorem kX12_moodOf (l : Launch) (D : va_G) (Y : Nat → ClassId) (qp0 : Nat) (cp0 : Nat → Int32) (x1 : Int32) (res : Int32) (hf : fX12_moodOf cp0 x1 = some res) : amf l D Y yX12_moodOf wsX12_moodOf rmX12_moodOf [.ref qp0, .int x1] [rI Y qp0 43 cp0] (some (.int res)) [rI Y qp0 43 cp0] := by
  refine amf.of (cc := cX12_moodOf) (maxL := 2) (rt := (some .int)) (by decide) rfl RX12 rfl (Nat.le_of_ble_eq_true rfl) [some (.ref qp0), some (.int x1)] rfl ?_
  intro X C hQ
  unfold fX12_moodOf at hf
  refine a_aload_n C dX12_moodOf_0 rfl ?_
  refine a_bipush C (25 : Int32) dX12_moodOf_1 (by decide) ?_
  refine a_iconst C (2 : Int32) dX12_moodOf_3 (by decide) ?_
  refine a_iload_n C dX12_moodOf_4 rfl ?_
  refine a_imul C dX12_moodOf_5 ?_
  refine a_iadd C dX12_moodOf_6 ?_
  refine a_iconst C (1 : Int32) dX12_moodOf_7 (by decide) ?_
  refine a_iadd C dX12_moodOf_8 ?_
  obtain ⟨h1, hf⟩ := fx_ite hf
  refine a_iald C dX12_moodOf_9 0 rfl h1 ?_
  obtain rfl := fx_some hf
  exact a_iret C hQ dX12_moodOf_10 ⟨rfl, rfl⟩
-- X12_topOf
abbrev rmX12_topOf : Room := { frames := 0, cells := 0, slots := 0, locals := 0 }
theorem dvX12_topOf : yX12_topOf.cls = RX12 ∧ yX12_topOf.cls ≠ "java/lang/invoke/MethodHandle" ∧ yX12_topOf.cls ≠ "java/lang/invoke/VarHandle" ∧ (parseMethodDescriptor yX12_topOf.desc).map (fun d => d.parameters.length) = some 2 := by decide +kernel
def fX12_topOf (co_base : Nat → Int32) (cp1 : Nat → Int32) (x2 : Int32) : Option (Int32) :=
  if inb x2 12 then if inb x2 43 then some (((10 : Int32) * (co_base (Int32.toNatClampNeg x2))) + (cp1 (Int32.toNatClampNeg x2))) else none else none
set_option maxHeartbeats 400000 in
set_option maxRecDepth 100000 in
theorem kX12_topOf (l : Launch) (D : va_G) (Y : Nat → ClassId) (ao : Nat → Nat) (qp1 : Nat) (io_thrown : Int32) (io_rows : Int32) (io_cells : Int32) (io_children : Int32) (io_changes : Int32) (io_taped : Int32) (io_at : Int32) (io_to : Int32) (io_nest : Int32) (io_readMany : Int32) (io_codeLong : Int32) (io_readLong : Int32) (io_undos : Int32) (io_wentHome : Int32) (io_tideLevel : Int32) (io_acts : Int32) (io_firstBreaks : Int32) (io_bestCrew : Int32) (io_sights : Int32) (io_wayMany : Int32) (io_random : Int32) (co_base : Nat → Int32) (cp1 : Nat → Int32) (x2 : Int32) (res : Int32) (hf : fX12_topOf co_base cp1 x2 = some res) : amf l D Y yX12_topOf wsX12_topOf rmX12_topOf [.ref (ao 0), .ref qp1, .int x2] [oX12 ao io_thrown io_rows io_cells io_children io_changes io_taped io_at io_to io_nest io_readMany io_codeLong io_readLong io_undos io_wentHome io_tideLevel io_acts io_firstBreaks io_bestCrew io_sights io_wayMany io_random, rI Y (ao 2) 12 co_base, rI Y qp1 43 cp1] (some (.int res)) [oX12 ao io_thrown io_rows io_cells io_children io_changes io_taped io_at io_to io_nest io_readMany io_codeLong io_readLong io_undos io_wentHome io_tideLevel io_acts io_firstBreaks io_bestCrew io_sights io_wayMany io_random, rI Y (ao 2) 12 co_base, rI Y qp1 43 cp1] := by
  refine amf.of (cc := cX12_topOf) (maxL := 3) (rt := (some .int)) (by decide) rfl RX12 rfl (Nat.le_of_ble_eq_true rfl) [some (.ref (ao 0)), some (.ref qp1), some (.int x2)] rfl ?_
  intro X C hQ
  unfold fX12_topOf at hf
  refine a_bipush C (10 : Int32) dX12_topOf_0 (by decide) ?_
  refine a_aload_n C dX12_topOf_2 rfl ?_
  refine a_get C (eB_X12_17 _) dX12_topOf_3 0 rfl rfl ?_
  refine a_iload_n C dX12_topOf_6 rfl ?_
  obtain ⟨h1, hf⟩ := fx_ite hf
  refine a_iald C dX12_topOf_7 1 rfl h1 ?_
  refine a_imul C dX12_topOf_8 ?_
  refine a_aload_n C dX12_topOf_9 rfl ?_
  refine a_iload_n C dX12_topOf_10 rfl ?_
  obtain ⟨h2, hf⟩ := fx_ite hf
  refine a_iald C dX12_topOf_11 2 rfl h2 ?_
  refine a_iadd C dX12_topOf_12 ?_
  obtain rfl := fx_some hf
  exact a_iret C hQ dX12_topOf_13 ⟨rfl, rfl⟩
-- X12_childrenAt
abbrev rmX12_childrenAt : Room := { frames := 1, cells := 0, slots := 0, locals := 21 }
theorem dvX12_childrenAt : yX12_childrenAt.cls = RX12 ∧ yX12_childrenAt.cls ≠ "java/lang/invoke/MethodHandle" ∧ yX12_childrenAt.cls ≠ "java/lang/invoke/VarHandle" ∧ (parseMethodDescriptor yX12_childrenAt.desc).map (fun d => d.parameters.length) = some 2 := by decide +kernel
def fX12_childrenAt_b41 (io_children : Int32) (cp1 : Nat → Int32) (x3 : Int32) : Option (Int32) :=
  some x3
set_option maxHeartbeats 400000 in
set_option maxRecDepth 100000 in
theorem kX12_childrenAt_b41 {X : cxT} {l : Launch} {D : va_G} {Y : Nat → ClassId} {ao : Nat → Nat} {qp1 : Nat} {io_thrown : Int32} {io_rows : Int32} {io_cells : Int32} {io_children : Int32} {io_changes : Int32} {io_taped : Int32} {io_at : Int32} {io_to : Int32} {io_nest : Int32} {io_readMany : Int32} {io_codeLong : Int32} {io_readLong : Int32} {io_undos : Int32} {io_wentHome : Int32} {io_tideLevel : Int32} {io_acts : Int32} {io_firstBreaks : Int32} {io_bestCrew : Int32} {io_sights : Int32} {io_wayMany : Int32} {io_random : Int32} {cp1 : Nat → Int32} {x3 : Int32} {res : Int32} (C : axC X l D Y cX12_childrenAt 5 RX12 wsX12_childrenAt rmX12_childrenAt (some .int)) (hQ : axQ X 0 0 (fun r9 w9 => r9 = (some (.int res)) ∧ w9 = [oX12 ao io_thrown io_rows io_cells io_children io_changes io_taped io_at io_to io_nest io_readMany io_codeLong io_readLong io_undos io_wentHome io_tideLevel io_acts io_firstBreaks io_bestCrew io_sights io_wayMany io_random, rI Y qp1 43 cp1])) (hf : fX12_childrenAt_b41 io_children cp1 x3 = some res) : ax X 0 0 41 [none, none, none, some (.int x3), none] [oX12 ao io_thrown io_rows io_cells io_children io_changes io_taped io_at io_to io_nest io_readMany io_codeLong io_readLong io_undos io_wentHome io_tideLevel io_acts io_firstBreaks io_bestCrew io_sights io_wayMany io_random, rI Y qp1 43 cp1] [] := by
  unfold fX12_childrenAt_b41 at hf
  refine a_iload_n C dX12_childrenAt_41 rfl ?_
  obtain rfl := fx_some hf
  exact a_iret C hQ dX12_childrenAt_42 ⟨rfl, rfl⟩
def fX12_childrenAt_b33 (io_children : Int32) (cp1 : Nat → Int32) (x2 : Int32) (x4 : Int32) (s0 : Int32) (s1 : Int32) (k5 : Int32 × Int32 → Option (Int32)) : Option (Int32) :=
  k5 ((s0 ||| s1), (x4 + (1 : Int32)))
set_option maxHeartbeats 400000 in
set_option maxRecDepth 100000 in
theorem kX12_childrenAt_b33 {X : cxT} {l : Launch} {D : va_G} {Y : Nat → ClassId} {ao : Nat → Nat} {qp1 : Nat} {io_thrown : Int32} {io_rows : Int32} {io_cells : Int32} {io_children : Int32} {io_changes : Int32} {io_taped : Int32} {io_at : Int32} {io_to : Int32} {io_nest : Int32} {io_readMany : Int32} {io_codeLong : Int32} {io_readLong : Int32} {io_undos : Int32} {io_wentHome : Int32} {io_tideLevel : Int32} {io_acts : Int32} {io_firstBreaks : Int32} {io_bestCrew : Int32} {io_sights : Int32} {io_wayMany : Int32} {io_random : Int32} {cp1 : Nat → Int32} {x2 : Int32} {x4 : Int32} {s0 : Int32} {s1 : Int32} {res : Int32} (C : axC X l D Y cX12_childrenAt 5 RX12 wsX12_childrenAt rmX12_childrenAt (some .int)) (hQ : axQ X 0 0 (fun r9 w9 => r9 = (some (.int res)) ∧ w9 = [oX12 ao io_thrown io_rows io_cells io_children io_changes io_taped io_at io_to io_nest io_readMany io_codeLong io_readLong io_undos io_wentHome io_tideLevel io_acts io_firstBreaks io_bestCrew io_sights io_wayMany io_random, rI Y qp1 43 cp1])) {k5 : Int32 × Int32 → Option (Int32)} (hk5 : ∀ s : Int32 × Int32, k5 s = some res → ax X 0 0 5 [some (.ref (ao 0)), some (.ref qp1), some (.int x2), some (.int s.1), some (.int s.2)] [oX12 ao io_thrown io_rows io_cells io_children io_changes io_taped io_at io_to io_nest io_readMany io_codeLong io_readLong io_undos io_wentHome io_tideLevel io_acts io_firstBreaks io_bestCrew io_sights io_wayMany io_random, rI Y qp1 43 cp1] []) (hf : fX12_childrenAt_b33 io_children cp1 x2 x4 s0 s1 k5 = some res) : ax X 0 0 33 [some (.ref (ao 0)), some (.ref qp1), some (.int x2), none, some (.int x4)] [oX12 ao io_thrown io_rows io_cells io_children io_changes io_taped io_at io_to io_nest io_readMany io_codeLong io_readLong io_undos io_wentHome io_tideLevel io_acts io_firstBreaks io_bestCrew io_sights io_wayMany io_random, rI Y qp1 43 cp1] [.int s1, .int s0] := by
  unfold fX12_childrenAt_b33 at hf
  refine a_ior C dX12_childrenAt_33 ?_
  refine a_istore_n C dX12_childrenAt_34 (by decide) rfl ?_
  refine a_iinc C (1 : Int32) dX12_childrenAt_35 (by decide) rfl (by decide) rfl ?_
  refine a_goto C 5 dX12_childrenAt_38 (by decide) ?_
  exact hk5 ((s0 ||| s1), (x4 + (1 : Int32))) hf
def fX12_childrenAt_l5 (io_children : Int32) (cp1 : Nat → Int32) (x2 : Int32) (k5 : Int32 × Int32 → Option (Int32)) (x3 : Int32) (x4 : Int32) : Option (Int32) :=
  if io_children ≤ x4 then (fX12_childrenAt_b41 io_children cp1 x3) else ((fX12_atOf cp1 x4).bind (fun r2 => if r2 = x2 then (fX12_childrenAt_b33 io_children cp1 x2 x4 x3 (jshl (1 : Int32) x4) k5) else (fX12_childrenAt_b33 io_children cp1 x2 x4 x3 (0 : Int32) k5)))
def fX12_childrenAt_b5 (io_children : Int32) (cp1 : Nat → Int32) (x2 : Int32) (x3 : Int32) (x4 : Int32) : Option (Int32) :=
  loopN (fun (s : Int32 × Int32) k5 => fX12_childrenAt_l5 io_children cp1 x2 k5 s.1 s.2) FUEL (x3, x4)
set_option maxHeartbeats 400000 in
set_option maxRecDepth 100000 in
theorem kX12_childrenAt_l5 {X : cxT} {l : Launch} {D : va_G} {Y : Nat → ClassId} {ao : Nat → Nat} {qp1 : Nat} {io_thrown : Int32} {io_rows : Int32} {io_cells : Int32} {io_children : Int32} {io_changes : Int32} {io_taped : Int32} {io_at : Int32} {io_to : Int32} {io_nest : Int32} {io_readMany : Int32} {io_codeLong : Int32} {io_readLong : Int32} {io_undos : Int32} {io_wentHome : Int32} {io_tideLevel : Int32} {io_acts : Int32} {io_firstBreaks : Int32} {io_bestCrew : Int32} {io_sights : Int32} {io_wayMany : Int32} {io_random : Int32} {cp1 : Nat → Int32} {x2 : Int32} {x3 : Int32} {x4 : Int32} {res : Int32} (C : axC X l D Y cX12_childrenAt 5 RX12 wsX12_childrenAt rmX12_childrenAt (some .int)) (hQ : axQ X 0 0 (fun r9 w9 => r9 = (some (.int res)) ∧ w9 = [oX12 ao io_thrown io_rows io_cells io_children io_changes io_taped io_at io_to io_nest io_readMany io_codeLong io_readLong io_undos io_wentHome io_tideLevel io_acts io_firstBreaks io_bestCrew io_sights io_wayMany io_random, rI Y qp1 43 cp1])) {k5 : Int32 × Int32 → Option (Int32)} (hk5 : ∀ s : Int32 × Int32, k5 s = some res → ax X 0 0 5 [some (.ref (ao 0)), some (.ref qp1), some (.int x2), some (.int s.1), some (.int s.2)] [oX12 ao io_thrown io_rows io_cells io_children io_changes io_taped io_at io_to io_nest io_readMany io_codeLong io_readLong io_undos io_wentHome io_tideLevel io_acts io_firstBreaks io_bestCrew io_sights io_wayMany io_random, rI Y qp1 43 cp1] []) (hf : fX12_childrenAt_l5 io_children cp1 x2 k5 x3 x4 = some res) : ax X 0 0 5 [some (.ref (ao 0)), some (.ref qp1), some (.int x2), some (.int x3), some (.int x4)] [oX12 ao io_thrown io_rows io_cells io_children io_changes io_taped io_at io_to io_nest io_readMany io_codeLong io_readLong io_undos io_wentHome io_tideLevel io_acts io_firstBreaks io_bestCrew io_sights io_wayMany io_random, rI Y qp1 43 cp1] [] := by
  unfold fX12_childrenAt_l5 at hf
  refine a_iload C dX12_childrenAt_5 rfl ?_
  refine a_aload_n C dX12_childrenAt_7 rfl ?_
  refine a_get C (eB_X12_126 _) dX12_childrenAt_8 0 rfl rfl ?_
  refine a_icmp_ge C 41 dX12_childrenAt_11 (by decide) (fun h1 => ?_) (fun h1 => ?_)
  · have hf := fx_t h1 hf
    refine a_kill [0, 1, 2, 4] ?_
    exact kX12_childrenAt_b41 C hQ hf
  · have hf := fx_f h1 hf
    refine a_iload_n C dX12_childrenAt_14 rfl ?_
    refine a_aload_n C dX12_childrenAt_15 rfl ?_
    refine a_iload C dX12_childrenAt_16 rfl ?_
    obtain ⟨r2, h2, hf⟩ := fx_bind hf
    refine a_fS C (kX12_atOf l D Y qp1 cp1 x4 r2 h2) (gB_X12_129 _) rfl dvX12_atOf ⟨⟨rfl, rfl⟩, ⟨Nat.le_of_ble_eq_true rfl, Nat.le_of_ble_eq_true rfl⟩, ⟨Nat.le_of_ble_eq_true rfl, Nat.le_of_ble_eq_true rfl⟩⟩ rfl (Nat.le_of_ble_eq_true rfl) dX12_childrenAt_18 [1] [0] ⟨rfl, trivial⟩ (by decide +kernel) rfl [oX12 ao io_thrown io_rows io_cells io_children io_changes io_taped io_at io_to io_nest io_readMany io_codeLong io_readLong io_undos io_wentHome io_tideLevel io_acts io_firstBreaks io_bestCrew io_sights io_wayMany io_random, rI Y qp1 43 cp1] ⟨rfl, trivial⟩ ⟨rfl, trivial⟩ 2 rfl (by decide +kernel) ?_
    refine a_iload_n C dX12_childrenAt_21 rfl ?_
    refine a_icmp_ne C 32 dX12_childrenAt_22 (by decide) (fun h3 => ?_) (fun h3 => ?_)
    · have hf := fx_f h3 hf
      refine a_iconst C (0 : Int32) dX12_childrenAt_32 (by decide) ?_
      refine a_kill [3] ?_
      exact kX12_childrenAt_b33 C hQ hk5 hf
    · have hf := fx_t h3 hf
      refine a_iconst C (1 : Int32) dX12_childrenAt_25 (by decide) ?_
      refine a_iload C dX12_childrenAt_26 rfl ?_
      refine a_ishl C dX12_childrenAt_28 ?_
      refine a_goto C 33 dX12_childrenAt_29 (by decide) ?_
      refine a_kill [3] ?_
      exact kX12_childrenAt_b33 C hQ hk5 hf
set_option maxHeartbeats 400000 in
set_option maxRecDepth 100000 in
theorem kX12_childrenAt_b5 {X : cxT} {l : Launch} {D : va_G} {Y : Nat → ClassId} {ao : Nat → Nat} {qp1 : Nat} {io_thrown : Int32} {io_rows : Int32} {io_cells : Int32} {io_children : Int32} {io_changes : Int32} {io_taped : Int32} {io_at : Int32} {io_to : Int32} {io_nest : Int32} {io_readMany : Int32} {io_codeLong : Int32} {io_readLong : Int32} {io_undos : Int32} {io_wentHome : Int32} {io_tideLevel : Int32} {io_acts : Int32} {io_firstBreaks : Int32} {io_bestCrew : Int32} {io_sights : Int32} {io_wayMany : Int32} {io_random : Int32} {cp1 : Nat → Int32} {x2 : Int32} {x3 : Int32} {x4 : Int32} {res : Int32} (C : axC X l D Y cX12_childrenAt 5 RX12 wsX12_childrenAt rmX12_childrenAt (some .int)) (hQ : axQ X 0 0 (fun r9 w9 => r9 = (some (.int res)) ∧ w9 = [oX12 ao io_thrown io_rows io_cells io_children io_changes io_taped io_at io_to io_nest io_readMany io_codeLong io_readLong io_undos io_wentHome io_tideLevel io_acts io_firstBreaks io_bestCrew io_sights io_wayMany io_random, rI Y qp1 43 cp1])) (hf : fX12_childrenAt_b5 io_children cp1 x2 x3 x4 = some res) : ax X 0 0 5 [some (.ref (ao 0)), some (.ref qp1), some (.int x2), some (.int x3), some (.int x4)] [oX12 ao io_thrown io_rows io_cells io_children io_changes io_taped io_at io_to io_nest io_readMany io_codeLong io_readLong io_undos io_wentHome io_tideLevel io_acts io_firstBreaks io_bestCrew io_sights io_wayMany io_random, rI Y qp1 43 cp1] [] := by
  unfold fX12_childrenAt_b5 at hf
  exact fx_loop (P := fun s : Int32 × Int32 => ax X 0 0 5 [some (.ref (ao 0)), some (.ref qp1), some (.int x2), some (.int s.1), some (.int s.2)] [oX12 ao io_thrown io_rows io_cells io_children io_changes io_taped io_at io_to io_nest io_readMany io_codeLong io_readLong io_undos io_wentHome io_tideLevel io_acts io_firstBreaks io_bestCrew io_sights io_wayMany io_random, rI Y qp1 43 cp1] []) (fun s k5 hk5 h => kX12_childrenAt_l5 C hQ hk5 h) FUEL (x3, x4) hf
def fX12_childrenAt (io_children : Int32) (cp1 : Nat → Int32) (x2 : Int32) : Option (Int32) :=
  fX12_childrenAt_b5 io_children cp1 x2 (0 : Int32) (0 : Int32)
set_option maxHeartbeats 400000 in
set_option maxRecDepth 100000 in
theorem kX12_childrenAt (l : Launch) (D : va_G) (Y : Nat → ClassId) (ao : Nat → Nat) (qp1 : Nat) (io_thrown : Int32) (io_rows : Int32) (io_cells : Int32) (io_children : Int32) (io_changes : Int32) (io_taped : Int32) (io_at : Int32) (io_to : Int32) (io_nest : Int32) (io_readMany : Int32) (io_codeLong : Int32) (io_readLong : Int32) (io_undos : Int32) (io_wentHome : Int32) (io_tideLevel : Int32) (io_acts : Int32) (io_firstBreaks : Int32) (io_bestCrew : Int32) (io_sights : Int32) (io_wayMany : Int32) (io_random : Int32) (cp1 : Nat → Int32) (x2 : Int32) (res : Int32) (hf : fX12_childrenAt io_children cp1 x2 = some res) : amf l D Y yX12_childrenAt wsX12_childrenAt rmX12_childrenAt [.ref (ao 0), .ref qp1, .int x2] [oX12 ao io_thrown io_rows io_cells io_children io_changes io_taped io_at io_to io_nest io_readMany io_codeLong io_readLong io_undos io_wentHome io_tideLevel io_acts io_firstBreaks io_bestCrew io_sights io_wayMany io_random, rI Y qp1 43 cp1] (some (.int res)) [oX12 ao io_thrown io_rows io_cells io_children io_changes io_taped io_at io_to io_nest io_readMany io_codeLong io_readLong io_undos io_wentHome io_tideLevel io_acts io_firstBreaks io_bestCrew io_sights io_wayMany io_random, rI Y qp1 43 cp1] := by
  refine amf.of (cc := cX12_childrenAt) (maxL := 5) (rt := (some .int)) (by decide) rfl RX12 rfl (Nat.le_of_ble_eq_true rfl) [some (.ref (ao 0)), some (.ref qp1), some (.int x2), none, none] rfl ?_
  intro X C hQ
  unfold fX12_childrenAt at hf
  refine a_iconst C (0 : Int32) dX12_childrenAt_0 (by decide) ?_
  refine a_istore_n C dX12_childrenAt_1 (by decide) rfl ?_
  refine a_iconst C (0 : Int32) dX12_childrenAt_2 (by decide) ?_
  refine a_istore C dX12_childrenAt_3 (by decide) rfl ?_
  exact kX12_childrenAt_b5 C hQ hf
-- X12_wet
abbrev rmX12_wet : Room := { frames := 0, cells := 0, slots := 0, locals := 0 }
theorem dvX12_wet : yX12_wet.cls = RX12 ∧ yX12_wet.cls ≠ "java/lang/invoke/MethodHandle" ∧ yX12_wet.cls ≠ "java/lang/invoke/VarHandle" ∧ (parseMethodDescriptor yX12_wet.desc).map (fun d => d.parameters.length) = some 1 := by decide +kernel
def fX12_wet_b37 (io_cells : Int32) (cp1 : Nat → Int32) (x2 : Int32) : Option (Int32) :=
  some x2
set_option maxHeartbeats 400000 in
set_option maxRecDepth 100000 in
theorem kX12_wet_b37 {X : cxT} {l : Launch} {D : va_G} {Y : Nat → ClassId} {ao : Nat → Nat} {qp1 : Nat} {io_thrown : Int32} {io_rows : Int32} {io_cells : Int32} {io_children : Int32} {io_changes : Int32} {io_taped : Int32} {io_at : Int32} {io_to : Int32} {io_nest : Int32} {io_readMany : Int32} {io_codeLong : Int32} {io_readLong : Int32} {io_undos : Int32} {io_wentHome : Int32} {io_tideLevel : Int32} {io_acts : Int32} {io_firstBreaks : Int32} {io_bestCrew : Int32} {io_sights : Int32} {io_wayMany : Int32} {io_random : Int32} {cp1 : Nat → Int32} {x2 : Int32} {res : Int32} (C : axC X l D Y cX12_wet 4 RX12 wsX12_wet rmX12_wet (some .int)) (hQ : axQ X 0 0 (fun r9 w9 => r9 = (some (.int res)) ∧ w9 = [oX12 ao io_thrown io_rows io_cells io_children io_changes io_taped io_at io_to io_nest io_readMany io_codeLong io_readLong io_undos io_wentHome io_tideLevel io_acts io_firstBreaks io_bestCrew io_sights io_wayMany io_random, rI Y qp1 43 cp1])) (hf : fX12_wet_b37 io_cells cp1 x2 = some res) : ax X 0 0 37 [none, none, some (.int x2), none] [oX12 ao io_thrown io_rows io_cells io_children io_changes io_taped io_at io_to io_nest io_readMany io_codeLong io_readLong io_undos io_wentHome io_tideLevel io_acts io_firstBreaks io_bestCrew io_sights io_wayMany io_random, rI Y qp1 43 cp1] [] := by
  unfold fX12_wet_b37 at hf
  refine a_iload_n C dX12_wet_37 rfl ?_
  obtain rfl := fx_some hf
  exact a_iret C hQ dX12_wet_38 ⟨rfl, rfl⟩
def fX12_wet_b29 (io_cells : Int32) (cp1 : Nat → Int32) (x3 : Int32) (s0 : Int32) (s1 : Int32) (k4 : Int32 × Int32 → Option (Int32)) : Option (Int32) :=
  k4 ((s0 ||| s1), (x3 + (1 : Int32)))
set_option maxHeartbeats 400000 in
set_option maxRecDepth 100000 in
theorem kX12_wet_b29 {X : cxT} {l : Launch} {D : va_G} {Y : Nat → ClassId} {ao : Nat → Nat} {qp1 : Nat} {io_thrown : Int32} {io_rows : Int32} {io_cells : Int32} {io_children : Int32} {io_changes : Int32} {io_taped : Int32} {io_at : Int32} {io_to : Int32} {io_nest : Int32} {io_readMany : Int32} {io_codeLong : Int32} {io_readLong : Int32} {io_undos : Int32} {io_wentHome : Int32} {io_tideLevel : Int32} {io_acts : Int32} {io_firstBreaks : Int32} {io_bestCrew : Int32} {io_sights : Int32} {io_wayMany : Int32} {io_random : Int32} {cp1 : Nat → Int32} {x3 : Int32} {s0 : Int32} {s1 : Int32} {res : Int32} (C : axC X l D Y cX12_wet 4 RX12 wsX12_wet rmX12_wet (some .int)) (hQ : axQ X 0 0 (fun r9 w9 => r9 = (some (.int res)) ∧ w9 = [oX12 ao io_thrown io_rows io_cells io_children io_changes io_taped io_at io_to io_nest io_readMany io_codeLong io_readLong io_undos io_wentHome io_tideLevel io_acts io_firstBreaks io_bestCrew io_sights io_wayMany io_random, rI Y qp1 43 cp1])) {k4 : Int32 × Int32 → Option (Int32)} (hk4 : ∀ s : Int32 × Int32, k4 s = some res → ax X 0 0 4 [some (.ref (ao 0)), some (.ref qp1), some (.int s.1), some (.int s.2)] [oX12 ao io_thrown io_rows io_cells io_children io_changes io_taped io_at io_to io_nest io_readMany io_codeLong io_readLong io_undos io_wentHome io_tideLevel io_acts io_firstBreaks io_bestCrew io_sights io_wayMany io_random, rI Y qp1 43 cp1] []) (hf : fX12_wet_b29 io_cells cp1 x3 s0 s1 k4 = some res) : ax X 0 0 29 [some (.ref (ao 0)), some (.ref qp1), none, some (.int x3)] [oX12 ao io_thrown io_rows io_cells io_children io_changes io_taped io_at io_to io_nest io_readMany io_codeLong io_readLong io_undos io_wentHome io_tideLevel io_acts io_firstBreaks io_bestCrew io_sights io_wayMany io_random, rI Y qp1 43 cp1] [.int s1, .int s0] := by
  unfold fX12_wet_b29 at hf
  refine a_ior C dX12_wet_29 ?_
  refine a_istore_n C dX12_wet_30 (by decide) rfl ?_
  refine a_iinc C (1 : Int32) dX12_wet_31 (by decide) rfl (by decide) rfl ?_
  refine a_goto C 4 dX12_wet_34 (by decide) ?_
  exact hk4 ((s0 ||| s1), (x3 + (1 : Int32))) hf
def fX12_wet_l4 (io_cells : Int32) (cp1 : Nat → Int32) (k4 : Int32 × Int32 → Option (Int32)) (x2 : Int32) (x3 : Int32) : Option (Int32) :=
  if io_cells ≤ x3 then (fX12_wet_b37 io_cells cp1 x2) else (if inb ((13 : Int32) + x3) 43 then if (cp1 (Int32.toNatClampNeg ((13 : Int32) + x3))) ≤ (0 : Int32) then (fX12_wet_b29 io_cells cp1 x3 x2 (0 : Int32) k4) else (fX12_wet_b29 io_cells cp1 x3 x2 (jshl (1 : Int32) x3) k4) else none)
def fX12_wet_b4 (io_cells : Int32) (cp1 : Nat → Int32) (x2 : Int32) (x3 : Int32) : Option (Int32) :=
  loopN (fun (s : Int32 × Int32) k4 => fX12_wet_l4 io_cells cp1 k4 s.1 s.2) FUEL (x2, x3)
set_option maxHeartbeats 400000 in
set_option maxRecDepth 100000 in
theorem kX12_wet_l4 {X : cxT} {l : Launch} {D : va_G} {Y : Nat → ClassId} {ao : Nat → Nat} {qp1 : Nat} {io_thrown : Int32} {io_rows : Int32} {io_cells : Int32} {io_children : Int32} {io_changes : Int32} {io_taped : Int32} {io_at : Int32} {io_to : Int32} {io_nest : Int32} {io_readMany : Int32} {io_codeLong : Int32} {io_readLong : Int32} {io_undos : Int32} {io_wentHome : Int32} {io_tideLevel : Int32} {io_acts : Int32} {io_firstBreaks : Int32} {io_bestCrew : Int32} {io_sights : Int32} {io_wayMany : Int32} {io_random : Int32} {cp1 : Nat → Int32} {x2 : Int32} {x3 : Int32} {res : Int32} (C : axC X l D Y cX12_wet 4 RX12 wsX12_wet rmX12_wet (some .int)) (hQ : axQ X 0 0 (fun r9 w9 => r9 = (some (.int res)) ∧ w9 = [oX12 ao io_thrown io_rows io_cells io_children io_changes io_taped io_at io_to io_nest io_readMany io_codeLong io_readLong io_undos io_wentHome io_tideLevel io_acts io_firstBreaks io_bestCrew io_sights io_wayMany io_random, rI Y qp1 43 cp1])) {k4 : Int32 × Int32 → Option (Int32)} (hk4 : ∀ s : Int32 × Int32, k4 s = some res → ax X 0 0 4 [some (.ref (ao 0)), some (.ref qp1), some (.int s.1), some (.int s.2)] [oX12 ao io_thrown io_rows io_cells io_children io_changes io_taped io_at io_to io_nest io_readMany io_codeLong io_readLong io_undos io_wentHome io_tideLevel io_acts io_firstBreaks io_bestCrew io_sights io_wayMany io_random, rI Y qp1 43 cp1] []) (hf : fX12_wet_l4 io_cells cp1 k4 x2 x3 = some res) : ax X 0 0 4 [some (.ref (ao 0)), some (.ref qp1), some (.int x2), some (.int x3)] [oX12 ao io_thrown io_rows io_cells io_children io_changes io_taped io_at io_to io_nest io_readMany io_codeLong io_readLong io_undos io_wentHome io_tideLevel io_acts io_firstBreaks io_bestCrew io_sights io_wayMany io_random, rI Y qp1 43 cp1] [] := by
  unfold fX12_wet_l4 at hf
  refine a_iload_n C dX12_wet_4 rfl ?_
  refine a_aload_n C dX12_wet_5 rfl ?_
  refine a_get C (eB_X12_13 _) dX12_wet_6 0 rfl rfl ?_
  refine a_icmp_ge C 37 dX12_wet_9 (by decide) (fun h1 => ?_) (fun h1 => ?_)
  · have hf := fx_t h1 hf
    refine a_kill [0, 1, 3] ?_
    exact kX12_wet_b37 C hQ hf
  · have hf := fx_f h1 hf
    refine a_iload_n C dX12_wet_12 rfl ?_
    refine a_aload_n C dX12_wet_13 rfl ?_
    refine a_bipush C (13 : Int32) dX12_wet_14 (by decide) ?_
    refine a_iload_n C dX12_wet_16 rfl ?_
    refine a_iadd C dX12_wet_17 ?_
    obtain ⟨h2, hf⟩ := fx_ite hf
    refine a_iald C dX12_wet_18 1 rfl h2 ?_
    refine a_if_le C 28 dX12_wet_19 (by decide) (fun h3 => ?_) (fun h3 => ?_)
    · have hf := fx_t h3 hf
      refine a_iconst C (0 : Int32) dX12_wet_28 (by decide) ?_
      refine a_kill [2] ?_
      exact kX12_wet_b29 C hQ hk4 hf
    · have hf := fx_f h3 hf
      refine a_iconst C (1 : Int32) dX12_wet_22 (by decide) ?_
      refine a_iload_n C dX12_wet_23 rfl ?_
      refine a_ishl C dX12_wet_24 ?_
      refine a_goto C 29 dX12_wet_25 (by decide) ?_
      refine a_kill [2] ?_
      exact kX12_wet_b29 C hQ hk4 hf
set_option maxHeartbeats 400000 in
set_option maxRecDepth 100000 in
theorem kX12_wet_b4 {X : cxT} {l : Launch} {D : va_G} {Y : Nat → ClassId} {ao : Nat → Nat} {qp1 : Nat} {io_thrown : Int32} {io_rows : Int32} {io_cells : Int32} {io_children : Int32} {io_changes : Int32} {io_taped : Int32} {io_at : Int32} {io_to : Int32} {io_nest : Int32} {io_readMany : Int32} {io_codeLong : Int32} {io_readLong : Int32} {io_undos : Int32} {io_wentHome : Int32} {io_tideLevel : Int32} {io_acts : Int32} {io_firstBreaks : Int32} {io_bestCrew : Int32} {io_sights : Int32} {io_wayMany : Int32} {io_random : Int32} {cp1 : Nat → Int32} {x2 : Int32} {x3 : Int32} {res : Int32} (C : axC X l D Y cX12_wet 4 RX12 wsX12_wet rmX12_wet (some .int)) (hQ : axQ X 0 0 (fun r9 w9 => r9 = (some (.int res)) ∧ w9 = [oX12 ao io_thrown io_rows io_cells io_children io_changes io_taped io_at io_to io_nest io_readMany io_codeLong io_readLong io_undos io_wentHome io_tideLevel io_acts io_firstBreaks io_bestCrew io_sights io_wayMany io_random, rI Y qp1 43 cp1])) (hf : fX12_wet_b4 io_cells cp1 x2 x3 = some res) : ax X 0 0 4 [some (.ref (ao 0)), some (.ref qp1), some (.int x2), some (.int x3)] [oX12 ao io_thrown io_rows io_cells io_children io_changes io_taped io_at io_to io_nest io_readMany io_codeLong io_readLong io_undos io_wentHome io_tideLevel io_acts io_firstBreaks io_bestCrew io_sights io_wayMany io_random, rI Y qp1 43 cp1] [] := by
  unfold fX12_wet_b4 at hf
  exact fx_loop (P := fun s : Int32 × Int32 => ax X 0 0 4 [some (.ref (ao 0)), some (.ref qp1), some (.int s.1), some (.int s.2)] [oX12 ao io_thrown io_rows io_cells io_children io_changes io_taped io_at io_to io_nest io_readMany io_codeLong io_readLong io_undos io_wentHome io_tideLevel io_acts io_firstBreaks io_bestCrew io_sights io_wayMany io_random, rI Y qp1 43 cp1] []) (fun s k4 hk4 h => kX12_wet_l4 C hQ hk4 h) FUEL (x2, x3) hf
def fX12_wet (io_cells : Int32) (cp1 : Nat → Int32) : Option (Int32) :=
  fX12_wet_b4 io_cells cp1 (0 : Int32) (0 : Int32)
set_option maxHeartbeats 400000 in
set_option maxRecDepth 100000 in
theorem kX12_wet (l : Launch) (D : va_G) (Y : Nat → ClassId) (ao : Nat → Nat) (qp1 : Nat) (io_thrown : Int32) (io_rows : Int32) (io_cells : Int32) (io_children : Int32) (io_changes : Int32) (io_taped : Int32) (io_at : Int32) (io_to : Int32) (io_nest : Int32) (io_readMany : Int32) (io_codeLong : Int32) (io_readLong : Int32) (io_undos : Int32) (io_wentHome : Int32) (io_tideLevel : Int32) (io_acts : Int32) (io_firstBreaks : Int32) (io_bestCrew : Int32) (io_sights : Int32) (io_wayMany : Int32) (io_random : Int32) (cp1 : Nat → Int32) (res : Int32) (hf : fX12_wet io_cells cp1 = some res) : amf l D Y yX12_wet wsX12_wet rmX12_wet [.ref (ao 0), .ref qp1] [oX12 ao io_thrown io_rows io_cells io_children io_changes io_taped io_at io_to io_nest io_readMany io_codeLong io_readLong io_undos io_wentHome io_tideLevel io_acts io_firstBreaks io_bestCrew io_sights io_wayMany io_random, rI Y qp1 43 cp1] (some (.int res)) [oX12 ao io_thrown io_rows io_cells io_children io_changes io_taped io_at io_to io_nest io_readMany io_codeLong io_readLong io_undos io_wentHome io_tideLevel io_acts io_firstBreaks io_bestCrew io_sights io_wayMany io_random, rI Y qp1 43 cp1] := by
  refine amf.of (cc := cX12_wet) (maxL := 4) (rt := (some .int)) (by decide) rfl RX12 rfl (Nat.le_of_ble_eq_true rfl) [some (.ref (ao 0)), some (.ref qp1), none, none] rfl ?_
  intro X C hQ
  unfold fX12_wet at hf
  refine a_iconst C (0 : Int32) dX12_wet_0 (by decide) ?_
  refine a_istore_n C dX12_wet_1 (by decide) rfl ?_
  refine a_iconst C (0 : Int32) dX12_wet_2 (by decide) ?_
  refine a_istore_n C dX12_wet_3 (by decide) rfl ?_
  exact kX12_wet_b4 C hQ hf
-- X12_deepAll
abbrev rmX12_deepAll : Room := { frames := 0, cells := 0, slots := 0, locals := 0 }
theorem dvX12_deepAll : yX12_deepAll.cls = RX12 ∧ yX12_deepAll.cls ≠ "java/lang/invoke/MethodHandle" ∧ yX12_deepAll.cls ≠ "java/lang/invoke/VarHandle" ∧ (parseMethodDescriptor yX12_deepAll.desc).map (fun d => d.parameters.length) = some 1 := by decide +kernel
def fX12_deepAll_b27 (io_cells : Int32) (cp1 : Nat → Int32) (x2 : Int32) : Option (Int32) :=
  some x2
set_option maxHeartbeats 400000 in
set_option maxRecDepth 100000 in
theorem kX12_deepAll_b27 {X : cxT} {l : Launch} {D : va_G} {Y : Nat → ClassId} {ao : Nat → Nat} {qp1 : Nat} {io_thrown : Int32} {io_rows : Int32} {io_cells : Int32} {io_children : Int32} {io_changes : Int32} {io_taped : Int32} {io_at : Int32} {io_to : Int32} {io_nest : Int32} {io_readMany : Int32} {io_codeLong : Int32} {io_readLong : Int32} {io_undos : Int32} {io_wentHome : Int32} {io_tideLevel : Int32} {io_acts : Int32} {io_firstBreaks : Int32} {io_bestCrew : Int32} {io_sights : Int32} {io_wayMany : Int32} {io_random : Int32} {cp1 : Nat → Int32} {x2 : Int32} {res : Int32} (C : axC X l D Y cX12_deepAll 4 RX12 wsX12_deepAll rmX12_deepAll (some .int)) (hQ : axQ X 0 0 (fun r9 w9 => r9 = (some (.int res)) ∧ w9 = [oX12 ao io_thrown io_rows io_cells io_children io_changes io_taped io_at io_to io_nest io_readMany io_codeLong io_readLong io_undos io_wentHome io_tideLevel io_acts io_firstBreaks io_bestCrew io_sights io_wayMany io_random, rI Y qp1 43 cp1])) (hf : fX12_deepAll_b27 io_cells cp1 x2 = some res) : ax X 0 0 27 [none, none, some (.int x2), none] [oX12 ao io_thrown io_rows io_cells io_children io_changes io_taped io_at io_to io_nest io_readMany io_codeLong io_readLong io_undos io_wentHome io_tideLevel io_acts io_firstBreaks io_bestCrew io_sights io_wayMany io_random, rI Y qp1 43 cp1] [] := by
  unfold fX12_deepAll_b27 at hf
  refine a_iload_n C dX12_deepAll_27 rfl ?_
  obtain rfl := fx_some hf
  exact a_iret C hQ dX12_deepAll_28 ⟨rfl, rfl⟩
def fX12_deepAll_l4 (io_cells : Int32) (cp1 : Nat → Int32) (k4 : Int32 × Int32 → Option (Int32)) (x2 : Int32) (x3 : Int32) : Option (Int32) :=
  if io_cells ≤ x3 then (fX12_deepAll_b27 io_cells cp1 x2) else (if inb ((13 : Int32) + x3) 43 then k4 ((x2 + (cp1 (Int32.toNatClampNeg ((13 : Int32) + x3)))), (x3 + (1 : Int32))) else none)
def fX12_deepAll_b4 (io_cells : Int32) (cp1 : Nat → Int32) (x2 : Int32) (x3 : Int32) : Option (Int32) :=
  loopN (fun (s : Int32 × Int32) k4 => fX12_deepAll_l4 io_cells cp1 k4 s.1 s.2) FUEL (x2, x3)
set_option maxHeartbeats 400000 in
set_option maxRecDepth 100000 in
theorem kX12_deepAll_l4 {X : cxT} {l : Launch} {D : va_G} {Y : Nat → ClassId} {ao : Nat → Nat} {qp1 : Nat} {io_thrown : Int32} {io_rows : Int32} {io_cells : Int32} {io_children : Int32} {io_changes : Int32} {io_taped : Int32} {io_at : Int32} {io_to : Int32} {io_nest : Int32} {io_readMany : Int32} {io_codeLong : Int32} {io_readLong : Int32} {io_undos : Int32} {io_wentHome : Int32} {io_tideLevel : Int32} {io_acts : Int32} {io_firstBreaks : Int32} {io_bestCrew : Int32} {io_sights : Int32} {io_wayMany : Int32} {io_random : Int32} {cp1 : Nat → Int32} {x2 : Int32} {x3 : Int32} {res : Int32} (C : axC X l D Y cX12_deepAll 4 RX12 wsX12_deepAll rmX12_deepAll (some .int)) (hQ : axQ X 0 0 (fun r9 w9 => r9 = (some (.int res)) ∧ w9 = [oX12 ao io_thrown io_rows io_cells io_children io_changes io_taped io_at io_to io_nest io_readMany io_codeLong io_readLong io_undos io_wentHome io_tideLevel io_acts io_firstBreaks io_bestCrew io_sights io_wayMany io_random, rI Y qp1 43 cp1])) {k4 : Int32 × Int32 → Option (Int32)} (hk4 : ∀ s : Int32 × Int32, k4 s = some res → ax X 0 0 4 [some (.ref (ao 0)), some (.ref qp1), some (.int s.1), some (.int s.2)] [oX12 ao io_thrown io_rows io_cells io_children io_changes io_taped io_at io_to io_nest io_readMany io_codeLong io_readLong io_undos io_wentHome io_tideLevel io_acts io_firstBreaks io_bestCrew io_sights io_wayMany io_random, rI Y qp1 43 cp1] []) (hf : fX12_deepAll_l4 io_cells cp1 k4 x2 x3 = some res) : ax X 0 0 4 [some (.ref (ao 0)), some (.ref qp1), some (.int x2), some (.int x3)] [oX12 ao io_thrown io_rows io_cells io_children io_changes io_taped io_at io_to io_nest io_readMany io_codeLong io_readLong io_undos io_wentHome io_tideLevel io_acts io_firstBreaks io_bestCrew io_sights io_wayMany io_random, rI Y qp1 43 cp1] [] := by
  unfold fX12_deepAll_l4 at hf
  refine a_iload_n C dX12_deepAll_4 rfl ?_
  refine a_aload_n C dX12_deepAll_5 rfl ?_
  refine a_get C (eB_X12_13 _) dX12_deepAll_6 0 rfl rfl ?_
  refine a_icmp_ge C 27 dX12_deepAll_9 (by decide) (fun h1 => ?_) (fun h1 => ?_)
  · have hf := fx_t h1 hf
    refine a_kill [0, 1, 3] ?_
    exact kX12_deepAll_b27 C hQ hf
  · have hf := fx_f h1 hf
    refine a_iload_n C dX12_deepAll_12 rfl ?_
    refine a_aload_n C dX12_deepAll_13 rfl ?_
    refine a_bipush C (13 : Int32) dX12_deepAll_14 (by decide) ?_
    refine a_iload_n C dX12_deepAll_16 rfl ?_
    refine a_iadd C dX12_deepAll_17 ?_
    obtain ⟨h2, hf⟩ := fx_ite hf
    refine a_iald C dX12_deepAll_18 1 rfl h2 ?_
    refine a_iadd C dX12_deepAll_19 ?_
    refine a_istore_n C dX12_deepAll_20 (by decide) rfl ?_
    refine a_iinc C (1 : Int32) dX12_deepAll_21 (by decide) rfl (by decide) rfl ?_
    refine a_goto C 4 dX12_deepAll_24 (by decide) ?_
    exact hk4 ((x2 + (cp1 (Int32.toNatClampNeg ((13 : Int32) + x3)))), (x3 + (1 : Int32))) hf
set_option maxHeartbeats 400000 in
set_option maxRecDepth 100000 in
theorem kX12_deepAll_b4 {X : cxT} {l : Launch} {D : va_G} {Y : Nat → ClassId} {ao : Nat → Nat} {qp1 : Nat} {io_thrown : Int32} {io_rows : Int32} {io_cells : Int32} {io_children : Int32} {io_changes : Int32} {io_taped : Int32} {io_at : Int32} {io_to : Int32} {io_nest : Int32} {io_readMany : Int32} {io_codeLong : Int32} {io_readLong : Int32} {io_undos : Int32} {io_wentHome : Int32} {io_tideLevel : Int32} {io_acts : Int32} {io_firstBreaks : Int32} {io_bestCrew : Int32} {io_sights : Int32} {io_wayMany : Int32} {io_random : Int32} {cp1 : Nat → Int32} {x2 : Int32} {x3 : Int32} {res : Int32} (C : axC X l D Y cX12_deepAll 4 RX12 wsX12_deepAll rmX12_deepAll (some .int)) (hQ : axQ X 0 0 (fun r9 w9 => r9 = (some (.int res)) ∧ w9 = [oX12 ao io_thrown io_rows io_cells io_children io_changes io_taped io_at io_to io_nest io_readMany io_codeLong io_readLong io_undos io_wentHome io_tideLevel io_acts io_firstBreaks io_bestCrew io_sights io_wayMany io_random, rI Y qp1 43 cp1])) (hf : fX12_deepAll_b4 io_cells cp1 x2 x3 = some res) : ax X 0 0 4 [some (.ref (ao 0)), some (.ref qp1), some (.int x2), some (.int x3)] [oX12 ao io_thrown io_rows io_cells io_children io_changes io_taped io_at io_to io_nest io_readMany io_codeLong io_readLong io_undos io_wentHome io_tideLevel io_acts io_firstBreaks io_bestCrew io_sights io_wayMany io_random, rI Y qp1 43 cp1] [] := by
  unfold fX12_deepAll_b4 at hf
  exact fx_loop (P := fun s : Int32 × Int32 => ax X 0 0 4 [some (.ref (ao 0)), some (.ref qp1), some (.int s.1), some (.int s.2)] [oX12 ao io_thrown io_rows io_cells io_children io_changes io_taped io_at io_to io_nest io_readMany io_codeLong io_readLong io_undos io_wentHome io_tideLevel io_acts io_firstBreaks io_bestCrew io_sights io_wayMany io_random, rI Y qp1 43 cp1] []) (fun s k4 hk4 h => kX12_deepAll_l4 C hQ hk4 h) FUEL (x2, x3) hf
def fX12_deepAll (io_cells : Int32) (cp1 : Nat → Int32) : Option (Int32) :=
  fX12_deepAll_b4 io_cells cp1 (0 : Int32) (0 : Int32)
set_option maxHeartbeats 400000 in
set_option maxRecDepth 100000 in
theorem kX12_deepAll (l : Launch) (D : va_G) (Y : Nat → ClassId) (ao : Nat → Nat) (qp1 : Nat) (io_thrown : Int32) (io_rows : Int32) (io_cells : Int32) (io_children : Int32) (io_changes : Int32) (io_taped : Int32) (io_at : Int32) (io_to : Int32) (io_nest : Int32) (io_readMany : Int32) (io_codeLong : Int32) (io_readLong : Int32) (io_undos : Int32) (io_wentHome : Int32) (io_tideLevel : Int32) (io_acts : Int32) (io_firstBreaks : Int32) (io_bestCrew : Int32) (io_sights : Int32) (io_wayMany : Int32) (io_random : Int32) (cp1 : Nat → Int32) (res : Int32) (hf : fX12_deepAll io_cells cp1 = some res) : amf l D Y yX12_deepAll wsX12_deepAll rmX12_deepAll [.ref (ao 0), .ref qp1] [oX12 ao io_thrown io_rows io_cells io_children io_changes io_taped io_at io_to io_nest io_readMany io_codeLong io_readLong io_undos io_wentHome io_tideLevel io_acts io_firstBreaks io_bestCrew io_sights io_wayMany io_random, rI Y qp1 43 cp1] (some (.int res)) [oX12 ao io_thrown io_rows io_cells io_children io_changes io_taped io_at io_to io_nest io_readMany io_codeLong io_readLong io_undos io_wentHome io_tideLevel io_acts io_firstBreaks io_bestCrew io_sights io_wayMany io_random, rI Y qp1 43 cp1] := by
  refine amf.of (cc := cX12_deepAll) (maxL := 4) (rt := (some .int)) (by decide) rfl RX12 rfl (Nat.le_of_ble_eq_true rfl) [some (.ref (ao 0)), some (.ref qp1), none, none] rfl ?_
  intro X C hQ
  unfold fX12_deepAll at hf
  refine a_iconst C (0 : Int32) dX12_deepAll_0 (by decide) ?_
  refine a_istore_n C dX12_deepAll_1 (by decide) rfl ?_
  refine a_iconst C (0 : Int32) dX12_deepAll_2 (by decide) ?_
  refine a_istore_n C dX12_deepAll_3 (by decide) rfl ?_
  exact kX12_deepAll_b4 C hQ hf
-- X12_wallAll
abbrev rmX12_wallAll : Room := { frames := 0, cells := 0, slots := 0, locals := 0 }
theorem dvX12_wallAll : yX12_wallAll.cls = RX12 ∧ yX12_wallAll.cls ≠ "java/lang/invoke/MethodHandle" ∧ yX12_wallAll.cls ≠ "java/lang/invoke/VarHandle" ∧ (parseMethodDescriptor yX12_wallAll.desc).map (fun d => d.parameters.length) = some 1 := by decide +kernel
def fX12_wallAll_b24 (io_cells : Int32) (cp1 : Nat → Int32) (x2 : Int32) : Option (Int32) :=
  some x2
set_option maxHeartbeats 400000 in
set_option maxRecDepth 100000 in
theorem kX12_wallAll_b24 {X : cxT} {l : Launch} {D : va_G} {Y : Nat → ClassId} {ao : Nat → Nat} {qp1 : Nat} {io_thrown : Int32} {io_rows : Int32} {io_cells : Int32} {io_children : Int32} {io_changes : Int32} {io_taped : Int32} {io_at : Int32} {io_to : Int32} {io_nest : Int32} {io_readMany : Int32} {io_codeLong : Int32} {io_readLong : Int32} {io_undos : Int32} {io_wentHome : Int32} {io_tideLevel : Int32} {io_acts : Int32} {io_firstBreaks : Int32} {io_bestCrew : Int32} {io_sights : Int32} {io_wayMany : Int32} {io_random : Int32} {cp1 : Nat → Int32} {x2 : Int32} {res : Int32} (C : axC X l D Y cX12_wallAll 4 RX12 wsX12_wallAll rmX12_wallAll (some .int)) (hQ : axQ X 0 0 (fun r9 w9 => r9 = (some (.int res)) ∧ w9 = [oX12 ao io_thrown io_rows io_cells io_children io_changes io_taped io_at io_to io_nest io_readMany io_codeLong io_readLong io_undos io_wentHome io_tideLevel io_acts io_firstBreaks io_bestCrew io_sights io_wayMany io_random, rI Y qp1 43 cp1])) (hf : fX12_wallAll_b24 io_cells cp1 x2 = some res) : ax X 0 0 24 [none, none, some (.int x2), none] [oX12 ao io_thrown io_rows io_cells io_children io_changes io_taped io_at io_to io_nest io_readMany io_codeLong io_readLong io_undos io_wentHome io_tideLevel io_acts io_firstBreaks io_bestCrew io_sights io_wayMany io_random, rI Y qp1 43 cp1] [] := by
  unfold fX12_wallAll_b24 at hf
  refine a_iload_n C dX12_wallAll_24 rfl ?_
  obtain rfl := fx_some hf
  exact a_iret C hQ dX12_wallAll_25 ⟨rfl, rfl⟩
def fX12_wallAll_l4 (io_cells : Int32) (cp1 : Nat → Int32) (k4 : Int32 × Int32 → Option (Int32)) (x2 : Int32) (x3 : Int32) : Option (Int32) :=
  if io_cells ≤ x3 then (fX12_wallAll_b24 io_cells cp1 x2) else (if inb x3 43 then k4 ((x2 + (cp1 (Int32.toNatClampNeg x3))), (x3 + (1 : Int32))) else none)
def fX12_wallAll_b4 (io_cells : Int32) (cp1 : Nat → Int32) (x2 : Int32) (x3 : Int32) : Option (Int32) :=
  loopN (fun (s : Int32 × Int32) k4 => fX12_wallAll_l4 io_cells cp1 k4 s.1 s.2) FUEL (x2, x3)
set_option maxHeartbeats 400000 in
set_option maxRecDepth 100000 in
theorem kX12_wallAll_l4 {X : cxT} {l : Launch} {D : va_G} {Y : Nat → ClassId} {ao : Nat → Nat} {qp1 : Nat} {io_thrown : Int32} {io_rows : Int32} {io_cells : Int32} {io_children : Int32} {io_changes : Int32} {io_taped : Int32} {io_at : Int32} {io_to : Int32} {io_nest : Int32} {io_readMany : Int32} {io_codeLong : Int32} {io_readLong : Int32} {io_undos : Int32} {io_wentHome : Int32} {io_tideLevel : Int32} {io_acts : Int32} {io_firstBreaks : Int32} {io_bestCrew : Int32} {io_sights : Int32} {io_wayMany : Int32} {io_random : Int32} {cp1 : Nat → Int32} {x2 : Int32} {x3 : Int32} {res : Int32} (C : axC X l D Y cX12_wallAll 4 RX12 wsX12_wallAll rmX12_wallAll (some .int)) (hQ : axQ X 0 0 (fun r9 w9 => r9 = (some (.int res)) ∧ w9 = [oX12 ao io_thrown io_rows io_cells io_children io_changes io_taped io_at io_to io_nest io_readMany io_codeLong io_readLong io_undos io_wentHome io_tideLevel io_acts io_firstBreaks io_bestCrew io_sights io_wayMany io_random, rI Y qp1 43 cp1])) {k4 : Int32 × Int32 → Option (Int32)} (hk4 : ∀ s : Int32 × Int32, k4 s = some res → ax X 0 0 4 [some (.ref (ao 0)), some (.ref qp1), some (.int s.1), some (.int s.2)] [oX12 ao io_thrown io_rows io_cells io_children io_changes io_taped io_at io_to io_nest io_readMany io_codeLong io_readLong io_undos io_wentHome io_tideLevel io_acts io_firstBreaks io_bestCrew io_sights io_wayMany io_random, rI Y qp1 43 cp1] []) (hf : fX12_wallAll_l4 io_cells cp1 k4 x2 x3 = some res) : ax X 0 0 4 [some (.ref (ao 0)), some (.ref qp1), some (.int x2), some (.int x3)] [oX12 ao io_thrown io_rows io_cells io_children io_changes io_taped io_at io_to io_nest io_readMany io_codeLong io_readLong io_undos io_wentHome io_tideLevel io_acts io_firstBreaks io_bestCrew io_sights io_wayMany io_random, rI Y qp1 43 cp1] [] := by
  unfold fX12_wallAll_l4 at hf
  refine a_iload_n C dX12_wallAll_4 rfl ?_
  refine a_aload_n C dX12_wallAll_5 rfl ?_
  refine a_get C (eB_X12_13 _) dX12_wallAll_6 0 rfl rfl ?_
  refine a_icmp_ge C 24 dX12_wallAll_9 (by decide) (fun h1 => ?_) (fun h1 => ?_)
  · have hf := fx_t h1 hf
    refine a_kill [0, 1, 3] ?_
    exact kX12_wallAll_b24 C hQ hf
  · have hf := fx_f h1 hf
    refine a_iload_n C dX12_wallAll_12 rfl ?_
    refine a_aload_n C dX12_wallAll_13 rfl ?_
    refine a_iload_n C dX12_wallAll_14 rfl ?_
    obtain ⟨h2, hf⟩ := fx_ite hf
    refine a_iald C dX12_wallAll_15 1 rfl h2 ?_
    refine a_iadd C dX12_wallAll_16 ?_
    refine a_istore_n C dX12_wallAll_17 (by decide) rfl ?_
    refine a_iinc C (1 : Int32) dX12_wallAll_18 (by decide) rfl (by decide) rfl ?_
    refine a_goto C 4 dX12_wallAll_21 (by decide) ?_
    exact hk4 ((x2 + (cp1 (Int32.toNatClampNeg x3))), (x3 + (1 : Int32))) hf
set_option maxHeartbeats 400000 in
set_option maxRecDepth 100000 in
theorem kX12_wallAll_b4 {X : cxT} {l : Launch} {D : va_G} {Y : Nat → ClassId} {ao : Nat → Nat} {qp1 : Nat} {io_thrown : Int32} {io_rows : Int32} {io_cells : Int32} {io_children : Int32} {io_changes : Int32} {io_taped : Int32} {io_at : Int32} {io_to : Int32} {io_nest : Int32} {io_readMany : Int32} {io_codeLong : Int32} {io_readLong : Int32} {io_undos : Int32} {io_wentHome : Int32} {io_tideLevel : Int32} {io_acts : Int32} {io_firstBreaks : Int32} {io_bestCrew : Int32} {io_sights : Int32} {io_wayMany : Int32} {io_random : Int32} {cp1 : Nat → Int32} {x2 : Int32} {x3 : Int32} {res : Int32} (C : axC X l D Y cX12_wallAll 4 RX12 wsX12_wallAll rmX12_wallAll (some .int)) (hQ : axQ X 0 0 (fun r9 w9 => r9 = (some (.int res)) ∧ w9 = [oX12 ao io_thrown io_rows io_cells io_children io_changes io_taped io_at io_to io_nest io_readMany io_codeLong io_readLong io_undos io_wentHome io_tideLevel io_acts io_firstBreaks io_bestCrew io_sights io_wayMany io_random, rI Y qp1 43 cp1])) (hf : fX12_wallAll_b4 io_cells cp1 x2 x3 = some res) : ax X 0 0 4 [some (.ref (ao 0)), some (.ref qp1), some (.int x2), some (.int x3)] [oX12 ao io_thrown io_rows io_cells io_children io_changes io_taped io_at io_to io_nest io_readMany io_codeLong io_readLong io_undos io_wentHome io_tideLevel io_acts io_firstBreaks io_bestCrew io_sights io_wayMany io_random, rI Y qp1 43 cp1] [] := by
  unfold fX12_wallAll_b4 at hf
  exact fx_loop (P := fun s : Int32 × Int32 => ax X 0 0 4 [some (.ref (ao 0)), some (.ref qp1), some (.int s.1), some (.int s.2)] [oX12 ao io_thrown io_rows io_cells io_children io_changes io_taped io_at io_to io_nest io_readMany io_codeLong io_readLong io_undos io_wentHome io_tideLevel io_acts io_firstBreaks io_bestCrew io_sights io_wayMany io_random, rI Y qp1 43 cp1] []) (fun s k4 hk4 h => kX12_wallAll_l4 C hQ hk4 h) FUEL (x2, x3) hf
def fX12_wallAll (io_cells : Int32) (cp1 : Nat → Int32) : Option (Int32) :=
  fX12_wallAll_b4 io_cells cp1 (0 : Int32) (0 : Int32)
set_option maxHeartbeats 400000 in
set_option maxRecDepth 100000 in
theorem kX12_wallAll (l : Launch) (D : va_G) (Y : Nat → ClassId) (ao : Nat → Nat) (qp1 : Nat) (io_thrown : Int32) (io_rows : Int32) (io_cells : Int32) (io_children : Int32) (io_changes : Int32) (io_taped : Int32) (io_at : Int32) (io_to : Int32) (io_nest : Int32) (io_readMany : Int32) (io_codeLong : Int32) (io_readLong : Int32) (io_undos : Int32) (io_wentHome : Int32) (io_tideLevel : Int32) (io_acts : Int32) (io_firstBreaks : Int32) (io_bestCrew : Int32) (io_sights : Int32) (io_wayMany : Int32) (io_random : Int32) (cp1 : Nat → Int32) (res : Int32) (hf : fX12_wallAll io_cells cp1 = some res) : amf l D Y yX12_wallAll wsX12_wallAll rmX12_wallAll [.ref (ao 0), .ref qp1] [oX12 ao io_thrown io_rows io_cells io_children io_changes io_taped io_at io_to io_nest io_readMany io_codeLong io_readLong io_undos io_wentHome io_tideLevel io_acts io_firstBreaks io_bestCrew io_sights io_wayMany io_random, rI Y qp1 43 cp1] (some (.int res)) [oX12 ao io_thrown io_rows io_cells io_children io_changes io_taped io_at io_to io_nest io_readMany io_codeLong io_readLong io_undos io_wentHome io_tideLevel io_acts io_firstBreaks io_bestCrew io_sights io_wayMany io_random, rI Y qp1 43 cp1] := by
  refine amf.of (cc := cX12_wallAll) (maxL := 4) (rt := (some .int)) (by decide) rfl RX12 rfl (Nat.le_of_ble_eq_true rfl) [some (.ref (ao 0)), some (.ref qp1), none, none] rfl ?_
  intro X C hQ
  unfold fX12_wallAll at hf
  refine a_iconst C (0 : Int32) dX12_wallAll_0 (by decide) ?_
  refine a_istore_n C dX12_wallAll_1 (by decide) rfl ?_
  refine a_iconst C (0 : Int32) dX12_wallAll_2 (by decide) ?_
  refine a_istore_n C dX12_wallAll_3 (by decide) rfl ?_
  exact kX12_wallAll_b4 C hQ hf
-- X12_sign
abbrev rmX12_sign : Room := { frames := 0, cells := 0, slots := 0, locals := 0 }
theorem dvX12_sign : yX12_sign.cls = RX12 ∧ yX12_sign.cls ≠ "java/lang/invoke/MethodHandle" ∧ yX12_sign.cls ≠ "java/lang/invoke/VarHandle" ∧ (parseMethodDescriptor yX12_sign.desc).map (fun d => d.parameters.length) = some 1 := by decide +kernel
def fX12_sign_b53 (io_thrown : Int32) (io_taped : Int32) (co_tape : Nat → Int32) : Option (Int32 × Int32 × Int32 × (Nat → Int32)) :=
  some ((io_taped + (4 : Int32)), io_thrown, (io_taped + (4 : Int32)), co_tape)
set_option maxHeartbeats 400000 in
set_option maxRecDepth 100000 in
theorem kX12_sign_b53 {X : cxT} {l : Launch} {D : va_G} {Y : Nat → ClassId} {ao : Nat → Nat} {io_thrown : Int32} {io_rows : Int32} {io_cells : Int32} {io_children : Int32} {io_changes : Int32} {io_taped : Int32} {io_at : Int32} {io_to : Int32} {io_nest : Int32} {io_readMany : Int32} {io_codeLong : Int32} {io_readLong : Int32} {io_undos : Int32} {io_wentHome : Int32} {io_tideLevel : Int32} {io_acts : Int32} {io_firstBreaks : Int32} {io_bestCrew : Int32} {io_sights : Int32} {io_wayMany : Int32} {io_random : Int32} {co_tape : Nat → Int32} {res : Int32 × Int32 × Int32 × (Nat → Int32)} (C : axC X l D Y cX12_sign 3 RX12 wsX12_sign rmX12_sign (some .int)) (hQ : axQ X 0 0 (fun r9 w9 => r9 = (some (.int res.1)) ∧ w9 = [oX12 ao res.2.1 io_rows io_cells io_children io_changes res.2.2.1 io_at io_to io_nest io_readMany io_codeLong io_readLong io_undos io_wentHome io_tideLevel io_acts io_firstBreaks io_bestCrew io_sights io_wayMany io_random, rI Y (ao 10) 80 res.2.2.2])) (hf : fX12_sign_b53 io_thrown io_taped co_tape = some res) : ax X 0 0 53 [some (.ref (ao 0)), none, none] [oX12 ao io_thrown io_rows io_cells io_children io_changes io_taped io_at io_to io_nest io_readMany io_codeLong io_readLong io_undos io_wentHome io_tideLevel io_acts io_firstBreaks io_bestCrew io_sights io_wayMany io_random, rI Y (ao 10) 80 co_tape] [] := by
  unfold fX12_sign_b53 at hf
  refine a_aload_n C dX12_sign_53 rfl ?_
  refine a_dup C dX12_sign_54 rfl ?_
  refine a_get C (eB_X12_133 _) dX12_sign_55 0 rfl rfl ?_
  refine a_iconst C (4 : Int32) dX12_sign_58 (by decide) ?_
  refine a_iadd C dX12_sign_59 ?_
  refine a_put C (eB_X12_133 _) tfX12_15 dX12_sign_60 0 rfl rfl rfl (Nat.le_of_ble_eq_true rfl) ?_
  refine a_aload_n C dX12_sign_63 rfl ?_
  refine a_get C (eB_X12_133 _) dX12_sign_64 0 rfl rfl ?_
  obtain rfl := fx_some hf
  exact a_iret C hQ dX12_sign_67 ⟨rfl, rfl⟩
def fX12_sign_l18 (io_thrown : Int32) (io_taped : Int32) (x1 : Int32) (k18 : (Nat → Int32) × Int32 → Option (Int32 × Int32 × Int32 × (Nat → Int32))) (co_tape : Nat → Int32) (x2 : Int32) : Option (Int32 × Int32 × Int32 × (Nat → Int32)) :=
  if (4 : Int32) ≤ x2 then (fX12_sign_b53 io_thrown io_taped co_tape) else (if inb (io_taped + x2) 80 then k18 ((upd co_tape (Int32.toNatClampNeg (io_taped + x2)) ((jshr x1 ((24 : Int32) - ((8 : Int32) * x2))) &&& (255 : Int32))), (x2 + (1 : Int32))) else none)
def fX12_sign_b18 (io_thrown : Int32) (io_taped : Int32) (co_tape : Nat → Int32) (x1 : Int32) (x2 : Int32) : Option (Int32 × Int32 × Int32 × (Nat → Int32)) :=
  loopN (fun (s : (Nat → Int32) × Int32) k18 => fX12_sign_l18 io_thrown io_taped x1 k18 s.1 s.2) FUEL (co_tape, x2)
set_option maxHeartbeats 400000 in
set_option maxRecDepth 100000 in
theorem kX12_sign_l18 {X : cxT} {l : Launch} {D : va_G} {Y : Nat → ClassId} {ao : Nat → Nat} {io_thrown : Int32} {io_rows : Int32} {io_cells : Int32} {io_children : Int32} {io_changes : Int32} {io_taped : Int32} {io_at : Int32} {io_to : Int32} {io_nest : Int32} {io_readMany : Int32} {io_codeLong : Int32} {io_readLong : Int32} {io_undos : Int32} {io_wentHome : Int32} {io_tideLevel : Int32} {io_acts : Int32} {io_firstBreaks : Int32} {io_bestCrew : Int32} {io_sights : Int32} {io_wayMany : Int32} {io_random : Int32} {co_tape : Nat → Int32} {x1 : Int32} {x2 : Int32} {res : Int32 × Int32 × Int32 × (Nat → Int32)} (C : axC X l D Y cX12_sign 3 RX12 wsX12_sign rmX12_sign (some .int)) (hQ : axQ X 0 0 (fun r9 w9 => r9 = (some (.int res.1)) ∧ w9 = [oX12 ao res.2.1 io_rows io_cells io_children io_changes res.2.2.1 io_at io_to io_nest io_readMany io_codeLong io_readLong io_undos io_wentHome io_tideLevel io_acts io_firstBreaks io_bestCrew io_sights io_wayMany io_random, rI Y (ao 10) 80 res.2.2.2])) {k18 : (Nat → Int32) × Int32 → Option (Int32 × Int32 × Int32 × (Nat → Int32))} (hk18 : ∀ s : (Nat → Int32) × Int32, k18 s = some res → ax X 0 0 18 [some (.ref (ao 0)), some (.int x1), some (.int s.2)] [oX12 ao io_thrown io_rows io_cells io_children io_changes io_taped io_at io_to io_nest io_readMany io_codeLong io_readLong io_undos io_wentHome io_tideLevel io_acts io_firstBreaks io_bestCrew io_sights io_wayMany io_random, rI Y (ao 10) 80 s.1] []) (hf : fX12_sign_l18 io_thrown io_taped x1 k18 co_tape x2 = some res) : ax X 0 0 18 [some (.ref (ao 0)), some (.int x1), some (.int x2)] [oX12 ao io_thrown io_rows io_cells io_children io_changes io_taped io_at io_to io_nest io_readMany io_codeLong io_readLong io_undos io_wentHome io_tideLevel io_acts io_firstBreaks io_bestCrew io_sights io_wayMany io_random, rI Y (ao 10) 80 co_tape] [] := by
  unfold fX12_sign_l18 at hf
  refine a_iload_n C dX12_sign_18 rfl ?_
  refine a_iconst C (4 : Int32) dX12_sign_19 (by decide) ?_
  refine a_icmp_ge C 53 dX12_sign_20 (by decide) (fun h1 => ?_) (fun h1 => ?_)
  · have hf := fx_t h1 hf
    refine a_kill [1, 2] ?_
    exact kX12_sign_b53 C hQ hf
  · have hf := fx_f h1 hf
    refine a_aload_n C dX12_sign_23 rfl ?_
    refine a_get C (eB_X12_42 _) dX12_sign_24 0 rfl rfl ?_
    refine a_aload_n C dX12_sign_27 rfl ?_
    refine a_get C (eB_X12_133 _) dX12_sign_28 0 rfl rfl ?_
    refine a_iload_n C dX12_sign_31 rfl ?_
    refine a_iadd C dX12_sign_32 ?_
    refine a_iload_n C dX12_sign_33 rfl ?_
    refine a_bipush C (24 : Int32) dX12_sign_34 (by decide) ?_
    refine a_bipush C (8 : Int32) dX12_sign_36 (by decide) ?_
    refine a_iload_n C dX12_sign_38 rfl ?_
    refine a_imul C dX12_sign_39 ?_
    refine a_isub C dX12_sign_40 ?_
    refine a_ishr C dX12_sign_41 ?_
    refine a_sipush C (255 : Int32) dX12_sign_42 (by decide) ?_
    refine a_iand C dX12_sign_45 ?_
    obtain ⟨h2, hf⟩ := fx_ite hf
    refine a_iast C dX12_sign_46 1 rfl h2 ?_
    refine a_iinc C (1 : Int32) dX12_sign_47 (by decide) rfl (by decide) rfl ?_
    refine a_goto C 18 dX12_sign_50 (by decide) ?_
    exact hk18 ((upd co_tape (Int32.toNatClampNeg (io_taped + x2)) ((jshr x1 ((24 : Int32) - ((8 : Int32) * x2))) &&& (255 : Int32))), (x2 + (1 : Int32))) hf
set_option maxHeartbeats 400000 in
set_option maxRecDepth 100000 in
theorem kX12_sign_b18 {X : cxT} {l : Launch} {D : va_G} {Y : Nat → ClassId} {ao : Nat → Nat} {io_thrown : Int32} {io_rows : Int32} {io_cells : Int32} {io_children : Int32} {io_changes : Int32} {io_taped : Int32} {io_at : Int32} {io_to : Int32} {io_nest : Int32} {io_readMany : Int32} {io_codeLong : Int32} {io_readLong : Int32} {io_undos : Int32} {io_wentHome : Int32} {io_tideLevel : Int32} {io_acts : Int32} {io_firstBreaks : Int32} {io_bestCrew : Int32} {io_sights : Int32} {io_wayMany : Int32} {io_random : Int32} {co_tape : Nat → Int32} {x1 : Int32} {x2 : Int32} {res : Int32 × Int32 × Int32 × (Nat → Int32)} (C : axC X l D Y cX12_sign 3 RX12 wsX12_sign rmX12_sign (some .int)) (hQ : axQ X 0 0 (fun r9 w9 => r9 = (some (.int res.1)) ∧ w9 = [oX12 ao res.2.1 io_rows io_cells io_children io_changes res.2.2.1 io_at io_to io_nest io_readMany io_codeLong io_readLong io_undos io_wentHome io_tideLevel io_acts io_firstBreaks io_bestCrew io_sights io_wayMany io_random, rI Y (ao 10) 80 res.2.2.2])) (hf : fX12_sign_b18 io_thrown io_taped co_tape x1 x2 = some res) : ax X 0 0 18 [some (.ref (ao 0)), some (.int x1), some (.int x2)] [oX12 ao io_thrown io_rows io_cells io_children io_changes io_taped io_at io_to io_nest io_readMany io_codeLong io_readLong io_undos io_wentHome io_tideLevel io_acts io_firstBreaks io_bestCrew io_sights io_wayMany io_random, rI Y (ao 10) 80 co_tape] [] := by
  unfold fX12_sign_b18 at hf
  exact fx_loop (P := fun s : (Nat → Int32) × Int32 => ax X 0 0 18 [some (.ref (ao 0)), some (.int x1), some (.int s.2)] [oX12 ao io_thrown io_rows io_cells io_children io_changes io_taped io_at io_to io_nest io_readMany io_codeLong io_readLong io_undos io_wentHome io_tideLevel io_acts io_firstBreaks io_bestCrew io_sights io_wayMany io_random, rI Y (ao 10) 80 s.1] []) (fun s k18 hk18 h => kX12_sign_l18 C hQ hk18 h) FUEL (co_tape, x2) hf
def fX12_sign (io_thrown : Int32) (io_taped : Int32) (co_tape : Nat → Int32) (x1 : Int32) : Option (Int32 × Int32 × Int32 × (Nat → Int32)) :=
  if io_taped ≤ (76 : Int32) then (fX12_sign_b18 (0 : Int32) io_taped co_tape x1 (0 : Int32)) else (some ((-1 : Int32), (0 : Int32), io_taped, co_tape))
set_option maxHeartbeats 400000 in
set_option maxRecDepth 100000 in
theorem kX12_sign (l : Launch) (D : va_G) (Y : Nat → ClassId) (ao : Nat → Nat) (io_thrown : Int32) (io_rows : Int32) (io_cells : Int32) (io_children : Int32) (io_changes : Int32) (io_taped : Int32) (io_at : Int32) (io_to : Int32) (io_nest : Int32) (io_readMany : Int32) (io_codeLong : Int32) (io_readLong : Int32) (io_undos : Int32) (io_wentHome : Int32) (io_tideLevel : Int32) (io_acts : Int32) (io_firstBreaks : Int32) (io_bestCrew : Int32) (io_sights : Int32) (io_wayMany : Int32) (io_random : Int32) (co_tape : Nat → Int32) (x1 : Int32) (res : Int32 × Int32 × Int32 × (Nat → Int32)) (hf : fX12_sign io_thrown io_taped co_tape x1 = some res) : amf l D Y yX12_sign wsX12_sign rmX12_sign [.ref (ao 0), .int x1] [oX12 ao io_thrown io_rows io_cells io_children io_changes io_taped io_at io_to io_nest io_readMany io_codeLong io_readLong io_undos io_wentHome io_tideLevel io_acts io_firstBreaks io_bestCrew io_sights io_wayMany io_random, rI Y (ao 10) 80 co_tape] (some (.int res.1)) [oX12 ao res.2.1 io_rows io_cells io_children io_changes res.2.2.1 io_at io_to io_nest io_readMany io_codeLong io_readLong io_undos io_wentHome io_tideLevel io_acts io_firstBreaks io_bestCrew io_sights io_wayMany io_random, rI Y (ao 10) 80 res.2.2.2] := by
  refine amf.of (cc := cX12_sign) (maxL := 3) (rt := (some .int)) (by decide) rfl RX12 rfl (Nat.le_of_ble_eq_true rfl) [some (.ref (ao 0)), some (.int x1), none] rfl ?_
  intro X C hQ
  unfold fX12_sign at hf
  refine a_aload_n C dX12_sign_0 rfl ?_
  refine a_iconst C (0 : Int32) dX12_sign_1 (by decide) ?_
  refine a_put C (eB_X12_112 _) tfX12_0 dX12_sign_2 0 rfl rfl rfl (Nat.le_of_ble_eq_true rfl) ?_
  refine a_aload_n C dX12_sign_5 rfl ?_
  refine a_get C (eB_X12_133 _) dX12_sign_6 0 rfl rfl ?_
  refine a_bipush C (76 : Int32) dX12_sign_9 (by decide) ?_
  refine a_icmp_le C 16 dX12_sign_11 (by decide) (fun h3 => ?_) (fun h3 => ?_)
  · have hf := fx_t h3 hf
    refine a_iconst C (0 : Int32) dX12_sign_16 (by decide) ?_
    refine a_istore_n C dX12_sign_17 (by decide) rfl ?_
    exact kX12_sign_b18 C hQ hf
  · have hf := fx_f h3 hf
    refine a_iconst C (-1 : Int32) dX12_sign_14 (by decide) ?_
    obtain rfl := fx_some hf
    exact a_iret C hQ dX12_sign_15 ⟨rfl, rfl⟩
-- X12_end
abbrev rmX12_end : Room := { frames := 1, cells := 0, slots := 0, locals := 25 }
theorem dvX12_end : yX12_end.cls = RX12 ∧ yX12_end.cls ≠ "java/lang/invoke/MethodHandle" ∧ yX12_end.cls ≠ "java/lang/invoke/VarHandle" ∧ (parseMethodDescriptor yX12_end.desc).map (fun d => d.parameters.length) = some 1 := by decide +kernel
def fX12_end (io_thrown : Int32) (io_taped : Int32) (x1 : Int32) : Option (Int32 × Int32 × Int32) :=
  (fX12_in (x1.toInt64) (0 : Int64) (io_taped.toInt64)).bind (fun r1 => if r1 = (0 : Int32) then (some ((0 : Int32), (0 : Int32), io_taped)) else (some ((1 : Int32), (0 : Int32), x1)))
set_option maxHeartbeats 400000 in
set_option maxRecDepth 100000 in
theorem kX12_end (l : Launch) (D : va_G) (Y : Nat → ClassId) (ao : Nat → Nat) (io_thrown : Int32) (io_rows : Int32) (io_cells : Int32) (io_children : Int32) (io_changes : Int32) (io_taped : Int32) (io_at : Int32) (io_to : Int32) (io_nest : Int32) (io_readMany : Int32) (io_codeLong : Int32) (io_readLong : Int32) (io_undos : Int32) (io_wentHome : Int32) (io_tideLevel : Int32) (io_acts : Int32) (io_firstBreaks : Int32) (io_bestCrew : Int32) (io_sights : Int32) (io_wayMany : Int32) (io_random : Int32) (x1 : Int32) (res : Int32 × Int32 × Int32) (hf : fX12_end io_thrown io_taped x1 = some res) : amf l D Y yX12_end wsX12_end rmX12_end [.ref (ao 0), .int x1] [oX12 ao io_thrown io_rows io_cells io_children io_changes io_taped io_at io_to io_nest io_readMany io_codeLong io_readLong io_undos io_wentHome io_tideLevel io_acts io_firstBreaks io_bestCrew io_sights io_wayMany io_random] (some (.int res.1)) [oX12 ao res.2.1 io_rows io_cells io_children io_changes res.2.2 io_at io_to io_nest io_readMany io_codeLong io_readLong io_undos io_wentHome io_tideLevel io_acts io_firstBreaks io_bestCrew io_sights io_wayMany io_random] := by
  refine amf.of (cc := cX12_end) (maxL := 2) (rt := (some .boolean)) (by decide) rfl RX12 rfl (Nat.le_of_ble_eq_true rfl) [some (.ref (ao 0)), some (.int x1)] rfl ?_
  intro X C hQ
  unfold fX12_end at hf
  refine a_aload_n C dX12_end_0 rfl ?_
  refine a_iconst C (0 : Int32) dX12_end_1 (by decide) ?_
  refine a_put C (eB_X12_112 _) tfX12_0 dX12_end_2 0 rfl rfl rfl (Nat.le_of_ble_eq_true rfl) ?_
  refine a_iload_n C dX12_end_5 rfl ?_
  refine a_i2l C dX12_end_6 ?_
  refine a_lconst C (0 : Int64) dX12_end_7 (by decide) ?_
  refine a_aload_n C dX12_end_8 rfl ?_
  refine a_get C (eB_X12_133 _) dX12_end_9 0 rfl rfl ?_
  refine a_i2l C dX12_end_12 ?_
  obtain ⟨r1, h1, hf⟩ := fx_bind hf
  refine a_fS C (kX12_in l D Y (x1.toInt64) (0 : Int64) (io_taped.toInt64) r1 h1) (gB_X12_122 _) rfl dvX12_in ⟨⟨rfl, rfl⟩, ⟨Nat.le_of_ble_eq_true rfl, Nat.le_of_ble_eq_true rfl⟩, ⟨Nat.le_of_ble_eq_true rfl, Nat.le_of_ble_eq_true rfl⟩⟩ rfl (Nat.le_of_ble_eq_true rfl) dX12_end_13 [] [0] trivial (by decide +kernel) rfl [oX12 ao (0 : Int32) io_rows io_cells io_children io_changes io_taped io_at io_to io_nest io_readMany io_codeLong io_readLong io_undos io_wentHome io_tideLevel io_acts io_firstBreaks io_bestCrew io_sights io_wayMany io_random] trivial ⟨rfl, trivial⟩ 1 rfl (by decide +kernel) ?_
  refine a_if_ne C 21 dX12_end_16 (by decide) (fun h2 => ?_) (fun h2 => ?_)
  · have hf := fx_f h2 hf
    refine a_aload_n C dX12_end_21 rfl ?_
    refine a_iload_n C dX12_end_22 rfl ?_
    refine a_put C (eB_X12_133 _) tfX12_15 dX12_end_23 0 rfl rfl rfl (Nat.le_of_ble_eq_true rfl) ?_
    refine a_iconst C (1 : Int32) dX12_end_26 (by decide) ?_
    obtain rfl := fx_some hf
    exact a_zret C hQ (Or.inr rfl) dX12_end_27 ⟨rfl, rfl⟩
  · have hf := fx_t h2 hf
    refine a_iconst C (0 : Int32) dX12_end_19 (by decide) ?_
    obtain rfl := fx_some hf
    exact a_zret C hQ (Or.inl rfl) dX12_end_20 ⟨rfl, rfl⟩
-- X12_begins
abbrev rmX12_begins : Room := { frames := 1, cells := 0, slots := 0, locals := 21 }
theorem dvX12_begins : yX12_begins.cls = RX12 ∧ yX12_begins.cls ≠ "java/lang/invoke/MethodHandle" ∧ yX12_begins.cls ≠ "java/lang/invoke/VarHandle" ∧ (parseMethodDescriptor yX12_begins.desc).map (fun d => d.parameters.length) = some 1 := by decide +kernel
def fX12_begins (io_taped : Int32) (io_at : Int32) (io_to : Int32) (io_nest : Int32) (x1 : Int32) : Option (Int32 × Int32 × Int32 × Int32 × Int32) :=
  some (io_taped, (0 : Int32), (0 : Int32), (jmin io_taped x1), (0 : Int32))
set_option maxHeartbeats 400000 in
set_option maxRecDepth 100000 in
theorem kX12_begins (l : Launch) (D : va_G) (Y : Nat → ClassId) (ao : Nat → Nat) (io_thrown : Int32) (io_rows : Int32) (io_cells : Int32) (io_children : Int32) (io_changes : Int32) (io_taped : Int32) (io_at : Int32) (io_to : Int32) (io_nest : Int32) (io_readMany : Int32) (io_codeLong : Int32) (io_readLong : Int32) (io_undos : Int32) (io_wentHome : Int32) (io_tideLevel : Int32) (io_acts : Int32) (io_firstBreaks : Int32) (io_bestCrew : Int32) (io_sights : Int32) (io_wayMany : Int32) (io_random : Int32) (x1 : Int32) (res : Int32 × Int32 × Int32 × Int32 × Int32) (hf : fX12_begins io_taped io_at io_to io_nest x1 = some res) : amf l D Y yX12_begins wsX12_begins rmX12_begins [.ref (ao 0), .int x1] [oX12 ao io_thrown io_rows io_cells io_children io_changes io_taped io_at io_to io_nest io_readMany io_codeLong io_readLong io_undos io_wentHome io_tideLevel io_acts io_firstBreaks io_bestCrew io_sights io_wayMany io_random] (some (.int res.1)) [oX12 ao io_thrown io_rows io_cells io_children io_changes res.2.1 res.2.2.1 res.2.2.2.1 res.2.2.2.2 io_readMany io_codeLong io_readLong io_undos io_wentHome io_tideLevel io_acts io_firstBreaks io_bestCrew io_sights io_wayMany io_random] := by
  refine amf.of (cc := cX12_begins) (maxL := 3) (rt := (some .int)) (by decide) rfl RX12 rfl (Nat.le_of_ble_eq_true rfl) [some (.ref (ao 0)), some (.int x1), none] rfl ?_
  intro X C hQ
  unfold fX12_begins at hf
  refine a_aload_n C dX12_begins_0 rfl ?_
  refine a_get C (eB_X12_133 _) dX12_begins_1 0 rfl rfl ?_
  refine a_istore_n C dX12_begins_4 (by decide) rfl ?_
  refine a_aload_n C dX12_begins_5 rfl ?_
  refine a_iconst C (0 : Int32) dX12_begins_6 (by decide) ?_
  refine a_put C (eB_X12_133 _) tfX12_15 dX12_begins_7 0 rfl rfl rfl (Nat.le_of_ble_eq_true rfl) ?_
  refine a_aload_n C dX12_begins_10 rfl ?_
  refine a_iconst C (0 : Int32) dX12_begins_11 (by decide) ?_
  refine a_put C (eB_X12_136 _) tfX12_16 dX12_begins_12 0 rfl rfl rfl (Nat.le_of_ble_eq_true rfl) ?_
  refine a_aload_n C dX12_begins_15 rfl ?_
  refine a_iconst C (0 : Int32) dX12_begins_16 (by decide) ?_
  refine a_put C (eB_X12_139 _) tfX12_18 dX12_begins_17 0 rfl rfl rfl (Nat.le_of_ble_eq_true rfl) ?_
  refine a_aload_n C dX12_begins_20 rfl ?_
  refine a_iload_n C dX12_begins_21 rfl ?_
  refine a_iload_n C dX12_begins_22 rfl ?_
  refine a_mmin C dX12_begins_23 (mB_X12_142 _) ⟨⟨Nat.le_of_ble_eq_true rfl, Nat.le_of_ble_eq_true rfl⟩, ⟨Nat.le_of_ble_eq_true rfl, Nat.le_of_ble_eq_true rfl⟩⟩ (Nat.le_of_ble_eq_true rfl) ?_
  refine a_put C (eB_X12_148 _) tfX12_17 dX12_begins_26 0 rfl rfl rfl (Nat.le_of_ble_eq_true rfl) ?_
  refine a_iload_n C dX12_begins_29 rfl ?_
  obtain rfl := fx_some hf
  exact a_iret C hQ dX12_begins_30 ⟨rfl, rfl⟩
-- X12_takes
abbrev rmX12_takes : Room := { frames := 1, cells := 0, slots := 0, locals := 20 }
theorem dvX12_takes : yX12_takes.cls = RX12 ∧ yX12_takes.cls ≠ "java/lang/invoke/MethodHandle" ∧ yX12_takes.cls ≠ "java/lang/invoke/VarHandle" ∧ (parseMethodDescriptor yX12_takes.desc).map (fun d => d.parameters.length) = some 1 := by decide +kernel
def fX12_takes_b29 (io_at : Int32) (io_to : Int32) (co_tape : Nat → Int32) (s0 : Int32) : Option (Int32 × Int32) :=
  (fX12_flag s0).bind (fun r1 => if s0 = 0 ∨ s0 = 1 then some (s0, (io_at + r1)) else none)
set_option maxHeartbeats 400000 in
set_option maxRecDepth 100000 in
theorem kX12_takes_b29 {X : cxT} {l : Launch} {D : va_G} {Y : Nat → ClassId} {ao : Nat → Nat} {io_thrown : Int32} {io_rows : Int32} {io_cells : Int32} {io_children : Int32} {io_changes : Int32} {io_taped : Int32} {io_at : Int32} {io_to : Int32} {io_nest : Int32} {io_readMany : Int32} {io_codeLong : Int32} {io_readLong : Int32} {io_undos : Int32} {io_wentHome : Int32} {io_tideLevel : Int32} {io_acts : Int32} {io_firstBreaks : Int32} {io_bestCrew : Int32} {io_sights : Int32} {io_wayMany : Int32} {io_random : Int32} {co_tape : Nat → Int32} {s0 : Int32} {res : Int32 × Int32} (C : axC X l D Y cX12_takes 3 RX12 wsX12_takes rmX12_takes (some .boolean)) (hQ : axQ X 0 0 (fun r9 w9 => r9 = (some (.int res.1)) ∧ w9 = [oX12 ao io_thrown io_rows io_cells io_children io_changes io_taped res.2 io_to io_nest io_readMany io_codeLong io_readLong io_undos io_wentHome io_tideLevel io_acts io_firstBreaks io_bestCrew io_sights io_wayMany io_random, rI Y (ao 10) 80 co_tape])) (hf : fX12_takes_b29 io_at io_to co_tape s0 = some res) : ax X 0 0 29 [some (.ref (ao 0)), none, none] [oX12 ao io_thrown io_rows io_cells io_children io_changes io_taped io_at io_to io_nest io_readMany io_codeLong io_readLong io_undos io_wentHome io_tideLevel io_acts io_firstBreaks io_bestCrew io_sights io_wayMany io_random, rI Y (ao 10) 80 co_tape] [.int s0] := by
  unfold fX12_takes_b29 at hf
  refine a_istore_n C dX12_takes_29 (by decide) rfl ?_
  refine a_aload_n C dX12_takes_30 rfl ?_
  refine a_dup C dX12_takes_31 rfl ?_
  refine a_get C (eB_X12_136 _) dX12_takes_32 0 rfl rfl ?_
  refine a_iload_n C dX12_takes_35 rfl ?_
  obtain ⟨r1, h1, hf⟩ := fx_bind hf
  refine a_fS C (kX12_flag l D Y s0 r1 h1) (gB_X12_151 _) rfl dvX12_flag ⟨⟨rfl, rfl⟩, ⟨Nat.le_of_ble_eq_true rfl, Nat.le_of_ble_eq_true rfl⟩, ⟨Nat.le_of_ble_eq_true rfl, Nat.le_of_ble_eq_true rfl⟩⟩ rfl (Nat.le_of_ble_eq_true rfl) dX12_takes_36 [] [0, 1] trivial (by decide +kernel) rfl [oX12 ao io_thrown io_rows io_cells io_children io_changes io_taped io_at io_to io_nest io_readMany io_codeLong io_readLong io_undos io_wentHome io_tideLevel io_acts io_firstBreaks io_bestCrew io_sights io_wayMany io_random, rI Y (ao 10) 80 co_tape] trivial ⟨rfl, rfl, trivial⟩ 2 rfl (by decide +kernel) ?_
  refine a_iadd C dX12_takes_39 ?_
  refine a_put C (eB_X12_136 _) tfX12_16 dX12_takes_40 0 rfl rfl rfl (Nat.le_of_ble_eq_true rfl) ?_
  refine a_iload_n C dX12_takes_43 rfl ?_
  obtain ⟨h2, hf⟩ := fx_ite hf
  obtain rfl := fx_some hf
  exact a_zret C hQ h2 dX12_takes_44 ⟨rfl, rfl⟩
def fX12_takes_b28 (io_at : Int32) (io_to : Int32) (co_tape : Nat → Int32) : Option (Int32 × Int32) :=
  fX12_takes_b29 io_at io_to co_tape (0 : Int32)
set_option maxHeartbeats 400000 in
set_option maxRecDepth 100000 in
theorem kX12_takes_b28 {X : cxT} {l : Launch} {D : va_G} {Y : Nat → ClassId} {ao : Nat → Nat} {io_thrown : Int32} {io_rows : Int32} {io_cells : Int32} {io_children : Int32} {io_changes : Int32} {io_taped : Int32} {io_at : Int32} {io_to : Int32} {io_nest : Int32} {io_readMany : Int32} {io_codeLong : Int32} {io_readLong : Int32} {io_undos : Int32} {io_wentHome : Int32} {io_tideLevel : Int32} {io_acts : Int32} {io_firstBreaks : Int32} {io_bestCrew : Int32} {io_sights : Int32} {io_wayMany : Int32} {io_random : Int32} {co_tape : Nat → Int32} {res : Int32 × Int32} (C : axC X l D Y cX12_takes 3 RX12 wsX12_takes rmX12_takes (some .boolean)) (hQ : axQ X 0 0 (fun r9 w9 => r9 = (some (.int res.1)) ∧ w9 = [oX12 ao io_thrown io_rows io_cells io_children io_changes io_taped res.2 io_to io_nest io_readMany io_codeLong io_readLong io_undos io_wentHome io_tideLevel io_acts io_firstBreaks io_bestCrew io_sights io_wayMany io_random, rI Y (ao 10) 80 co_tape])) (hf : fX12_takes_b28 io_at io_to co_tape = some res) : ax X 0 0 28 [some (.ref (ao 0)), none, none] [oX12 ao io_thrown io_rows io_cells io_children io_changes io_taped io_at io_to io_nest io_readMany io_codeLong io_readLong io_undos io_wentHome io_tideLevel io_acts io_firstBreaks io_bestCrew io_sights io_wayMany io_random, rI Y (ao 10) 80 co_tape] [] := by
  unfold fX12_takes_b28 at hf
  refine a_iconst C (0 : Int32) dX12_takes_28 (by decide) ?_
  exact kX12_takes_b29 C hQ hf
def fX12_takes (io_at : Int32) (io_to : Int32) (co_tape : Nat → Int32) (x1 : Int32) : Option (Int32 × Int32) :=
  if io_to ≤ io_at then (fX12_takes_b28 io_at io_to co_tape) else (if inb io_at 80 then if (co_tape (Int32.toNatClampNeg io_at)) = x1 then (fX12_takes_b29 io_at io_to co_tape (1 : Int32)) else (fX12_takes_b28 io_at io_to co_tape) else none)
set_option maxHeartbeats 400000 in
set_option maxRecDepth 100000 in
theorem kX12_takes (l : Launch) (D : va_G) (Y : Nat → ClassId) (ao : Nat → Nat) (io_thrown : Int32) (io_rows : Int32) (io_cells : Int32) (io_children : Int32) (io_changes : Int32) (io_taped : Int32) (io_at : Int32) (io_to : Int32) (io_nest : Int32) (io_readMany : Int32) (io_codeLong : Int32) (io_readLong : Int32) (io_undos : Int32) (io_wentHome : Int32) (io_tideLevel : Int32) (io_acts : Int32) (io_firstBreaks : Int32) (io_bestCrew : Int32) (io_sights : Int32) (io_wayMany : Int32) (io_random : Int32) (co_tape : Nat → Int32) (x1 : Int32) (res : Int32 × Int32) (hf : fX12_takes io_at io_to co_tape x1 = some res) : amf l D Y yX12_takes wsX12_takes rmX12_takes [.ref (ao 0), .int x1] [oX12 ao io_thrown io_rows io_cells io_children io_changes io_taped io_at io_to io_nest io_readMany io_codeLong io_readLong io_undos io_wentHome io_tideLevel io_acts io_firstBreaks io_bestCrew io_sights io_wayMany io_random, rI Y (ao 10) 80 co_tape] (some (.int res.1)) [oX12 ao io_thrown io_rows io_cells io_children io_changes io_taped res.2 io_to io_nest io_readMany io_codeLong io_readLong io_undos io_wentHome io_tideLevel io_acts io_firstBreaks io_bestCrew io_sights io_wayMany io_random, rI Y (ao 10) 80 co_tape] := by
  refine amf.of (cc := cX12_takes) (maxL := 3) (rt := (some .boolean)) (by decide) rfl RX12 rfl (Nat.le_of_ble_eq_true rfl) [some (.ref (ao 0)), some (.int x1), none] rfl ?_
  intro X C hQ
  unfold fX12_takes at hf
  refine a_aload_n C dX12_takes_0 rfl ?_
  refine a_get C (eB_X12_136 _) dX12_takes_1 0 rfl rfl ?_
  refine a_aload_n C dX12_takes_4 rfl ?_
  refine a_get C (eB_X12_148 _) dX12_takes_5 0 rfl rfl ?_
  refine a_icmp_ge C 28 dX12_takes_8 (by decide) (fun h3 => ?_) (fun h3 => ?_)
  · have hf := fx_t h3 hf
    refine a_kill [1] ?_
    exact kX12_takes_b28 C hQ hf
  · have hf := fx_f h3 hf
    refine a_aload_n C dX12_takes_11 rfl ?_
    refine a_get C (eB_X12_42 _) dX12_takes_12 0 rfl rfl ?_
    refine a_aload_n C dX12_takes_15 rfl ?_
    refine a_get C (eB_X12_136 _) dX12_takes_16 0 rfl rfl ?_
    obtain ⟨h4, hf⟩ := fx_ite hf
    refine a_iald C dX12_takes_19 1 rfl h4 ?_
    refine a_iload_n C dX12_takes_20 rfl ?_
    refine a_icmp_ne C 28 dX12_takes_21 (by decide) (fun h5 => ?_) (fun h5 => ?_)
    · have hf := fx_f h5 hf
      refine a_kill [1] ?_
      exact kX12_takes_b28 C hQ hf
    · have hf := fx_t h5 hf
      refine a_iconst C (1 : Int32) dX12_takes_24 (by decide) ?_
      refine a_goto C 29 dX12_takes_25 (by decide) ?_
      refine a_kill [1] ?_
      exact kX12_takes_b29 C hQ hf
-- X12_isDigit
abbrev rmX12_isDigit : Room := { frames := 1, cells := 0, slots := 0, locals := 25 }
theorem dvX12_isDigit : yX12_isDigit.cls = RX12 ∧ yX12_isDigit.cls ≠ "java/lang/invoke/MethodHandle" ∧ yX12_isDigit.cls ≠ "java/lang/invoke/VarHandle" ∧ (parseMethodDescriptor yX12_isDigit.desc).map (fun d => d.parameters.length) = some 0 := by decide +kernel
def fX12_isDigit_b38 (io_at : Int32) (io_to : Int32) (co_tape : Nat → Int32) (s0 : Int32) : Option (Int32) :=
  if s0 = 0 ∨ s0 = 1 then some s0 else none
set_option maxHeartbeats 400000 in
set_option maxRecDepth 100000 in
theorem kX12_isDigit_b38 {X : cxT} {l : Launch} {D : va_G} {Y : Nat → ClassId} {ao : Nat → Nat} {io_thrown : Int32} {io_rows : Int32} {io_cells : Int32} {io_children : Int32} {io_changes : Int32} {io_taped : Int32} {io_at : Int32} {io_to : Int32} {io_nest : Int32} {io_readMany : Int32} {io_codeLong : Int32} {io_readLong : Int32} {io_undos : Int32} {io_wentHome : Int32} {io_tideLevel : Int32} {io_acts : Int32} {io_firstBreaks : Int32} {io_bestCrew : Int32} {io_sights : Int32} {io_wayMany : Int32} {io_random : Int32} {co_tape : Nat → Int32} {s0 : Int32} {res : Int32} (C : axC X l D Y cX12_isDigit 1 RX12 wsX12_isDigit rmX12_isDigit (some .boolean)) (hQ : axQ X 0 0 (fun r9 w9 => r9 = (some (.int res)) ∧ w9 = [oX12 ao io_thrown io_rows io_cells io_children io_changes io_taped io_at io_to io_nest io_readMany io_codeLong io_readLong io_undos io_wentHome io_tideLevel io_acts io_firstBreaks io_bestCrew io_sights io_wayMany io_random, rI Y (ao 10) 80 co_tape])) (hf : fX12_isDigit_b38 io_at io_to co_tape s0 = some res) : ax X 0 0 38 [none] [oX12 ao io_thrown io_rows io_cells io_children io_changes io_taped io_at io_to io_nest io_readMany io_codeLong io_readLong io_undos io_wentHome io_tideLevel io_acts io_firstBreaks io_bestCrew io_sights io_wayMany io_random, rI Y (ao 10) 80 co_tape] [.int s0] := by
  unfold fX12_isDigit_b38 at hf
  obtain ⟨h1, hf⟩ := fx_ite hf
  obtain rfl := fx_some hf
  exact a_zret C hQ h1 dX12_isDigit_38 ⟨rfl, rfl⟩
def fX12_isDigit_b37 (io_at : Int32) (io_to : Int32) (co_tape : Nat → Int32) : Option (Int32) :=
  fX12_isDigit_b38 io_at io_to co_tape (0 : Int32)
set_option maxHeartbeats 400000 in
set_option maxRecDepth 100000 in
theorem kX12_isDigit_b37 {X : cxT} {l : Launch} {D : va_G} {Y : Nat → ClassId} {ao : Nat → Nat} {io_thrown : Int32} {io_rows : Int32} {io_cells : Int32} {io_children : Int32} {io_changes : Int32} {io_taped : Int32} {io_at : Int32} {io_to : Int32} {io_nest : Int32} {io_readMany : Int32} {io_codeLong : Int32} {io_readLong : Int32} {io_undos : Int32} {io_wentHome : Int32} {io_tideLevel : Int32} {io_acts : Int32} {io_firstBreaks : Int32} {io_bestCrew : Int32} {io_sights : Int32} {io_wayMany : Int32} {io_random : Int32} {co_tape : Nat → Int32} {res : Int32} (C : axC X l D Y cX12_isDigit 1 RX12 wsX12_isDigit rmX12_isDigit (some .boolean)) (hQ : axQ X 0 0 (fun r9 w9 => r9 = (some (.int res)) ∧ w9 = [oX12 ao io_thrown io_rows io_cells io_children io_changes io_taped io_at io_to io_nest io_readMany io_codeLong io_readLong io_undos io_wentHome io_tideLevel io_acts io_firstBreaks io_bestCrew io_sights io_wayMany io_random, rI Y (ao 10) 80 co_tape])) (hf : fX12_isDigit_b37 io_at io_to co_tape = some res) : ax X 0 0 37 [none] [oX12 ao io_thrown io_rows io_cells io_children io_changes io_taped io_at io_to io_nest io_readMany io_codeLong io_readLong io_undos io_wentHome io_tideLevel io_acts io_firstBreaks io_bestCrew io_sights io_wayMany io_random, rI Y (ao 10) 80 co_tape] [] := by
  unfold fX12_isDigit_b37 at hf
  refine a_iconst C (0 : Int32) dX12_isDigit_37 (by decide) ?_
  exact kX12_isDigit_b38 C hQ hf
def fX12_isDigit (io_at : Int32) (io_to : Int32) (co_tape : Nat → Int32) : Option (Int32) :=
  if io_to ≤ io_at then (fX12_isDigit_b37 io_at io_to co_tape) else (if inb io_at 80 then (fX12_in ((co_tape (Int32.toNatClampNeg io_at)).toInt64) (48 : Int64) (57 : Int64)).bind (fun r4 => if r4 = (0 : Int32) then (fX12_isDigit_b37 io_at io_to co_tape) else (fX12_isDigit_b38 io_at io_to co_tape (1 : Int32))) else none)
set_option maxHeartbeats 400000 in
set_option maxRecDepth 100000 in
theorem kX12_isDigit (l : Launch) (D : va_G) (Y : Nat → ClassId) (ao : Nat → Nat) (io_thrown : Int32) (io_rows : Int32) (io_cells : Int32) (io_children : Int32) (io_changes : Int32) (io_taped : Int32) (io_at : Int32) (io_to : Int32) (io_nest : Int32) (io_readMany : Int32) (io_codeLong : Int32) (io_readLong : Int32) (io_undos : Int32) (io_wentHome : Int32) (io_tideLevel : Int32) (io_acts : Int32) (io_firstBreaks : Int32) (io_bestCrew : Int32) (io_sights : Int32) (io_wayMany : Int32) (io_random : Int32) (co_tape : Nat → Int32) (res : Int32) (hf : fX12_isDigit io_at io_to co_tape = some res) : amf l D Y yX12_isDigit wsX12_isDigit rmX12_isDigit [.ref (ao 0)] [oX12 ao io_thrown io_rows io_cells io_children io_changes io_taped io_at io_to io_nest io_readMany io_codeLong io_readLong io_undos io_wentHome io_tideLevel io_acts io_firstBreaks io_bestCrew io_sights io_wayMany io_random, rI Y (ao 10) 80 co_tape] (some (.int res)) [oX12 ao io_thrown io_rows io_cells io_children io_changes io_taped io_at io_to io_nest io_readMany io_codeLong io_readLong io_undos io_wentHome io_tideLevel io_acts io_firstBreaks io_bestCrew io_sights io_wayMany io_random, rI Y (ao 10) 80 co_tape] := by
  refine amf.of (cc := cX12_isDigit) (maxL := 1) (rt := (some .boolean)) (by decide) rfl RX12 rfl (Nat.le_of_ble_eq_true rfl) [some (.ref (ao 0))] rfl ?_
  intro X C hQ
  unfold fX12_isDigit at hf
  refine a_aload_n C dX12_isDigit_0 rfl ?_
  refine a_get C (eB_X12_136 _) dX12_isDigit_1 0 rfl rfl ?_
  refine a_aload_n C dX12_isDigit_4 rfl ?_
  refine a_get C (eB_X12_148 _) dX12_isDigit_5 0 rfl rfl ?_
  refine a_icmp_ge C 37 dX12_isDigit_8 (by decide) (fun h2 => ?_) (fun h2 => ?_)
  · have hf := fx_t h2 hf
    refine a_kill [0] ?_
    exact kX12_isDigit_b37 C hQ hf
  · have hf := fx_f h2 hf
    refine a_aload_n C dX12_isDigit_11 rfl ?_
    refine a_get C (eB_X12_42 _) dX12_isDigit_12 0 rfl rfl ?_
    refine a_aload_n C dX12_isDigit_15 rfl ?_
    refine a_get C (eB_X12_136 _) dX12_isDigit_16 0 rfl rfl ?_
    obtain ⟨h3, hf⟩ := fx_ite hf
    refine a_iald C dX12_isDigit_19 1 rfl h3 ?_
    refine a_i2l C dX12_isDigit_20 ?_
    refine a_ldc2 C (48 : Int64) dX12_isDigit_21 (kB_X12_155 _) ?_
    refine a_ldc2 C (57 : Int64) dX12_isDigit_24 (kB_X12_157 _) ?_
    obtain ⟨r4, h4, hf⟩ := fx_bind hf
    refine a_fS C (kX12_in l D Y ((co_tape (Int32.toNatClampNeg io_at)).toInt64) (48 : Int64) (57 : Int64) r4 h4) (gB_X12_122 _) rfl dvX12_in ⟨⟨rfl, rfl⟩, ⟨Nat.le_of_ble_eq_true rfl, Nat.le_of_ble_eq_true rfl⟩, ⟨Nat.le_of_ble_eq_true rfl, Nat.le_of_ble_eq_true rfl⟩⟩ rfl (Nat.le_of_ble_eq_true rfl) dX12_isDigit_27 [] [0, 1] trivial (by decide +kernel) rfl [oX12 ao io_thrown io_rows io_cells io_children io_changes io_taped io_at io_to io_nest io_readMany io_codeLong io_readLong io_undos io_wentHome io_tideLevel io_acts io_firstBreaks io_bestCrew io_sights io_wayMany io_random, rI Y (ao 10) 80 co_tape] trivial ⟨rfl, rfl, trivial⟩ 2 rfl (by decide +kernel) ?_
    refine a_if_eq C 37 dX12_isDigit_30 (by decide) (fun h5 => ?_) (fun h5 => ?_)
    · have hf := fx_t h5 hf
      refine a_kill [0] ?_
      exact kX12_isDigit_b37 C hQ hf
    · have hf := fx_f h5 hf
      refine a_iconst C (1 : Int32) dX12_isDigit_33 (by decide) ?_
      refine a_goto C 38 dX12_isDigit_34 (by decide) ?_
      refine a_kill [0] ?_
      exact kX12_isDigit_b38 C hQ hf
-- X12_among
abbrev rmX12_among : Room := { frames := 4, cells := 0, slots := 0, locals := 85 }
theorem dvX12_among : yX12_among.cls = RX12 ∧ yX12_among.cls ≠ "java/lang/invoke/MethodHandle" ∧ yX12_among.cls ≠ "java/lang/invoke/VarHandle" ∧ (parseMethodDescriptor yX12_among.desc).map (fun d => d.parameters.length) = some 1 := by decide +kernel
def fX12_among_b46 (io_at : Int32) (io_to : Int32) (co_tape : Nat → Int32) : Option (Int32) :=
  some (-1 : Int32)
set_option maxHeartbeats 400000 in
set_option maxRecDepth 100000 in
theorem kX12_among_b46 {X : cxT} {l : Launch} {D : va_G} {Y : Nat → ClassId} {ao : Nat → Nat} {io_thrown : Int32} {io_rows : Int32} {io_cells : Int32} {io_children : Int32} {io_changes : Int32} {io_taped : Int32} {io_at : Int32} {io_to : Int32} {io_nest : Int32} {io_readMany : Int32} {io_codeLong : Int32} {io_readLong : Int32} {io_undos : Int32} {io_wentHome : Int32} {io_tideLevel : Int32} {io_acts : Int32} {io_firstBreaks : Int32} {io_bestCrew : Int32} {io_sights : Int32} {io_wayMany : Int32} {io_random : Int32} {co_tape : Nat → Int32} {res : Int32} (C : axC X l D Y cX12_among 3 RX12 wsX12_among rmX12_among (some .int)) (hQ : axQ X 0 0 (fun r9 w9 => r9 = (some (.int res)) ∧ w9 = [oX12 ao io_thrown io_rows io_cells io_children io_changes io_taped io_at io_to io_nest io_readMany io_codeLong io_readLong io_undos io_wentHome io_tideLevel io_acts io_firstBreaks io_bestCrew io_sights io_wayMany io_random, rI Y (ao 10) 80 co_tape])) (hf : fX12_among_b46 io_at io_to co_tape = some res) : ax X 0 0 46 [none, none, none] [oX12 ao io_thrown io_rows io_cells io_children io_changes io_taped io_at io_to io_nest io_readMany io_codeLong io_readLong io_undos io_wentHome io_tideLevel io_acts io_firstBreaks io_bestCrew io_sights io_wayMany io_random, rI Y (ao 10) 80 co_tape] [] := by
  unfold fX12_among_b46 at hf
  refine a_iconst C (-1 : Int32) dX12_among_46 (by decide) ?_
  obtain rfl := fx_some hf
  exact a_iret C hQ dX12_among_47 ⟨rfl, rfl⟩
def fX12_among_b38 (io_at : Int32) (io_to : Int32) (co_tape : Nat → Int32) (x2 : Int32) : Option (Int32) :=
  some x2
set_option maxHeartbeats 400000 in
set_option maxRecDepth 100000 in
theorem kX12_among_b38 {X : cxT} {l : Launch} {D : va_G} {Y : Nat → ClassId} {ao : Nat → Nat} {io_thrown : Int32} {io_rows : Int32} {io_cells : Int32} {io_children : Int32} {io_changes : Int32} {io_taped : Int32} {io_at : Int32} {io_to : Int32} {io_nest : Int32} {io_readMany : Int32} {io_codeLong : Int32} {io_readLong : Int32} {io_undos : Int32} {io_wentHome : Int32} {io_tideLevel : Int32} {io_acts : Int32} {io_firstBreaks : Int32} {io_bestCrew : Int32} {io_sights : Int32} {io_wayMany : Int32} {io_random : Int32} {co_tape : Nat → Int32} {x2 : Int32} {res : Int32} (C : axC X l D Y cX12_among 3 RX12 wsX12_among rmX12_among (some .int)) (hQ : axQ X 0 0 (fun r9 w9 => r9 = (some (.int res)) ∧ w9 = [oX12 ao io_thrown io_rows io_cells io_children io_changes io_taped io_at io_to io_nest io_readMany io_codeLong io_readLong io_undos io_wentHome io_tideLevel io_acts io_firstBreaks io_bestCrew io_sights io_wayMany io_random, rI Y (ao 10) 80 co_tape])) (hf : fX12_among_b38 io_at io_to co_tape x2 = some res) : ax X 0 0 38 [none, none, some (.int x2)] [oX12 ao io_thrown io_rows io_cells io_children io_changes io_taped io_at io_to io_nest io_readMany io_codeLong io_readLong io_undos io_wentHome io_tideLevel io_acts io_firstBreaks io_bestCrew io_sights io_wayMany io_random, rI Y (ao 10) 80 co_tape] [] := by
  unfold fX12_among_b38 at hf
  refine a_iload_n C dX12_among_38 rfl ?_
  obtain rfl := fx_some hf
  exact a_iret C hQ dX12_among_39 ⟨rfl, rfl⟩
def fX12_among_l2 (io_at : Int32) (io_to : Int32) (co_tape : Nat → Int32) (x1 : Nat) (k2 : Int32 → Option (Int32)) (x2 : Int32) : Option (Int32) :=
  if x1 < 7 then if (sLen x1) ≤ x2 then (fX12_among_b46 io_at io_to co_tape) else (if io_to ≤ io_at then (fX12_among_b46 io_at io_to co_tape) else (if inb x2 (lenM.getD x1 0) then if inb io_at 80 then if (sCh x1 x2) = (co_tape (Int32.toNatClampNeg io_at)) then (fX12_among_b38 io_at io_to co_tape x2) else (k2 (x2 + (1 : Int32))) else none else none)) else none
def fX12_among_b2 (io_at : Int32) (io_to : Int32) (co_tape : Nat → Int32) (x1 : Nat) (x2 : Int32) : Option (Int32) :=
  loopN (fun (s : Int32) k2 => fX12_among_l2 io_at io_to co_tape x1 k2 s) FUEL x2
set_option maxHeartbeats 400000 in
set_option maxRecDepth 100000 in
theorem kX12_among_l2 {X : cxT} {l : Launch} {D : va_G} {Y : Nat → ClassId} {ao : Nat → Nat} {io_thrown : Int32} {io_rows : Int32} {io_cells : Int32} {io_children : Int32} {io_changes : Int32} {io_taped : Int32} {io_at : Int32} {io_to : Int32} {io_nest : Int32} {io_readMany : Int32} {io_codeLong : Int32} {io_readLong : Int32} {io_undos : Int32} {io_wentHome : Int32} {io_tideLevel : Int32} {io_acts : Int32} {io_firstBreaks : Int32} {io_bestCrew : Int32} {io_sights : Int32} {io_wayMany : Int32} {io_random : Int32} {co_tape : Nat → Int32} {x1 : Nat} {x2 : Int32} {res : Int32} (C : axC X l D Y cX12_among 3 RX12 wsX12_among rmX12_among (some .int)) (hQ : axQ X 0 0 (fun r9 w9 => r9 = (some (.int res)) ∧ w9 = [oX12 ao io_thrown io_rows io_cells io_children io_changes io_taped io_at io_to io_nest io_readMany io_codeLong io_readLong io_undos io_wentHome io_tideLevel io_acts io_firstBreaks io_bestCrew io_sights io_wayMany io_random, rI Y (ao 10) 80 co_tape])) {k2 : Int32 → Option (Int32)} (hk2 : ∀ s : Int32, k2 s = some res → ax X 0 0 2 [some (.ref (ao 0)), some (.ref (Y (25 + x1))), some (.int s)] [oX12 ao io_thrown io_rows io_cells io_children io_changes io_taped io_at io_to io_nest io_readMany io_codeLong io_readLong io_undos io_wentHome io_tideLevel io_acts io_firstBreaks io_bestCrew io_sights io_wayMany io_random, rI Y (ao 10) 80 co_tape] []) (hf : fX12_among_l2 io_at io_to co_tape x1 k2 x2 = some res) : ax X 0 0 2 [some (.ref (ao 0)), some (.ref (Y (25 + x1))), some (.int x2)] [oX12 ao io_thrown io_rows io_cells io_children io_changes io_taped io_at io_to io_nest io_readMany io_codeLong io_readLong io_undos io_wentHome io_tideLevel io_acts io_firstBreaks io_bestCrew io_sights io_wayMany io_random, rI Y (ao 10) 80 co_tape] [] := by
  unfold fX12_among_l2 at hf
  refine a_iload_n C dX12_among_2 rfl ?_
  refine a_aload_n C dX12_among_3 rfl ?_
  obtain ⟨h1, hf⟩ := fx_ite hf
  refine a_fT C h1 (kJ0_length l D Y x1 h1) (gB_X12_159 _) rfl dvJ0_length ⟨⟨rfl, rfl⟩, ⟨Nat.le_of_ble_eq_true rfl, Nat.le_of_ble_eq_true rfl⟩, ⟨Nat.le_of_ble_eq_true rfl, Nat.le_of_ble_eq_true rfl⟩⟩ rfl (Nat.le_of_ble_eq_true rfl) dX12_among_4 ?_
  refine a_icmp_ge C 46 dX12_among_7 (by decide) (fun h2 => ?_) (fun h2 => ?_)
  · have hf := fx_t h2 hf
    refine a_kill [0, 1, 2] ?_
    exact kX12_among_b46 C hQ hf
  · have hf := fx_f h2 hf
    refine a_aload_n C dX12_among_10 rfl ?_
    refine a_get C (eB_X12_136 _) dX12_among_11 0 rfl rfl ?_
    refine a_aload_n C dX12_among_14 rfl ?_
    refine a_get C (eB_X12_148 _) dX12_among_15 0 rfl rfl ?_
    refine a_icmp_ge C 46 dX12_among_18 (by decide) (fun h3 => ?_) (fun h3 => ?_)
    · have hf := fx_t h3 hf
      refine a_kill [0, 1, 2] ?_
      exact kX12_among_b46 C hQ hf
    · have hf := fx_f h3 hf
      refine a_aload_n C dX12_among_21 rfl ?_
      refine a_iload_n C dX12_among_22 rfl ?_
      obtain ⟨h4, hf⟩ := fx_ite hf
      refine a_fT C h1 (kJ0_charAt2 l D Y x1 h1 x2 h4) (gB_X12_165 _) rfl dvJ0_charAt ⟨⟨rfl, rfl⟩, ⟨Nat.le_of_ble_eq_true rfl, Nat.le_of_ble_eq_true rfl⟩, ⟨Nat.le_of_ble_eq_true rfl, Nat.le_of_ble_eq_true rfl⟩⟩ rfl (Nat.le_of_ble_eq_true rfl) dX12_among_23 ?_
      refine a_aload_n C dX12_among_26 rfl ?_
      refine a_get C (eB_X12_42 _) dX12_among_27 0 rfl rfl ?_
      refine a_aload_n C dX12_among_30 rfl ?_
      refine a_get C (eB_X12_136 _) dX12_among_31 0 rfl rfl ?_
      obtain ⟨h5, hf⟩ := fx_ite hf
      refine a_iald C dX12_among_34 1 rfl h5 ?_
      refine a_icmp_ne C 40 dX12_among_35 (by decide) (fun h6 => ?_) (fun h6 => ?_)
      · have hf := fx_f h6 hf
        refine a_iinc C (1 : Int32) dX12_among_40 (by decide) rfl (by decide) rfl ?_
        refine a_goto C 2 dX12_among_43 (by decide) ?_
        exact hk2 (x2 + (1 : Int32)) hf
      · have hf := fx_t h6 hf
        refine a_kill [0, 1] ?_
        exact kX12_among_b38 C hQ hf
set_option maxHeartbeats 400000 in
set_option maxRecDepth 100000 in
theorem kX12_among_b2 {X : cxT} {l : Launch} {D : va_G} {Y : Nat → ClassId} {ao : Nat → Nat} {io_thrown : Int32} {io_rows : Int32} {io_cells : Int32} {io_children : Int32} {io_changes : Int32} {io_taped : Int32} {io_at : Int32} {io_to : Int32} {io_nest : Int32} {io_readMany : Int32} {io_codeLong : Int32} {io_readLong : Int32} {io_undos : Int32} {io_wentHome : Int32} {io_tideLevel : Int32} {io_acts : Int32} {io_firstBreaks : Int32} {io_bestCrew : Int32} {io_sights : Int32} {io_wayMany : Int32} {io_random : Int32} {co_tape : Nat → Int32} {x1 : Nat} {x2 : Int32} {res : Int32} (C : axC X l D Y cX12_among 3 RX12 wsX12_among rmX12_among (some .int)) (hQ : axQ X 0 0 (fun r9 w9 => r9 = (some (.int res)) ∧ w9 = [oX12 ao io_thrown io_rows io_cells io_children io_changes io_taped io_at io_to io_nest io_readMany io_codeLong io_readLong io_undos io_wentHome io_tideLevel io_acts io_firstBreaks io_bestCrew io_sights io_wayMany io_random, rI Y (ao 10) 80 co_tape])) (hf : fX12_among_b2 io_at io_to co_tape x1 x2 = some res) : ax X 0 0 2 [some (.ref (ao 0)), some (.ref (Y (25 + x1))), some (.int x2)] [oX12 ao io_thrown io_rows io_cells io_children io_changes io_taped io_at io_to io_nest io_readMany io_codeLong io_readLong io_undos io_wentHome io_tideLevel io_acts io_firstBreaks io_bestCrew io_sights io_wayMany io_random, rI Y (ao 10) 80 co_tape] [] := by
  unfold fX12_among_b2 at hf
  exact fx_loop (P := fun s : Int32 => ax X 0 0 2 [some (.ref (ao 0)), some (.ref (Y (25 + x1))), some (.int s)] [oX12 ao io_thrown io_rows io_cells io_children io_changes io_taped io_at io_to io_nest io_readMany io_codeLong io_readLong io_undos io_wentHome io_tideLevel io_acts io_firstBreaks io_bestCrew io_sights io_wayMany io_random, rI Y (ao 10) 80 co_tape] []) (fun s k2 hk2 h => kX12_among_l2 C hQ hk2 h) FUEL x2 hf
def fX12_among (io_at : Int32) (io_to : Int32) (co_tape : Nat → Int32) (x1 : Nat) : Option (Int32) :=
  fX12_among_b2 io_at io_to co_tape x1 (0 : Int32)
set_option maxHeartbeats 400000 in
set_option maxRecDepth 100000 in
theorem kX12_among (l : Launch) (D : va_G) (Y : Nat → ClassId) (ao : Nat → Nat) (io_thrown : Int32) (io_rows : Int32) (io_cells : Int32) (io_children : Int32) (io_changes : Int32) (io_taped : Int32) (io_at : Int32) (io_to : Int32) (io_nest : Int32) (io_readMany : Int32) (io_codeLong : Int32) (io_readLong : Int32) (io_undos : Int32) (io_wentHome : Int32) (io_tideLevel : Int32) (io_acts : Int32) (io_firstBreaks : Int32) (io_bestCrew : Int32) (io_sights : Int32) (io_wayMany : Int32) (io_random : Int32) (co_tape : Nat → Int32) (x1 : Nat) (res : Int32) (hf : fX12_among io_at io_to co_tape x1 = some res) : amf l D Y yX12_among wsX12_among rmX12_among [.ref (ao 0), .ref (Y (25 + x1))] [oX12 ao io_thrown io_rows io_cells io_children io_changes io_taped io_at io_to io_nest io_readMany io_codeLong io_readLong io_undos io_wentHome io_tideLevel io_acts io_firstBreaks io_bestCrew io_sights io_wayMany io_random, rI Y (ao 10) 80 co_tape] (some (.int res)) [oX12 ao io_thrown io_rows io_cells io_children io_changes io_taped io_at io_to io_nest io_readMany io_codeLong io_readLong io_undos io_wentHome io_tideLevel io_acts io_firstBreaks io_bestCrew io_sights io_wayMany io_random, rI Y (ao 10) 80 co_tape] := by
  refine amf.of (cc := cX12_among) (maxL := 3) (rt := (some .int)) (by decide) rfl RX12 rfl (Nat.le_of_ble_eq_true rfl) [some (.ref (ao 0)), some (.ref (Y (25 + x1))), none] rfl ?_
  intro X C hQ
  unfold fX12_among at hf
  refine a_iconst C (0 : Int32) dX12_among_0 (by decide) ?_
  refine a_istore_n C dX12_among_1 (by decide) rfl ?_
  exact kX12_among_b2 C hQ hf
-- X12_takesOf
abbrev rmX12_takesOf : Room := { frames := 5, cells := 0, slots := 0, locals := 107 }
theorem dvX12_takesOf : yX12_takesOf.cls = RX12 ∧ yX12_takesOf.cls ≠ "java/lang/invoke/MethodHandle" ∧ yX12_takesOf.cls ≠ "java/lang/invoke/VarHandle" ∧ (parseMethodDescriptor yX12_takesOf.desc).map (fun d => d.parameters.length) = some 1 := by decide +kernel
def fX12_takesOf_b20 (io_at : Int32) (io_to : Int32) (co_tape : Nat → Int32) (x2 : Int32) (s1 : Int32) (s2 : Int32) : Option (Int32 × Int32) :=
  (fX12_flag s2).bind (fun r1 => some (x2, (s1 + r1)))
set_option maxHeartbeats 400000 in
set_option maxRecDepth 100000 in
theorem kX12_takesOf_b20 {X : cxT} {l : Launch} {D : va_G} {Y : Nat → ClassId} {ao : Nat → Nat} {io_thrown : Int32} {io_rows : Int32} {io_cells : Int32} {io_children : Int32} {io_changes : Int32} {io_taped : Int32} {io_at : Int32} {io_to : Int32} {io_nest : Int32} {io_readMany : Int32} {io_codeLong : Int32} {io_readLong : Int32} {io_undos : Int32} {io_wentHome : Int32} {io_tideLevel : Int32} {io_acts : Int32} {io_firstBreaks : Int32} {io_bestCrew : Int32} {io_sights : Int32} {io_wayMany : Int32} {io_random : Int32} {co_tape : Nat → Int32} {x2 : Int32} {s1 : Int32} {s2 : Int32} {res : Int32 × Int32} (C : axC X l D Y cX12_takesOf 3 RX12 wsX12_takesOf rmX12_takesOf (some .int)) (hQ : axQ X 0 0 (fun r9 w9 => r9 = (some (.int res.1)) ∧ w9 = [oX12 ao io_thrown io_rows io_cells io_children io_changes io_taped res.2 io_to io_nest io_readMany io_codeLong io_readLong io_undos io_wentHome io_tideLevel io_acts io_firstBreaks io_bestCrew io_sights io_wayMany io_random, rI Y (ao 10) 80 co_tape])) (hf : fX12_takesOf_b20 io_at io_to co_tape x2 s1 s2 = some res) : ax X 0 0 20 [none, none, some (.int x2)] [oX12 ao io_thrown io_rows io_cells io_children io_changes io_taped io_at io_to io_nest io_readMany io_codeLong io_readLong io_undos io_wentHome io_tideLevel io_acts io_firstBreaks io_bestCrew io_sights io_wayMany io_random, rI Y (ao 10) 80 co_tape] [.int s2, .int s1, .ref (ao 0)] := by
  unfold fX12_takesOf_b20 at hf
  obtain ⟨r1, h1, hf⟩ := fx_bind hf
  refine a_fS C (kX12_flag l D Y s2 r1 h1) (gB_X12_151 _) rfl dvX12_flag ⟨⟨rfl, rfl⟩, ⟨Nat.le_of_ble_eq_true rfl, Nat.le_of_ble_eq_true rfl⟩, ⟨Nat.le_of_ble_eq_true rfl, Nat.le_of_ble_eq_true rfl⟩⟩ rfl (Nat.le_of_ble_eq_true rfl) dX12_takesOf_20 [] [0, 1] trivial (by decide +kernel) rfl [oX12 ao io_thrown io_rows io_cells io_children io_changes io_taped io_at io_to io_nest io_readMany io_codeLong io_readLong io_undos io_wentHome io_tideLevel io_acts io_firstBreaks io_bestCrew io_sights io_wayMany io_random, rI Y (ao 10) 80 co_tape] trivial ⟨rfl, rfl, trivial⟩ 2 rfl (by decide +kernel) ?_
  refine a_iadd C dX12_takesOf_23 ?_
  refine a_put C (eB_X12_136 _) tfX12_16 dX12_takesOf_24 0 rfl rfl rfl (Nat.le_of_ble_eq_true rfl) ?_
  refine a_iload_n C dX12_takesOf_27 rfl ?_
  obtain rfl := fx_some hf
  exact a_iret C hQ dX12_takesOf_28 ⟨rfl, rfl⟩
def fX12_takesOf (io_at : Int32) (io_to : Int32) (co_tape : Nat → Int32) (x1 : Nat) : Option (Int32 × Int32) :=
  (fX12_among io_at io_to co_tape x1).bind (fun r2 => if r2 < (0 : Int32) then (fX12_takesOf_b20 io_at io_to co_tape r2 io_at (0 : Int32)) else (fX12_takesOf_b20 io_at io_to co_tape r2 io_at (1 : Int32)))
set_option maxHeartbeats 400000 in
set_option maxRecDepth 100000 in
theorem kX12_takesOf (l : Launch) (D : va_G) (Y : Nat → ClassId) (ao : Nat → Nat) (io_thrown : Int32) (io_rows : Int32) (io_cells : Int32) (io_children : Int32) (io_changes : Int32) (io_taped : Int32) (io_at : Int32) (io_to : Int32) (io_nest : Int32) (io_readMany : Int32) (io_codeLong : Int32) (io_readLong : Int32) (io_undos : Int32) (io_wentHome : Int32) (io_tideLevel : Int32) (io_acts : Int32) (io_firstBreaks : Int32) (io_bestCrew : Int32) (io_sights : Int32) (io_wayMany : Int32) (io_random : Int32) (co_tape : Nat → Int32) (x1 : Nat) (res : Int32 × Int32) (hf : fX12_takesOf io_at io_to co_tape x1 = some res) : amf l D Y yX12_takesOf wsX12_takesOf rmX12_takesOf [.ref (ao 0), .ref (Y (25 + x1))] [oX12 ao io_thrown io_rows io_cells io_children io_changes io_taped io_at io_to io_nest io_readMany io_codeLong io_readLong io_undos io_wentHome io_tideLevel io_acts io_firstBreaks io_bestCrew io_sights io_wayMany io_random, rI Y (ao 10) 80 co_tape] (some (.int res.1)) [oX12 ao io_thrown io_rows io_cells io_children io_changes io_taped res.2 io_to io_nest io_readMany io_codeLong io_readLong io_undos io_wentHome io_tideLevel io_acts io_firstBreaks io_bestCrew io_sights io_wayMany io_random, rI Y (ao 10) 80 co_tape] := by
  refine amf.of (cc := cX12_takesOf) (maxL := 3) (rt := (some .int)) (by decide) rfl RX12 rfl (Nat.le_of_ble_eq_true rfl) [some (.ref (ao 0)), some (.ref (Y (25 + x1))), none] rfl ?_
  intro X C hQ
  unfold fX12_takesOf at hf
  refine a_aload_n C dX12_takesOf_0 rfl ?_
  refine a_aload_n C dX12_takesOf_1 rfl ?_
  obtain ⟨r2, h2, hf⟩ := fx_bind hf
  refine a_fV C (kX12_among l D Y ao io_thrown io_rows io_cells io_children io_changes io_taped io_at io_to io_nest io_readMany io_codeLong io_readLong io_undos io_wentHome io_tideLevel io_acts io_firstBreaks io_bestCrew io_sights io_wayMany io_random co_tape x1 r2 h2) (gB_X12_169 _) rfl dvX12_among ⟨⟨rfl, rfl⟩, ⟨Nat.le_of_ble_eq_true rfl, Nat.le_of_ble_eq_true rfl⟩, ⟨Nat.le_of_ble_eq_true rfl, Nat.le_of_ble_eq_true rfl⟩⟩ rfl (Nat.le_of_ble_eq_true rfl) dX12_takesOf_2 rfl rfl [0, 1] [] ⟨rfl, rfl, trivial⟩ (by decide +kernel) rfl [oX12 ao io_thrown io_rows io_cells io_children io_changes io_taped io_at io_to io_nest io_readMany io_codeLong io_readLong io_undos io_wentHome io_tideLevel io_acts io_firstBreaks io_bestCrew io_sights io_wayMany io_random, rI Y (ao 10) 80 co_tape] ⟨rfl, rfl, trivial⟩ trivial 2 rfl (by decide +kernel) ?_
  refine a_istore_n C dX12_takesOf_5 (by decide) rfl ?_
  refine a_aload_n C dX12_takesOf_6 rfl ?_
  refine a_dup C dX12_takesOf_7 rfl ?_
  refine a_get C (eB_X12_136 _) dX12_takesOf_8 0 rfl rfl ?_
  refine a_iload_n C dX12_takesOf_11 rfl ?_
  refine a_if_lt C 19 dX12_takesOf_12 (by decide) (fun h3 => ?_) (fun h3 => ?_)
  · have hf := fx_t h3 hf
    refine a_iconst C (0 : Int32) dX12_takesOf_19 (by decide) ?_
    refine a_kill [0, 1] ?_
    exact kX12_takesOf_b20 C hQ hf
  · have hf := fx_f h3 hf
    refine a_iconst C (1 : Int32) dX12_takesOf_15 (by decide) ?_
    refine a_goto C 20 dX12_takesOf_16 (by decide) ?_
    refine a_kill [0, 1] ?_
    exact kX12_takesOf_b20 C hQ hf
-- X12_number
abbrev rmX12_number : Room := { frames := 2, cells := 0, slots := 0, locals := 45 }
theorem dvX12_number : yX12_number.cls = RX12 ∧ yX12_number.cls ≠ "java/lang/invoke/MethodHandle" ∧ yX12_number.cls ≠ "java/lang/invoke/VarHandle" ∧ (parseMethodDescriptor yX12_number.desc).map (fun d => d.parameters.length) = some 1 := by decide +kernel
def fX12_number_b59 (io_at : Int32) (io_to : Int32) (co_tape : Nat → Int32) (x2 : Int32) : Option (Int32 × Int32) :=
  some (x2, io_at)
set_option maxHeartbeats 400000 in
set_option maxRecDepth 100000 in
theorem kX12_number_b59 {X : cxT} {l : Launch} {D : va_G} {Y : Nat → ClassId} {ao : Nat → Nat} {io_thrown : Int32} {io_rows : Int32} {io_cells : Int32} {io_children : Int32} {io_changes : Int32} {io_taped : Int32} {io_at : Int32} {io_to : Int32} {io_nest : Int32} {io_readMany : Int32} {io_codeLong : Int32} {io_readLong : Int32} {io_undos : Int32} {io_wentHome : Int32} {io_tideLevel : Int32} {io_acts : Int32} {io_firstBreaks : Int32} {io_bestCrew : Int32} {io_sights : Int32} {io_wayMany : Int32} {io_random : Int32} {co_tape : Nat → Int32} {x2 : Int32} {res : Int32 × Int32} (C : axC X l D Y cX12_number 4 RX12 wsX12_number rmX12_number (some .int)) (hQ : axQ X 0 0 (fun r9 w9 => r9 = (some (.int res.1)) ∧ w9 = [oX12 ao io_thrown io_rows io_cells io_children io_changes io_taped res.2 io_to io_nest io_readMany io_codeLong io_readLong io_undos io_wentHome io_tideLevel io_acts io_firstBreaks io_bestCrew io_sights io_wayMany io_random, rI Y (ao 10) 80 co_tape])) (hf : fX12_number_b59 io_at io_to co_tape x2 = some res) : ax X 0 0 59 [none, none, some (.int x2), none] [oX12 ao io_thrown io_rows io_cells io_children io_changes io_taped io_at io_to io_nest io_readMany io_codeLong io_readLong io_undos io_wentHome io_tideLevel io_acts io_firstBreaks io_bestCrew io_sights io_wayMany io_random, rI Y (ao 10) 80 co_tape] [] := by
  unfold fX12_number_b59 at hf
  refine a_iload_n C dX12_number_59 rfl ?_
  obtain rfl := fx_some hf
  exact a_iret C hQ dX12_number_60 ⟨rfl, rfl⟩
def fX12_number_l13 (io_to : Int32) (co_tape : Nat → Int32) (x1 : Int32) (k13 : Int32 × Int32 × Int32 → Option (Int32 × Int32)) (io_at : Int32) (x2 : Int32) (x3 : Int32) : Option (Int32 × Int32) :=
  if x1 ≤ x3 then (fX12_number_b59 io_at io_to co_tape x2) else ((fX12_isDigit io_at io_to co_tape).bind (fun r2 => if r2 = (0 : Int32) then (fX12_number_b59 io_at io_to co_tape x2) else (if inb io_at 80 then k13 ((io_at + (1 : Int32)), ((((10 : Int32) * x2) + (co_tape (Int32.toNatClampNeg io_at))) - (48 : Int32)), (x3 + (1 : Int32))) else none)))
def fX12_number_b13 (io_at : Int32) (io_to : Int32) (co_tape : Nat → Int32) (x1 : Int32) (x2 : Int32) (x3 : Int32) : Option (Int32 × Int32) :=
  loopN (fun (s : Int32 × Int32 × Int32) k13 => fX12_number_l13 io_to co_tape x1 k13 s.1 s.2.1 s.2.2) FUEL (io_at, x2, x3)
set_option maxHeartbeats 400000 in
set_option maxRecDepth 100000 in
theorem kX12_number_l13 {X : cxT} {l : Launch} {D : va_G} {Y : Nat → ClassId} {ao : Nat → Nat} {io_thrown : Int32} {io_rows : Int32} {io_cells : Int32} {io_children : Int32} {io_changes : Int32} {io_taped : Int32} {io_at : Int32} {io_to : Int32} {io_nest : Int32} {io_readMany : Int32} {io_codeLong : Int32} {io_readLong : Int32} {io_undos : Int32} {io_wentHome : Int32} {io_tideLevel : Int32} {io_acts : Int32} {io_firstBreaks : Int32} {io_bestCrew : Int32} {io_sights : Int32} {io_wayMany : Int32} {io_random : Int32} {co_tape : Nat → Int32} {x1 : Int32} {x2 : Int32} {x3 : Int32} {res : Int32 × Int32} (C : axC X l D Y cX12_number 4 RX12 wsX12_number rmX12_number (some .int)) (hQ : axQ X 0 0 (fun r9 w9 => r9 = (some (.int res.1)) ∧ w9 = [oX12 ao io_thrown io_rows io_cells io_children io_changes io_taped res.2 io_to io_nest io_readMany io_codeLong io_readLong io_undos io_wentHome io_tideLevel io_acts io_firstBreaks io_bestCrew io_sights io_wayMany io_random, rI Y (ao 10) 80 co_tape])) {k13 : Int32 × Int32 × Int32 → Option (Int32 × Int32)} (hk13 : ∀ s : Int32 × Int32 × Int32, k13 s = some res → ax X 0 0 13 [some (.ref (ao 0)), some (.int x1), some (.int s.2.1), some (.int s.2.2)] [oX12 ao io_thrown io_rows io_cells io_children io_changes io_taped s.1 io_to io_nest io_readMany io_codeLong io_readLong io_undos io_wentHome io_tideLevel io_acts io_firstBreaks io_bestCrew io_sights io_wayMany io_random, rI Y (ao 10) 80 co_tape] []) (hf : fX12_number_l13 io_to co_tape x1 k13 io_at x2 x3 = some res) : ax X 0 0 13 [some (.ref (ao 0)), some (.int x1), some (.int x2), some (.int x3)] [oX12 ao io_thrown io_rows io_cells io_children io_changes io_taped io_at io_to io_nest io_readMany io_codeLong io_readLong io_undos io_wentHome io_tideLevel io_acts io_firstBreaks io_bestCrew io_sights io_wayMany io_random, rI Y (ao 10) 80 co_tape] [] := by
  unfold fX12_number_l13 at hf
  refine a_iload_n C dX12_number_13 rfl ?_
  refine a_iload_n C dX12_number_14 rfl ?_
  refine a_icmp_ge C 59 dX12_number_15 (by decide) (fun h1 => ?_) (fun h1 => ?_)
  · have hf := fx_t h1 hf
    refine a_kill [0, 1, 3] ?_
    exact kX12_number_b59 C hQ hf
  · have hf := fx_f h1 hf
    refine a_aload_n C dX12_number_18 rfl ?_
    obtain ⟨r2, h2, hf⟩ := fx_bind hf
    refine a_fV C (kX12_isDigit l D Y ao io_thrown io_rows io_cells io_children io_changes io_taped io_at io_to io_nest io_readMany io_codeLong io_readLong io_undos io_wentHome io_tideLevel io_acts io_firstBreaks io_bestCrew io_sights io_wayMany io_random co_tape r2 h2) (gB_X12_173 _) rfl dvX12_isDigit ⟨⟨rfl, rfl⟩, ⟨Nat.le_of_ble_eq_true rfl, Nat.le_of_ble_eq_true rfl⟩, ⟨Nat.le_of_ble_eq_true rfl, Nat.le_of_ble_eq_true rfl⟩⟩ rfl (Nat.le_of_ble_eq_true rfl) dX12_number_19 rfl rfl [0, 1] [] ⟨rfl, rfl, trivial⟩ (by decide +kernel) rfl [oX12 ao io_thrown io_rows io_cells io_children io_changes io_taped io_at io_to io_nest io_readMany io_codeLong io_readLong io_undos io_wentHome io_tideLevel io_acts io_firstBreaks io_bestCrew io_sights io_wayMany io_random, rI Y (ao 10) 80 co_tape] ⟨rfl, rfl, trivial⟩ trivial 2 rfl (by decide +kernel) ?_
    refine a_if_eq C 59 dX12_number_22 (by decide) (fun h3 => ?_) (fun h3 => ?_)
    · have hf := fx_t h3 hf
      refine a_kill [0, 1, 3] ?_
      exact kX12_number_b59 C hQ hf
    · have hf := fx_f h3 hf
      refine a_bipush C (10 : Int32) dX12_number_25 (by decide) ?_
      refine a_iload_n C dX12_number_27 rfl ?_
      refine a_imul C dX12_number_28 ?_
      refine a_aload_n C dX12_number_29 rfl ?_
      refine a_get C (eB_X12_42 _) dX12_number_30 0 rfl rfl ?_
      refine a_aload_n C dX12_number_33 rfl ?_
      refine a_get C (eB_X12_136 _) dX12_number_34 0 rfl rfl ?_
      obtain ⟨h4, hf⟩ := fx_ite hf
      refine a_iald C dX12_number_37 1 rfl h4 ?_
      refine a_iadd C dX12_number_38 ?_
      refine a_bipush C (48 : Int32) dX12_number_39 (by decide) ?_
      refine a_isub C dX12_number_41 ?_
      refine a_istore_n C dX12_number_42 (by decide) rfl ?_
      refine a_aload_n C dX12_number_43 rfl ?_
      refine a_dup C dX12_number_44 rfl ?_
      refine a_get C (eB_X12_136 _) dX12_number_45 0 rfl rfl ?_
      refine a_iconst C (1 : Int32) dX12_number_48 (by decide) ?_
      refine a_iadd C dX12_number_49 ?_
      refine a_put C (eB_X12_136 _) tfX12_16 dX12_number_50 0 rfl rfl rfl (Nat.le_of_ble_eq_true rfl) ?_
      refine a_iinc C (1 : Int32) dX12_number_53 (by decide) rfl (by decide) rfl ?_
      refine a_goto C 13 dX12_number_56 (by decide) ?_
      exact hk13 ((io_at + (1 : Int32)), ((((10 : Int32) * x2) + (co_tape (Int32.toNatClampNeg io_at))) - (48 : Int32)), (x3 + (1 : Int32))) hf
set_option maxHeartbeats 400000 in
set_option maxRecDepth 100000 in
theorem kX12_number_b13 {X : cxT} {l : Launch} {D : va_G} {Y : Nat → ClassId} {ao : Nat → Nat} {io_thrown : Int32} {io_rows : Int32} {io_cells : Int32} {io_children : Int32} {io_changes : Int32} {io_taped : Int32} {io_at : Int32} {io_to : Int32} {io_nest : Int32} {io_readMany : Int32} {io_codeLong : Int32} {io_readLong : Int32} {io_undos : Int32} {io_wentHome : Int32} {io_tideLevel : Int32} {io_acts : Int32} {io_firstBreaks : Int32} {io_bestCrew : Int32} {io_sights : Int32} {io_wayMany : Int32} {io_random : Int32} {co_tape : Nat → Int32} {x1 : Int32} {x2 : Int32} {x3 : Int32} {res : Int32 × Int32} (C : axC X l D Y cX12_number 4 RX12 wsX12_number rmX12_number (some .int)) (hQ : axQ X 0 0 (fun r9 w9 => r9 = (some (.int res.1)) ∧ w9 = [oX12 ao io_thrown io_rows io_cells io_children io_changes io_taped res.2 io_to io_nest io_readMany io_codeLong io_readLong io_undos io_wentHome io_tideLevel io_acts io_firstBreaks io_bestCrew io_sights io_wayMany io_random, rI Y (ao 10) 80 co_tape])) (hf : fX12_number_b13 io_at io_to co_tape x1 x2 x3 = some res) : ax X 0 0 13 [some (.ref (ao 0)), some (.int x1), some (.int x2), some (.int x3)] [oX12 ao io_thrown io_rows io_cells io_children io_changes io_taped io_at io_to io_nest io_readMany io_codeLong io_readLong io_undos io_wentHome io_tideLevel io_acts io_firstBreaks io_bestCrew io_sights io_wayMany io_random, rI Y (ao 10) 80 co_tape] [] := by
  unfold fX12_number_b13 at hf
  exact fx_loop (P := fun s : Int32 × Int32 × Int32 => ax X 0 0 13 [some (.ref (ao 0)), some (.int x1), some (.int s.2.1), some (.int s.2.2)] [oX12 ao io_thrown io_rows io_cells io_children io_changes io_taped s.1 io_to io_nest io_readMany io_codeLong io_readLong io_undos io_wentHome io_tideLevel io_acts io_firstBreaks io_bestCrew io_sights io_wayMany io_random, rI Y (ao 10) 80 co_tape] []) (fun s k13 hk13 h => kX12_number_l13 C hQ hk13 h) FUEL (io_at, x2, x3) hf
def fX12_number (io_at : Int32) (io_to : Int32) (co_tape : Nat → Int32) (x1 : Int32) : Option (Int32 × Int32) :=
  (fX12_isDigit io_at io_to co_tape).bind (fun r5 => if r5 = (0 : Int32) then (some ((-1 : Int32), io_at)) else (fX12_number_b13 io_at io_to co_tape x1 (0 : Int32) (0 : Int32)))
set_option maxHeartbeats 400000 in
set_option maxRecDepth 100000 in
theorem kX12_number (l : Launch) (D : va_G) (Y : Nat → ClassId) (ao : Nat → Nat) (io_thrown : Int32) (io_rows : Int32) (io_cells : Int32) (io_children : Int32) (io_changes : Int32) (io_taped : Int32) (io_at : Int32) (io_to : Int32) (io_nest : Int32) (io_readMany : Int32) (io_codeLong : Int32) (io_readLong : Int32) (io_undos : Int32) (io_wentHome : Int32) (io_tideLevel : Int32) (io_acts : Int32) (io_firstBreaks : Int32) (io_bestCrew : Int32) (io_sights : Int32) (io_wayMany : Int32) (io_random : Int32) (co_tape : Nat → Int32) (x1 : Int32) (res : Int32 × Int32) (hf : fX12_number io_at io_to co_tape x1 = some res) : amf l D Y yX12_number wsX12_number rmX12_number [.ref (ao 0), .int x1] [oX12 ao io_thrown io_rows io_cells io_children io_changes io_taped io_at io_to io_nest io_readMany io_codeLong io_readLong io_undos io_wentHome io_tideLevel io_acts io_firstBreaks io_bestCrew io_sights io_wayMany io_random, rI Y (ao 10) 80 co_tape] (some (.int res.1)) [oX12 ao io_thrown io_rows io_cells io_children io_changes io_taped res.2 io_to io_nest io_readMany io_codeLong io_readLong io_undos io_wentHome io_tideLevel io_acts io_firstBreaks io_bestCrew io_sights io_wayMany io_random, rI Y (ao 10) 80 co_tape] := by
  refine amf.of (cc := cX12_number) (maxL := 4) (rt := (some .int)) (by decide) rfl RX12 rfl (Nat.le_of_ble_eq_true rfl) [some (.ref (ao 0)), some (.int x1), none, none] rfl ?_
  intro X C hQ
  unfold fX12_number at hf
  refine a_aload_n C dX12_number_0 rfl ?_
  obtain ⟨r5, h5, hf⟩ := fx_bind hf
  refine a_fV C (kX12_isDigit l D Y ao io_thrown io_rows io_cells io_children io_changes io_taped io_at io_to io_nest io_readMany io_codeLong io_readLong io_undos io_wentHome io_tideLevel io_acts io_firstBreaks io_bestCrew io_sights io_wayMany io_random co_tape r5 h5) (gB_X12_173 _) rfl dvX12_isDigit ⟨⟨rfl, rfl⟩, ⟨Nat.le_of_ble_eq_true rfl, Nat.le_of_ble_eq_true rfl⟩, ⟨Nat.le_of_ble_eq_true rfl, Nat.le_of_ble_eq_true rfl⟩⟩ rfl (Nat.le_of_ble_eq_true rfl) dX12_number_1 rfl rfl [0, 1] [] ⟨rfl, rfl, trivial⟩ (by decide +kernel) rfl [oX12 ao io_thrown io_rows io_cells io_children io_changes io_taped io_at io_to io_nest io_readMany io_codeLong io_readLong io_undos io_wentHome io_tideLevel io_acts io_firstBreaks io_bestCrew io_sights io_wayMany io_random, rI Y (ao 10) 80 co_tape] ⟨rfl, rfl, trivial⟩ trivial 2 rfl (by decide +kernel) ?_
  refine a_if_ne C 9 dX12_number_4 (by decide) (fun h6 => ?_) (fun h6 => ?_)
  · have hf := fx_f h6 hf
    refine a_iconst C (0 : Int32) dX12_number_9 (by decide) ?_
    refine a_istore_n C dX12_number_10 (by decide) rfl ?_
    refine a_iconst C (0 : Int32) dX12_number_11 (by decide) ?_
    refine a_istore_n C dX12_number_12 (by decide) rfl ?_
    exact kX12_number_b13 C hQ hf
  · have hf := fx_t h6 hf
    refine a_iconst C (-1 : Int32) dX12_number_7 (by decide) ?_
    obtain rfl := fx_some hf
    exact a_iret C hQ dX12_number_8 ⟨rfl, rfl⟩
-- X12_numberIn
abbrev rmX12_numberIn : Room := { frames := 3, cells := 0, slots := 0, locals := 68 }
theorem dvX12_numberIn : yX12_numberIn.cls = RX12 ∧ yX12_numberIn.cls ≠ "java/lang/invoke/MethodHandle" ∧ yX12_numberIn.cls ≠ "java/lang/invoke/VarHandle" ∧ (parseMethodDescriptor yX12_numberIn.desc).map (fun d => d.parameters.length) = some 3 := by decide +kernel
def fX12_numberIn_b25 (io_at : Int32) (io_to : Int32) (co_tape : Nat → Int32) (x4 : Int32) : Option (Int32 × Int32) :=
  some (x4, io_at)
set_option maxHeartbeats 400000 in
set_option maxRecDepth 100000 in
theorem kX12_numberIn_b25 {X : cxT} {l : Launch} {D : va_G} {Y : Nat → ClassId} {ao : Nat → Nat} {io_thrown : Int32} {io_rows : Int32} {io_cells : Int32} {io_children : Int32} {io_changes : Int32} {io_taped : Int32} {io_at : Int32} {io_to : Int32} {io_nest : Int32} {io_readMany : Int32} {io_codeLong : Int32} {io_readLong : Int32} {io_undos : Int32} {io_wentHome : Int32} {io_tideLevel : Int32} {io_acts : Int32} {io_firstBreaks : Int32} {io_bestCrew : Int32} {io_sights : Int32} {io_wayMany : Int32} {io_random : Int32} {co_tape : Nat → Int32} {x4 : Int32} {res : Int32 × Int32} (C : axC X l D Y cX12_numberIn 5 RX12 wsX12_numberIn rmX12_numberIn (some .int)) (hQ : axQ X 0 0 (fun r9 w9 => r9 = (some (.int res.1)) ∧ w9 = [oX12 ao io_thrown io_rows io_cells io_children io_changes io_taped res.2 io_to io_nest io_readMany io_codeLong io_readLong io_undos io_wentHome io_tideLevel io_acts io_firstBreaks io_bestCrew io_sights io_wayMany io_random, rI Y (ao 10) 80 co_tape])) (hf : fX12_numberIn_b25 io_at io_to co_tape x4 = some res) : ax X 0 0 25 [none, none, none, none, some (.int x4)] [oX12 ao io_thrown io_rows io_cells io_children io_changes io_taped io_at io_to io_nest io_readMany io_codeLong io_readLong io_undos io_wentHome io_tideLevel io_acts io_firstBreaks io_bestCrew io_sights io_wayMany io_random, rI Y (ao 10) 80 co_tape] [] := by
  unfold fX12_numberIn_b25 at hf
  refine a_iload C dX12_numberIn_25 rfl ?_
  obtain rfl := fx_some hf
  exact a_iret C hQ dX12_numberIn_27 ⟨rfl, rfl⟩
def fX12_numberIn (io_at : Int32) (io_to : Int32) (co_tape : Nat → Int32) (x1 : Int32) (x2 : Int32) (x3 : Int32) : Option (Int32 × Int32) :=
  (fX12_number io_at io_to co_tape x1).bind (fun r1 => if r1.1 < (0 : Int32) then (fX12_numberIn_b25 r1.2 io_to co_tape r1.1) else ((fX12_in (r1.1.toInt64) (x2.toInt64) (x3.toInt64)).bind (fun r3 => if r3 = (0 : Int32) then (some ((-1 : Int32), (r1.2 - (1 : Int32)))) else (fX12_numberIn_b25 r1.2 io_to co_tape r1.1))))
set_option maxHeartbeats 400000 in
set_option maxRecDepth 100000 in
theorem kX12_numberIn (l : Launch) (D : va_G) (Y : Nat → ClassId) (ao : Nat → Nat) (io_thrown : Int32) (io_rows : Int32) (io_cells : Int32) (io_children : Int32) (io_changes : Int32) (io_taped : Int32) (io_at : Int32) (io_to : Int32) (io_nest : Int32) (io_readMany : Int32) (io_codeLong : Int32) (io_readLong : Int32) (io_undos : Int32) (io_wentHome : Int32) (io_tideLevel : Int32) (io_acts : Int32) (io_firstBreaks : Int32) (io_bestCrew : Int32) (io_sights : Int32) (io_wayMany : Int32) (io_random : Int32) (co_tape : Nat → Int32) (x1 : Int32) (x2 : Int32) (x3 : Int32) (res : Int32 × Int32) (hf : fX12_numberIn io_at io_to co_tape x1 x2 x3 = some res) : amf l D Y yX12_numberIn wsX12_numberIn rmX12_numberIn [.ref (ao 0), .int x1, .int x2, .int x3] [oX12 ao io_thrown io_rows io_cells io_children io_changes io_taped io_at io_to io_nest io_readMany io_codeLong io_readLong io_undos io_wentHome io_tideLevel io_acts io_firstBreaks io_bestCrew io_sights io_wayMany io_random, rI Y (ao 10) 80 co_tape] (some (.int res.1)) [oX12 ao io_thrown io_rows io_cells io_children io_changes io_taped res.2 io_to io_nest io_readMany io_codeLong io_readLong io_undos io_wentHome io_tideLevel io_acts io_firstBreaks io_bestCrew io_sights io_wayMany io_random, rI Y (ao 10) 80 co_tape] := by
  refine amf.of (cc := cX12_numberIn) (maxL := 5) (rt := (some .int)) (by decide) rfl RX12 rfl (Nat.le_of_ble_eq_true rfl) [some (.ref (ao 0)), some (.int x1), some (.int x2), some (.int x3), none] rfl ?_
  intro X C hQ
  unfold fX12_numberIn at hf
  refine a_aload_n C dX12_numberIn_0 rfl ?_
  refine a_iload_n C dX12_numberIn_1 rfl ?_
  obtain ⟨r1, h1, hf⟩ := fx_bind hf
  refine a_fV C (kX12_number l D Y ao io_thrown io_rows io_cells io_children io_changes io_taped io_at io_to io_nest io_readMany io_codeLong io_readLong io_undos io_wentHome io_tideLevel io_acts io_firstBreaks io_bestCrew io_sights io_wayMany io_random co_tape x1 r1 h1) (gB_X12_177 _) rfl dvX12_number ⟨⟨rfl, rfl⟩, ⟨Nat.le_of_ble_eq_true rfl, Nat.le_of_ble_eq_true rfl⟩, ⟨Nat.le_of_ble_eq_true rfl, Nat.le_of_ble_eq_true rfl⟩⟩ rfl (Nat.le_of_ble_eq_true rfl) dX12_numberIn_2 rfl rfl [0, 1] [] ⟨rfl, rfl, trivial⟩ (by decide +kernel) rfl [oX12 ao io_thrown io_rows io_cells io_children io_changes io_taped r1.2 io_to io_nest io_readMany io_codeLong io_readLong io_undos io_wentHome io_tideLevel io_acts io_firstBreaks io_bestCrew io_sights io_wayMany io_random, rI Y (ao 10) 80 co_tape] ⟨rfl, rfl, trivial⟩ trivial 2 rfl (by decide +kernel) ?_
  refine a_istore C dX12_numberIn_5 (by decide) rfl ?_
  refine a_iload C dX12_numberIn_7 rfl ?_
  refine a_if_lt C 25 dX12_numberIn_9 (by decide) (fun h2 => ?_) (fun h2 => ?_)
  · have hf := fx_t h2 hf
    refine a_kill [0, 1, 2, 3] ?_
    exact kX12_numberIn_b25 C hQ hf
  · have hf := fx_f h2 hf
    refine a_iload C dX12_numberIn_12 rfl ?_
    refine a_i2l C dX12_numberIn_14 ?_
    refine a_iload_n C dX12_numberIn_15 rfl ?_
    refine a_i2l C dX12_numberIn_16 ?_
    refine a_iload_n C dX12_numberIn_17 rfl ?_
    refine a_i2l C dX12_numberIn_18 ?_
    obtain ⟨r3, h3, hf⟩ := fx_bind hf
    refine a_fS C (kX12_in l D Y (r1.1.toInt64) (x2.toInt64) (x3.toInt64) r3 h3) (gB_X12_122 _) rfl dvX12_in ⟨⟨rfl, rfl⟩, ⟨Nat.le_of_ble_eq_true rfl, Nat.le_of_ble_eq_true rfl⟩, ⟨Nat.le_of_ble_eq_true rfl, Nat.le_of_ble_eq_true rfl⟩⟩ rfl (Nat.le_of_ble_eq_true rfl) dX12_numberIn_19 [] [0, 1] trivial (by decide +kernel) rfl [oX12 ao io_thrown io_rows io_cells io_children io_changes io_taped r1.2 io_to io_nest io_readMany io_codeLong io_readLong io_undos io_wentHome io_tideLevel io_acts io_firstBreaks io_bestCrew io_sights io_wayMany io_random, rI Y (ao 10) 80 co_tape] trivial ⟨rfl, rfl, trivial⟩ 2 rfl (by decide +kernel) ?_
    refine a_if_eq C 28 dX12_numberIn_22 (by decide) (fun h4 => ?_) (fun h4 => ?_)
    · have hf := fx_t h4 hf
      refine a_aload_n C dX12_numberIn_28 rfl ?_
      refine a_dup C dX12_numberIn_29 rfl ?_
      refine a_get C (eB_X12_136 _) dX12_numberIn_30 0 rfl rfl ?_
      refine a_iconst C (1 : Int32) dX12_numberIn_33 (by decide) ?_
      refine a_isub C dX12_numberIn_34 ?_
      refine a_put C (eB_X12_136 _) tfX12_16 dX12_numberIn_35 0 rfl rfl rfl (Nat.le_of_ble_eq_true rfl) ?_
      refine a_iconst C (-1 : Int32) dX12_numberIn_38 (by decide) ?_
      obtain rfl := fx_some hf
      exact a_iret C hQ dX12_numberIn_39 ⟨rfl, rfl⟩
    · have hf := fx_f h4 hf
      refine a_kill [0, 1, 2, 3] ?_
      exact kX12_numberIn_b25 C hQ hf
-- X12_signIn
abbrev rmX12_signIn : Room := { frames := 1, cells := 0, slots := 0, locals := 25 }
theorem dvX12_signIn : yX12_signIn.cls = RX12 ∧ yX12_signIn.cls ≠ "java/lang/invoke/MethodHandle" ∧ yX12_signIn.cls ≠ "java/lang/invoke/VarHandle" ∧ (parseMethodDescriptor yX12_signIn.desc).map (fun d => d.parameters.length) = some 3 := by decide +kernel
def fX12_signIn_b33 (io_at : Int32) (io_to : Int32) (co_tape : Nat → Int32) : Option (Int32 × Int32) :=
  some ((-1 : Int32), io_at)
set_option maxHeartbeats 400000 in
set_option maxRecDepth 100000 in
theorem kX12_signIn_b33 {X : cxT} {l : Launch} {D : va_G} {Y : Nat → ClassId} {ao : Nat → Nat} {io_thrown : Int32} {io_rows : Int32} {io_cells : Int32} {io_children : Int32} {io_changes : Int32} {io_taped : Int32} {io_at : Int32} {io_to : Int32} {io_nest : Int32} {io_readMany : Int32} {io_codeLong : Int32} {io_readLong : Int32} {io_undos : Int32} {io_wentHome : Int32} {io_tideLevel : Int32} {io_acts : Int32} {io_firstBreaks : Int32} {io_bestCrew : Int32} {io_sights : Int32} {io_wayMany : Int32} {io_random : Int32} {co_tape : Nat → Int32} {res : Int32 × Int32} (C : axC X l D Y cX12_signIn 4 RX12 wsX12_signIn rmX12_signIn (some .int)) (hQ : axQ X 0 0 (fun r9 w9 => r9 = (some (.int res.1)) ∧ w9 = [oX12 ao io_thrown io_rows io_cells io_children io_changes io_taped res.2 io_to io_nest io_readMany io_codeLong io_readLong io_undos io_wentHome io_tideLevel io_acts io_firstBreaks io_bestCrew io_sights io_wayMany io_random, rI Y (ao 10) 80 co_tape])) (hf : fX12_signIn_b33 io_at io_to co_tape = some res) : ax X 0 0 33 [none, none, none, none] [oX12 ao io_thrown io_rows io_cells io_children io_changes io_taped io_at io_to io_nest io_readMany io_codeLong io_readLong io_undos io_wentHome io_tideLevel io_acts io_firstBreaks io_bestCrew io_sights io_wayMany io_random, rI Y (ao 10) 80 co_tape] [] := by
  unfold fX12_signIn_b33 at hf
  refine a_iconst C (-1 : Int32) dX12_signIn_33 (by decide) ?_
  obtain rfl := fx_some hf
  exact a_iret C hQ dX12_signIn_34 ⟨rfl, rfl⟩
def fX12_signIn (io_at : Int32) (io_to : Int32) (co_tape : Nat → Int32) (x1 : Int32) (x2 : Int32) (x3 : Int32) : Option (Int32 × Int32) :=
  if io_to ≤ io_at then (fX12_signIn_b33 io_at io_to co_tape) else (if inb io_at 80 then (fX12_in (((co_tape (Int32.toNatClampNeg io_at)) - x1).toInt64) (x2.toInt64) (x3.toInt64)).bind (fun r3 => if r3 = (0 : Int32) then (fX12_signIn_b33 io_at io_to co_tape) else (if inb ((io_at + (1 : Int32)) - (1 : Int32)) 80 then some (((co_tape (Int32.toNatClampNeg ((io_at + (1 : Int32)) - (1 : Int32)))) - x1), (io_at + (1 : Int32))) else none)) else none)
set_option maxHeartbeats 400000 in
set_option maxRecDepth 100000 in
theorem kX12_signIn (l : Launch) (D : va_G) (Y : Nat → ClassId) (ao : Nat → Nat) (io_thrown : Int32) (io_rows : Int32) (io_cells : Int32) (io_children : Int32) (io_changes : Int32) (io_taped : Int32) (io_at : Int32) (io_to : Int32) (io_nest : Int32) (io_readMany : Int32) (io_codeLong : Int32) (io_readLong : Int32) (io_undos : Int32) (io_wentHome : Int32) (io_tideLevel : Int32) (io_acts : Int32) (io_firstBreaks : Int32) (io_bestCrew : Int32) (io_sights : Int32) (io_wayMany : Int32) (io_random : Int32) (co_tape : Nat → Int32) (x1 : Int32) (x2 : Int32) (x3 : Int32) (res : Int32 × Int32) (hf : fX12_signIn io_at io_to co_tape x1 x2 x3 = some res) : amf l D Y yX12_signIn wsX12_signIn rmX12_signIn [.ref (ao 0), .int x1, .int x2, .int x3] [oX12 ao io_thrown io_rows io_cells io_children io_changes io_taped io_at io_to io_nest io_readMany io_codeLong io_readLong io_undos io_wentHome io_tideLevel io_acts io_firstBreaks io_bestCrew io_sights io_wayMany io_random, rI Y (ao 10) 80 co_tape] (some (.int res.1)) [oX12 ao io_thrown io_rows io_cells io_children io_changes io_taped res.2 io_to io_nest io_readMany io_codeLong io_readLong io_undos io_wentHome io_tideLevel io_acts io_firstBreaks io_bestCrew io_sights io_wayMany io_random, rI Y (ao 10) 80 co_tape] := by
  refine amf.of (cc := cX12_signIn) (maxL := 4) (rt := (some .int)) (by decide) rfl RX12 rfl (Nat.le_of_ble_eq_true rfl) [some (.ref (ao 0)), some (.int x1), some (.int x2), some (.int x3)] rfl ?_
  intro X C hQ
  unfold fX12_signIn at hf
  refine a_aload_n C dX12_signIn_0 rfl ?_
  refine a_get C (eB_X12_136 _) dX12_signIn_1 0 rfl rfl ?_
  refine a_aload_n C dX12_signIn_4 rfl ?_
  refine a_get C (eB_X12_148 _) dX12_signIn_5 0 rfl rfl ?_
  refine a_icmp_ge C 33 dX12_signIn_8 (by decide) (fun h1 => ?_) (fun h1 => ?_)
  · have hf := fx_t h1 hf
    refine a_kill [0, 1, 2, 3] ?_
    exact kX12_signIn_b33 C hQ hf
  · have hf := fx_f h1 hf
    refine a_aload_n C dX12_signIn_11 rfl ?_
    refine a_get C (eB_X12_42 _) dX12_signIn_12 0 rfl rfl ?_
    refine a_aload_n C dX12_signIn_15 rfl ?_
    refine a_get C (eB_X12_136 _) dX12_signIn_16 0 rfl rfl ?_
    obtain ⟨h2, hf⟩ := fx_ite hf
    refine a_iald C dX12_signIn_19 1 rfl h2 ?_
    refine a_iload_n C dX12_signIn_20 rfl ?_
    refine a_isub C dX12_signIn_21 ?_
    refine a_i2l C dX12_signIn_22 ?_
    refine a_iload_n C dX12_signIn_23 rfl ?_
    refine a_i2l C dX12_signIn_24 ?_
    refine a_iload_n C dX12_signIn_25 rfl ?_
    refine a_i2l C dX12_signIn_26 ?_
    obtain ⟨r3, h3, hf⟩ := fx_bind hf
    refine a_fS C (kX12_in l D Y (((co_tape (Int32.toNatClampNeg io_at)) - x1).toInt64) (x2.toInt64) (x3.toInt64) r3 h3) (gB_X12_122 _) rfl dvX12_in ⟨⟨rfl, rfl⟩, ⟨Nat.le_of_ble_eq_true rfl, Nat.le_of_ble_eq_true rfl⟩, ⟨Nat.le_of_ble_eq_true rfl, Nat.le_of_ble_eq_true rfl⟩⟩ rfl (Nat.le_of_ble_eq_true rfl) dX12_signIn_27 [] [0, 1] trivial (by decide +kernel) rfl [oX12 ao io_thrown io_rows io_cells io_children io_changes io_taped io_at io_to io_nest io_readMany io_codeLong io_readLong io_undos io_wentHome io_tideLevel io_acts io_firstBreaks io_bestCrew io_sights io_wayMany io_random, rI Y (ao 10) 80 co_tape] trivial ⟨rfl, rfl, trivial⟩ 2 rfl (by decide +kernel) ?_
    refine a_if_ne C 35 dX12_signIn_30 (by decide) (fun h4 => ?_) (fun h4 => ?_)
    · have hf := fx_f h4 hf
      refine a_aload_n C dX12_signIn_35 rfl ?_
      refine a_dup C dX12_signIn_36 rfl ?_
      refine a_get C (eB_X12_136 _) dX12_signIn_37 0 rfl rfl ?_
      refine a_iconst C (1 : Int32) dX12_signIn_40 (by decide) ?_
      refine a_iadd C dX12_signIn_41 ?_
      refine a_put C (eB_X12_136 _) tfX12_16 dX12_signIn_42 0 rfl rfl rfl (Nat.le_of_ble_eq_true rfl) ?_
      refine a_aload_n C dX12_signIn_45 rfl ?_
      refine a_get C (eB_X12_42 _) dX12_signIn_46 0 rfl rfl ?_
      refine a_aload_n C dX12_signIn_49 rfl ?_
      refine a_get C (eB_X12_136 _) dX12_signIn_50 0 rfl rfl ?_
      refine a_iconst C (1 : Int32) dX12_signIn_53 (by decide) ?_
      refine a_isub C dX12_signIn_54 ?_
      obtain ⟨h5, hf⟩ := fx_ite hf
      refine a_iald C dX12_signIn_55 1 rfl h5 ?_
      refine a_iload_n C dX12_signIn_56 rfl ?_
      refine a_isub C dX12_signIn_57 ?_
      obtain rfl := fx_some hf
      exact a_iret C hQ dX12_signIn_58 ⟨rfl, rfl⟩
    · have hf := fx_t h4 hf
      refine a_kill [0, 1, 2, 3] ?_
      exact kX12_signIn_b33 C hQ hf
-- X12_faultOf
abbrev rmX12_faultOf : Room := { frames := 0, cells := 0, slots := 0, locals := 0 }
theorem dvX12_faultOf : yX12_faultOf.cls = RX12 ∧ yX12_faultOf.cls ≠ "java/lang/invoke/MethodHandle" ∧ yX12_faultOf.cls ≠ "java/lang/invoke/VarHandle" ∧ (parseMethodDescriptor yX12_faultOf.desc).map (fun d => d.parameters.length) = some 3 := by decide +kernel
def fX12_faultOf_b59 (io_at : Int32) (io_to : Int32) (s0 : Int32) : Option (Int32) :=
  some s0
set_option maxHeartbeats 400000 in
set_option maxRecDepth 100000 in
theorem kX12_faultOf_b59 {X : cxT} {l : Launch} {D : va_G} {Y : Nat → ClassId} {ao : Nat → Nat} {io_thrown : Int32} {io_rows : Int32} {io_cells : Int32} {io_children : Int32} {io_changes : Int32} {io_taped : Int32} {io_at : Int32} {io_to : Int32} {io_nest : Int32} {io_readMany : Int32} {io_codeLong : Int32} {io_readLong : Int32} {io_undos : Int32} {io_wentHome : Int32} {io_tideLevel : Int32} {io_acts : Int32} {io_firstBreaks : Int32} {io_bestCrew : Int32} {io_sights : Int32} {io_wayMany : Int32} {io_random : Int32} {s0 : Int32} {res : Int32} (C : axC X l D Y cX12_faultOf 5 RX12 wsX12_faultOf rmX12_faultOf (some .int)) (hQ : axQ X 0 0 (fun r9 w9 => r9 = (some (.int res)) ∧ w9 = [oX12 ao io_thrown io_rows io_cells io_children io_changes io_taped io_at io_to io_nest io_readMany io_codeLong io_readLong io_undos io_wentHome io_tideLevel io_acts io_firstBreaks io_bestCrew io_sights io_wayMany io_random])) (hf : fX12_faultOf_b59 io_at io_to s0 = some res) : ax X 0 0 59 [none, none, none, none, none] [oX12 ao io_thrown io_rows io_cells io_children io_changes io_taped io_at io_to io_nest io_readMany io_codeLong io_readLong io_undos io_wentHome io_tideLevel io_acts io_firstBreaks io_bestCrew io_sights io_wayMany io_random] [.int s0] := by
  unfold fX12_faultOf_b59 at hf
  obtain rfl := fx_some hf
  exact a_iret C hQ dX12_faultOf_59 ⟨rfl, rfl⟩
def fX12_faultOf_b44 (io_at : Int32) (io_to : Int32) (x4 : Int32) : Option (Int32) :=
  if x4 = (0 : Int32) then (fX12_faultOf_b59 io_at io_to ((-1 : Int32) - io_at)) else (fX12_faultOf_b59 io_at io_to (0 : Int32))
set_option maxHeartbeats 400000 in
set_option maxRecDepth 100000 in
theorem kX12_faultOf_b44 {X : cxT} {l : Launch} {D : va_G} {Y : Nat → ClassId} {ao : Nat → Nat} {io_thrown : Int32} {io_rows : Int32} {io_cells : Int32} {io_children : Int32} {io_changes : Int32} {io_taped : Int32} {io_at : Int32} {io_to : Int32} {io_nest : Int32} {io_readMany : Int32} {io_codeLong : Int32} {io_readLong : Int32} {io_undos : Int32} {io_wentHome : Int32} {io_tideLevel : Int32} {io_acts : Int32} {io_firstBreaks : Int32} {io_bestCrew : Int32} {io_sights : Int32} {io_wayMany : Int32} {io_random : Int32} {x4 : Int32} {res : Int32} (C : axC X l D Y cX12_faultOf 5 RX12 wsX12_faultOf rmX12_faultOf (some .int)) (hQ : axQ X 0 0 (fun r9 w9 => r9 = (some (.int res)) ∧ w9 = [oX12 ao io_thrown io_rows io_cells io_children io_changes io_taped io_at io_to io_nest io_readMany io_codeLong io_readLong io_undos io_wentHome io_tideLevel io_acts io_firstBreaks io_bestCrew io_sights io_wayMany io_random])) (hf : fX12_faultOf_b44 io_at io_to x4 = some res) : ax X 0 0 44 [some (.ref (ao 0)), none, none, none, some (.int x4)] [oX12 ao io_thrown io_rows io_cells io_children io_changes io_taped io_at io_to io_nest io_readMany io_codeLong io_readLong io_undos io_wentHome io_tideLevel io_acts io_firstBreaks io_bestCrew io_sights io_wayMany io_random] [] := by
  unfold fX12_faultOf_b44 at hf
  refine a_iload C dX12_faultOf_44 rfl ?_
  refine a_if_eq C 53 dX12_faultOf_46 (by decide) (fun h1 => ?_) (fun h1 => ?_)
  · have hf := fx_t h1 hf
    refine a_iconst C (-1 : Int32) dX12_faultOf_53 (by decide) ?_
    refine a_aload_n C dX12_faultOf_54 rfl ?_
    refine a_get C (eB_X12_136 _) dX12_faultOf_55 0 rfl rfl ?_
    refine a_isub C dX12_faultOf_58 ?_
    refine a_kill [0, 4] ?_
    exact kX12_faultOf_b59 C hQ hf
  · have hf := fx_f h1 hf
    refine a_iconst C (0 : Int32) dX12_faultOf_49 (by decide) ?_
    refine a_goto C 59 dX12_faultOf_50 (by decide) ?_
    refine a_kill [0, 4] ?_
    exact kX12_faultOf_b59 C hQ hf
def fX12_faultOf_b40 (io_at : Int32) (io_to : Int32) (x2 : Int32) : Option (Int32) :=
  some ((-1 : Int32) - x2)
set_option maxHeartbeats 400000 in
set_option maxRecDepth 100000 in
theorem kX12_faultOf_b40 {X : cxT} {l : Launch} {D : va_G} {Y : Nat → ClassId} {ao : Nat → Nat} {io_thrown : Int32} {io_rows : Int32} {io_cells : Int32} {io_children : Int32} {io_changes : Int32} {io_taped : Int32} {io_at : Int32} {io_to : Int32} {io_nest : Int32} {io_readMany : Int32} {io_codeLong : Int32} {io_readLong : Int32} {io_undos : Int32} {io_wentHome : Int32} {io_tideLevel : Int32} {io_acts : Int32} {io_firstBreaks : Int32} {io_bestCrew : Int32} {io_sights : Int32} {io_wayMany : Int32} {io_random : Int32} {x2 : Int32} {res : Int32} (C : axC X l D Y cX12_faultOf 5 RX12 wsX12_faultOf rmX12_faultOf (some .int)) (hQ : axQ X 0 0 (fun r9 w9 => r9 = (some (.int res)) ∧ w9 = [oX12 ao io_thrown io_rows io_cells io_children io_changes io_taped io_at io_to io_nest io_readMany io_codeLong io_readLong io_undos io_wentHome io_tideLevel io_acts io_firstBreaks io_bestCrew io_sights io_wayMany io_random])) (hf : fX12_faultOf_b40 io_at io_to x2 = some res) : ax X 0 0 40 [none, none, some (.int x2), none, none] [oX12 ao io_thrown io_rows io_cells io_children io_changes io_taped io_at io_to io_nest io_readMany io_codeLong io_readLong io_undos io_wentHome io_tideLevel io_acts io_firstBreaks io_bestCrew io_sights io_wayMany io_random] [] := by
  unfold fX12_faultOf_b40 at hf
  refine a_iconst C (-1 : Int32) dX12_faultOf_40 (by decide) ?_
  refine a_iload_n C dX12_faultOf_41 rfl ?_
  refine a_isub C dX12_faultOf_42 ?_
  obtain rfl := fx_some hf
  exact a_iret C hQ dX12_faultOf_43 ⟨rfl, rfl⟩
def fX12_faultOf_b20 (io_at : Int32) (io_to : Int32) (x1 : Int32) (x2 : Int32) (s0 : Int32) : Option (Int32) :=
  if x1 ≤ x2 then (fX12_faultOf_b44 io_at io_to s0) else (if s0 = (0 : Int32) then (if io_at < x2 then (fX12_faultOf_b44 io_at io_to s0) else (fX12_faultOf_b40 io_at io_to x2)) else (fX12_faultOf_b40 io_at io_to x2))
set_option maxHeartbeats 400000 in
set_option maxRecDepth 100000 in
theorem kX12_faultOf_b20 {X : cxT} {l : Launch} {D : va_G} {Y : Nat → ClassId} {ao : Nat → Nat} {io_thrown : Int32} {io_rows : Int32} {io_cells : Int32} {io_children : Int32} {io_changes : Int32} {io_taped : Int32} {io_at : Int32} {io_to : Int32} {io_nest : Int32} {io_readMany : Int32} {io_codeLong : Int32} {io_readLong : Int32} {io_undos : Int32} {io_wentHome : Int32} {io_tideLevel : Int32} {io_acts : Int32} {io_firstBreaks : Int32} {io_bestCrew : Int32} {io_sights : Int32} {io_wayMany : Int32} {io_random : Int32} {x1 : Int32} {x2 : Int32} {s0 : Int32} {res : Int32} (C : axC X l D Y cX12_faultOf 5 RX12 wsX12_faultOf rmX12_faultOf (some .int)) (hQ : axQ X 0 0 (fun r9 w9 => r9 = (some (.int res)) ∧ w9 = [oX12 ao io_thrown io_rows io_cells io_children io_changes io_taped io_at io_to io_nest io_readMany io_codeLong io_readLong io_undos io_wentHome io_tideLevel io_acts io_firstBreaks io_bestCrew io_sights io_wayMany io_random])) (hf : fX12_faultOf_b20 io_at io_to x1 x2 s0 = some res) : ax X 0 0 20 [some (.ref (ao 0)), some (.int x1), some (.int x2), none, none] [oX12 ao io_thrown io_rows io_cells io_children io_changes io_taped io_at io_to io_nest io_readMany io_codeLong io_readLong io_undos io_wentHome io_tideLevel io_acts io_firstBreaks io_bestCrew io_sights io_wayMany io_random] [.int s0] := by
  unfold fX12_faultOf_b20 at hf
  refine a_istore C dX12_faultOf_20 (by decide) rfl ?_
  refine a_iload_n C dX12_faultOf_22 rfl ?_
  refine a_iload_n C dX12_faultOf_23 rfl ?_
  refine a_icmp_le C 44 dX12_faultOf_24 (by decide) (fun h2 => ?_) (fun h2 => ?_)
  · have hf := fx_t h2 hf
    refine a_kill [1, 2] ?_
    exact kX12_faultOf_b44 C hQ hf
  · have hf := fx_f h2 hf
    refine a_iload C dX12_faultOf_27 rfl ?_
    refine a_if_ne C 40 dX12_faultOf_29 (by decide) (fun h3 => ?_) (fun h3 => ?_)
    · have hf := fx_f h3 hf
      refine a_kill [0, 1, 4] ?_
      exact kX12_faultOf_b40 C hQ hf
    · have hf := fx_t h3 hf
      refine a_aload_n C dX12_faultOf_32 rfl ?_
      refine a_get C (eB_X12_136 _) dX12_faultOf_33 0 rfl rfl ?_
      refine a_iload_n C dX12_faultOf_36 rfl ?_
      refine a_icmp_lt C 44 dX12_faultOf_37 (by decide) (fun h4 => ?_) (fun h4 => ?_)
      · have hf := fx_t h4 hf
        refine a_kill [1, 2] ?_
        exact kX12_faultOf_b44 C hQ hf
      · have hf := fx_f h4 hf
        refine a_kill [0, 1, 4] ?_
        exact kX12_faultOf_b40 C hQ hf
def fX12_faultOf_b19 (io_at : Int32) (io_to : Int32) (x1 : Int32) (x2 : Int32) : Option (Int32) :=
  fX12_faultOf_b20 io_at io_to x1 x2 (0 : Int32)
set_option maxHeartbeats 400000 in
set_option maxRecDepth 100000 in
theorem kX12_faultOf_b19 {X : cxT} {l : Launch} {D : va_G} {Y : Nat → ClassId} {ao : Nat → Nat} {io_thrown : Int32} {io_rows : Int32} {io_cells : Int32} {io_children : Int32} {io_changes : Int32} {io_taped : Int32} {io_at : Int32} {io_to : Int32} {io_nest : Int32} {io_readMany : Int32} {io_codeLong : Int32} {io_readLong : Int32} {io_undos : Int32} {io_wentHome : Int32} {io_tideLevel : Int32} {io_acts : Int32} {io_firstBreaks : Int32} {io_bestCrew : Int32} {io_sights : Int32} {io_wayMany : Int32} {io_random : Int32} {x1 : Int32} {x2 : Int32} {res : Int32} (C : axC X l D Y cX12_faultOf 5 RX12 wsX12_faultOf rmX12_faultOf (some .int)) (hQ : axQ X 0 0 (fun r9 w9 => r9 = (some (.int res)) ∧ w9 = [oX12 ao io_thrown io_rows io_cells io_children io_changes io_taped io_at io_to io_nest io_readMany io_codeLong io_readLong io_undos io_wentHome io_tideLevel io_acts io_firstBreaks io_bestCrew io_sights io_wayMany io_random])) (hf : fX12_faultOf_b19 io_at io_to x1 x2 = some res) : ax X 0 0 19 [some (.ref (ao 0)), some (.int x1), some (.int x2), none, none] [oX12 ao io_thrown io_rows io_cells io_children io_changes io_taped io_at io_to io_nest io_readMany io_codeLong io_readLong io_undos io_wentHome io_tideLevel io_acts io_firstBreaks io_bestCrew io_sights io_wayMany io_random] [] := by
  unfold fX12_faultOf_b19 at hf
  refine a_iconst C (0 : Int32) dX12_faultOf_19 (by decide) ?_
  exact kX12_faultOf_b20 C hQ hf
def fX12_faultOf (io_at : Int32) (io_to : Int32) (x1 : Int32) (x2 : Int32) (x3 : Int32) : Option (Int32) :=
  if x3 = (0 : Int32) then (fX12_faultOf_b19 io_at io_to x1 x2) else (if io_at = io_to then (fX12_faultOf_b20 io_at io_to x1 x2 (1 : Int32)) else (fX12_faultOf_b19 io_at io_to x1 x2))
set_option maxHeartbeats 400000 in
set_option maxRecDepth 100000 in
theorem kX12_faultOf (l : Launch) (D : va_G) (Y : Nat → ClassId) (ao : Nat → Nat) (io_thrown : Int32) (io_rows : Int32) (io_cells : Int32) (io_children : Int32) (io_changes : Int32) (io_taped : Int32) (io_at : Int32) (io_to : Int32) (io_nest : Int32) (io_readMany : Int32) (io_codeLong : Int32) (io_readLong : Int32) (io_undos : Int32) (io_wentHome : Int32) (io_tideLevel : Int32) (io_acts : Int32) (io_firstBreaks : Int32) (io_bestCrew : Int32) (io_sights : Int32) (io_wayMany : Int32) (io_random : Int32) (x1 : Int32) (x2 : Int32) (x3 : Int32) (res : Int32) (hf : fX12_faultOf io_at io_to x1 x2 x3 = some res) : amf l D Y yX12_faultOf wsX12_faultOf rmX12_faultOf [.ref (ao 0), .int x1, .int x2, .int x3] [oX12 ao io_thrown io_rows io_cells io_children io_changes io_taped io_at io_to io_nest io_readMany io_codeLong io_readLong io_undos io_wentHome io_tideLevel io_acts io_firstBreaks io_bestCrew io_sights io_wayMany io_random] (some (.int res)) [oX12 ao io_thrown io_rows io_cells io_children io_changes io_taped io_at io_to io_nest io_readMany io_codeLong io_readLong io_undos io_wentHome io_tideLevel io_acts io_firstBreaks io_bestCrew io_sights io_wayMany io_random] := by
  refine amf.of (cc := cX12_faultOf) (maxL := 5) (rt := (some .int)) (by decide) rfl RX12 rfl (Nat.le_of_ble_eq_true rfl) [some (.ref (ao 0)), some (.int x1), some (.int x2), some (.int x3), none] rfl ?_
  intro X C hQ
  unfold fX12_faultOf at hf
  refine a_iload_n C dX12_faultOf_0 rfl ?_
  refine a_if_eq C 19 dX12_faultOf_1 (by decide) (fun h5 => ?_) (fun h5 => ?_)
  · have hf := fx_t h5 hf
    refine a_kill [3] ?_
    exact kX12_faultOf_b19 C hQ hf
  · have hf := fx_f h5 hf
    refine a_aload_n C dX12_faultOf_4 rfl ?_
    refine a_get C (eB_X12_136 _) dX12_faultOf_5 0 rfl rfl ?_
    refine a_aload_n C dX12_faultOf_8 rfl ?_
    refine a_get C (eB_X12_148 _) dX12_faultOf_9 0 rfl rfl ?_
    refine a_icmp_ne C 19 dX12_faultOf_12 (by decide) (fun h6 => ?_) (fun h6 => ?_)
    · have hf := fx_f h6 hf
      refine a_kill [3] ?_
      exact kX12_faultOf_b19 C hQ hf
    · have hf := fx_t h6 hf
      refine a_iconst C (1 : Int32) dX12_faultOf_15 (by decide) ?_
      refine a_goto C 20 dX12_faultOf_16 (by decide) ?_
      refine a_kill [3] ?_
      exact kX12_faultOf_b20 C hQ hf
-- X12_shore
abbrev rmX12_shore : Room := { frames := 3, cells := 0, slots := 0, locals := 68 }
theorem dvX12_shore : yX12_shore.cls = RX12 ∧ yX12_shore.cls ≠ "java/lang/invoke/MethodHandle" ∧ yX12_shore.cls ≠ "java/lang/invoke/VarHandle" ∧ (parseMethodDescriptor yX12_shore.desc).map (fun d => d.parameters.length) = some 0 := by decide +kernel
def fX12_shore_b305 (io_thrown : Int32) (io_cells : Int32) (io_children : Int32) (io_changes : Int32) (io_taped : Int32) (io_at : Int32) (io_to : Int32) (io_nest : Int32) (io_undos : Int32) (io_sights : Int32) (co_base : Nat → Int32) (co_dyke : Nat → Int32) (co_now : Nat → Int32) (co_tape : Nat → Int32) (co_read : Nat → Int32) : Option (Int32 × Int32 × Int32 × Int32 × Int32 × Int32 × Int32 × Int32 × Int32 × Int32 × (Nat → Int32) × (Nat → Int32) × (Nat → Int32) × (Nat → Int32)) :=
  some (io_cells, io_thrown, io_cells, (io_changes + (1 : Int32)), io_taped, io_at, io_to, io_nest, (0 : Int32), (0 : Int32), co_base, co_dyke, co_now, co_read)
set_option maxHeartbeats 400000 in
set_option maxRecDepth 100000 in
theorem kX12_shore_b305 {X : cxT} {l : Launch} {D : va_G} {Y : Nat → ClassId} {ao : Nat → Nat} {io_thrown : Int32} {io_rows : Int32} {io_cells : Int32} {io_children : Int32} {io_changes : Int32} {io_taped : Int32} {io_at : Int32} {io_to : Int32} {io_nest : Int32} {io_readMany : Int32} {io_codeLong : Int32} {io_readLong : Int32} {io_undos : Int32} {io_wentHome : Int32} {io_tideLevel : Int32} {io_acts : Int32} {io_firstBreaks : Int32} {io_bestCrew : Int32} {io_sights : Int32} {io_wayMany : Int32} {io_random : Int32} {co_base : Nat → Int32} {co_dyke : Nat → Int32} {co_now : Nat → Int32} {co_tape : Nat → Int32} {co_read : Nat → Int32} {res : Int32 × Int32 × Int32 × Int32 × Int32 × Int32 × Int32 × Int32 × Int32 × Int32 × (Nat → Int32) × (Nat → Int32) × (Nat → Int32) × (Nat → Int32)} (C : axC X l D Y cX12_shore 4 RX12 wsX12_shore rmX12_shore (some .int)) (hQ : axQ X 0 0 (fun r9 w9 => r9 = (some (.int res.1)) ∧ w9 = [oX12 ao res.2.1 io_rows res.2.2.1 io_children res.2.2.2.1 res.2.2.2.2.1 res.2.2.2.2.2.1 res.2.2.2.2.2.2.1 res.2.2.2.2.2.2.2.1 io_readMany io_codeLong io_readLong res.2.2.2.2.2.2.2.2.1 io_wentHome io_tideLevel io_acts io_firstBreaks io_bestCrew res.2.2.2.2.2.2.2.2.2.1 io_wayMany io_random, rI Y (ao 2) 12 res.2.2.2.2.2.2.2.2.2.2.1, rI Y (ao 3) 12 res.2.2.2.2.2.2.2.2.2.2.2.1, rI Y (ao 8) 43 res.2.2.2.2.2.2.2.2.2.2.2.2.1, rI Y (ao 10) 80 co_tape, rI Y (ao 11) 36 res.2.2.2.2.2.2.2.2.2.2.2.2.2])) (hf : fX12_shore_b305 io_thrown io_cells io_children io_changes io_taped io_at io_to io_nest io_undos io_sights co_base co_dyke co_now co_tape co_read = some res) : ax X 0 0 305 [some (.ref (ao 0)), none, none, none] [oX12 ao io_thrown io_rows io_cells io_children io_changes io_taped io_at io_to io_nest io_readMany io_codeLong io_readLong io_undos io_wentHome io_tideLevel io_acts io_firstBreaks io_bestCrew io_sights io_wayMany io_random, rI Y (ao 2) 12 co_base, rI Y (ao 3) 12 co_dyke, rI Y (ao 8) 43 co_now, rI Y (ao 10) 80 co_tape, rI Y (ao 11) 36 co_read] [] := by
  unfold fX12_shore_b305 at hf
  refine a_aload_n C dX12_shore_305 rfl ?_
  refine a_iconst C (0 : Int32) dX12_shore_306 (by decide) ?_
  refine a_put C (eB_X12_188 _) tfX12_42 dX12_shore_307 0 rfl rfl rfl (Nat.le_of_ble_eq_true rfl) ?_
  refine a_aload_n C dX12_shore_310 rfl ?_
  refine a_iconst C (0 : Int32) dX12_shore_311 (by decide) ?_
  refine a_put C (eB_X12_191 _) tfX12_27 dX12_shore_312 0 rfl rfl rfl (Nat.le_of_ble_eq_true rfl) ?_
  refine a_aload_n C dX12_shore_315 rfl ?_
  refine a_dup C dX12_shore_316 rfl ?_
  refine a_get C (eB_X12_194 _) dX12_shore_317 0 rfl rfl ?_
  refine a_iconst C (1 : Int32) dX12_shore_320 (by decide) ?_
  refine a_iadd C dX12_shore_321 ?_
  refine a_put C (eB_X12_194 _) tfX12_5 dX12_shore_322 0 rfl rfl rfl (Nat.le_of_ble_eq_true rfl) ?_
  refine a_aload_n C dX12_shore_325 rfl ?_
  refine a_get C (eB_X12_13 _) dX12_shore_326 0 rfl rfl ?_
  obtain rfl := fx_some hf
  exact a_iret C hQ dX12_shore_329 ⟨rfl, rfl⟩
def fX12_shore_l277 (io_thrown : Int32) (io_cells : Int32) (io_children : Int32) (io_changes : Int32) (io_taped : Int32) (io_at : Int32) (io_to : Int32) (io_nest : Int32) (io_undos : Int32) (io_sights : Int32) (co_base : Nat → Int32) (co_dyke : Nat → Int32) (co_tape : Nat → Int32) (co_read : Nat → Int32) (k277 : (Nat → Int32) × Int32 → Option (Int32 × Int32 × Int32 × Int32 × Int32 × Int32 × Int32 × Int32 × Int32 × Int32 × (Nat → Int32) × (Nat → Int32) × (Nat → Int32) × (Nat → Int32))) (co_now : Nat → Int32) (x3 : Int32) : Option (Int32 × Int32 × Int32 × Int32 × Int32 × Int32 × Int32 × Int32 × Int32 × Int32 × (Nat → Int32) × (Nat → Int32) × (Nat → Int32) × (Nat → Int32)) :=
  if io_children ≤ x3 then (fX12_shore_b305 io_thrown io_cells io_children io_changes io_taped io_at io_to io_nest io_undos io_sights co_base co_dyke co_now co_tape co_read) else (if inb (((25 : Int32) + ((2 : Int32) * x3)) + (0 : Int32)) 43 then k277 ((upd co_now (Int32.toNatClampNeg (((25 : Int32) + ((2 : Int32) * x3)) + (0 : Int32))) (-1 : Int32)), (x3 + (1 : Int32))) else none)
def fX12_shore_b277 (io_thrown : Int32) (io_cells : Int32) (io_children : Int32) (io_changes : Int32) (io_taped : Int32) (io_at : Int32) (io_to : Int32) (io_nest : Int32) (io_undos : Int32) (io_sights : Int32) (co_base : Nat → Int32) (co_dyke : Nat → Int32) (co_now : Nat → Int32) (co_tape : Nat → Int32) (co_read : Nat → Int32) (x3 : Int32) : Option (Int32 × Int32 × Int32 × Int32 × Int32 × Int32 × Int32 × Int32 × Int32 × Int32 × (Nat → Int32) × (Nat → Int32) × (Nat → Int32) × (Nat → Int32)) :=
  loopN (fun (s : (Nat → Int32) × Int32) k277 => fX12_shore_l277 io_thrown io_cells io_children io_changes io_taped io_at io_to io_nest io_undos io_sights co_base co_dyke co_tape co_read k277 s.1 s.2) FUEL (co_now, x3)
set_option maxHeartbeats 400000 in
set_option maxRecDepth 100000 in
theorem kX12_shore_l277 {X : cxT} {l : Launch} {D : va_G} {Y : Nat → ClassId} {ao : Nat → Nat} {io_thrown : Int32} {io_rows : Int32} {io_cells : Int32} {io_children : Int32} {io_changes : Int32} {io_taped : Int32} {io_at : Int32} {io_to : Int32} {io_nest : Int32} {io_readMany : Int32} {io_codeLong : Int32} {io_readLong : Int32} {io_undos : Int32} {io_wentHome : Int32} {io_tideLevel : Int32} {io_acts : Int32} {io_firstBreaks : Int32} {io_bestCrew : Int32} {io_sights : Int32} {io_wayMany : Int32} {io_random : Int32} {co_base : Nat → Int32} {co_dyke : Nat → Int32} {co_now : Nat → Int32} {co_tape : Nat → Int32} {co_read : Nat → Int32} {x3 : Int32} {res : Int32 × Int32 × Int32 × Int32 × Int32 × Int32 × Int32 × Int32 × Int32 × Int32 × (Nat → Int32) × (Nat → Int32) × (Nat → Int32) × (Nat → Int32)} (C : axC X l D Y cX12_shore 4 RX12 wsX12_shore rmX12_shore (some .int)) (hQ : axQ X 0 0 (fun r9 w9 => r9 = (some (.int res.1)) ∧ w9 = [oX12 ao res.2.1 io_rows res.2.2.1 io_children res.2.2.2.1 res.2.2.2.2.1 res.2.2.2.2.2.1 res.2.2.2.2.2.2.1 res.2.2.2.2.2.2.2.1 io_readMany io_codeLong io_readLong res.2.2.2.2.2.2.2.2.1 io_wentHome io_tideLevel io_acts io_firstBreaks io_bestCrew res.2.2.2.2.2.2.2.2.2.1 io_wayMany io_random, rI Y (ao 2) 12 res.2.2.2.2.2.2.2.2.2.2.1, rI Y (ao 3) 12 res.2.2.2.2.2.2.2.2.2.2.2.1, rI Y (ao 8) 43 res.2.2.2.2.2.2.2.2.2.2.2.2.1, rI Y (ao 10) 80 co_tape, rI Y (ao 11) 36 res.2.2.2.2.2.2.2.2.2.2.2.2.2])) {k277 : (Nat → Int32) × Int32 → Option (Int32 × Int32 × Int32 × Int32 × Int32 × Int32 × Int32 × Int32 × Int32 × Int32 × (Nat → Int32) × (Nat → Int32) × (Nat → Int32) × (Nat → Int32))} (hk277 : ∀ s : (Nat → Int32) × Int32, k277 s = some res → ax X 0 0 277 [some (.ref (ao 0)), none, none, some (.int s.2)] [oX12 ao io_thrown io_rows io_cells io_children io_changes io_taped io_at io_to io_nest io_readMany io_codeLong io_readLong io_undos io_wentHome io_tideLevel io_acts io_firstBreaks io_bestCrew io_sights io_wayMany io_random, rI Y (ao 2) 12 co_base, rI Y (ao 3) 12 co_dyke, rI Y (ao 8) 43 s.1, rI Y (ao 10) 80 co_tape, rI Y (ao 11) 36 co_read] []) (hf : fX12_shore_l277 io_thrown io_cells io_children io_changes io_taped io_at io_to io_nest io_undos io_sights co_base co_dyke co_tape co_read k277 co_now x3 = some res) : ax X 0 0 277 [some (.ref (ao 0)), none, none, some (.int x3)] [oX12 ao io_thrown io_rows io_cells io_children io_changes io_taped io_at io_to io_nest io_readMany io_codeLong io_readLong io_undos io_wentHome io_tideLevel io_acts io_firstBreaks io_bestCrew io_sights io_wayMany io_random, rI Y (ao 2) 12 co_base, rI Y (ao 3) 12 co_dyke, rI Y (ao 8) 43 co_now, rI Y (ao 10) 80 co_tape, rI Y (ao 11) 36 co_read] [] := by
  unfold fX12_shore_l277 at hf
  refine a_iload_n C dX12_shore_277 rfl ?_
  refine a_aload_n C dX12_shore_278 rfl ?_
  refine a_get C (eB_X12_126 _) dX12_shore_279 0 rfl rfl ?_
  refine a_icmp_ge C 305 dX12_shore_282 (by decide) (fun h1 => ?_) (fun h1 => ?_)
  · have hf := fx_t h1 hf
    refine a_kill [3] ?_
    exact kX12_shore_b305 C hQ hf
  · have hf := fx_f h1 hf
    refine a_aload_n C dX12_shore_285 rfl ?_
    refine a_get C (eB_X12_36 _) dX12_shore_286 0 rfl rfl ?_
    refine a_bipush C (25 : Int32) dX12_shore_289 (by decide) ?_
    refine a_iconst C (2 : Int32) dX12_shore_291 (by decide) ?_
    refine a_iload_n C dX12_shore_292 rfl ?_
    refine a_imul C dX12_shore_293 ?_
    refine a_iadd C dX12_shore_294 ?_
    refine a_iconst C (0 : Int32) dX12_shore_295 (by decide) ?_
    refine a_iadd C dX12_shore_296 ?_
    refine a_iconst C (-1 : Int32) dX12_shore_297 (by decide) ?_
    obtain ⟨h2, hf⟩ := fx_ite hf
    refine a_iast C dX12_shore_298 3 rfl h2 ?_
    refine a_iinc C (1 : Int32) dX12_shore_299 (by decide) rfl (by decide) rfl ?_
    refine a_goto C 277 dX12_shore_302 (by decide) ?_
    exact hk277 ((upd co_now (Int32.toNatClampNeg (((25 : Int32) + ((2 : Int32) * x3)) + (0 : Int32))) (-1 : Int32)), (x3 + (1 : Int32))) hf
set_option maxHeartbeats 400000 in
set_option maxRecDepth 100000 in
theorem kX12_shore_b277 {X : cxT} {l : Launch} {D : va_G} {Y : Nat → ClassId} {ao : Nat → Nat} {io_thrown : Int32} {io_rows : Int32} {io_cells : Int32} {io_children : Int32} {io_changes : Int32} {io_taped : Int32} {io_at : Int32} {io_to : Int32} {io_nest : Int32} {io_readMany : Int32} {io_codeLong : Int32} {io_readLong : Int32} {io_undos : Int32} {io_wentHome : Int32} {io_tideLevel : Int32} {io_acts : Int32} {io_firstBreaks : Int32} {io_bestCrew : Int32} {io_sights : Int32} {io_wayMany : Int32} {io_random : Int32} {co_base : Nat → Int32} {co_dyke : Nat → Int32} {co_now : Nat → Int32} {co_tape : Nat → Int32} {co_read : Nat → Int32} {x3 : Int32} {res : Int32 × Int32 × Int32 × Int32 × Int32 × Int32 × Int32 × Int32 × Int32 × Int32 × (Nat → Int32) × (Nat → Int32) × (Nat → Int32) × (Nat → Int32)} (C : axC X l D Y cX12_shore 4 RX12 wsX12_shore rmX12_shore (some .int)) (hQ : axQ X 0 0 (fun r9 w9 => r9 = (some (.int res.1)) ∧ w9 = [oX12 ao res.2.1 io_rows res.2.2.1 io_children res.2.2.2.1 res.2.2.2.2.1 res.2.2.2.2.2.1 res.2.2.2.2.2.2.1 res.2.2.2.2.2.2.2.1 io_readMany io_codeLong io_readLong res.2.2.2.2.2.2.2.2.1 io_wentHome io_tideLevel io_acts io_firstBreaks io_bestCrew res.2.2.2.2.2.2.2.2.2.1 io_wayMany io_random, rI Y (ao 2) 12 res.2.2.2.2.2.2.2.2.2.2.1, rI Y (ao 3) 12 res.2.2.2.2.2.2.2.2.2.2.2.1, rI Y (ao 8) 43 res.2.2.2.2.2.2.2.2.2.2.2.2.1, rI Y (ao 10) 80 co_tape, rI Y (ao 11) 36 res.2.2.2.2.2.2.2.2.2.2.2.2.2])) (hf : fX12_shore_b277 io_thrown io_cells io_children io_changes io_taped io_at io_to io_nest io_undos io_sights co_base co_dyke co_now co_tape co_read x3 = some res) : ax X 0 0 277 [some (.ref (ao 0)), none, none, some (.int x3)] [oX12 ao io_thrown io_rows io_cells io_children io_changes io_taped io_at io_to io_nest io_readMany io_codeLong io_readLong io_undos io_wentHome io_tideLevel io_acts io_firstBreaks io_bestCrew io_sights io_wayMany io_random, rI Y (ao 2) 12 co_base, rI Y (ao 3) 12 co_dyke, rI Y (ao 8) 43 co_now, rI Y (ao 10) 80 co_tape, rI Y (ao 11) 36 co_read] [] := by
  unfold fX12_shore_b277 at hf
  exact fx_loop (P := fun s : (Nat → Int32) × Int32 => ax X 0 0 277 [some (.ref (ao 0)), none, none, some (.int s.2)] [oX12 ao io_thrown io_rows io_cells io_children io_changes io_taped io_at io_to io_nest io_readMany io_codeLong io_readLong io_undos io_wentHome io_tideLevel io_acts io_firstBreaks io_bestCrew io_sights io_wayMany io_random, rI Y (ao 2) 12 co_base, rI Y (ao 3) 12 co_dyke, rI Y (ao 8) 43 s.1, rI Y (ao 10) 80 co_tape, rI Y (ao 11) 36 co_read] []) (fun s k277 hk277 h => kX12_shore_l277 C hQ hk277 h) FUEL (co_now, x3) hf
def fX12_shore_b259 (io_thrown : Int32) (io_cells : Int32) (io_children : Int32) (io_changes : Int32) (io_taped : Int32) (io_at : Int32) (io_to : Int32) (io_nest : Int32) (io_undos : Int32) (io_sights : Int32) (co_base : Nat → Int32) (co_dyke : Nat → Int32) (co_now : Nat → Int32) (co_tape : Nat → Int32) (co_read : Nat → Int32) : Option (Int32 × Int32 × Int32 × Int32 × Int32 × Int32 × Int32 × Int32 × Int32 × Int32 × (Nat → Int32) × (Nat → Int32) × (Nat → Int32) × (Nat → Int32)) :=
  if inb (12 : Int32) 43 then if inb (42 : Int32) 43 then fX12_shore_b277 io_thrown io_cells io_children io_changes io_taped io_at io_to io_nest io_undos io_sights co_base co_dyke (upd (upd co_now (Int32.toNatClampNeg (12 : Int32)) (0 : Int32)) (Int32.toNatClampNeg (42 : Int32)) (0 : Int32)) co_tape co_read (0 : Int32) else none else none
set_option maxHeartbeats 400000 in
set_option maxRecDepth 100000 in
theorem kX12_shore_b259 {X : cxT} {l : Launch} {D : va_G} {Y : Nat → ClassId} {ao : Nat → Nat} {io_thrown : Int32} {io_rows : Int32} {io_cells : Int32} {io_children : Int32} {io_changes : Int32} {io_taped : Int32} {io_at : Int32} {io_to : Int32} {io_nest : Int32} {io_readMany : Int32} {io_codeLong : Int32} {io_readLong : Int32} {io_undos : Int32} {io_wentHome : Int32} {io_tideLevel : Int32} {io_acts : Int32} {io_firstBreaks : Int32} {io_bestCrew : Int32} {io_sights : Int32} {io_wayMany : Int32} {io_random : Int32} {co_base : Nat → Int32} {co_dyke : Nat → Int32} {co_now : Nat → Int32} {co_tape : Nat → Int32} {co_read : Nat → Int32} {res : Int32 × Int32 × Int32 × Int32 × Int32 × Int32 × Int32 × Int32 × Int32 × Int32 × (Nat → Int32) × (Nat → Int32) × (Nat → Int32) × (Nat → Int32)} (C : axC X l D Y cX12_shore 4 RX12 wsX12_shore rmX12_shore (some .int)) (hQ : axQ X 0 0 (fun r9 w9 => r9 = (some (.int res.1)) ∧ w9 = [oX12 ao res.2.1 io_rows res.2.2.1 io_children res.2.2.2.1 res.2.2.2.2.1 res.2.2.2.2.2.1 res.2.2.2.2.2.2.1 res.2.2.2.2.2.2.2.1 io_readMany io_codeLong io_readLong res.2.2.2.2.2.2.2.2.1 io_wentHome io_tideLevel io_acts io_firstBreaks io_bestCrew res.2.2.2.2.2.2.2.2.2.1 io_wayMany io_random, rI Y (ao 2) 12 res.2.2.2.2.2.2.2.2.2.2.1, rI Y (ao 3) 12 res.2.2.2.2.2.2.2.2.2.2.2.1, rI Y (ao 8) 43 res.2.2.2.2.2.2.2.2.2.2.2.2.1, rI Y (ao 10) 80 co_tape, rI Y (ao 11) 36 res.2.2.2.2.2.2.2.2.2.2.2.2.2])) (hf : fX12_shore_b259 io_thrown io_cells io_children io_changes io_taped io_at io_to io_nest io_undos io_sights co_base co_dyke co_now co_tape co_read = some res) : ax X 0 0 259 [some (.ref (ao 0)), none, none, none] [oX12 ao io_thrown io_rows io_cells io_children io_changes io_taped io_at io_to io_nest io_readMany io_codeLong io_readLong io_undos io_wentHome io_tideLevel io_acts io_firstBreaks io_bestCrew io_sights io_wayMany io_random, rI Y (ao 2) 12 co_base, rI Y (ao 3) 12 co_dyke, rI Y (ao 8) 43 co_now, rI Y (ao 10) 80 co_tape, rI Y (ao 11) 36 co_read] [] := by
  unfold fX12_shore_b259 at hf
  refine a_aload_n C dX12_shore_259 rfl ?_
  refine a_get C (eB_X12_36 _) dX12_shore_260 0 rfl rfl ?_
  refine a_bipush C (12 : Int32) dX12_shore_263 (by decide) ?_
  refine a_iconst C (0 : Int32) dX12_shore_265 (by decide) ?_
  obtain ⟨h3, hf⟩ := fx_ite hf
  refine a_iast C dX12_shore_266 3 rfl h3 ?_
  refine a_aload_n C dX12_shore_267 rfl ?_
  refine a_get C (eB_X12_36 _) dX12_shore_268 0 rfl rfl ?_
  refine a_bipush C (42 : Int32) dX12_shore_271 (by decide) ?_
  refine a_iconst C (0 : Int32) dX12_shore_273 (by decide) ?_
  obtain ⟨h4, hf⟩ := fx_ite hf
  refine a_iast C dX12_shore_274 3 rfl h4 ?_
  refine a_iconst C (0 : Int32) dX12_shore_275 (by decide) ?_
  refine a_istore_n C dX12_shore_276 (by decide) rfl ?_
  exact kX12_shore_b277 C hQ hf
def fX12_shore_b235 (io_thrown : Int32) (io_cells : Int32) (io_children : Int32) (io_changes : Int32) (io_taped : Int32) (io_at : Int32) (io_to : Int32) (io_nest : Int32) (io_undos : Int32) (io_sights : Int32) (co_base : Nat → Int32) (co_dyke : Nat → Int32) (co_now : Nat → Int32) (co_tape : Nat → Int32) (co_read : Nat → Int32) (x1 : Int32) (x3 : Int32) (s1 : Int32) (s2 : Int32) (k180 : (Nat → Int32) × (Nat → Int32) × (Nat → Int32) × Int32 → Option (Int32 × Int32 × Int32 × Int32 × Int32 × Int32 × Int32 × Int32 × Int32 × Int32 × (Nat → Int32) × (Nat → Int32) × (Nat → Int32) × (Nat → Int32))) : Option (Int32 × Int32 × Int32 × Int32 × Int32 × Int32 × Int32 × Int32 × Int32 × Int32 × (Nat → Int32) × (Nat → Int32) × (Nat → Int32) × (Nat → Int32)) :=
  if inb s1 12 then if inb x3 43 then if inb ((13 : Int32) + x3) 43 then k180 (co_base, (upd co_dyke (Int32.toNatClampNeg s1) s2), (upd (upd co_now (Int32.toNatClampNeg x3) (0 : Int32)) (Int32.toNatClampNeg ((13 : Int32) + x3)) (0 : Int32)), (x3 + (1 : Int32))) else none else none else none
set_option maxHeartbeats 400000 in
set_option maxRecDepth 100000 in
theorem kX12_shore_b235 {X : cxT} {l : Launch} {D : va_G} {Y : Nat → ClassId} {ao : Nat → Nat} {io_thrown : Int32} {io_rows : Int32} {io_cells : Int32} {io_children : Int32} {io_changes : Int32} {io_taped : Int32} {io_at : Int32} {io_to : Int32} {io_nest : Int32} {io_readMany : Int32} {io_codeLong : Int32} {io_readLong : Int32} {io_undos : Int32} {io_wentHome : Int32} {io_tideLevel : Int32} {io_acts : Int32} {io_firstBreaks : Int32} {io_bestCrew : Int32} {io_sights : Int32} {io_wayMany : Int32} {io_random : Int32} {co_base : Nat → Int32} {co_dyke : Nat → Int32} {co_now : Nat → Int32} {co_tape : Nat → Int32} {co_read : Nat → Int32} {x1 : Int32} {x3 : Int32} {s1 : Int32} {s2 : Int32} {res : Int32 × Int32 × Int32 × Int32 × Int32 × Int32 × Int32 × Int32 × Int32 × Int32 × (Nat → Int32) × (Nat → Int32) × (Nat → Int32) × (Nat → Int32)} (C : axC X l D Y cX12_shore 4 RX12 wsX12_shore rmX12_shore (some .int)) (hQ : axQ X 0 0 (fun r9 w9 => r9 = (some (.int res.1)) ∧ w9 = [oX12 ao res.2.1 io_rows res.2.2.1 io_children res.2.2.2.1 res.2.2.2.2.1 res.2.2.2.2.2.1 res.2.2.2.2.2.2.1 res.2.2.2.2.2.2.2.1 io_readMany io_codeLong io_readLong res.2.2.2.2.2.2.2.2.1 io_wentHome io_tideLevel io_acts io_firstBreaks io_bestCrew res.2.2.2.2.2.2.2.2.2.1 io_wayMany io_random, rI Y (ao 2) 12 res.2.2.2.2.2.2.2.2.2.2.1, rI Y (ao 3) 12 res.2.2.2.2.2.2.2.2.2.2.2.1, rI Y (ao 8) 43 res.2.2.2.2.2.2.2.2.2.2.2.2.1, rI Y (ao 10) 80 co_tape, rI Y (ao 11) 36 res.2.2.2.2.2.2.2.2.2.2.2.2.2])) {k180 : (Nat → Int32) × (Nat → Int32) × (Nat → Int32) × Int32 → Option (Int32 × Int32 × Int32 × Int32 × Int32 × Int32 × Int32 × Int32 × Int32 × Int32 × (Nat → Int32) × (Nat → Int32) × (Nat → Int32) × (Nat → Int32))} (hk180 : ∀ s : (Nat → Int32) × (Nat → Int32) × (Nat → Int32) × Int32, k180 s = some res → ax X 0 0 180 [some (.ref (ao 0)), some (.int x1), none, some (.int s.2.2.2)] [oX12 ao io_thrown io_rows io_cells io_children io_changes io_taped io_at io_to io_nest io_readMany io_codeLong io_readLong io_undos io_wentHome io_tideLevel io_acts io_firstBreaks io_bestCrew io_sights io_wayMany io_random, rI Y (ao 2) 12 s.1, rI Y (ao 3) 12 s.2.1, rI Y (ao 8) 43 s.2.2.1, rI Y (ao 10) 80 co_tape, rI Y (ao 11) 36 co_read] []) (hf : fX12_shore_b235 io_thrown io_cells io_children io_changes io_taped io_at io_to io_nest io_undos io_sights co_base co_dyke co_now co_tape co_read x1 x3 s1 s2 k180 = some res) : ax X 0 0 235 [some (.ref (ao 0)), some (.int x1), none, some (.int x3)] [oX12 ao io_thrown io_rows io_cells io_children io_changes io_taped io_at io_to io_nest io_readMany io_codeLong io_readLong io_undos io_wentHome io_tideLevel io_acts io_firstBreaks io_bestCrew io_sights io_wayMany io_random, rI Y (ao 2) 12 co_base, rI Y (ao 3) 12 co_dyke, rI Y (ao 8) 43 co_now, rI Y (ao 10) 80 co_tape, rI Y (ao 11) 36 co_read] [.int s2, .int s1, .ref (ao 3)] := by
  unfold fX12_shore_b235 at hf
  obtain ⟨h5, hf⟩ := fx_ite hf
  refine a_iast C dX12_shore_235 2 rfl h5 ?_
  refine a_aload_n C dX12_shore_236 rfl ?_
  refine a_get C (eB_X12_36 _) dX12_shore_237 0 rfl rfl ?_
  refine a_iload_n C dX12_shore_240 rfl ?_
  refine a_iconst C (0 : Int32) dX12_shore_241 (by decide) ?_
  obtain ⟨h6, hf⟩ := fx_ite hf
  refine a_iast C dX12_shore_242 3 rfl h6 ?_
  refine a_aload_n C dX12_shore_243 rfl ?_
  refine a_get C (eB_X12_36 _) dX12_shore_244 0 rfl rfl ?_
  refine a_bipush C (13 : Int32) dX12_shore_247 (by decide) ?_
  refine a_iload_n C dX12_shore_249 rfl ?_
  refine a_iadd C dX12_shore_250 ?_
  refine a_iconst C (0 : Int32) dX12_shore_251 (by decide) ?_
  obtain ⟨h7, hf⟩ := fx_ite hf
  refine a_iast C dX12_shore_252 3 rfl h7 ?_
  refine a_iinc C (1 : Int32) dX12_shore_253 (by decide) rfl (by decide) rfl ?_
  refine a_goto C 180 dX12_shore_256 (by decide) ?_
  exact hk180 (co_base, (upd co_dyke (Int32.toNatClampNeg s1) s2), (upd (upd co_now (Int32.toNatClampNeg x3) (0 : Int32)) (Int32.toNatClampNeg ((13 : Int32) + x3)) (0 : Int32)), (x3 + (1 : Int32))) hf
def fX12_shore_b208 (io_thrown : Int32) (io_cells : Int32) (io_children : Int32) (io_changes : Int32) (io_taped : Int32) (io_at : Int32) (io_to : Int32) (io_nest : Int32) (io_undos : Int32) (io_sights : Int32) (co_base : Nat → Int32) (co_dyke : Nat → Int32) (co_now : Nat → Int32) (co_tape : Nat → Int32) (co_read : Nat → Int32) (x1 : Int32) (x3 : Int32) (s1 : Int32) (s2 : Int32) (k180 : (Nat → Int32) × (Nat → Int32) × (Nat → Int32) × Int32 → Option (Int32 × Int32 × Int32 × Int32 × Int32 × Int32 × Int32 × Int32 × Int32 × Int32 × (Nat → Int32) × (Nat → Int32) × (Nat → Int32) × (Nat → Int32))) : Option (Int32 × Int32 × Int32 × Int32 × Int32 × Int32 × Int32 × Int32 × Int32 × Int32 × (Nat → Int32) × (Nat → Int32) × (Nat → Int32) × (Nat → Int32)) :=
  if inb s1 12 then if (x1 - (1 : Int32)) ≤ x3 then (fX12_shore_b235 io_thrown io_cells io_children io_changes io_taped io_at io_to io_nest io_undos io_sights (upd co_base (Int32.toNatClampNeg s1) s2) co_dyke co_now co_tape co_read x1 x3 x3 (0 : Int32) k180) else (if inb (((2 : Int32) * x3) + (1 : Int32)) 36 then fX12_shore_b235 io_thrown io_cells io_children io_changes io_taped io_at io_to io_nest io_undos io_sights (upd co_base (Int32.toNatClampNeg s1) s2) co_dyke co_now co_tape co_read x1 x3 x3 (co_read (Int32.toNatClampNeg (((2 : Int32) * x3) + (1 : Int32)))) k180 else none) else none
set_option maxHeartbeats 400000 in
set_option maxRecDepth 100000 in
theorem kX12_shore_b208 {X : cxT} {l : Launch} {D : va_G} {Y : Nat → ClassId} {ao : Nat → Nat} {io_thrown : Int32} {io_rows : Int32} {io_cells : Int32} {io_children : Int32} {io_changes : Int32} {io_taped : Int32} {io_at : Int32} {io_to : Int32} {io_nest : Int32} {io_readMany : Int32} {io_codeLong : Int32} {io_readLong : Int32} {io_undos : Int32} {io_wentHome : Int32} {io_tideLevel : Int32} {io_acts : Int32} {io_firstBreaks : Int32} {io_bestCrew : Int32} {io_sights : Int32} {io_wayMany : Int32} {io_random : Int32} {co_base : Nat → Int32} {co_dyke : Nat → Int32} {co_now : Nat → Int32} {co_tape : Nat → Int32} {co_read : Nat → Int32} {x1 : Int32} {x3 : Int32} {s1 : Int32} {s2 : Int32} {res : Int32 × Int32 × Int32 × Int32 × Int32 × Int32 × Int32 × Int32 × Int32 × Int32 × (Nat → Int32) × (Nat → Int32) × (Nat → Int32) × (Nat → Int32)} (C : axC X l D Y cX12_shore 4 RX12 wsX12_shore rmX12_shore (some .int)) (hQ : axQ X 0 0 (fun r9 w9 => r9 = (some (.int res.1)) ∧ w9 = [oX12 ao res.2.1 io_rows res.2.2.1 io_children res.2.2.2.1 res.2.2.2.2.1 res.2.2.2.2.2.1 res.2.2.2.2.2.2.1 res.2.2.2.2.2.2.2.1 io_readMany io_codeLong io_readLong res.2.2.2.2.2.2.2.2.1 io_wentHome io_tideLevel io_acts io_firstBreaks io_bestCrew res.2.2.2.2.2.2.2.2.2.1 io_wayMany io_random, rI Y (ao 2) 12 res.2.2.2.2.2.2.2.2.2.2.1, rI Y (ao 3) 12 res.2.2.2.2.2.2.2.2.2.2.2.1, rI Y (ao 8) 43 res.2.2.2.2.2.2.2.2.2.2.2.2.1, rI Y (ao 10) 80 co_tape, rI Y (ao 11) 36 res.2.2.2.2.2.2.2.2.2.2.2.2.2])) {k180 : (Nat → Int32) × (Nat → Int32) × (Nat → Int32) × Int32 → Option (Int32 × Int32 × Int32 × Int32 × Int32 × Int32 × Int32 × Int32 × Int32 × Int32 × (Nat → Int32) × (Nat → Int32) × (Nat → Int32) × (Nat → Int32))} (hk180 : ∀ s : (Nat → Int32) × (Nat → Int32) × (Nat → Int32) × Int32, k180 s = some res → ax X 0 0 180 [some (.ref (ao 0)), some (.int x1), none, some (.int s.2.2.2)] [oX12 ao io_thrown io_rows io_cells io_children io_changes io_taped io_at io_to io_nest io_readMany io_codeLong io_readLong io_undos io_wentHome io_tideLevel io_acts io_firstBreaks io_bestCrew io_sights io_wayMany io_random, rI Y (ao 2) 12 s.1, rI Y (ao 3) 12 s.2.1, rI Y (ao 8) 43 s.2.2.1, rI Y (ao 10) 80 co_tape, rI Y (ao 11) 36 co_read] []) (hf : fX12_shore_b208 io_thrown io_cells io_children io_changes io_taped io_at io_to io_nest io_undos io_sights co_base co_dyke co_now co_tape co_read x1 x3 s1 s2 k180 = some res) : ax X 0 0 208 [some (.ref (ao 0)), some (.int x1), none, some (.int x3)] [oX12 ao io_thrown io_rows io_cells io_children io_changes io_taped io_at io_to io_nest io_readMany io_codeLong io_readLong io_undos io_wentHome io_tideLevel io_acts io_firstBreaks io_bestCrew io_sights io_wayMany io_random, rI Y (ao 2) 12 co_base, rI Y (ao 3) 12 co_dyke, rI Y (ao 8) 43 co_now, rI Y (ao 10) 80 co_tape, rI Y (ao 11) 36 co_read] [.int s2, .int s1, .ref (ao 2)] := by
  unfold fX12_shore_b208 at hf
  obtain ⟨h8, hf⟩ := fx_ite hf
  refine a_iast C dX12_shore_208 1 rfl h8 ?_
  refine a_aload_n C dX12_shore_209 rfl ?_
  refine a_get C (eB_X12_21 _) dX12_shore_210 0 rfl rfl ?_
  refine a_iload_n C dX12_shore_213 rfl ?_
  refine a_iload_n C dX12_shore_214 rfl ?_
  refine a_iload_n C dX12_shore_215 rfl ?_
  refine a_iconst C (1 : Int32) dX12_shore_216 (by decide) ?_
  refine a_isub C dX12_shore_217 ?_
  refine a_icmp_ge C 234 dX12_shore_218 (by decide) (fun h9 => ?_) (fun h9 => ?_)
  · have hf := fx_t h9 hf
    refine a_iconst C (0 : Int32) dX12_shore_234 (by decide) ?_
    exact kX12_shore_b235 C hQ hk180 hf
  · have hf := fx_f h9 hf
    refine a_aload_n C dX12_shore_221 rfl ?_
    refine a_get C (eB_X12_45 _) dX12_shore_222 0 rfl rfl ?_
    refine a_iconst C (2 : Int32) dX12_shore_225 (by decide) ?_
    refine a_iload_n C dX12_shore_226 rfl ?_
    refine a_imul C dX12_shore_227 ?_
    refine a_iconst C (1 : Int32) dX12_shore_228 (by decide) ?_
    refine a_iadd C dX12_shore_229 ?_
    obtain ⟨h10, hf⟩ := fx_ite hf
    refine a_iald C dX12_shore_230 5 rfl h10 ?_
    refine a_goto C 235 dX12_shore_231 (by decide) ?_
    exact kX12_shore_b235 C hQ hk180 hf
def fX12_shore_l180 (io_thrown : Int32) (io_cells : Int32) (io_children : Int32) (io_changes : Int32) (io_taped : Int32) (io_at : Int32) (io_to : Int32) (io_nest : Int32) (io_undos : Int32) (io_sights : Int32) (co_tape : Nat → Int32) (co_read : Nat → Int32) (x1 : Int32) (k180 : (Nat → Int32) × (Nat → Int32) × (Nat → Int32) × Int32 → Option (Int32 × Int32 × Int32 × Int32 × Int32 × Int32 × Int32 × Int32 × Int32 × Int32 × (Nat → Int32) × (Nat → Int32) × (Nat → Int32) × (Nat → Int32))) (co_base : Nat → Int32) (co_dyke : Nat → Int32) (co_now : Nat → Int32) (x3 : Int32) : Option (Int32 × Int32 × Int32 × Int32 × Int32 × Int32 × Int32 × Int32 × Int32 × Int32 × (Nat → Int32) × (Nat → Int32) × (Nat → Int32) × (Nat → Int32)) :=
  if (12 : Int32) ≤ x3 then (fX12_shore_b259 io_thrown io_cells io_children io_changes io_taped io_at io_to io_nest io_undos io_sights co_base co_dyke co_now co_tape co_read) else (if x1 ≤ x3 then (fX12_shore_b208 io_thrown io_cells io_children io_changes io_taped io_at io_to io_nest io_undos io_sights co_base co_dyke co_now co_tape co_read x1 x3 x3 (0 : Int32) k180) else (if inb ((2 : Int32) * x3) 36 then fX12_shore_b208 io_thrown io_cells io_children io_changes io_taped io_at io_to io_nest io_undos io_sights co_base co_dyke co_now co_tape co_read x1 x3 x3 (co_read (Int32.toNatClampNeg ((2 : Int32) * x3))) k180 else none))
def fX12_shore_b180 (io_thrown : Int32) (io_cells : Int32) (io_children : Int32) (io_changes : Int32) (io_taped : Int32) (io_at : Int32) (io_to : Int32) (io_nest : Int32) (io_undos : Int32) (io_sights : Int32) (co_base : Nat → Int32) (co_dyke : Nat → Int32) (co_now : Nat → Int32) (co_tape : Nat → Int32) (co_read : Nat → Int32) (x1 : Int32) (x3 : Int32) : Option (Int32 × Int32 × Int32 × Int32 × Int32 × Int32 × Int32 × Int32 × Int32 × Int32 × (Nat → Int32) × (Nat → Int32) × (Nat → Int32) × (Nat → Int32)) :=
  loopN (fun (s : (Nat → Int32) × (Nat → Int32) × (Nat → Int32) × Int32) k180 => fX12_shore_l180 io_thrown io_cells io_children io_changes io_taped io_at io_to io_nest io_undos io_sights co_tape co_read x1 k180 s.1 s.2.1 s.2.2.1 s.2.2.2) FUEL (co_base, co_dyke, co_now, x3)
set_option maxHeartbeats 400000 in
set_option maxRecDepth 100000 in
theorem kX12_shore_l180 {X : cxT} {l : Launch} {D : va_G} {Y : Nat → ClassId} {ao : Nat → Nat} {io_thrown : Int32} {io_rows : Int32} {io_cells : Int32} {io_children : Int32} {io_changes : Int32} {io_taped : Int32} {io_at : Int32} {io_to : Int32} {io_nest : Int32} {io_readMany : Int32} {io_codeLong : Int32} {io_readLong : Int32} {io_undos : Int32} {io_wentHome : Int32} {io_tideLevel : Int32} {io_acts : Int32} {io_firstBreaks : Int32} {io_bestCrew : Int32} {io_sights : Int32} {io_wayMany : Int32} {io_random : Int32} {co_base : Nat → Int32} {co_dyke : Nat → Int32} {co_now : Nat → Int32} {co_tape : Nat → Int32} {co_read : Nat → Int32} {x1 : Int32} {x3 : Int32} {res : Int32 × Int32 × Int32 × Int32 × Int32 × Int32 × Int32 × Int32 × Int32 × Int32 × (Nat → Int32) × (Nat → Int32) × (Nat → Int32) × (Nat → Int32)} (C : axC X l D Y cX12_shore 4 RX12 wsX12_shore rmX12_shore (some .int)) (hQ : axQ X 0 0 (fun r9 w9 => r9 = (some (.int res.1)) ∧ w9 = [oX12 ao res.2.1 io_rows res.2.2.1 io_children res.2.2.2.1 res.2.2.2.2.1 res.2.2.2.2.2.1 res.2.2.2.2.2.2.1 res.2.2.2.2.2.2.2.1 io_readMany io_codeLong io_readLong res.2.2.2.2.2.2.2.2.1 io_wentHome io_tideLevel io_acts io_firstBreaks io_bestCrew res.2.2.2.2.2.2.2.2.2.1 io_wayMany io_random, rI Y (ao 2) 12 res.2.2.2.2.2.2.2.2.2.2.1, rI Y (ao 3) 12 res.2.2.2.2.2.2.2.2.2.2.2.1, rI Y (ao 8) 43 res.2.2.2.2.2.2.2.2.2.2.2.2.1, rI Y (ao 10) 80 co_tape, rI Y (ao 11) 36 res.2.2.2.2.2.2.2.2.2.2.2.2.2])) {k180 : (Nat → Int32) × (Nat → Int32) × (Nat → Int32) × Int32 → Option (Int32 × Int32 × Int32 × Int32 × Int32 × Int32 × Int32 × Int32 × Int32 × Int32 × (Nat → Int32) × (Nat → Int32) × (Nat → Int32) × (Nat → Int32))} (hk180 : ∀ s : (Nat → Int32) × (Nat → Int32) × (Nat → Int32) × Int32, k180 s = some res → ax X 0 0 180 [some (.ref (ao 0)), some (.int x1), none, some (.int s.2.2.2)] [oX12 ao io_thrown io_rows io_cells io_children io_changes io_taped io_at io_to io_nest io_readMany io_codeLong io_readLong io_undos io_wentHome io_tideLevel io_acts io_firstBreaks io_bestCrew io_sights io_wayMany io_random, rI Y (ao 2) 12 s.1, rI Y (ao 3) 12 s.2.1, rI Y (ao 8) 43 s.2.2.1, rI Y (ao 10) 80 co_tape, rI Y (ao 11) 36 co_read] []) (hf : fX12_shore_l180 io_thrown io_cells io_children io_changes io_taped io_at io_to io_nest io_undos io_sights co_tape co_read x1 k180 co_base co_dyke co_now x3 = some res) : ax X 0 0 180 [some (.ref (ao 0)), some (.int x1), none, some (.int x3)] [oX12 ao io_thrown io_rows io_cells io_children io_changes io_taped io_at io_to io_nest io_readMany io_codeLong io_readLong io_undos io_wentHome io_tideLevel io_acts io_firstBreaks io_bestCrew io_sights io_wayMany io_random, rI Y (ao 2) 12 co_base, rI Y (ao 3) 12 co_dyke, rI Y (ao 8) 43 co_now, rI Y (ao 10) 80 co_tape, rI Y (ao 11) 36 co_read] [] := by
  unfold fX12_shore_l180 at hf
  refine a_iload_n C dX12_shore_180 rfl ?_
  refine a_bipush C (12 : Int32) dX12_shore_181 (by decide) ?_
  refine a_icmp_ge C 259 dX12_shore_183 (by decide) (fun h11 => ?_) (fun h11 => ?_)
  · have hf := fx_t h11 hf
    refine a_kill [1, 3] ?_
    exact kX12_shore_b259 C hQ hf
  · have hf := fx_f h11 hf
    refine a_aload_n C dX12_shore_186 rfl ?_
    refine a_get C (eB_X12_17 _) dX12_shore_187 0 rfl rfl ?_
    refine a_iload_n C dX12_shore_190 rfl ?_
    refine a_iload_n C dX12_shore_191 rfl ?_
    refine a_iload_n C dX12_shore_192 rfl ?_
    refine a_icmp_ge C 207 dX12_shore_193 (by decide) (fun h12 => ?_) (fun h12 => ?_)
    · have hf := fx_t h12 hf
      refine a_iconst C (0 : Int32) dX12_shore_207 (by decide) ?_
      exact kX12_shore_b208 C hQ hk180 hf
    · have hf := fx_f h12 hf
      refine a_aload_n C dX12_shore_196 rfl ?_
      refine a_get C (eB_X12_45 _) dX12_shore_197 0 rfl rfl ?_
      refine a_iconst C (2 : Int32) dX12_shore_200 (by decide) ?_
      refine a_iload_n C dX12_shore_201 rfl ?_
      refine a_imul C dX12_shore_202 ?_
      obtain ⟨h13, hf⟩ := fx_ite hf
      refine a_iald C dX12_shore_203 5 rfl h13 ?_
      refine a_goto C 208 dX12_shore_204 (by decide) ?_
      exact kX12_shore_b208 C hQ hk180 hf
set_option maxHeartbeats 400000 in
set_option maxRecDepth 100000 in
theorem kX12_shore_b180 {X : cxT} {l : Launch} {D : va_G} {Y : Nat → ClassId} {ao : Nat → Nat} {io_thrown : Int32} {io_rows : Int32} {io_cells : Int32} {io_children : Int32} {io_changes : Int32} {io_taped : Int32} {io_at : Int32} {io_to : Int32} {io_nest : Int32} {io_readMany : Int32} {io_codeLong : Int32} {io_readLong : Int32} {io_undos : Int32} {io_wentHome : Int32} {io_tideLevel : Int32} {io_acts : Int32} {io_firstBreaks : Int32} {io_bestCrew : Int32} {io_sights : Int32} {io_wayMany : Int32} {io_random : Int32} {co_base : Nat → Int32} {co_dyke : Nat → Int32} {co_now : Nat → Int32} {co_tape : Nat → Int32} {co_read : Nat → Int32} {x1 : Int32} {x3 : Int32} {res : Int32 × Int32 × Int32 × Int32 × Int32 × Int32 × Int32 × Int32 × Int32 × Int32 × (Nat → Int32) × (Nat → Int32) × (Nat → Int32) × (Nat → Int32)} (C : axC X l D Y cX12_shore 4 RX12 wsX12_shore rmX12_shore (some .int)) (hQ : axQ X 0 0 (fun r9 w9 => r9 = (some (.int res.1)) ∧ w9 = [oX12 ao res.2.1 io_rows res.2.2.1 io_children res.2.2.2.1 res.2.2.2.2.1 res.2.2.2.2.2.1 res.2.2.2.2.2.2.1 res.2.2.2.2.2.2.2.1 io_readMany io_codeLong io_readLong res.2.2.2.2.2.2.2.2.1 io_wentHome io_tideLevel io_acts io_firstBreaks io_bestCrew res.2.2.2.2.2.2.2.2.2.1 io_wayMany io_random, rI Y (ao 2) 12 res.2.2.2.2.2.2.2.2.2.2.1, rI Y (ao 3) 12 res.2.2.2.2.2.2.2.2.2.2.2.1, rI Y (ao 8) 43 res.2.2.2.2.2.2.2.2.2.2.2.2.1, rI Y (ao 10) 80 co_tape, rI Y (ao 11) 36 res.2.2.2.2.2.2.2.2.2.2.2.2.2])) (hf : fX12_shore_b180 io_thrown io_cells io_children io_changes io_taped io_at io_to io_nest io_undos io_sights co_base co_dyke co_now co_tape co_read x1 x3 = some res) : ax X 0 0 180 [some (.ref (ao 0)), some (.int x1), none, some (.int x3)] [oX12 ao io_thrown io_rows io_cells io_children io_changes io_taped io_at io_to io_nest io_readMany io_codeLong io_readLong io_undos io_wentHome io_tideLevel io_acts io_firstBreaks io_bestCrew io_sights io_wayMany io_random, rI Y (ao 2) 12 co_base, rI Y (ao 3) 12 co_dyke, rI Y (ao 8) 43 co_now, rI Y (ao 10) 80 co_tape, rI Y (ao 11) 36 co_read] [] := by
  unfold fX12_shore_b180 at hf
  exact fx_loop (P := fun s : (Nat → Int32) × (Nat → Int32) × (Nat → Int32) × Int32 => ax X 0 0 180 [some (.ref (ao 0)), some (.int x1), none, some (.int s.2.2.2)] [oX12 ao io_thrown io_rows io_cells io_children io_changes io_taped io_at io_to io_nest io_readMany io_codeLong io_readLong io_undos io_wentHome io_tideLevel io_acts io_firstBreaks io_bestCrew io_sights io_wayMany io_random, rI Y (ao 2) 12 s.1, rI Y (ao 3) 12 s.2.1, rI Y (ao 8) 43 s.2.2.1, rI Y (ao 10) 80 co_tape, rI Y (ao 11) 36 co_read] []) (fun s k180 hk180 h => kX12_shore_l180 C hQ hk180 h) FUEL (co_base, co_dyke, co_now, x3) hf
def fX12_shore_b162 (io_thrown : Int32) (io_cells : Int32) (io_children : Int32) (io_changes : Int32) (io_taped : Int32) (io_at : Int32) (io_to : Int32) (io_nest : Int32) (io_undos : Int32) (io_sights : Int32) (co_base : Nat → Int32) (co_dyke : Nat → Int32) (co_now : Nat → Int32) (co_tape : Nat → Int32) (co_read : Nat → Int32) (x1 : Int32) (x2 : Int32) : Option (Int32 × Int32 × Int32 × Int32 × Int32 × Int32 × Int32 × Int32 × Int32 × Int32 × (Nat → Int32) × (Nat → Int32) × (Nat → Int32) × (Nat → Int32)) :=
  if x2 = (0 : Int32) then (some (((-1 : Int32) - io_at), io_thrown, io_cells, io_changes, io_taped, io_at, io_to, io_nest, io_undos, io_sights, co_base, co_dyke, co_now, co_read)) else (fX12_shore_b180 io_thrown x1 io_children io_changes io_taped io_at io_to io_nest io_undos io_sights co_base co_dyke co_now co_tape co_read x1 (0 : Int32))
set_option maxHeartbeats 400000 in
set_option maxRecDepth 100000 in
theorem kX12_shore_b162 {X : cxT} {l : Launch} {D : va_G} {Y : Nat → ClassId} {ao : Nat → Nat} {io_thrown : Int32} {io_rows : Int32} {io_cells : Int32} {io_children : Int32} {io_changes : Int32} {io_taped : Int32} {io_at : Int32} {io_to : Int32} {io_nest : Int32} {io_readMany : Int32} {io_codeLong : Int32} {io_readLong : Int32} {io_undos : Int32} {io_wentHome : Int32} {io_tideLevel : Int32} {io_acts : Int32} {io_firstBreaks : Int32} {io_bestCrew : Int32} {io_sights : Int32} {io_wayMany : Int32} {io_random : Int32} {co_base : Nat → Int32} {co_dyke : Nat → Int32} {co_now : Nat → Int32} {co_tape : Nat → Int32} {co_read : Nat → Int32} {x1 : Int32} {x2 : Int32} {res : Int32 × Int32 × Int32 × Int32 × Int32 × Int32 × Int32 × Int32 × Int32 × Int32 × (Nat → Int32) × (Nat → Int32) × (Nat → Int32) × (Nat → Int32)} (C : axC X l D Y cX12_shore 4 RX12 wsX12_shore rmX12_shore (some .int)) (hQ : axQ X 0 0 (fun r9 w9 => r9 = (some (.int res.1)) ∧ w9 = [oX12 ao res.2.1 io_rows res.2.2.1 io_children res.2.2.2.1 res.2.2.2.2.1 res.2.2.2.2.2.1 res.2.2.2.2.2.2.1 res.2.2.2.2.2.2.2.1 io_readMany io_codeLong io_readLong res.2.2.2.2.2.2.2.2.1 io_wentHome io_tideLevel io_acts io_firstBreaks io_bestCrew res.2.2.2.2.2.2.2.2.2.1 io_wayMany io_random, rI Y (ao 2) 12 res.2.2.2.2.2.2.2.2.2.2.1, rI Y (ao 3) 12 res.2.2.2.2.2.2.2.2.2.2.2.1, rI Y (ao 8) 43 res.2.2.2.2.2.2.2.2.2.2.2.2.1, rI Y (ao 10) 80 co_tape, rI Y (ao 11) 36 res.2.2.2.2.2.2.2.2.2.2.2.2.2])) (hf : fX12_shore_b162 io_thrown io_cells io_children io_changes io_taped io_at io_to io_nest io_undos io_sights co_base co_dyke co_now co_tape co_read x1 x2 = some res) : ax X 0 0 162 [some (.ref (ao 0)), some (.int x1), some (.int x2), none] [oX12 ao io_thrown io_rows io_cells io_children io_changes io_taped io_at io_to io_nest io_readMany io_codeLong io_readLong io_undos io_wentHome io_tideLevel io_acts io_firstBreaks io_bestCrew io_sights io_wayMany io_random, rI Y (ao 2) 12 co_base, rI Y (ao 3) 12 co_dyke, rI Y (ao 8) 43 co_now, rI Y (ao 10) 80 co_tape, rI Y (ao 11) 36 co_read] [] := by
  unfold fX12_shore_b162 at hf
  refine a_iload_n C dX12_shore_162 rfl ?_
  refine a_if_ne C 173 dX12_shore_163 (by decide) (fun h14 => ?_) (fun h14 => ?_)
  · have hf := fx_f h14 hf
    refine a_aload_n C dX12_shore_173 rfl ?_
    refine a_iload_n C dX12_shore_174 rfl ?_
    refine a_put C (eB_X12_13 _) tfX12_3 dX12_shore_175 0 rfl rfl rfl (Nat.le_of_ble_eq_true rfl) ?_
    refine a_iconst C (0 : Int32) dX12_shore_178 (by decide) ?_
    refine a_istore_n C dX12_shore_179 (by decide) rfl ?_
    refine a_kill [2] ?_
    exact kX12_shore_b180 C hQ hf
  · have hf := fx_t h14 hf
    refine a_iconst C (-1 : Int32) dX12_shore_166 (by decide) ?_
    refine a_aload_n C dX12_shore_167 rfl ?_
    refine a_get C (eB_X12_136 _) dX12_shore_168 0 rfl rfl ?_
    refine a_isub C dX12_shore_171 ?_
    obtain rfl := fx_some hf
    exact a_iret C hQ dX12_shore_172 ⟨rfl, rfl⟩
def fX12_shore_b151 (io_thrown : Int32) (io_cells : Int32) (io_children : Int32) (io_changes : Int32) (io_taped : Int32) (io_at : Int32) (io_to : Int32) (io_nest : Int32) (io_undos : Int32) (io_sights : Int32) (co_base : Nat → Int32) (co_dyke : Nat → Int32) (co_now : Nat → Int32) (co_tape : Nat → Int32) (co_read : Nat → Int32) (x1 : Int32) (s0 : Int32) (k16 : Int32 × (Nat → Int32) × Int32 × Int32 → Option (Int32 × Int32 × Int32 × Int32 × Int32 × Int32 × Int32 × Int32 × Int32 × Int32 × (Nat → Int32) × (Nat → Int32) × (Nat → Int32) × (Nat → Int32))) : Option (Int32 × Int32 × Int32 × Int32 × Int32 × Int32 × Int32 × Int32 × Int32 × Int32 × (Nat → Int32) × (Nat → Int32) × (Nat → Int32) × (Nat → Int32)) :=
  (fX12_flag s0).bind (fun r15 => k16 (io_at, co_read, (x1 + r15), s0))
set_option maxHeartbeats 400000 in
set_option maxRecDepth 100000 in
theorem kX12_shore_b151 {X : cxT} {l : Launch} {D : va_G} {Y : Nat → ClassId} {ao : Nat → Nat} {io_thrown : Int32} {io_rows : Int32} {io_cells : Int32} {io_children : Int32} {io_changes : Int32} {io_taped : Int32} {io_at : Int32} {io_to : Int32} {io_nest : Int32} {io_readMany : Int32} {io_codeLong : Int32} {io_readLong : Int32} {io_undos : Int32} {io_wentHome : Int32} {io_tideLevel : Int32} {io_acts : Int32} {io_firstBreaks : Int32} {io_bestCrew : Int32} {io_sights : Int32} {io_wayMany : Int32} {io_random : Int32} {co_base : Nat → Int32} {co_dyke : Nat → Int32} {co_now : Nat → Int32} {co_tape : Nat → Int32} {co_read : Nat → Int32} {x1 : Int32} {s0 : Int32} {res : Int32 × Int32 × Int32 × Int32 × Int32 × Int32 × Int32 × Int32 × Int32 × Int32 × (Nat → Int32) × (Nat → Int32) × (Nat → Int32) × (Nat → Int32)} (C : axC X l D Y cX12_shore 4 RX12 wsX12_shore rmX12_shore (some .int)) (hQ : axQ X 0 0 (fun r9 w9 => r9 = (some (.int res.1)) ∧ w9 = [oX12 ao res.2.1 io_rows res.2.2.1 io_children res.2.2.2.1 res.2.2.2.2.1 res.2.2.2.2.2.1 res.2.2.2.2.2.2.1 res.2.2.2.2.2.2.2.1 io_readMany io_codeLong io_readLong res.2.2.2.2.2.2.2.2.1 io_wentHome io_tideLevel io_acts io_firstBreaks io_bestCrew res.2.2.2.2.2.2.2.2.2.1 io_wayMany io_random, rI Y (ao 2) 12 res.2.2.2.2.2.2.2.2.2.2.1, rI Y (ao 3) 12 res.2.2.2.2.2.2.2.2.2.2.2.1, rI Y (ao 8) 43 res.2.2.2.2.2.2.2.2.2.2.2.2.1, rI Y (ao 10) 80 co_tape, rI Y (ao 11) 36 res.2.2.2.2.2.2.2.2.2.2.2.2.2])) {k16 : Int32 × (Nat → Int32) × Int32 × Int32 → Option (Int32 × Int32 × Int32 × Int32 × Int32 × Int32 × Int32 × Int32 × Int32 × Int32 × (Nat → Int32) × (Nat → Int32) × (Nat → Int32) × (Nat → Int32))} (hk16 : ∀ s : Int32 × (Nat → Int32) × Int32 × Int32, k16 s = some res → ax X 0 0 16 [some (.ref (ao 0)), some (.int s.2.2.1), some (.int s.2.2.2), none] [oX12 ao io_thrown io_rows io_cells io_children io_changes io_taped s.1 io_to io_nest io_readMany io_codeLong io_readLong io_undos io_wentHome io_tideLevel io_acts io_firstBreaks io_bestCrew io_sights io_wayMany io_random, rI Y (ao 2) 12 co_base, rI Y (ao 3) 12 co_dyke, rI Y (ao 8) 43 co_now, rI Y (ao 10) 80 co_tape, rI Y (ao 11) 36 s.2.1] []) (hf : fX12_shore_b151 io_thrown io_cells io_children io_changes io_taped io_at io_to io_nest io_undos io_sights co_base co_dyke co_now co_tape co_read x1 s0 k16 = some res) : ax X 0 0 151 [some (.ref (ao 0)), some (.int x1), none, none] [oX12 ao io_thrown io_rows io_cells io_children io_changes io_taped io_at io_to io_nest io_readMany io_codeLong io_readLong io_undos io_wentHome io_tideLevel io_acts io_firstBreaks io_bestCrew io_sights io_wayMany io_random, rI Y (ao 2) 12 co_base, rI Y (ao 3) 12 co_dyke, rI Y (ao 8) 43 co_now, rI Y (ao 10) 80 co_tape, rI Y (ao 11) 36 co_read] [.int s0] := by
  unfold fX12_shore_b151 at hf
  refine a_istore_n C dX12_shore_151 (by decide) rfl ?_
  refine a_iload_n C dX12_shore_152 rfl ?_
  refine a_iload_n C dX12_shore_153 rfl ?_
  obtain ⟨r15, h15, hf⟩ := fx_bind hf
  refine a_fS C (kX12_flag l D Y s0 r15 h15) (gB_X12_151 _) rfl dvX12_flag ⟨⟨rfl, rfl⟩, ⟨Nat.le_of_ble_eq_true rfl, Nat.le_of_ble_eq_true rfl⟩, ⟨Nat.le_of_ble_eq_true rfl, Nat.le_of_ble_eq_true rfl⟩⟩ rfl (Nat.le_of_ble_eq_true rfl) dX12_shore_154 [] [0, 1, 2, 3, 4, 5] trivial (by decide +kernel) rfl [oX12 ao io_thrown io_rows io_cells io_children io_changes io_taped io_at io_to io_nest io_readMany io_codeLong io_readLong io_undos io_wentHome io_tideLevel io_acts io_firstBreaks io_bestCrew io_sights io_wayMany io_random, rI Y (ao 2) 12 co_base, rI Y (ao 3) 12 co_dyke, rI Y (ao 8) 43 co_now, rI Y (ao 10) 80 co_tape, rI Y (ao 11) 36 co_read] trivial ⟨rfl, rfl, rfl, rfl, rfl, rfl, trivial⟩ 6 rfl (by decide +kernel) ?_
  refine a_iadd C dX12_shore_157 ?_
  refine a_istore_n C dX12_shore_158 (by decide) rfl ?_
  refine a_goto C 16 dX12_shore_159 (by decide) ?_
  exact hk16 (io_at, co_read, (x1 + r15), s0) hf
def fX12_shore_b118 (io_thrown : Int32) (io_cells : Int32) (io_children : Int32) (io_changes : Int32) (io_taped : Int32) (io_at : Int32) (io_to : Int32) (io_nest : Int32) (io_undos : Int32) (io_sights : Int32) (co_base : Nat → Int32) (co_dyke : Nat → Int32) (co_now : Nat → Int32) (co_tape : Nat → Int32) (co_read : Nat → Int32) (x1 : Int32) (x2 : Int32) (k16 : Int32 × (Nat → Int32) × Int32 × Int32 → Option (Int32 × Int32 × Int32 × Int32 × Int32 × Int32 × Int32 × Int32 × Int32 × Int32 × (Nat → Int32) × (Nat → Int32) × (Nat → Int32) × (Nat → Int32))) : Option (Int32 × Int32 × Int32 × Int32 × Int32 × Int32 × Int32 × Int32 × Int32 × Int32 × (Nat → Int32) × (Nat → Int32) × (Nat → Int32) × (Nat → Int32)) :=
  if x2 = (0 : Int32) then (k16 (io_at, co_read, x1, x2)) else ((fX12_number io_at io_to co_tape (1 : Int32)).bind (fun r17 => if inb ((2 : Int32) * x1) 36 then if ((upd co_read (Int32.toNatClampNeg ((2 : Int32) * x1)) r17.1) (Int32.toNatClampNeg ((2 : Int32) * x1))) < (0 : Int32) then (fX12_shore_b151 io_thrown io_cells io_children io_changes io_taped r17.2 io_to io_nest io_undos io_sights co_base co_dyke co_now co_tape (upd co_read (Int32.toNatClampNeg ((2 : Int32) * x1)) r17.1) x1 (0 : Int32) k16) else (fX12_shore_b151 io_thrown io_cells io_children io_changes io_taped r17.2 io_to io_nest io_undos io_sights co_base co_dyke co_now co_tape (upd co_read (Int32.toNatClampNeg ((2 : Int32) * x1)) r17.1) x1 (1 : Int32) k16) else none))
set_option maxHeartbeats 400000 in
set_option maxRecDepth 100000 in
theorem kX12_shore_b118 {X : cxT} {l : Launch} {D : va_G} {Y : Nat → ClassId} {ao : Nat → Nat} {io_thrown : Int32} {io_rows : Int32} {io_cells : Int32} {io_children : Int32} {io_changes : Int32} {io_taped : Int32} {io_at : Int32} {io_to : Int32} {io_nest : Int32} {io_readMany : Int32} {io_codeLong : Int32} {io_readLong : Int32} {io_undos : Int32} {io_wentHome : Int32} {io_tideLevel : Int32} {io_acts : Int32} {io_firstBreaks : Int32} {io_bestCrew : Int32} {io_sights : Int32} {io_wayMany : Int32} {io_random : Int32} {co_base : Nat → Int32} {co_dyke : Nat → Int32} {co_now : Nat → Int32} {co_tape : Nat → Int32} {co_read : Nat → Int32} {x1 : Int32} {x2 : Int32} {res : Int32 × Int32 × Int32 × Int32 × Int32 × Int32 × Int32 × Int32 × Int32 × Int32 × (Nat → Int32) × (Nat → Int32) × (Nat → Int32) × (Nat → Int32)} (C : axC X l D Y cX12_shore 4 RX12 wsX12_shore rmX12_shore (some .int)) (hQ : axQ X 0 0 (fun r9 w9 => r9 = (some (.int res.1)) ∧ w9 = [oX12 ao res.2.1 io_rows res.2.2.1 io_children res.2.2.2.1 res.2.2.2.2.1 res.2.2.2.2.2.1 res.2.2.2.2.2.2.1 res.2.2.2.2.2.2.2.1 io_readMany io_codeLong io_readLong res.2.2.2.2.2.2.2.2.1 io_wentHome io_tideLevel io_acts io_firstBreaks io_bestCrew res.2.2.2.2.2.2.2.2.2.1 io_wayMany io_random, rI Y (ao 2) 12 res.2.2.2.2.2.2.2.2.2.2.1, rI Y (ao 3) 12 res.2.2.2.2.2.2.2.2.2.2.2.1, rI Y (ao 8) 43 res.2.2.2.2.2.2.2.2.2.2.2.2.1, rI Y (ao 10) 80 co_tape, rI Y (ao 11) 36 res.2.2.2.2.2.2.2.2.2.2.2.2.2])) {k16 : Int32 × (Nat → Int32) × Int32 × Int32 → Option (Int32 × Int32 × Int32 × Int32 × Int32 × Int32 × Int32 × Int32 × Int32 × Int32 × (Nat → Int32) × (Nat → Int32) × (Nat → Int32) × (Nat → Int32))} (hk16 : ∀ s : Int32 × (Nat → Int32) × Int32 × Int32, k16 s = some res → ax X 0 0 16 [some (.ref (ao 0)), some (.int s.2.2.1), some (.int s.2.2.2), none] [oX12 ao io_thrown io_rows io_cells io_children io_changes io_taped s.1 io_to io_nest io_readMany io_codeLong io_readLong io_undos io_wentHome io_tideLevel io_acts io_firstBreaks io_bestCrew io_sights io_wayMany io_random, rI Y (ao 2) 12 co_base, rI Y (ao 3) 12 co_dyke, rI Y (ao 8) 43 co_now, rI Y (ao 10) 80 co_tape, rI Y (ao 11) 36 s.2.1] []) (hf : fX12_shore_b118 io_thrown io_cells io_children io_changes io_taped io_at io_to io_nest io_undos io_sights co_base co_dyke co_now co_tape co_read x1 x2 k16 = some res) : ax X 0 0 118 [some (.ref (ao 0)), some (.int x1), some (.int x2), none] [oX12 ao io_thrown io_rows io_cells io_children io_changes io_taped io_at io_to io_nest io_readMany io_codeLong io_readLong io_undos io_wentHome io_tideLevel io_acts io_firstBreaks io_bestCrew io_sights io_wayMany io_random, rI Y (ao 2) 12 co_base, rI Y (ao 3) 12 co_dyke, rI Y (ao 8) 43 co_now, rI Y (ao 10) 80 co_tape, rI Y (ao 11) 36 co_read] [] := by
  unfold fX12_shore_b118 at hf
  refine a_iload_n C dX12_shore_118 rfl ?_
  refine a_if_eq C 16 dX12_shore_119 (by decide) (fun h16 => ?_) (fun h16 => ?_)
  · have hf := fx_t h16 hf
    exact hk16 (io_at, co_read, x1, x2) hf
  · have hf := fx_f h16 hf
    refine a_aload_n C dX12_shore_122 rfl ?_
    refine a_get C (eB_X12_45 _) dX12_shore_123 0 rfl rfl ?_
    refine a_iconst C (2 : Int32) dX12_shore_126 (by decide) ?_
    refine a_iload_n C dX12_shore_127 rfl ?_
    refine a_imul C dX12_shore_128 ?_
    refine a_aload_n C dX12_shore_129 rfl ?_
    refine a_iconst C (1 : Int32) dX12_shore_130 (by decide) ?_
    obtain ⟨r17, h17, hf⟩ := fx_bind hf
    refine a_fV C (kX12_number l D Y ao io_thrown io_rows io_cells io_children io_changes io_taped io_at io_to io_nest io_readMany io_codeLong io_readLong io_undos io_wentHome io_tideLevel io_acts io_firstBreaks io_bestCrew io_sights io_wayMany io_random co_tape (1 : Int32) r17 h17) (gB_X12_177 _) rfl dvX12_number ⟨⟨rfl, rfl⟩, ⟨Nat.le_of_ble_eq_true rfl, Nat.le_of_ble_eq_true rfl⟩, ⟨Nat.le_of_ble_eq_true rfl, Nat.le_of_ble_eq_true rfl⟩⟩ rfl (Nat.le_of_ble_eq_true rfl) dX12_shore_131 rfl rfl [0, 4] [1, 2, 3, 5] ⟨rfl, rfl, trivial⟩ (by decide +kernel) rfl [oX12 ao io_thrown io_rows io_cells io_children io_changes io_taped r17.2 io_to io_nest io_readMany io_codeLong io_readLong io_undos io_wentHome io_tideLevel io_acts io_firstBreaks io_bestCrew io_sights io_wayMany io_random, rI Y (ao 2) 12 co_base, rI Y (ao 3) 12 co_dyke, rI Y (ao 8) 43 co_now, rI Y (ao 10) 80 co_tape, rI Y (ao 11) 36 co_read] ⟨rfl, rfl, trivial⟩ ⟨rfl, rfl, rfl, rfl, trivial⟩ 6 rfl (by decide +kernel) ?_
    obtain ⟨h18, hf⟩ := fx_ite hf
    refine a_iast C dX12_shore_134 5 rfl h18 ?_
    refine a_aload_n C dX12_shore_135 rfl ?_
    refine a_get C (eB_X12_45 _) dX12_shore_136 0 rfl rfl ?_
    refine a_iconst C (2 : Int32) dX12_shore_139 (by decide) ?_
    refine a_iload_n C dX12_shore_140 rfl ?_
    refine a_imul C dX12_shore_141 ?_
    refine a_iald C dX12_shore_142 5 rfl h18 ?_
    refine a_if_lt C 150 dX12_shore_143 (by decide) (fun h19 => ?_) (fun h19 => ?_)
    · have hf := fx_t h19 hf
      refine a_iconst C (0 : Int32) dX12_shore_150 (by decide) ?_
      refine a_kill [2] ?_
      exact kX12_shore_b151 C hQ hk16 hf
    · have hf := fx_f h19 hf
      refine a_iconst C (1 : Int32) dX12_shore_146 (by decide) ?_
      refine a_goto C 151 dX12_shore_147 (by decide) ?_
      refine a_kill [2] ?_
      exact kX12_shore_b151 C hQ hk16 hf
def fX12_shore_b117 (io_thrown : Int32) (io_cells : Int32) (io_children : Int32) (io_changes : Int32) (io_taped : Int32) (io_at : Int32) (io_to : Int32) (io_nest : Int32) (io_undos : Int32) (io_sights : Int32) (co_base : Nat → Int32) (co_dyke : Nat → Int32) (co_now : Nat → Int32) (co_tape : Nat → Int32) (co_read : Nat → Int32) (x1 : Int32) (s0 : Int32) (k16 : Int32 × (Nat → Int32) × Int32 × Int32 → Option (Int32 × Int32 × Int32 × Int32 × Int32 × Int32 × Int32 × Int32 × Int32 × Int32 × (Nat → Int32) × (Nat → Int32) × (Nat → Int32) × (Nat → Int32))) : Option (Int32 × Int32 × Int32 × Int32 × Int32 × Int32 × Int32 × Int32 × Int32 × Int32 × (Nat → Int32) × (Nat → Int32) × (Nat → Int32) × (Nat → Int32)) :=
  fX12_shore_b118 io_thrown io_cells io_children io_changes io_taped io_at io_to io_nest io_undos io_sights co_base co_dyke co_now co_tape co_read x1 s0 k16
set_option maxHeartbeats 400000 in
set_option maxRecDepth 100000 in
theorem kX12_shore_b117 {X : cxT} {l : Launch} {D : va_G} {Y : Nat → ClassId} {ao : Nat → Nat} {io_thrown : Int32} {io_rows : Int32} {io_cells : Int32} {io_children : Int32} {io_changes : Int32} {io_taped : Int32} {io_at : Int32} {io_to : Int32} {io_nest : Int32} {io_readMany : Int32} {io_codeLong : Int32} {io_readLong : Int32} {io_undos : Int32} {io_wentHome : Int32} {io_tideLevel : Int32} {io_acts : Int32} {io_firstBreaks : Int32} {io_bestCrew : Int32} {io_sights : Int32} {io_wayMany : Int32} {io_random : Int32} {co_base : Nat → Int32} {co_dyke : Nat → Int32} {co_now : Nat → Int32} {co_tape : Nat → Int32} {co_read : Nat → Int32} {x1 : Int32} {s0 : Int32} {res : Int32 × Int32 × Int32 × Int32 × Int32 × Int32 × Int32 × Int32 × Int32 × Int32 × (Nat → Int32) × (Nat → Int32) × (Nat → Int32) × (Nat → Int32)} (C : axC X l D Y cX12_shore 4 RX12 wsX12_shore rmX12_shore (some .int)) (hQ : axQ X 0 0 (fun r9 w9 => r9 = (some (.int res.1)) ∧ w9 = [oX12 ao res.2.1 io_rows res.2.2.1 io_children res.2.2.2.1 res.2.2.2.2.1 res.2.2.2.2.2.1 res.2.2.2.2.2.2.1 res.2.2.2.2.2.2.2.1 io_readMany io_codeLong io_readLong res.2.2.2.2.2.2.2.2.1 io_wentHome io_tideLevel io_acts io_firstBreaks io_bestCrew res.2.2.2.2.2.2.2.2.2.1 io_wayMany io_random, rI Y (ao 2) 12 res.2.2.2.2.2.2.2.2.2.2.1, rI Y (ao 3) 12 res.2.2.2.2.2.2.2.2.2.2.2.1, rI Y (ao 8) 43 res.2.2.2.2.2.2.2.2.2.2.2.2.1, rI Y (ao 10) 80 co_tape, rI Y (ao 11) 36 res.2.2.2.2.2.2.2.2.2.2.2.2.2])) {k16 : Int32 × (Nat → Int32) × Int32 × Int32 → Option (Int32 × Int32 × Int32 × Int32 × Int32 × Int32 × Int32 × Int32 × Int32 × Int32 × (Nat → Int32) × (Nat → Int32) × (Nat → Int32) × (Nat → Int32))} (hk16 : ∀ s : Int32 × (Nat → Int32) × Int32 × Int32, k16 s = some res → ax X 0 0 16 [some (.ref (ao 0)), some (.int s.2.2.1), some (.int s.2.2.2), none] [oX12 ao io_thrown io_rows io_cells io_children io_changes io_taped s.1 io_to io_nest io_readMany io_codeLong io_readLong io_undos io_wentHome io_tideLevel io_acts io_firstBreaks io_bestCrew io_sights io_wayMany io_random, rI Y (ao 2) 12 co_base, rI Y (ao 3) 12 co_dyke, rI Y (ao 8) 43 co_now, rI Y (ao 10) 80 co_tape, rI Y (ao 11) 36 s.2.1] []) (hf : fX12_shore_b117 io_thrown io_cells io_children io_changes io_taped io_at io_to io_nest io_undos io_sights co_base co_dyke co_now co_tape co_read x1 s0 k16 = some res) : ax X 0 0 117 [some (.ref (ao 0)), some (.int x1), none, none] [oX12 ao io_thrown io_rows io_cells io_children io_changes io_taped io_at io_to io_nest io_readMany io_codeLong io_readLong io_undos io_wentHome io_tideLevel io_acts io_firstBreaks io_bestCrew io_sights io_wayMany io_random, rI Y (ao 2) 12 co_base, rI Y (ao 3) 12 co_dyke, rI Y (ao 8) 43 co_now, rI Y (ao 10) 80 co_tape, rI Y (ao 11) 36 co_read] [.int s0] := by
  unfold fX12_shore_b117 at hf
  refine a_istore_n C dX12_shore_117 (by decide) rfl ?_
  exact kX12_shore_b118 C hQ hk16 hf
def fX12_shore_b66 (io_thrown : Int32) (io_cells : Int32) (io_children : Int32) (io_changes : Int32) (io_taped : Int32) (io_at : Int32) (io_to : Int32) (io_nest : Int32) (io_undos : Int32) (io_sights : Int32) (co_base : Nat → Int32) (co_dyke : Nat → Int32) (co_now : Nat → Int32) (co_tape : Nat → Int32) (co_read : Nat → Int32) (x1 : Int32) (s0 : Int32) (k16 : Int32 × (Nat → Int32) × Int32 × Int32 → Option (Int32 × Int32 × Int32 × Int32 × Int32 × Int32 × Int32 × Int32 × Int32 × Int32 × (Nat → Int32) × (Nat → Int32) × (Nat → Int32) × (Nat → Int32))) : Option (Int32 × Int32 × Int32 × Int32 × Int32 × Int32 × Int32 × Int32 × Int32 × Int32 × (Nat → Int32) × (Nat → Int32) × (Nat → Int32) × (Nat → Int32)) :=
  if s0 = (0 : Int32) then (fX12_shore_b118 io_thrown io_cells io_children io_changes io_taped io_at io_to io_nest io_undos io_sights co_base co_dyke co_now co_tape co_read x1 s0 k16) else (if x1 ≤ (0 : Int32) then (fX12_shore_b118 io_thrown io_cells io_children io_changes io_taped io_at io_to io_nest io_undos io_sights co_base co_dyke co_now co_tape co_read x1 s0 k16) else ((fX12_takes io_at io_to co_tape (124 : Int32)).bind (fun r22 => if r22.1 = (0 : Int32) then (fX12_shore_b118 io_thrown io_cells io_children io_changes io_taped r22.2 io_to io_nest io_undos io_sights co_base co_dyke co_now co_tape co_read x1 s0 k16) else ((fX12_number r22.2 io_to co_tape (1 : Int32)).bind (fun r24 => if inb (((2 : Int32) * x1) - (1 : Int32)) 36 then if ((upd co_read (Int32.toNatClampNeg (((2 : Int32) * x1) - (1 : Int32))) r24.1) (Int32.toNatClampNeg (((2 : Int32) * x1) - (1 : Int32)))) < (0 : Int32) then (fX12_shore_b117 io_thrown io_cells io_children io_changes io_taped r24.2 io_to io_nest io_undos io_sights co_base co_dyke co_now co_tape (upd co_read (Int32.toNatClampNeg (((2 : Int32) * x1) - (1 : Int32))) r24.1) x1 (0 : Int32) k16) else (fX12_shore_b117 io_thrown io_cells io_children io_changes io_taped r24.2 io_to io_nest io_undos io_sights co_base co_dyke co_now co_tape (upd co_read (Int32.toNatClampNeg (((2 : Int32) * x1) - (1 : Int32))) r24.1) x1 (1 : Int32) k16) else none)))))
set_option maxHeartbeats 400000 in
set_option maxRecDepth 100000 in
theorem kX12_shore_b66 {X : cxT} {l : Launch} {D : va_G} {Y : Nat → ClassId} {ao : Nat → Nat} {io_thrown : Int32} {io_rows : Int32} {io_cells : Int32} {io_children : Int32} {io_changes : Int32} {io_taped : Int32} {io_at : Int32} {io_to : Int32} {io_nest : Int32} {io_readMany : Int32} {io_codeLong : Int32} {io_readLong : Int32} {io_undos : Int32} {io_wentHome : Int32} {io_tideLevel : Int32} {io_acts : Int32} {io_firstBreaks : Int32} {io_bestCrew : Int32} {io_sights : Int32} {io_wayMany : Int32} {io_random : Int32} {co_base : Nat → Int32} {co_dyke : Nat → Int32} {co_now : Nat → Int32} {co_tape : Nat → Int32} {co_read : Nat → Int32} {x1 : Int32} {s0 : Int32} {res : Int32 × Int32 × Int32 × Int32 × Int32 × Int32 × Int32 × Int32 × Int32 × Int32 × (Nat → Int32) × (Nat → Int32) × (Nat → Int32) × (Nat → Int32)} (C : axC X l D Y cX12_shore 4 RX12 wsX12_shore rmX12_shore (some .int)) (hQ : axQ X 0 0 (fun r9 w9 => r9 = (some (.int res.1)) ∧ w9 = [oX12 ao res.2.1 io_rows res.2.2.1 io_children res.2.2.2.1 res.2.2.2.2.1 res.2.2.2.2.2.1 res.2.2.2.2.2.2.1 res.2.2.2.2.2.2.2.1 io_readMany io_codeLong io_readLong res.2.2.2.2.2.2.2.2.1 io_wentHome io_tideLevel io_acts io_firstBreaks io_bestCrew res.2.2.2.2.2.2.2.2.2.1 io_wayMany io_random, rI Y (ao 2) 12 res.2.2.2.2.2.2.2.2.2.2.1, rI Y (ao 3) 12 res.2.2.2.2.2.2.2.2.2.2.2.1, rI Y (ao 8) 43 res.2.2.2.2.2.2.2.2.2.2.2.2.1, rI Y (ao 10) 80 co_tape, rI Y (ao 11) 36 res.2.2.2.2.2.2.2.2.2.2.2.2.2])) {k16 : Int32 × (Nat → Int32) × Int32 × Int32 → Option (Int32 × Int32 × Int32 × Int32 × Int32 × Int32 × Int32 × Int32 × Int32 × Int32 × (Nat → Int32) × (Nat → Int32) × (Nat → Int32) × (Nat → Int32))} (hk16 : ∀ s : Int32 × (Nat → Int32) × Int32 × Int32, k16 s = some res → ax X 0 0 16 [some (.ref (ao 0)), some (.int s.2.2.1), some (.int s.2.2.2), none] [oX12 ao io_thrown io_rows io_cells io_children io_changes io_taped s.1 io_to io_nest io_readMany io_codeLong io_readLong io_undos io_wentHome io_tideLevel io_acts io_firstBreaks io_bestCrew io_sights io_wayMany io_random, rI Y (ao 2) 12 co_base, rI Y (ao 3) 12 co_dyke, rI Y (ao 8) 43 co_now, rI Y (ao 10) 80 co_tape, rI Y (ao 11) 36 s.2.1] []) (hf : fX12_shore_b66 io_thrown io_cells io_children io_changes io_taped io_at io_to io_nest io_undos io_sights co_base co_dyke co_now co_tape co_read x1 s0 k16 = some res) : ax X 0 0 66 [some (.ref (ao 0)), some (.int x1), none, none] [oX12 ao io_thrown io_rows io_cells io_children io_changes io_taped io_at io_to io_nest io_readMany io_codeLong io_readLong io_undos io_wentHome io_tideLevel io_acts io_firstBreaks io_bestCrew io_sights io_wayMany io_random, rI Y (ao 2) 12 co_base, rI Y (ao 3) 12 co_dyke, rI Y (ao 8) 43 co_now, rI Y (ao 10) 80 co_tape, rI Y (ao 11) 36 co_read] [.int s0] := by
  unfold fX12_shore_b66 at hf
  refine a_istore_n C dX12_shore_66 (by decide) rfl ?_
  refine a_iload_n C dX12_shore_67 rfl ?_
  refine a_if_eq C 118 dX12_shore_68 (by decide) (fun h20 => ?_) (fun h20 => ?_)
  · have hf := fx_t h20 hf
    exact kX12_shore_b118 C hQ hk16 hf
  · have hf := fx_f h20 hf
    refine a_iload_n C dX12_shore_71 rfl ?_
    refine a_if_le C 118 dX12_shore_72 (by decide) (fun h21 => ?_) (fun h21 => ?_)
    · have hf := fx_t h21 hf
      exact kX12_shore_b118 C hQ hk16 hf
    · have hf := fx_f h21 hf
      refine a_aload_n C dX12_shore_75 rfl ?_
      refine a_bipush C (124 : Int32) dX12_shore_76 (by decide) ?_
      obtain ⟨r22, h22, hf⟩ := fx_bind hf
      refine a_fV C (kX12_takes l D Y ao io_thrown io_rows io_cells io_children io_changes io_taped io_at io_to io_nest io_readMany io_codeLong io_readLong io_undos io_wentHome io_tideLevel io_acts io_firstBreaks io_bestCrew io_sights io_wayMany io_random co_tape (124 : Int32) r22 h22) (gB_X12_184 _) rfl dvX12_takes ⟨⟨rfl, rfl⟩, ⟨Nat.le_of_ble_eq_true rfl, Nat.le_of_ble_eq_true rfl⟩, ⟨Nat.le_of_ble_eq_true rfl, Nat.le_of_ble_eq_true rfl⟩⟩ rfl (Nat.le_of_ble_eq_true rfl) dX12_shore_78 rfl rfl [0, 4] [1, 2, 3, 5] ⟨rfl, rfl, trivial⟩ (by decide +kernel) rfl [oX12 ao io_thrown io_rows io_cells io_children io_changes io_taped r22.2 io_to io_nest io_readMany io_codeLong io_readLong io_undos io_wentHome io_tideLevel io_acts io_firstBreaks io_bestCrew io_sights io_wayMany io_random, rI Y (ao 2) 12 co_base, rI Y (ao 3) 12 co_dyke, rI Y (ao 8) 43 co_now, rI Y (ao 10) 80 co_tape, rI Y (ao 11) 36 co_read] ⟨rfl, rfl, trivial⟩ ⟨rfl, rfl, rfl, rfl, trivial⟩ 6 rfl (by decide +kernel) ?_
      refine a_if_eq C 118 dX12_shore_81 (by decide) (fun h23 => ?_) (fun h23 => ?_)
      · have hf := fx_t h23 hf
        exact kX12_shore_b118 C hQ hk16 hf
      · have hf := fx_f h23 hf
        refine a_aload_n C dX12_shore_84 rfl ?_
        refine a_get C (eB_X12_45 _) dX12_shore_85 0 rfl rfl ?_
        refine a_iconst C (2 : Int32) dX12_shore_88 (by decide) ?_
        refine a_iload_n C dX12_shore_89 rfl ?_
        refine a_imul C dX12_shore_90 ?_
        refine a_iconst C (1 : Int32) dX12_shore_91 (by decide) ?_
        refine a_isub C dX12_shore_92 ?_
        refine a_aload_n C dX12_shore_93 rfl ?_
        refine a_iconst C (1 : Int32) dX12_shore_94 (by decide) ?_
        obtain ⟨r24, h24, hf⟩ := fx_bind hf
        refine a_fV C (kX12_number l D Y ao io_thrown io_rows io_cells io_children io_changes io_taped r22.2 io_to io_nest io_readMany io_codeLong io_readLong io_undos io_wentHome io_tideLevel io_acts io_firstBreaks io_bestCrew io_sights io_wayMany io_random co_tape (1 : Int32) r24 h24) (gB_X12_177 _) rfl dvX12_number ⟨⟨rfl, rfl⟩, ⟨Nat.le_of_ble_eq_true rfl, Nat.le_of_ble_eq_true rfl⟩, ⟨Nat.le_of_ble_eq_true rfl, Nat.le_of_ble_eq_true rfl⟩⟩ rfl (Nat.le_of_ble_eq_true rfl) dX12_shore_95 rfl rfl [0, 4] [1, 2, 3, 5] ⟨rfl, rfl, trivial⟩ (by decide +kernel) rfl [oX12 ao io_thrown io_rows io_cells io_children io_changes io_taped r24.2 io_to io_nest io_readMany io_codeLong io_readLong io_undos io_wentHome io_tideLevel io_acts io_firstBreaks io_bestCrew io_sights io_wayMany io_random, rI Y (ao 2) 12 co_base, rI Y (ao 3) 12 co_dyke, rI Y (ao 8) 43 co_now, rI Y (ao 10) 80 co_tape, rI Y (ao 11) 36 co_read] ⟨rfl, rfl, trivial⟩ ⟨rfl, rfl, rfl, rfl, trivial⟩ 6 rfl (by decide +kernel) ?_
        obtain ⟨h25, hf⟩ := fx_ite hf
        refine a_iast C dX12_shore_98 5 rfl h25 ?_
        refine a_aload_n C dX12_shore_99 rfl ?_
        refine a_get C (eB_X12_45 _) dX12_shore_100 0 rfl rfl ?_
        refine a_iconst C (2 : Int32) dX12_shore_103 (by decide) ?_
        refine a_iload_n C dX12_shore_104 rfl ?_
        refine a_imul C dX12_shore_105 ?_
        refine a_iconst C (1 : Int32) dX12_shore_106 (by decide) ?_
        refine a_isub C dX12_shore_107 ?_
        refine a_iald C dX12_shore_108 5 rfl h25 ?_
        refine a_if_lt C 116 dX12_shore_109 (by decide) (fun h26 => ?_) (fun h26 => ?_)
        · have hf := fx_t h26 hf
          refine a_iconst C (0 : Int32) dX12_shore_116 (by decide) ?_
          refine a_kill [2] ?_
          exact kX12_shore_b117 C hQ hk16 hf
        · have hf := fx_f h26 hf
          refine a_iconst C (1 : Int32) dX12_shore_112 (by decide) ?_
          refine a_goto C 117 dX12_shore_113 (by decide) ?_
          refine a_kill [2] ?_
          exact kX12_shore_b117 C hQ hk16 hf
def fX12_shore_b35 (io_thrown : Int32) (io_cells : Int32) (io_children : Int32) (io_changes : Int32) (io_taped : Int32) (io_at : Int32) (io_to : Int32) (io_nest : Int32) (io_undos : Int32) (io_sights : Int32) (co_base : Nat → Int32) (co_dyke : Nat → Int32) (co_now : Nat → Int32) (co_tape : Nat → Int32) (co_read : Nat → Int32) (x1 : Int32) (k16 : Int32 × (Nat → Int32) × Int32 × Int32 → Option (Int32 × Int32 × Int32 × Int32 × Int32 × Int32 × Int32 × Int32 × Int32 × Int32 × (Nat → Int32) × (Nat → Int32) × (Nat → Int32) × (Nat → Int32))) : Option (Int32 × Int32 × Int32 × Int32 × Int32 × Int32 × Int32 × Int32 × Int32 × Int32 × (Nat → Int32) × (Nat → Int32) × (Nat → Int32) × (Nat → Int32)) :=
  if inb (((2 : Int32) * x1) + (1 : Int32)) 36 then if inb ((2 : Int32) * x1) 36 then if (12 : Int32) ≤ x1 then (fX12_shore_b66 io_thrown io_cells io_children io_changes io_taped io_at io_to io_nest io_undos io_sights co_base co_dyke co_now co_tape (upd (upd co_read (Int32.toNatClampNeg (((2 : Int32) * x1) + (1 : Int32))) (0 : Int32)) (Int32.toNatClampNeg ((2 : Int32) * x1)) (-1 : Int32)) x1 (0 : Int32) k16) else (fX12_shore_b66 io_thrown io_cells io_children io_changes io_taped io_at io_to io_nest io_undos io_sights co_base co_dyke co_now co_tape (upd (upd co_read (Int32.toNatClampNeg (((2 : Int32) * x1) + (1 : Int32))) (0 : Int32)) (Int32.toNatClampNeg ((2 : Int32) * x1)) (-1 : Int32)) x1 (1 : Int32) k16) else none else none
set_option maxHeartbeats 400000 in
set_option maxRecDepth 100000 in
theorem kX12_shore_b35 {X : cxT} {l : Launch} {D : va_G} {Y : Nat → ClassId} {ao : Nat → Nat} {io_thrown : Int32} {io_rows : Int32} {io_cells : Int32} {io_children : Int32} {io_changes : Int32} {io_taped : Int32} {io_at : Int32} {io_to : Int32} {io_nest : Int32} {io_readMany : Int32} {io_codeLong : Int32} {io_readLong : Int32} {io_undos : Int32} {io_wentHome : Int32} {io_tideLevel : Int32} {io_acts : Int32} {io_firstBreaks : Int32} {io_bestCrew : Int32} {io_sights : Int32} {io_wayMany : Int32} {io_random : Int32} {co_base : Nat → Int32} {co_dyke : Nat → Int32} {co_now : Nat → Int32} {co_tape : Nat → Int32} {co_read : Nat → Int32} {x1 : Int32} {res : Int32 × Int32 × Int32 × Int32 × Int32 × Int32 × Int32 × Int32 × Int32 × Int32 × (Nat → Int32) × (Nat → Int32) × (Nat → Int32) × (Nat → Int32)} (C : axC X l D Y cX12_shore 4 RX12 wsX12_shore rmX12_shore (some .int)) (hQ : axQ X 0 0 (fun r9 w9 => r9 = (some (.int res.1)) ∧ w9 = [oX12 ao res.2.1 io_rows res.2.2.1 io_children res.2.2.2.1 res.2.2.2.2.1 res.2.2.2.2.2.1 res.2.2.2.2.2.2.1 res.2.2.2.2.2.2.2.1 io_readMany io_codeLong io_readLong res.2.2.2.2.2.2.2.2.1 io_wentHome io_tideLevel io_acts io_firstBreaks io_bestCrew res.2.2.2.2.2.2.2.2.2.1 io_wayMany io_random, rI Y (ao 2) 12 res.2.2.2.2.2.2.2.2.2.2.1, rI Y (ao 3) 12 res.2.2.2.2.2.2.2.2.2.2.2.1, rI Y (ao 8) 43 res.2.2.2.2.2.2.2.2.2.2.2.2.1, rI Y (ao 10) 80 co_tape, rI Y (ao 11) 36 res.2.2.2.2.2.2.2.2.2.2.2.2.2])) {k16 : Int32 × (Nat → Int32) × Int32 × Int32 → Option (Int32 × Int32 × Int32 × Int32 × Int32 × Int32 × Int32 × Int32 × Int32 × Int32 × (Nat → Int32) × (Nat → Int32) × (Nat → Int32) × (Nat → Int32))} (hk16 : ∀ s : Int32 × (Nat → Int32) × Int32 × Int32, k16 s = some res → ax X 0 0 16 [some (.ref (ao 0)), some (.int s.2.2.1), some (.int s.2.2.2), none] [oX12 ao io_thrown io_rows io_cells io_children io_changes io_taped s.1 io_to io_nest io_readMany io_codeLong io_readLong io_undos io_wentHome io_tideLevel io_acts io_firstBreaks io_bestCrew io_sights io_wayMany io_random, rI Y (ao 2) 12 co_base, rI Y (ao 3) 12 co_dyke, rI Y (ao 8) 43 co_now, rI Y (ao 10) 80 co_tape, rI Y (ao 11) 36 s.2.1] []) (hf : fX12_shore_b35 io_thrown io_cells io_children io_changes io_taped io_at io_to io_nest io_undos io_sights co_base co_dyke co_now co_tape co_read x1 k16 = some res) : ax X 0 0 35 [some (.ref (ao 0)), some (.int x1), none, none] [oX12 ao io_thrown io_rows io_cells io_children io_changes io_taped io_at io_to io_nest io_readMany io_codeLong io_readLong io_undos io_wentHome io_tideLevel io_acts io_firstBreaks io_bestCrew io_sights io_wayMany io_random, rI Y (ao 2) 12 co_base, rI Y (ao 3) 12 co_dyke, rI Y (ao 8) 43 co_now, rI Y (ao 10) 80 co_tape, rI Y (ao 11) 36 co_read] [] := by
  unfold fX12_shore_b35 at hf
  refine a_aload_n C dX12_shore_35 rfl ?_
  refine a_get C (eB_X12_45 _) dX12_shore_36 0 rfl rfl ?_
  refine a_iconst C (2 : Int32) dX12_shore_39 (by decide) ?_
  refine a_iload_n C dX12_shore_40 rfl ?_
  refine a_imul C dX12_shore_41 ?_
  refine a_iconst C (1 : Int32) dX12_shore_42 (by decide) ?_
  refine a_iadd C dX12_shore_43 ?_
  refine a_iconst C (0 : Int32) dX12_shore_44 (by decide) ?_
  obtain ⟨h27, hf⟩ := fx_ite hf
  refine a_iast C dX12_shore_45 5 rfl h27 ?_
  refine a_aload_n C dX12_shore_46 rfl ?_
  refine a_get C (eB_X12_45 _) dX12_shore_47 0 rfl rfl ?_
  refine a_iconst C (2 : Int32) dX12_shore_50 (by decide) ?_
  refine a_iload_n C dX12_shore_51 rfl ?_
  refine a_imul C dX12_shore_52 ?_
  refine a_iconst C (-1 : Int32) dX12_shore_53 (by decide) ?_
  obtain ⟨h28, hf⟩ := fx_ite hf
  refine a_iast C dX12_shore_54 5 rfl h28 ?_
  refine a_iload_n C dX12_shore_55 rfl ?_
  refine a_bipush C (12 : Int32) dX12_shore_56 (by decide) ?_
  refine a_icmp_ge C 65 dX12_shore_58 (by decide) (fun h29 => ?_) (fun h29 => ?_)
  · have hf := fx_t h29 hf
    refine a_iconst C (0 : Int32) dX12_shore_65 (by decide) ?_
    exact kX12_shore_b66 C hQ hk16 hf
  · have hf := fx_f h29 hf
    refine a_iconst C (1 : Int32) dX12_shore_61 (by decide) ?_
    refine a_goto C 66 dX12_shore_62 (by decide) ?_
    exact kX12_shore_b66 C hQ hk16 hf
def fX12_shore_l16 (io_thrown : Int32) (io_cells : Int32) (io_children : Int32) (io_changes : Int32) (io_taped : Int32) (io_to : Int32) (io_nest : Int32) (io_undos : Int32) (io_sights : Int32) (co_base : Nat → Int32) (co_dyke : Nat → Int32) (co_now : Nat → Int32) (co_tape : Nat → Int32) (k16 : Int32 × (Nat → Int32) × Int32 × Int32 → Option (Int32 × Int32 × Int32 × Int32 × Int32 × Int32 × Int32 × Int32 × Int32 × Int32 × (Nat → Int32) × (Nat → Int32) × (Nat → Int32) × (Nat → Int32))) (io_at : Int32) (co_read : Nat → Int32) (x1 : Int32) (x2 : Int32) : Option (Int32 × Int32 × Int32 × Int32 × Int32 × Int32 × Int32 × Int32 × Int32 × Int32 × (Nat → Int32) × (Nat → Int32) × (Nat → Int32) × (Nat → Int32)) :=
  if x2 = (0 : Int32) then (fX12_shore_b162 io_thrown io_cells io_children io_changes io_taped io_at io_to io_nest io_undos io_sights co_base co_dyke co_now co_tape co_read x1 x2) else (if x1 = (0 : Int32) then (fX12_shore_b35 io_thrown io_cells io_children io_changes io_taped io_at io_to io_nest io_undos io_sights co_base co_dyke co_now co_tape co_read x1 k16) else (if io_to ≤ io_at then (fX12_shore_b162 io_thrown io_cells io_children io_changes io_taped io_at io_to io_nest io_undos io_sights co_base co_dyke co_now co_tape co_read x1 x2) else (fX12_shore_b35 io_thrown io_cells io_children io_changes io_taped io_at io_to io_nest io_undos io_sights co_base co_dyke co_now co_tape co_read x1 k16)))
def fX12_shore_b16 (io_thrown : Int32) (io_cells : Int32) (io_children : Int32) (io_changes : Int32) (io_taped : Int32) (io_at : Int32) (io_to : Int32) (io_nest : Int32) (io_undos : Int32) (io_sights : Int32) (co_base : Nat → Int32) (co_dyke : Nat → Int32) (co_now : Nat → Int32) (co_tape : Nat → Int32) (co_read : Nat → Int32) (x1 : Int32) (x2 : Int32) : Option (Int32 × Int32 × Int32 × Int32 × Int32 × Int32 × Int32 × Int32 × Int32 × Int32 × (Nat → Int32) × (Nat → Int32) × (Nat → Int32) × (Nat → Int32)) :=
  loopN (fun (s : Int32 × (Nat → Int32) × Int32 × Int32) k16 => fX12_shore_l16 io_thrown io_cells io_children io_changes io_taped io_to io_nest io_undos io_sights co_base co_dyke co_now co_tape k16 s.1 s.2.1 s.2.2.1 s.2.2.2) FUEL (io_at, co_read, x1, x2)
set_option maxHeartbeats 400000 in
set_option maxRecDepth 100000 in
theorem kX12_shore_l16 {X : cxT} {l : Launch} {D : va_G} {Y : Nat → ClassId} {ao : Nat → Nat} {io_thrown : Int32} {io_rows : Int32} {io_cells : Int32} {io_children : Int32} {io_changes : Int32} {io_taped : Int32} {io_at : Int32} {io_to : Int32} {io_nest : Int32} {io_readMany : Int32} {io_codeLong : Int32} {io_readLong : Int32} {io_undos : Int32} {io_wentHome : Int32} {io_tideLevel : Int32} {io_acts : Int32} {io_firstBreaks : Int32} {io_bestCrew : Int32} {io_sights : Int32} {io_wayMany : Int32} {io_random : Int32} {co_base : Nat → Int32} {co_dyke : Nat → Int32} {co_now : Nat → Int32} {co_tape : Nat → Int32} {co_read : Nat → Int32} {x1 : Int32} {x2 : Int32} {res : Int32 × Int32 × Int32 × Int32 × Int32 × Int32 × Int32 × Int32 × Int32 × Int32 × (Nat → Int32) × (Nat → Int32) × (Nat → Int32) × (Nat → Int32)} (C : axC X l D Y cX12_shore 4 RX12 wsX12_shore rmX12_shore (some .int)) (hQ : axQ X 0 0 (fun r9 w9 => r9 = (some (.int res.1)) ∧ w9 = [oX12 ao res.2.1 io_rows res.2.2.1 io_children res.2.2.2.1 res.2.2.2.2.1 res.2.2.2.2.2.1 res.2.2.2.2.2.2.1 res.2.2.2.2.2.2.2.1 io_readMany io_codeLong io_readLong res.2.2.2.2.2.2.2.2.1 io_wentHome io_tideLevel io_acts io_firstBreaks io_bestCrew res.2.2.2.2.2.2.2.2.2.1 io_wayMany io_random, rI Y (ao 2) 12 res.2.2.2.2.2.2.2.2.2.2.1, rI Y (ao 3) 12 res.2.2.2.2.2.2.2.2.2.2.2.1, rI Y (ao 8) 43 res.2.2.2.2.2.2.2.2.2.2.2.2.1, rI Y (ao 10) 80 co_tape, rI Y (ao 11) 36 res.2.2.2.2.2.2.2.2.2.2.2.2.2])) {k16 : Int32 × (Nat → Int32) × Int32 × Int32 → Option (Int32 × Int32 × Int32 × Int32 × Int32 × Int32 × Int32 × Int32 × Int32 × Int32 × (Nat → Int32) × (Nat → Int32) × (Nat → Int32) × (Nat → Int32))} (hk16 : ∀ s : Int32 × (Nat → Int32) × Int32 × Int32, k16 s = some res → ax X 0 0 16 [some (.ref (ao 0)), some (.int s.2.2.1), some (.int s.2.2.2), none] [oX12 ao io_thrown io_rows io_cells io_children io_changes io_taped s.1 io_to io_nest io_readMany io_codeLong io_readLong io_undos io_wentHome io_tideLevel io_acts io_firstBreaks io_bestCrew io_sights io_wayMany io_random, rI Y (ao 2) 12 co_base, rI Y (ao 3) 12 co_dyke, rI Y (ao 8) 43 co_now, rI Y (ao 10) 80 co_tape, rI Y (ao 11) 36 s.2.1] []) (hf : fX12_shore_l16 io_thrown io_cells io_children io_changes io_taped io_to io_nest io_undos io_sights co_base co_dyke co_now co_tape k16 io_at co_read x1 x2 = some res) : ax X 0 0 16 [some (.ref (ao 0)), some (.int x1), some (.int x2), none] [oX12 ao io_thrown io_rows io_cells io_children io_changes io_taped io_at io_to io_nest io_readMany io_codeLong io_readLong io_undos io_wentHome io_tideLevel io_acts io_firstBreaks io_bestCrew io_sights io_wayMany io_random, rI Y (ao 2) 12 co_base, rI Y (ao 3) 12 co_dyke, rI Y (ao 8) 43 co_now, rI Y (ao 10) 80 co_tape, rI Y (ao 11) 36 co_read] [] := by
  unfold fX12_shore_l16 at hf
  refine a_iload_n C dX12_shore_16 rfl ?_
  refine a_if_eq C 162 dX12_shore_17 (by decide) (fun h30 => ?_) (fun h30 => ?_)
  · have hf := fx_t h30 hf
    exact kX12_shore_b162 C hQ hf
  · have hf := fx_f h30 hf
    refine a_iload_n C dX12_shore_20 rfl ?_
    refine a_if_eq C 35 dX12_shore_21 (by decide) (fun h31 => ?_) (fun h31 => ?_)
    · have hf := fx_t h31 hf
      refine a_kill [2] ?_
      exact kX12_shore_b35 C hQ hk16 hf
    · have hf := fx_f h31 hf
      refine a_aload_n C dX12_shore_24 rfl ?_
      refine a_get C (eB_X12_136 _) dX12_shore_25 0 rfl rfl ?_
      refine a_aload_n C dX12_shore_28 rfl ?_
      refine a_get C (eB_X12_148 _) dX12_shore_29 0 rfl rfl ?_
      refine a_icmp_ge C 162 dX12_shore_32 (by decide) (fun h32 => ?_) (fun h32 => ?_)
      · have hf := fx_t h32 hf
        exact kX12_shore_b162 C hQ hf
      · have hf := fx_f h32 hf
        refine a_kill [2] ?_
        exact kX12_shore_b35 C hQ hk16 hf
set_option maxHeartbeats 400000 in
set_option maxRecDepth 100000 in
theorem kX12_shore_b16 {X : cxT} {l : Launch} {D : va_G} {Y : Nat → ClassId} {ao : Nat → Nat} {io_thrown : Int32} {io_rows : Int32} {io_cells : Int32} {io_children : Int32} {io_changes : Int32} {io_taped : Int32} {io_at : Int32} {io_to : Int32} {io_nest : Int32} {io_readMany : Int32} {io_codeLong : Int32} {io_readLong : Int32} {io_undos : Int32} {io_wentHome : Int32} {io_tideLevel : Int32} {io_acts : Int32} {io_firstBreaks : Int32} {io_bestCrew : Int32} {io_sights : Int32} {io_wayMany : Int32} {io_random : Int32} {co_base : Nat → Int32} {co_dyke : Nat → Int32} {co_now : Nat → Int32} {co_tape : Nat → Int32} {co_read : Nat → Int32} {x1 : Int32} {x2 : Int32} {res : Int32 × Int32 × Int32 × Int32 × Int32 × Int32 × Int32 × Int32 × Int32 × Int32 × (Nat → Int32) × (Nat → Int32) × (Nat → Int32) × (Nat → Int32)} (C : axC X l D Y cX12_shore 4 RX12 wsX12_shore rmX12_shore (some .int)) (hQ : axQ X 0 0 (fun r9 w9 => r9 = (some (.int res.1)) ∧ w9 = [oX12 ao res.2.1 io_rows res.2.2.1 io_children res.2.2.2.1 res.2.2.2.2.1 res.2.2.2.2.2.1 res.2.2.2.2.2.2.1 res.2.2.2.2.2.2.2.1 io_readMany io_codeLong io_readLong res.2.2.2.2.2.2.2.2.1 io_wentHome io_tideLevel io_acts io_firstBreaks io_bestCrew res.2.2.2.2.2.2.2.2.2.1 io_wayMany io_random, rI Y (ao 2) 12 res.2.2.2.2.2.2.2.2.2.2.1, rI Y (ao 3) 12 res.2.2.2.2.2.2.2.2.2.2.2.1, rI Y (ao 8) 43 res.2.2.2.2.2.2.2.2.2.2.2.2.1, rI Y (ao 10) 80 co_tape, rI Y (ao 11) 36 res.2.2.2.2.2.2.2.2.2.2.2.2.2])) (hf : fX12_shore_b16 io_thrown io_cells io_children io_changes io_taped io_at io_to io_nest io_undos io_sights co_base co_dyke co_now co_tape co_read x1 x2 = some res) : ax X 0 0 16 [some (.ref (ao 0)), some (.int x1), some (.int x2), none] [oX12 ao io_thrown io_rows io_cells io_children io_changes io_taped io_at io_to io_nest io_readMany io_codeLong io_readLong io_undos io_wentHome io_tideLevel io_acts io_firstBreaks io_bestCrew io_sights io_wayMany io_random, rI Y (ao 2) 12 co_base, rI Y (ao 3) 12 co_dyke, rI Y (ao 8) 43 co_now, rI Y (ao 10) 80 co_tape, rI Y (ao 11) 36 co_read] [] := by
  unfold fX12_shore_b16 at hf
  exact fx_loop (P := fun s : Int32 × (Nat → Int32) × Int32 × Int32 => ax X 0 0 16 [some (.ref (ao 0)), some (.int s.2.2.1), some (.int s.2.2.2), none] [oX12 ao io_thrown io_rows io_cells io_children io_changes io_taped s.1 io_to io_nest io_readMany io_codeLong io_readLong io_undos io_wentHome io_tideLevel io_acts io_firstBreaks io_bestCrew io_sights io_wayMany io_random, rI Y (ao 2) 12 co_base, rI Y (ao 3) 12 co_dyke, rI Y (ao 8) 43 co_now, rI Y (ao 10) 80 co_tape, rI Y (ao 11) 36 s.2.1] []) (fun s k16 hk16 h => kX12_shore_l16 C hQ hk16 h) FUEL (io_at, co_read, x1, x2) hf
def fX12_shore (io_thrown : Int32) (io_cells : Int32) (io_children : Int32) (io_changes : Int32) (io_taped : Int32) (io_at : Int32) (io_to : Int32) (io_nest : Int32) (io_undos : Int32) (io_sights : Int32) (co_base : Nat → Int32) (co_dyke : Nat → Int32) (co_now : Nat → Int32) (co_tape : Nat → Int32) (co_read : Nat → Int32) : Option (Int32 × Int32 × Int32 × Int32 × Int32 × Int32 × Int32 × Int32 × Int32 × Int32 × (Nat → Int32) × (Nat → Int32) × (Nat → Int32) × (Nat → Int32)) :=
  (fX12_begins io_taped io_at io_to io_nest (80 : Int32)).bind (fun r33 => fX12_shore_b16 (0 : Int32) io_cells io_children io_changes r33.2.1 r33.2.2.1 r33.2.2.2.1 r33.2.2.2.2 io_undos io_sights co_base co_dyke co_now co_tape co_read (0 : Int32) (1 : Int32))
set_option maxHeartbeats 400000 in
set_option maxRecDepth 100000 in
theorem kX12_shore (l : Launch) (D : va_G) (Y : Nat → ClassId) (ao : Nat → Nat) (io_thrown : Int32) (io_rows : Int32) (io_cells : Int32) (io_children : Int32) (io_changes : Int32) (io_taped : Int32) (io_at : Int32) (io_to : Int32) (io_nest : Int32) (io_readMany : Int32) (io_codeLong : Int32) (io_readLong : Int32) (io_undos : Int32) (io_wentHome : Int32) (io_tideLevel : Int32) (io_acts : Int32) (io_firstBreaks : Int32) (io_bestCrew : Int32) (io_sights : Int32) (io_wayMany : Int32) (io_random : Int32) (co_base : Nat → Int32) (co_dyke : Nat → Int32) (co_now : Nat → Int32) (co_tape : Nat → Int32) (co_read : Nat → Int32) (res : Int32 × Int32 × Int32 × Int32 × Int32 × Int32 × Int32 × Int32 × Int32 × Int32 × (Nat → Int32) × (Nat → Int32) × (Nat → Int32) × (Nat → Int32)) (hf : fX12_shore io_thrown io_cells io_children io_changes io_taped io_at io_to io_nest io_undos io_sights co_base co_dyke co_now co_tape co_read = some res) : amf l D Y yX12_shore wsX12_shore rmX12_shore [.ref (ao 0)] [oX12 ao io_thrown io_rows io_cells io_children io_changes io_taped io_at io_to io_nest io_readMany io_codeLong io_readLong io_undos io_wentHome io_tideLevel io_acts io_firstBreaks io_bestCrew io_sights io_wayMany io_random, rI Y (ao 2) 12 co_base, rI Y (ao 3) 12 co_dyke, rI Y (ao 8) 43 co_now, rI Y (ao 10) 80 co_tape, rI Y (ao 11) 36 co_read] (some (.int res.1)) [oX12 ao res.2.1 io_rows res.2.2.1 io_children res.2.2.2.1 res.2.2.2.2.1 res.2.2.2.2.2.1 res.2.2.2.2.2.2.1 res.2.2.2.2.2.2.2.1 io_readMany io_codeLong io_readLong res.2.2.2.2.2.2.2.2.1 io_wentHome io_tideLevel io_acts io_firstBreaks io_bestCrew res.2.2.2.2.2.2.2.2.2.1 io_wayMany io_random, rI Y (ao 2) 12 res.2.2.2.2.2.2.2.2.2.2.1, rI Y (ao 3) 12 res.2.2.2.2.2.2.2.2.2.2.2.1, rI Y (ao 8) 43 res.2.2.2.2.2.2.2.2.2.2.2.2.1, rI Y (ao 10) 80 co_tape, rI Y (ao 11) 36 res.2.2.2.2.2.2.2.2.2.2.2.2.2] := by
  refine amf.of (cc := cX12_shore) (maxL := 4) (rt := (some .int)) (by decide) rfl RX12 rfl (Nat.le_of_ble_eq_true rfl) [some (.ref (ao 0)), none, none, none] rfl ?_
  intro X C hQ
  unfold fX12_shore at hf
  refine a_aload_n C dX12_shore_0 rfl ?_
  refine a_iconst C (0 : Int32) dX12_shore_1 (by decide) ?_
  refine a_put C (eB_X12_112 _) tfX12_0 dX12_shore_2 0 rfl rfl rfl (Nat.le_of_ble_eq_true rfl) ?_
  refine a_aload_n C dX12_shore_5 rfl ?_
  refine a_bipush C (80 : Int32) dX12_shore_6 (by decide) ?_
  obtain ⟨r33, h33, hf⟩ := fx_bind hf
  refine a_fV C (kX12_begins l D Y ao (0 : Int32) io_rows io_cells io_children io_changes io_taped io_at io_to io_nest io_readMany io_codeLong io_readLong io_undos io_wentHome io_tideLevel io_acts io_firstBreaks io_bestCrew io_sights io_wayMany io_random (80 : Int32) r33 h33) (gB_X12_181 _) rfl dvX12_begins ⟨⟨rfl, rfl⟩, ⟨Nat.le_of_ble_eq_true rfl, Nat.le_of_ble_eq_true rfl⟩, ⟨Nat.le_of_ble_eq_true rfl, Nat.le_of_ble_eq_true rfl⟩⟩ rfl (Nat.le_of_ble_eq_true rfl) dX12_shore_8 rfl rfl [0] [1, 2, 3, 4, 5] ⟨rfl, trivial⟩ (by decide +kernel) rfl [oX12 ao (0 : Int32) io_rows io_cells io_children io_changes r33.2.1 r33.2.2.1 r33.2.2.2.1 r33.2.2.2.2 io_readMany io_codeLong io_readLong io_undos io_wentHome io_tideLevel io_acts io_firstBreaks io_bestCrew io_sights io_wayMany io_random, rI Y (ao 2) 12 co_base, rI Y (ao 3) 12 co_dyke, rI Y (ao 8) 43 co_now, rI Y (ao 10) 80 co_tape, rI Y (ao 11) 36 co_read] ⟨rfl, trivial⟩ ⟨rfl, rfl, rfl, rfl, rfl, trivial⟩ 6 rfl (by decide +kernel) ?_
  refine a_pop C dX12_shore_11 rfl ?_
  refine a_iconst C (0 : Int32) dX12_shore_12 (by decide) ?_
  refine a_istore_n C dX12_shore_13 (by decide) rfl ?_
  refine a_iconst C (1 : Int32) dX12_shore_14 (by decide) ?_
  refine a_istore_n C dX12_shore_15 (by decide) rfl ?_
  exact kX12_shore_b16 C hQ hf
