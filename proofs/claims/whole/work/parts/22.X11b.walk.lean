-- X11_rests
abbrev rmX11_rests : Room := { frames := 2, cells := 0, slots := 0, locals := 48 }
theorem dvX11_rests : yX11_rests.cls = RX11 ∧ yX11_rests.cls ≠ "java/lang/invoke/MethodHandle" ∧ yX11_rests.cls ≠ "java/lang/invoke/VarHandle" ∧ (parseMethodDescriptor yX11_rests.desc).map (fun d => d.parameters.length) = some 2 := by decide +kernel
def fX11_rests_b20 (cchance_best : Nat → Int32) (itold_size : Int32) (ctold_numbers : Nat → Int64) : Option (Int32 × (Nat → Int32) × Int32 × (Nat → Int64)) :=
  some ((-1 : Int32), cchance_best, itold_size, ctold_numbers)
set_option maxHeartbeats 400000 in
set_option maxRecDepth 100000 in
theorem kX11_rests_b20 {X : cxT} {l : Launch} {D : va_G} {Y : Nat → ClassId} {ao atext atold aL aC alaw aotherLaw anow atrial ahistory aguess acrewPlan amoatPlan achance : Nat → Nat} {io_wind : Int32} {io_spadeLimit : Int32} {ichance_seed : Int32} {cchance_best : Nat → Int32} {itold_size : Int32} {ctold_numbers : Nat → Int64} {res : Int32 × (Nat → Int32) × Int32 × (Nat → Int64)} (C : axC X l D Y cX11_rests 6 RX11 wsX11_rests rmX11_rests (some .int)) (hQ : axQ X 0 0 (fun r9 w9 => r9 = (some (.int res.1)) ∧ w9 = [oX11 ao atext atold aL aC alaw aotherLaw anow atrial ahistory aguess acrewPlan amoatPlan achance io_wind io_spadeLimit, oX0 achance ichance_seed, rI Y (achance 2) 10 res.2.1, oX8 atold res.2.2.1, rJ Y (atold 1) 12 res.2.2.2])) (hf : fX11_rests_b20 cchance_best itold_size ctold_numbers = some res) : ax X 0 0 20 [none, none, none, none, none, none] [oX11 ao atext atold aL aC alaw aotherLaw anow atrial ahistory aguess acrewPlan amoatPlan achance io_wind io_spadeLimit, oX0 achance ichance_seed, rI Y (achance 2) 10 cchance_best, oX8 atold itold_size, rJ Y (atold 1) 12 ctold_numbers] [] := by
  unfold fX11_rests_b20 at hf
  refine a_iconst C (-1 : Int32) dX11_rests_20 (by decide) ?_
  obtain rfl := fx_some hf
  exact a_iret C hQ dX11_rests_21 ⟨rfl, rfl⟩
def fX11_rests_b108 (cchance_best : Nat → Int32) (itold_size : Int32) (ctold_numbers : Nat → Int64) (x3 : Int32) : Option (Int32 × (Nat → Int32) × Int32 × (Nat → Int64)) :=
  some (x3, cchance_best, itold_size, ctold_numbers)
set_option maxHeartbeats 400000 in
set_option maxRecDepth 100000 in
theorem kX11_rests_b108 {X : cxT} {l : Launch} {D : va_G} {Y : Nat → ClassId} {ao atext atold aL aC alaw aotherLaw anow atrial ahistory aguess acrewPlan amoatPlan achance : Nat → Nat} {io_wind : Int32} {io_spadeLimit : Int32} {ichance_seed : Int32} {cchance_best : Nat → Int32} {itold_size : Int32} {ctold_numbers : Nat → Int64} {x3 : Int32} {res : Int32 × (Nat → Int32) × Int32 × (Nat → Int64)} (C : axC X l D Y cX11_rests 6 RX11 wsX11_rests rmX11_rests (some .int)) (hQ : axQ X 0 0 (fun r9 w9 => r9 = (some (.int res.1)) ∧ w9 = [oX11 ao atext atold aL aC alaw aotherLaw anow atrial ahistory aguess acrewPlan amoatPlan achance io_wind io_spadeLimit, oX0 achance ichance_seed, rI Y (achance 2) 10 res.2.1, oX8 atold res.2.2.1, rJ Y (atold 1) 12 res.2.2.2])) (hf : fX11_rests_b108 cchance_best itold_size ctold_numbers x3 = some res) : ax X 0 0 108 [none, none, none, some (.int x3), none, none] [oX11 ao atext atold aL aC alaw aotherLaw anow atrial ahistory aguess acrewPlan amoatPlan achance io_wind io_spadeLimit, oX0 achance ichance_seed, rI Y (achance 2) 10 cchance_best, oX8 atold itold_size, rJ Y (atold 1) 12 ctold_numbers] [] := by
  unfold fX11_rests_b108 at hf
  refine a_iload_n C dX11_rests_108 rfl ?_
  obtain rfl := fx_some hf
  exact a_iret C hQ dX11_rests_109 ⟨rfl, rfl⟩
def fX11_rests_b102 (cchance_best : Nat → Int32) (itold_size : Int32) (ctold_numbers : Nat → Int64) (x1 : Int32) (x2 : Int32) (x3 : Int32) (x4 : Int32) (k43 : Int32 × (Nat → Int64) × Int32 × Int32 → Option (Int32 × (Nat → Int32) × Int32 × (Nat → Int64))) : Option (Int32 × (Nat → Int32) × Int32 × (Nat → Int64)) :=
  k43 (itold_size, ctold_numbers, x3, (x4 + (1 : Int32)))
set_option maxHeartbeats 400000 in
set_option maxRecDepth 100000 in
theorem kX11_rests_b102 {X : cxT} {l : Launch} {D : va_G} {Y : Nat → ClassId} {ao atext atold aL aC alaw aotherLaw anow atrial ahistory aguess acrewPlan amoatPlan achance : Nat → Nat} {io_wind : Int32} {io_spadeLimit : Int32} {ichance_seed : Int32} {cchance_best : Nat → Int32} {itold_size : Int32} {ctold_numbers : Nat → Int64} {x1 : Int32} {x2 : Int32} {x3 : Int32} {x4 : Int32} {res : Int32 × (Nat → Int32) × Int32 × (Nat → Int64)} (C : axC X l D Y cX11_rests 6 RX11 wsX11_rests rmX11_rests (some .int)) (hQ : axQ X 0 0 (fun r9 w9 => r9 = (some (.int res.1)) ∧ w9 = [oX11 ao atext atold aL aC alaw aotherLaw anow atrial ahistory aguess acrewPlan amoatPlan achance io_wind io_spadeLimit, oX0 achance ichance_seed, rI Y (achance 2) 10 res.2.1, oX8 atold res.2.2.1, rJ Y (atold 1) 12 res.2.2.2])) {k43 : Int32 × (Nat → Int64) × Int32 × Int32 → Option (Int32 × (Nat → Int32) × Int32 × (Nat → Int64))} (hk43 : ∀ s : Int32 × (Nat → Int64) × Int32 × Int32, k43 s = some res → ax X 0 0 43 [some (.ref (ao 0)), some (.int x1), some (.int x2), some (.int s.2.2.1), some (.int s.2.2.2), none] [oX11 ao atext atold aL aC alaw aotherLaw anow atrial ahistory aguess acrewPlan amoatPlan achance io_wind io_spadeLimit, oX0 achance ichance_seed, rI Y (achance 2) 10 cchance_best, oX8 atold s.1, rJ Y (atold 1) 12 s.2.1] []) (hf : fX11_rests_b102 cchance_best itold_size ctold_numbers x1 x2 x3 x4 k43 = some res) : ax X 0 0 102 [some (.ref (ao 0)), some (.int x1), some (.int x2), some (.int x3), some (.int x4), none] [oX11 ao atext atold aL aC alaw aotherLaw anow atrial ahistory aguess acrewPlan amoatPlan achance io_wind io_spadeLimit, oX0 achance ichance_seed, rI Y (achance 2) 10 cchance_best, oX8 atold itold_size, rJ Y (atold 1) 12 ctold_numbers] [] := by
  unfold fX11_rests_b102 at hf
  refine a_iinc C (1 : Int32) dX11_rests_102 (by decide) rfl (by decide) rfl ?_
  refine a_goto C 43 dX11_rests_105 (by decide) ?_
  exact hk43 (itold_size, ctold_numbers, x3, (x4 + (1 : Int32))) hf
def fX11_rests_b96 (cchance_best : Nat → Int32) (itold_size : Int32) (ctold_numbers : Nat → Int64) (x1 : Int32) (x2 : Int32) (x3 : Int32) (x4 : Int32) (x5 : Int32) (k43 : Int32 × (Nat → Int64) × Int32 × Int32 → Option (Int32 × (Nat → Int32) × Int32 × (Nat → Int64))) (k53 : Int32 × (Nat → Int64) × Int32 × Int32 → Option (Int32 × (Nat → Int32) × Int32 × (Nat → Int64))) : Option (Int32 × (Nat → Int32) × Int32 × (Nat → Int64)) :=
  k53 (itold_size, ctold_numbers, x3, (x5 + (1 : Int32)))
set_option maxHeartbeats 400000 in
set_option maxRecDepth 100000 in
theorem kX11_rests_b96 {X : cxT} {l : Launch} {D : va_G} {Y : Nat → ClassId} {ao atext atold aL aC alaw aotherLaw anow atrial ahistory aguess acrewPlan amoatPlan achance : Nat → Nat} {io_wind : Int32} {io_spadeLimit : Int32} {ichance_seed : Int32} {cchance_best : Nat → Int32} {itold_size : Int32} {ctold_numbers : Nat → Int64} {x1 : Int32} {x2 : Int32} {x3 : Int32} {x4 : Int32} {x5 : Int32} {res : Int32 × (Nat → Int32) × Int32 × (Nat → Int64)} (C : axC X l D Y cX11_rests 6 RX11 wsX11_rests rmX11_rests (some .int)) (hQ : axQ X 0 0 (fun r9 w9 => r9 = (some (.int res.1)) ∧ w9 = [oX11 ao atext atold aL aC alaw aotherLaw anow atrial ahistory aguess acrewPlan amoatPlan achance io_wind io_spadeLimit, oX0 achance ichance_seed, rI Y (achance 2) 10 res.2.1, oX8 atold res.2.2.1, rJ Y (atold 1) 12 res.2.2.2])) {k43 : Int32 × (Nat → Int64) × Int32 × Int32 → Option (Int32 × (Nat → Int32) × Int32 × (Nat → Int64))} (hk43 : ∀ s : Int32 × (Nat → Int64) × Int32 × Int32, k43 s = some res → ax X 0 0 43 [some (.ref (ao 0)), some (.int x1), some (.int x2), some (.int s.2.2.1), some (.int s.2.2.2), none] [oX11 ao atext atold aL aC alaw aotherLaw anow atrial ahistory aguess acrewPlan amoatPlan achance io_wind io_spadeLimit, oX0 achance ichance_seed, rI Y (achance 2) 10 cchance_best, oX8 atold s.1, rJ Y (atold 1) 12 s.2.1] []) {k53 : Int32 × (Nat → Int64) × Int32 × Int32 → Option (Int32 × (Nat → Int32) × Int32 × (Nat → Int64))} (hk53 : ∀ s : Int32 × (Nat → Int64) × Int32 × Int32, k53 s = some res → ax X 0 0 53 [some (.ref (ao 0)), some (.int x1), some (.int x2), some (.int s.2.2.1), some (.int x4), some (.int s.2.2.2)] [oX11 ao atext atold aL aC alaw aotherLaw anow atrial ahistory aguess acrewPlan amoatPlan achance io_wind io_spadeLimit, oX0 achance ichance_seed, rI Y (achance 2) 10 cchance_best, oX8 atold s.1, rJ Y (atold 1) 12 s.2.1] []) (hf : fX11_rests_b96 cchance_best itold_size ctold_numbers x1 x2 x3 x4 x5 k43 k53 = some res) : ax X 0 0 96 [some (.ref (ao 0)), some (.int x1), some (.int x2), some (.int x3), some (.int x4), some (.int x5)] [oX11 ao atext atold aL aC alaw aotherLaw anow atrial ahistory aguess acrewPlan amoatPlan achance io_wind io_spadeLimit, oX0 achance ichance_seed, rI Y (achance 2) 10 cchance_best, oX8 atold itold_size, rJ Y (atold 1) 12 ctold_numbers] [] := by
  unfold fX11_rests_b96 at hf
  refine a_iinc C (1 : Int32) dX11_rests_96 (by decide) rfl (by decide) rfl ?_
  refine a_goto C 53 dX11_rests_99 (by decide) ?_
  exact hk53 (itold_size, ctold_numbers, x3, (x5 + (1 : Int32))) hf
def fX11_rests_b93 (cchance_best : Nat → Int32) (itold_size : Int32) (ctold_numbers : Nat → Int64) (x1 : Int32) (x2 : Int32) (x3 : Int32) (x4 : Int32) (x5 : Int32) (k43 : Int32 × (Nat → Int64) × Int32 × Int32 → Option (Int32 × (Nat → Int32) × Int32 × (Nat → Int64))) (k53 : Int32 × (Nat → Int64) × Int32 × Int32 → Option (Int32 × (Nat → Int32) × Int32 × (Nat → Int64))) : Option (Int32 × (Nat → Int32) × Int32 × (Nat → Int64)) :=
  fX11_rests_b96 cchance_best itold_size ctold_numbers x1 x2 (x3 + (1 : Int32)) x4 x5 k43 k53
set_option maxHeartbeats 400000 in
set_option maxRecDepth 100000 in
theorem kX11_rests_b93 {X : cxT} {l : Launch} {D : va_G} {Y : Nat → ClassId} {ao atext atold aL aC alaw aotherLaw anow atrial ahistory aguess acrewPlan amoatPlan achance : Nat → Nat} {io_wind : Int32} {io_spadeLimit : Int32} {ichance_seed : Int32} {cchance_best : Nat → Int32} {itold_size : Int32} {ctold_numbers : Nat → Int64} {x1 : Int32} {x2 : Int32} {x3 : Int32} {x4 : Int32} {x5 : Int32} {res : Int32 × (Nat → Int32) × Int32 × (Nat → Int64)} (C : axC X l D Y cX11_rests 6 RX11 wsX11_rests rmX11_rests (some .int)) (hQ : axQ X 0 0 (fun r9 w9 => r9 = (some (.int res.1)) ∧ w9 = [oX11 ao atext atold aL aC alaw aotherLaw anow atrial ahistory aguess acrewPlan amoatPlan achance io_wind io_spadeLimit, oX0 achance ichance_seed, rI Y (achance 2) 10 res.2.1, oX8 atold res.2.2.1, rJ Y (atold 1) 12 res.2.2.2])) {k43 : Int32 × (Nat → Int64) × Int32 × Int32 → Option (Int32 × (Nat → Int32) × Int32 × (Nat → Int64))} (hk43 : ∀ s : Int32 × (Nat → Int64) × Int32 × Int32, k43 s = some res → ax X 0 0 43 [some (.ref (ao 0)), some (.int x1), some (.int x2), some (.int s.2.2.1), some (.int s.2.2.2), none] [oX11 ao atext atold aL aC alaw aotherLaw anow atrial ahistory aguess acrewPlan amoatPlan achance io_wind io_spadeLimit, oX0 achance ichance_seed, rI Y (achance 2) 10 cchance_best, oX8 atold s.1, rJ Y (atold 1) 12 s.2.1] []) {k53 : Int32 × (Nat → Int64) × Int32 × Int32 → Option (Int32 × (Nat → Int32) × Int32 × (Nat → Int64))} (hk53 : ∀ s : Int32 × (Nat → Int64) × Int32 × Int32, k53 s = some res → ax X 0 0 53 [some (.ref (ao 0)), some (.int x1), some (.int x2), some (.int s.2.2.1), some (.int x4), some (.int s.2.2.2)] [oX11 ao atext atold aL aC alaw aotherLaw anow atrial ahistory aguess acrewPlan amoatPlan achance io_wind io_spadeLimit, oX0 achance ichance_seed, rI Y (achance 2) 10 cchance_best, oX8 atold s.1, rJ Y (atold 1) 12 s.2.1] []) (hf : fX11_rests_b93 cchance_best itold_size ctold_numbers x1 x2 x3 x4 x5 k43 k53 = some res) : ax X 0 0 93 [some (.ref (ao 0)), some (.int x1), some (.int x2), some (.int x3), some (.int x4), some (.int x5)] [oX11 ao atext atold aL aC alaw aotherLaw anow atrial ahistory aguess acrewPlan amoatPlan achance io_wind io_spadeLimit, oX0 achance ichance_seed, rI Y (achance 2) 10 cchance_best, oX8 atold itold_size, rJ Y (atold 1) 12 ctold_numbers] [] := by
  unfold fX11_rests_b93 at hf
  refine a_iinc C (1 : Int32) dX11_rests_93 (by decide) rfl (by decide) rfl ?_
  exact kX11_rests_b96 C hQ hk43 hk53 hf
def fX11_rests_l53 (cchance_best : Nat → Int32) (x1 : Int32) (x2 : Int32) (x4 : Int32) (k43 : Int32 × (Nat → Int64) × Int32 × Int32 → Option (Int32 × (Nat → Int32) × Int32 × (Nat → Int64))) (k53 : Int32 × (Nat → Int64) × Int32 × Int32 → Option (Int32 × (Nat → Int32) × Int32 × (Nat → Int64))) (itold_size : Int32) (ctold_numbers : Nat → Int64) (x3 : Int32) (x5 : Int32) : Option (Int32 × (Nat → Int32) × Int32 × (Nat → Int64)) :=
  if (9 : Int32) < x5 then (fX11_rests_b102 cchance_best itold_size ctold_numbers x1 x2 x3 x4 k43) else ((fX0_atRest cchance_best x4 x5 x1 x2).bind (fun r2 => if r2 = (0 : Int32) then (fX11_rests_b96 cchance_best itold_size ctold_numbers x1 x2 x3 x4 x5 k43 k53) else (if x3 = (0 : Int32) then ((fX8_tell_ itold_size ctold_numbers (x4.toInt64) (x5.toInt64)).bind (fun r5 => fX11_rests_b93 cchance_best r5.1 r5.2 x1 x2 x3 x4 x5 k43 k53)) else (fX11_rests_b93 cchance_best itold_size ctold_numbers x1 x2 x3 x4 x5 k43 k53))))
def fX11_rests_b53 (cchance_best : Nat → Int32) (itold_size : Int32) (ctold_numbers : Nat → Int64) (x1 : Int32) (x2 : Int32) (x3 : Int32) (x4 : Int32) (x5 : Int32) (k43 : Int32 × (Nat → Int64) × Int32 × Int32 → Option (Int32 × (Nat → Int32) × Int32 × (Nat → Int64))) : Option (Int32 × (Nat → Int32) × Int32 × (Nat → Int64)) :=
  loopN (fun (s : Int32 × (Nat → Int64) × Int32 × Int32) k53 => fX11_rests_l53 cchance_best x1 x2 x4 k43 k53 s.1 s.2.1 s.2.2.1 s.2.2.2) FUEL (itold_size, ctold_numbers, x3, x5)
set_option maxHeartbeats 400000 in
set_option maxRecDepth 100000 in
theorem kX11_rests_l53 {X : cxT} {l : Launch} {D : va_G} {Y : Nat → ClassId} {ao atext atold aL aC alaw aotherLaw anow atrial ahistory aguess acrewPlan amoatPlan achance : Nat → Nat} {io_wind : Int32} {io_spadeLimit : Int32} {ichance_seed : Int32} {cchance_best : Nat → Int32} {itold_size : Int32} {ctold_numbers : Nat → Int64} {x1 : Int32} {x2 : Int32} {x3 : Int32} {x4 : Int32} {x5 : Int32} {res : Int32 × (Nat → Int32) × Int32 × (Nat → Int64)} (C : axC X l D Y cX11_rests 6 RX11 wsX11_rests rmX11_rests (some .int)) (hQ : axQ X 0 0 (fun r9 w9 => r9 = (some (.int res.1)) ∧ w9 = [oX11 ao atext atold aL aC alaw aotherLaw anow atrial ahistory aguess acrewPlan amoatPlan achance io_wind io_spadeLimit, oX0 achance ichance_seed, rI Y (achance 2) 10 res.2.1, oX8 atold res.2.2.1, rJ Y (atold 1) 12 res.2.2.2])) {k43 : Int32 × (Nat → Int64) × Int32 × Int32 → Option (Int32 × (Nat → Int32) × Int32 × (Nat → Int64))} (hk43 : ∀ s : Int32 × (Nat → Int64) × Int32 × Int32, k43 s = some res → ax X 0 0 43 [some (.ref (ao 0)), some (.int x1), some (.int x2), some (.int s.2.2.1), some (.int s.2.2.2), none] [oX11 ao atext atold aL aC alaw aotherLaw anow atrial ahistory aguess acrewPlan amoatPlan achance io_wind io_spadeLimit, oX0 achance ichance_seed, rI Y (achance 2) 10 cchance_best, oX8 atold s.1, rJ Y (atold 1) 12 s.2.1] []) {k53 : Int32 × (Nat → Int64) × Int32 × Int32 → Option (Int32 × (Nat → Int32) × Int32 × (Nat → Int64))} (hk53 : ∀ s : Int32 × (Nat → Int64) × Int32 × Int32, k53 s = some res → ax X 0 0 53 [some (.ref (ao 0)), some (.int x1), some (.int x2), some (.int s.2.2.1), some (.int x4), some (.int s.2.2.2)] [oX11 ao atext atold aL aC alaw aotherLaw anow atrial ahistory aguess acrewPlan amoatPlan achance io_wind io_spadeLimit, oX0 achance ichance_seed, rI Y (achance 2) 10 cchance_best, oX8 atold s.1, rJ Y (atold 1) 12 s.2.1] []) (hf : fX11_rests_l53 cchance_best x1 x2 x4 k43 k53 itold_size ctold_numbers x3 x5 = some res) : ax X 0 0 53 [some (.ref (ao 0)), some (.int x1), some (.int x2), some (.int x3), some (.int x4), some (.int x5)] [oX11 ao atext atold aL aC alaw aotherLaw anow atrial ahistory aguess acrewPlan amoatPlan achance io_wind io_spadeLimit, oX0 achance ichance_seed, rI Y (achance 2) 10 cchance_best, oX8 atold itold_size, rJ Y (atold 1) 12 ctold_numbers] [] := by
  unfold fX11_rests_l53 at hf
  refine a_iload C dX11_rests_53 rfl ?_
  refine a_bipush C (9 : Int32) dX11_rests_55 (by decide) ?_
  refine a_icmp_gt C 102 dX11_rests_57 (by decide) (fun h1 => ?_) (fun h1 => ?_)
  · have hf := fx_t h1 hf
    refine a_kill [5] ?_
    exact kX11_rests_b102 C hQ hk43 hf
  · have hf := fx_f h1 hf
    refine a_aload_n C dX11_rests_60 rfl ?_
    refine a_get C (eB_X11_106 _) dX11_rests_61 0 rfl rfl ?_
    refine a_iload C dX11_rests_64 rfl ?_
    refine a_iload C dX11_rests_66 rfl ?_
    refine a_iload_n C dX11_rests_68 rfl ?_
    refine a_iload_n C dX11_rests_69 rfl ?_
    obtain ⟨r2, h2, hf⟩ := fx_bind hf
    refine a_fV C (kX0_atRest l D Y achance ichance_seed cchance_best x4 x5 x1 x2 r2 h2) (gB_X11_367 _) rfl dvX0_atRest ⟨⟨rfl, rfl⟩, ⟨Nat.le_of_ble_eq_true rfl, Nat.le_of_ble_eq_true rfl⟩, ⟨Nat.le_of_ble_eq_true rfl, Nat.le_of_ble_eq_true rfl⟩⟩ rfl (Nat.le_of_ble_eq_true rfl) dX11_rests_70 rfl rfl [1, 2] [0, 3, 4] ⟨rfl, rfl, trivial⟩ (by decide +kernel) rfl [oX11 ao atext atold aL aC alaw aotherLaw anow atrial ahistory aguess acrewPlan amoatPlan achance io_wind io_spadeLimit, oX0 achance ichance_seed, rI Y (achance 2) 10 cchance_best, oX8 atold itold_size, rJ Y (atold 1) 12 ctold_numbers] ⟨rfl, rfl, trivial⟩ ⟨rfl, rfl, rfl, trivial⟩ 5 rfl (by decide +kernel) ?_
    refine a_if_eq C 96 dX11_rests_73 (by decide) (fun h3 => ?_) (fun h3 => ?_)
    · have hf := fx_t h3 hf
      exact kX11_rests_b96 C hQ hk43 hk53 hf
    · have hf := fx_f h3 hf
      refine a_iload_n C dX11_rests_76 rfl ?_
      refine a_if_ne C 93 dX11_rests_77 (by decide) (fun h4 => ?_) (fun h4 => ?_)
      · have hf := fx_f h4 hf
        exact kX11_rests_b93 C hQ hk43 hk53 hf
      · have hf := fx_t h4 hf
        refine a_aload_n C dX11_rests_80 rfl ?_
        refine a_get C (eB_X11_19 _) dX11_rests_81 0 rfl rfl ?_
        refine a_iload C dX11_rests_84 rfl ?_
        refine a_i2l C dX11_rests_86 ?_
        refine a_iload C dX11_rests_87 rfl ?_
        refine a_i2l C dX11_rests_89 ?_
        obtain ⟨r5, h5, hf⟩ := fx_bind hf
        refine a_fV C (kX8_tell_ l D Y atold itold_size ctold_numbers (x4.toInt64) (x5.toInt64) r5 h5) (gB_X11_264 _) rfl dvX8_tell_ ⟨⟨rfl, rfl⟩, ⟨Nat.le_of_ble_eq_true rfl, Nat.le_of_ble_eq_true rfl⟩, ⟨Nat.le_of_ble_eq_true rfl, Nat.le_of_ble_eq_true rfl⟩⟩ rfl (Nat.le_of_ble_eq_true rfl) dX11_rests_90 rfl rfl [3, 4] [0, 1, 2] ⟨rfl, rfl, trivial⟩ (by decide +kernel) rfl [oX11 ao atext atold aL aC alaw aotherLaw anow atrial ahistory aguess acrewPlan amoatPlan achance io_wind io_spadeLimit, oX0 achance ichance_seed, rI Y (achance 2) 10 cchance_best, oX8 atold r5.1, rJ Y (atold 1) 12 r5.2] ⟨rfl, rfl, trivial⟩ ⟨rfl, rfl, rfl, trivial⟩ 5 rfl (by decide +kernel) ?_
        exact kX11_rests_b93 C hQ hk43 hk53 hf
set_option maxHeartbeats 400000 in
set_option maxRecDepth 100000 in
theorem kX11_rests_b53 {X : cxT} {l : Launch} {D : va_G} {Y : Nat → ClassId} {ao atext atold aL aC alaw aotherLaw anow atrial ahistory aguess acrewPlan amoatPlan achance : Nat → Nat} {io_wind : Int32} {io_spadeLimit : Int32} {ichance_seed : Int32} {cchance_best : Nat → Int32} {itold_size : Int32} {ctold_numbers : Nat → Int64} {x1 : Int32} {x2 : Int32} {x3 : Int32} {x4 : Int32} {x5 : Int32} {res : Int32 × (Nat → Int32) × Int32 × (Nat → Int64)} (C : axC X l D Y cX11_rests 6 RX11 wsX11_rests rmX11_rests (some .int)) (hQ : axQ X 0 0 (fun r9 w9 => r9 = (some (.int res.1)) ∧ w9 = [oX11 ao atext atold aL aC alaw aotherLaw anow atrial ahistory aguess acrewPlan amoatPlan achance io_wind io_spadeLimit, oX0 achance ichance_seed, rI Y (achance 2) 10 res.2.1, oX8 atold res.2.2.1, rJ Y (atold 1) 12 res.2.2.2])) {k43 : Int32 × (Nat → Int64) × Int32 × Int32 → Option (Int32 × (Nat → Int32) × Int32 × (Nat → Int64))} (hk43 : ∀ s : Int32 × (Nat → Int64) × Int32 × Int32, k43 s = some res → ax X 0 0 43 [some (.ref (ao 0)), some (.int x1), some (.int x2), some (.int s.2.2.1), some (.int s.2.2.2), none] [oX11 ao atext atold aL aC alaw aotherLaw anow atrial ahistory aguess acrewPlan amoatPlan achance io_wind io_spadeLimit, oX0 achance ichance_seed, rI Y (achance 2) 10 cchance_best, oX8 atold s.1, rJ Y (atold 1) 12 s.2.1] []) (hf : fX11_rests_b53 cchance_best itold_size ctold_numbers x1 x2 x3 x4 x5 k43 = some res) : ax X 0 0 53 [some (.ref (ao 0)), some (.int x1), some (.int x2), some (.int x3), some (.int x4), some (.int x5)] [oX11 ao atext atold aL aC alaw aotherLaw anow atrial ahistory aguess acrewPlan amoatPlan achance io_wind io_spadeLimit, oX0 achance ichance_seed, rI Y (achance 2) 10 cchance_best, oX8 atold itold_size, rJ Y (atold 1) 12 ctold_numbers] [] := by
  unfold fX11_rests_b53 at hf
  exact fx_loop (P := fun s : Int32 × (Nat → Int64) × Int32 × Int32 => ax X 0 0 53 [some (.ref (ao 0)), some (.int x1), some (.int x2), some (.int s.2.2.1), some (.int x4), some (.int s.2.2.2)] [oX11 ao atext atold aL aC alaw aotherLaw anow atrial ahistory aguess acrewPlan amoatPlan achance io_wind io_spadeLimit, oX0 achance ichance_seed, rI Y (achance 2) 10 cchance_best, oX8 atold s.1, rJ Y (atold 1) 12 s.2.1] []) (fun s k53 hk53 h => kX11_rests_l53 C hQ hk43 hk53 h) FUEL (itold_size, ctold_numbers, x3, x5) hf
def fX11_rests_l43 (cchance_best : Nat → Int32) (x1 : Int32) (x2 : Int32) (k43 : Int32 × (Nat → Int64) × Int32 × Int32 → Option (Int32 × (Nat → Int32) × Int32 × (Nat → Int64))) (itold_size : Int32) (ctold_numbers : Nat → Int64) (x3 : Int32) (x4 : Int32) : Option (Int32 × (Nat → Int32) × Int32 × (Nat → Int64)) :=
  if (9 : Int32) < x4 then (fX11_rests_b108 cchance_best itold_size ctold_numbers x3) else (fX11_rests_b53 cchance_best itold_size ctold_numbers x1 x2 x3 x4 (0 : Int32) k43)
def fX11_rests_b43 (cchance_best : Nat → Int32) (itold_size : Int32) (ctold_numbers : Nat → Int64) (x1 : Int32) (x2 : Int32) (x3 : Int32) (x4 : Int32) : Option (Int32 × (Nat → Int32) × Int32 × (Nat → Int64)) :=
  loopN (fun (s : Int32 × (Nat → Int64) × Int32 × Int32) k43 => fX11_rests_l43 cchance_best x1 x2 k43 s.1 s.2.1 s.2.2.1 s.2.2.2) FUEL (itold_size, ctold_numbers, x3, x4)
set_option maxHeartbeats 400000 in
set_option maxRecDepth 100000 in
theorem kX11_rests_l43 {X : cxT} {l : Launch} {D : va_G} {Y : Nat → ClassId} {ao atext atold aL aC alaw aotherLaw anow atrial ahistory aguess acrewPlan amoatPlan achance : Nat → Nat} {io_wind : Int32} {io_spadeLimit : Int32} {ichance_seed : Int32} {cchance_best : Nat → Int32} {itold_size : Int32} {ctold_numbers : Nat → Int64} {x1 : Int32} {x2 : Int32} {x3 : Int32} {x4 : Int32} {res : Int32 × (Nat → Int32) × Int32 × (Nat → Int64)} (C : axC X l D Y cX11_rests 6 RX11 wsX11_rests rmX11_rests (some .int)) (hQ : axQ X 0 0 (fun r9 w9 => r9 = (some (.int res.1)) ∧ w9 = [oX11 ao atext atold aL aC alaw aotherLaw anow atrial ahistory aguess acrewPlan amoatPlan achance io_wind io_spadeLimit, oX0 achance ichance_seed, rI Y (achance 2) 10 res.2.1, oX8 atold res.2.2.1, rJ Y (atold 1) 12 res.2.2.2])) {k43 : Int32 × (Nat → Int64) × Int32 × Int32 → Option (Int32 × (Nat → Int32) × Int32 × (Nat → Int64))} (hk43 : ∀ s : Int32 × (Nat → Int64) × Int32 × Int32, k43 s = some res → ax X 0 0 43 [some (.ref (ao 0)), some (.int x1), some (.int x2), some (.int s.2.2.1), some (.int s.2.2.2), none] [oX11 ao atext atold aL aC alaw aotherLaw anow atrial ahistory aguess acrewPlan amoatPlan achance io_wind io_spadeLimit, oX0 achance ichance_seed, rI Y (achance 2) 10 cchance_best, oX8 atold s.1, rJ Y (atold 1) 12 s.2.1] []) (hf : fX11_rests_l43 cchance_best x1 x2 k43 itold_size ctold_numbers x3 x4 = some res) : ax X 0 0 43 [some (.ref (ao 0)), some (.int x1), some (.int x2), some (.int x3), some (.int x4), none] [oX11 ao atext atold aL aC alaw aotherLaw anow atrial ahistory aguess acrewPlan amoatPlan achance io_wind io_spadeLimit, oX0 achance ichance_seed, rI Y (achance 2) 10 cchance_best, oX8 atold itold_size, rJ Y (atold 1) 12 ctold_numbers] [] := by
  unfold fX11_rests_l43 at hf
  refine a_iload C dX11_rests_43 rfl ?_
  refine a_bipush C (9 : Int32) dX11_rests_45 (by decide) ?_
  refine a_icmp_gt C 108 dX11_rests_47 (by decide) (fun h6 => ?_) (fun h6 => ?_)
  · have hf := fx_t h6 hf
    refine a_kill [0, 1, 2, 4] ?_
    exact kX11_rests_b108 C hQ hf
  · have hf := fx_f h6 hf
    refine a_iconst C (0 : Int32) dX11_rests_50 (by decide) ?_
    refine a_istore C dX11_rests_51 (by decide) rfl ?_
    exact kX11_rests_b53 C hQ hk43 hf
set_option maxHeartbeats 400000 in
set_option maxRecDepth 100000 in
theorem kX11_rests_b43 {X : cxT} {l : Launch} {D : va_G} {Y : Nat → ClassId} {ao atext atold aL aC alaw aotherLaw anow atrial ahistory aguess acrewPlan amoatPlan achance : Nat → Nat} {io_wind : Int32} {io_spadeLimit : Int32} {ichance_seed : Int32} {cchance_best : Nat → Int32} {itold_size : Int32} {ctold_numbers : Nat → Int64} {x1 : Int32} {x2 : Int32} {x3 : Int32} {x4 : Int32} {res : Int32 × (Nat → Int32) × Int32 × (Nat → Int64)} (C : axC X l D Y cX11_rests 6 RX11 wsX11_rests rmX11_rests (some .int)) (hQ : axQ X 0 0 (fun r9 w9 => r9 = (some (.int res.1)) ∧ w9 = [oX11 ao atext atold aL aC alaw aotherLaw anow atrial ahistory aguess acrewPlan amoatPlan achance io_wind io_spadeLimit, oX0 achance ichance_seed, rI Y (achance 2) 10 res.2.1, oX8 atold res.2.2.1, rJ Y (atold 1) 12 res.2.2.2])) (hf : fX11_rests_b43 cchance_best itold_size ctold_numbers x1 x2 x3 x4 = some res) : ax X 0 0 43 [some (.ref (ao 0)), some (.int x1), some (.int x2), some (.int x3), some (.int x4), none] [oX11 ao atext atold aL aC alaw aotherLaw anow atrial ahistory aguess acrewPlan amoatPlan achance io_wind io_spadeLimit, oX0 achance ichance_seed, rI Y (achance 2) 10 cchance_best, oX8 atold itold_size, rJ Y (atold 1) 12 ctold_numbers] [] := by
  unfold fX11_rests_b43 at hf
  exact fx_loop (P := fun s : Int32 × (Nat → Int64) × Int32 × Int32 => ax X 0 0 43 [some (.ref (ao 0)), some (.int x1), some (.int x2), some (.int s.2.2.1), some (.int s.2.2.2), none] [oX11 ao atext atold aL aC alaw aotherLaw anow atrial ahistory aguess acrewPlan amoatPlan achance io_wind io_spadeLimit, oX0 achance ichance_seed, rI Y (achance 2) 10 cchance_best, oX8 atold s.1, rJ Y (atold 1) 12 s.2.1] []) (fun s k43 hk43 h => kX11_rests_l43 C hQ hk43 h) FUEL (itold_size, ctold_numbers, x3, x4) hf
def fX11_rests (cchance_best : Nat → Int32) (itold_size : Int32) (ctold_numbers : Nat → Int64) (x1 : Int32) (x2 : Int32) : Option (Int32 × (Nat → Int32) × Int32 × (Nat → Int64)) :=
  (fX11_within x1 (1 : Int32) (99 : Int32)).bind (fun r7 => if r7 = (0 : Int32) then (fX11_rests_b20 cchance_best itold_size ctold_numbers) else ((fX11_within x2 (0 : Int32) (9 : Int32)).bind (fun r9 => if r9 = (0 : Int32) then (fX11_rests_b20 cchance_best itold_size ctold_numbers) else ((fX0_weigh cchance_best x1 x2).bind (fun r11 => (fX8_clear itold_size).bind (fun r12 => fX11_rests_b43 r11 r12 ctold_numbers x1 x2 (0 : Int32) (0 : Int32)))))))
set_option maxHeartbeats 400000 in
set_option maxRecDepth 100000 in
theorem kX11_rests (l : Launch) (D : va_G) (Y : Nat → ClassId) (ao atext atold aL aC alaw aotherLaw anow atrial ahistory aguess acrewPlan amoatPlan achance : Nat → Nat) (io_wind : Int32) (io_spadeLimit : Int32) (ichance_seed : Int32) (cchance_best : Nat → Int32) (itold_size : Int32) (ctold_numbers : Nat → Int64) (x1 : Int32) (x2 : Int32) (res : Int32 × (Nat → Int32) × Int32 × (Nat → Int64)) (hf : fX11_rests cchance_best itold_size ctold_numbers x1 x2 = some res) : amf l D Y yX11_rests wsX11_rests rmX11_rests [.ref (ao 0), .int x1, .int x2] [oX11 ao atext atold aL aC alaw aotherLaw anow atrial ahistory aguess acrewPlan amoatPlan achance io_wind io_spadeLimit, oX0 achance ichance_seed, rI Y (achance 2) 10 cchance_best, oX8 atold itold_size, rJ Y (atold 1) 12 ctold_numbers] (some (.int res.1)) [oX11 ao atext atold aL aC alaw aotherLaw anow atrial ahistory aguess acrewPlan amoatPlan achance io_wind io_spadeLimit, oX0 achance ichance_seed, rI Y (achance 2) 10 res.2.1, oX8 atold res.2.2.1, rJ Y (atold 1) 12 res.2.2.2] := by
  refine amf.of (cc := cX11_rests) (maxL := 6) (rt := (some .int)) (by decide) rfl RX11 rfl (Nat.le_of_ble_eq_true rfl) [some (.ref (ao 0)), some (.int x1), some (.int x2), none, none, none] rfl ?_
  intro X C hQ
  unfold fX11_rests at hf
  refine a_iload_n C dX11_rests_0 rfl ?_
  refine a_iconst C (1 : Int32) dX11_rests_1 (by decide) ?_
  refine a_bipush C (99 : Int32) dX11_rests_2 (by decide) ?_
  obtain ⟨r7, h7, hf⟩ := fx_bind hf
  refine a_fS C (kX11_within l D Y x1 (1 : Int32) (99 : Int32) r7 h7) (gB_X11_203 _) rfl dvX11_within ⟨⟨rfl, rfl⟩, ⟨Nat.le_of_ble_eq_true rfl, Nat.le_of_ble_eq_true rfl⟩, ⟨Nat.le_of_ble_eq_true rfl, Nat.le_of_ble_eq_true rfl⟩⟩ rfl (Nat.le_of_ble_eq_true rfl) dX11_rests_4 [] [0, 1, 2, 3, 4] trivial (by decide +kernel) rfl [oX11 ao atext atold aL aC alaw aotherLaw anow atrial ahistory aguess acrewPlan amoatPlan achance io_wind io_spadeLimit, oX0 achance ichance_seed, rI Y (achance 2) 10 cchance_best, oX8 atold itold_size, rJ Y (atold 1) 12 ctold_numbers] trivial ⟨rfl, rfl, rfl, rfl, rfl, trivial⟩ 5 rfl (by decide +kernel) ?_
  refine a_if_eq C 20 dX11_rests_7 (by decide) (fun h8 => ?_) (fun h8 => ?_)
  · have hf := fx_t h8 hf
    refine a_kill [0, 1, 2] ?_
    exact kX11_rests_b20 C hQ hf
  · have hf := fx_f h8 hf
    refine a_iload_n C dX11_rests_10 rfl ?_
    refine a_iconst C (0 : Int32) dX11_rests_11 (by decide) ?_
    refine a_bipush C (9 : Int32) dX11_rests_12 (by decide) ?_
    obtain ⟨r9, h9, hf⟩ := fx_bind hf
    refine a_fS C (kX11_within l D Y x2 (0 : Int32) (9 : Int32) r9 h9) (gB_X11_203 _) rfl dvX11_within ⟨⟨rfl, rfl⟩, ⟨Nat.le_of_ble_eq_true rfl, Nat.le_of_ble_eq_true rfl⟩, ⟨Nat.le_of_ble_eq_true rfl, Nat.le_of_ble_eq_true rfl⟩⟩ rfl (Nat.le_of_ble_eq_true rfl) dX11_rests_14 [] [0, 1, 2, 3, 4] trivial (by decide +kernel) rfl [oX11 ao atext atold aL aC alaw aotherLaw anow atrial ahistory aguess acrewPlan amoatPlan achance io_wind io_spadeLimit, oX0 achance ichance_seed, rI Y (achance 2) 10 cchance_best, oX8 atold itold_size, rJ Y (atold 1) 12 ctold_numbers] trivial ⟨rfl, rfl, rfl, rfl, rfl, trivial⟩ 5 rfl (by decide +kernel) ?_
    refine a_if_ne C 22 dX11_rests_17 (by decide) (fun h10 => ?_) (fun h10 => ?_)
    · have hf := fx_f h10 hf
      refine a_aload_n C dX11_rests_22 rfl ?_
      refine a_get C (eB_X11_106 _) dX11_rests_23 0 rfl rfl ?_
      refine a_iload_n C dX11_rests_26 rfl ?_
      refine a_iload_n C dX11_rests_27 rfl ?_
      obtain ⟨r11, h11, hf⟩ := fx_bind hf
      refine a_fV C (kX0_weigh l D Y achance ichance_seed cchance_best x1 x2 r11 h11) (gB_X11_363 _) rfl dvX0_weigh ⟨⟨rfl, rfl⟩, ⟨Nat.le_of_ble_eq_true rfl, Nat.le_of_ble_eq_true rfl⟩, ⟨Nat.le_of_ble_eq_true rfl, Nat.le_of_ble_eq_true rfl⟩⟩ rfl (Nat.le_of_ble_eq_true rfl) dX11_rests_28 rfl rfl [1, 2] [0, 3, 4] ⟨rfl, rfl, trivial⟩ (by decide +kernel) rfl [oX11 ao atext atold aL aC alaw aotherLaw anow atrial ahistory aguess acrewPlan amoatPlan achance io_wind io_spadeLimit, oX0 achance ichance_seed, rI Y (achance 2) 10 r11, oX8 atold itold_size, rJ Y (atold 1) 12 ctold_numbers] ⟨rfl, rfl, trivial⟩ ⟨rfl, rfl, rfl, trivial⟩ 5 rfl (by decide +kernel) ?_
      refine a_aload_n C dX11_rests_31 rfl ?_
      refine a_get C (eB_X11_19 _) dX11_rests_32 0 rfl rfl ?_
      obtain ⟨r12, h12, hf⟩ := fx_bind hf
      refine a_fV C (kX8_clear l D Y atold itold_size r12 h12) (gB_X11_305 _) rfl dvX8_clear ⟨⟨rfl, rfl⟩, ⟨Nat.le_of_ble_eq_true rfl, Nat.le_of_ble_eq_true rfl⟩, ⟨Nat.le_of_ble_eq_true rfl, Nat.le_of_ble_eq_true rfl⟩⟩ rfl (Nat.le_of_ble_eq_true rfl) dX11_rests_35 rfl rfl [3] [0, 1, 2, 4] ⟨rfl, trivial⟩ (by decide +kernel) rfl [oX11 ao atext atold aL aC alaw aotherLaw anow atrial ahistory aguess acrewPlan amoatPlan achance io_wind io_spadeLimit, oX0 achance ichance_seed, rI Y (achance 2) 10 r11, oX8 atold r12, rJ Y (atold 1) 12 ctold_numbers] ⟨rfl, trivial⟩ ⟨rfl, rfl, rfl, rfl, trivial⟩ 5 rfl (by decide +kernel) ?_
      refine a_iconst C (0 : Int32) dX11_rests_38 (by decide) ?_
      refine a_istore_n C dX11_rests_39 (by decide) rfl ?_
      refine a_iconst C (0 : Int32) dX11_rests_40 (by decide) ?_
      refine a_istore C dX11_rests_41 (by decide) rfl ?_
      exact kX11_rests_b43 C hQ hf
    · have hf := fx_t h10 hf
      refine a_kill [0, 1, 2] ?_
      exact kX11_rests_b20 C hQ hf
-- X11_keep
abbrev rmX11_keep : Room := { frames := 2, cells := 0, slots := 0, locals := 61 }
theorem dvX11_keep : yX11_keep.cls = RX11 ∧ yX11_keep.cls ≠ "java/lang/invoke/MethodHandle" ∧ yX11_keep.cls ≠ "java/lang/invoke/VarHandle" ∧ (parseMethodDescriptor yX11_keep.desc).map (fun d => d.parameters.length) = some 1 := by decide +kernel
def fX11_keep (co_keptChildren : Nat → Int32) (iC_size : Int32) (ikept_moats : Nat → Int32) (ikept_spades : Nat → Int32) (ikept_tides : Nat → Int32) (ckept_wall : Nat → Nat → Int32) (ckept_depth : Nat → Nat → Int32) (ckept_mood : Nat → Nat → Int32) (ckept_place : Nat → Nat → Int32) (inow_moats : Int32) (inow_spades : Int32) (inow_tides : Int32) (cnow_wall : Nat → Int32) (cnow_depth : Nat → Int32) (cnow_mood : Nat → Int32) (cnow_place : Nat → Int32) (x1 : Int32) : Option (Int32 × (Nat → Int32) × (Nat → Int32) × (Nat → Int32) × (Nat → Int32) × (Nat → Nat → Int32) × (Nat → Nat → Int32) × (Nat → Nat → Int32) × (Nat → Nat → Int32)) :=
  (fX11_within x1 (0 : Int32) (2 : Int32)).bind (fun r1 => if r1 = (0 : Int32) then (some ((0 : Int32), co_keptChildren, ikept_moats, ikept_spades, ikept_tides, ckept_wall, ckept_depth, ckept_mood, ckept_place)) else (if inb x1 3 then (fX9_copy (ikept_moats (Int32.toNatClampNeg x1)) (ikept_spades (Int32.toNatClampNeg x1)) (ikept_tides (Int32.toNatClampNeg x1)) (ckept_wall (Int32.toNatClampNeg x1)) (ckept_depth (Int32.toNatClampNeg x1)) (ckept_mood (Int32.toNatClampNeg x1)) (ckept_place (Int32.toNatClampNeg x1)) inow_moats inow_spades inow_tides cnow_wall cnow_depth cnow_mood cnow_place).bind (fun r5 => some ((1 : Int32), (upd co_keptChildren (Int32.toNatClampNeg x1) iC_size), (va_up ikept_moats (Int32.toNatClampNeg x1) r5.1), (va_up ikept_spades (Int32.toNatClampNeg x1) r5.2.1), (va_up ikept_tides (Int32.toNatClampNeg x1) r5.2.2.1), (va_up ckept_wall (Int32.toNatClampNeg x1) r5.2.2.2.1), (va_up ckept_depth (Int32.toNatClampNeg x1) r5.2.2.2.2.1), (va_up ckept_mood (Int32.toNatClampNeg x1) r5.2.2.2.2.2.1), (va_up ckept_place (Int32.toNatClampNeg x1) r5.2.2.2.2.2.2))) else none))
set_option maxHeartbeats 4000000 in
set_option maxRecDepth 100000 in
theorem kX11_keep (l : Launch) (D : va_G) (Y : Nat → ClassId) (ao atext atold aL aC alaw aotherLaw anow atrial ahistory aguess acrewPlan amoatPlan achance : Nat → Nat) (akept : Nat → Nat → Nat) (io_wind : Int32) (io_spadeLimit : Int32) (co_keptChildren : Nat → Int32) (iC_size : Int32) (ikept_moats : Nat → Int32) (ikept_spades : Nat → Int32) (ikept_tides : Nat → Int32) (ckept_wall : Nat → Nat → Int32) (ckept_depth : Nat → Nat → Int32) (ckept_mood : Nat → Nat → Int32) (ckept_place : Nat → Nat → Int32) (inow_moats : Int32) (inow_spades : Int32) (inow_tides : Int32) (cnow_wall : Nat → Int32) (cnow_depth : Nat → Int32) (cnow_mood : Nat → Int32) (cnow_place : Nat → Int32) (x1 : Int32) (res : Int32 × (Nat → Int32) × (Nat → Int32) × (Nat → Int32) × (Nat → Int32) × (Nat → Nat → Int32) × (Nat → Nat → Int32) × (Nat → Nat → Int32) × (Nat → Nat → Int32)) (hf : fX11_keep co_keptChildren iC_size ikept_moats ikept_spades ikept_tides ckept_wall ckept_depth ckept_mood ckept_place inow_moats inow_spades inow_tides cnow_wall cnow_depth cnow_mood cnow_place x1 = some res) : amf l D Y yX11_keep wsX11_keep rmX11_keep [.ref (ao 0), .int x1] [oX11 ao atext atold aL aC alaw aotherLaw anow atrial ahistory aguess acrewPlan amoatPlan achance io_wind io_spadeLimit, rQ Y (ao 1) 3 (fun j => some (akept j 0)), rI Y (ao 2) 3 co_keptChildren, oX2 aC iC_size, oX9 (akept 0) aL aC (ikept_moats 0) (ikept_spades 0) (ikept_tides 0), rI Y ((akept 0) 1) 12 (ckept_wall 0), rI Y ((akept 0) 2) 12 (ckept_depth 0), rI Y ((akept 0) 3) 8 (ckept_mood 0), rI Y ((akept 0) 4) 8 (ckept_place 0), oX9 (akept 1) aL aC (ikept_moats 1) (ikept_spades 1) (ikept_tides 1), rI Y ((akept 1) 1) 12 (ckept_wall 1), rI Y ((akept 1) 2) 12 (ckept_depth 1), rI Y ((akept 1) 3) 8 (ckept_mood 1), rI Y ((akept 1) 4) 8 (ckept_place 1), oX9 (akept 2) aL aC (ikept_moats 2) (ikept_spades 2) (ikept_tides 2), rI Y ((akept 2) 1) 12 (ckept_wall 2), rI Y ((akept 2) 2) 12 (ckept_depth 2), rI Y ((akept 2) 3) 8 (ckept_mood 2), rI Y ((akept 2) 4) 8 (ckept_place 2), oX9 anow aL aC inow_moats inow_spades inow_tides, rI Y (anow 1) 12 cnow_wall, rI Y (anow 2) 12 cnow_depth, rI Y (anow 3) 8 cnow_mood, rI Y (anow 4) 8 cnow_place] (some (.int res.1)) [oX11 ao atext atold aL aC alaw aotherLaw anow atrial ahistory aguess acrewPlan amoatPlan achance io_wind io_spadeLimit, rQ Y (ao 1) 3 (fun j => some (akept j 0)), rI Y (ao 2) 3 res.2.1, oX2 aC iC_size, oX9 (akept 0) aL aC (res.2.2.1 0) (res.2.2.2.1 0) (res.2.2.2.2.1 0), rI Y ((akept 0) 1) 12 (res.2.2.2.2.2.1 0), rI Y ((akept 0) 2) 12 (res.2.2.2.2.2.2.1 0), rI Y ((akept 0) 3) 8 (res.2.2.2.2.2.2.2.1 0), rI Y ((akept 0) 4) 8 (res.2.2.2.2.2.2.2.2 0), oX9 (akept 1) aL aC (res.2.2.1 1) (res.2.2.2.1 1) (res.2.2.2.2.1 1), rI Y ((akept 1) 1) 12 (res.2.2.2.2.2.1 1), rI Y ((akept 1) 2) 12 (res.2.2.2.2.2.2.1 1), rI Y ((akept 1) 3) 8 (res.2.2.2.2.2.2.2.1 1), rI Y ((akept 1) 4) 8 (res.2.2.2.2.2.2.2.2 1), oX9 (akept 2) aL aC (res.2.2.1 2) (res.2.2.2.1 2) (res.2.2.2.2.1 2), rI Y ((akept 2) 1) 12 (res.2.2.2.2.2.1 2), rI Y ((akept 2) 2) 12 (res.2.2.2.2.2.2.1 2), rI Y ((akept 2) 3) 8 (res.2.2.2.2.2.2.2.1 2), rI Y ((akept 2) 4) 8 (res.2.2.2.2.2.2.2.2 2), oX9 anow aL aC inow_moats inow_spades inow_tides, rI Y (anow 1) 12 cnow_wall, rI Y (anow 2) 12 cnow_depth, rI Y (anow 3) 8 cnow_mood, rI Y (anow 4) 8 cnow_place] := by
  refine amf.of (cc := cX11_keep) (maxL := 2) (rt := (some .boolean)) (by decide) rfl RX11 rfl (Nat.le_of_ble_eq_true rfl) [some (.ref (ao 0)), some (.int x1)] rfl ?_
  intro X C hQ
  unfold fX11_keep at hf
  refine a_iload_n C dX11_keep_0 rfl ?_
  refine a_iconst C (0 : Int32) dX11_keep_1 (by decide) ?_
  refine a_iconst C (2 : Int32) dX11_keep_2 (by decide) ?_
  obtain ⟨r1, h1, hf⟩ := fx_bind hf
  refine a_fS C (kX11_within l D Y x1 (0 : Int32) (2 : Int32) r1 h1) (gB_X11_203 _) rfl dvX11_within ⟨⟨rfl, rfl⟩, ⟨Nat.le_of_ble_eq_true rfl, Nat.le_of_ble_eq_true rfl⟩, ⟨Nat.le_of_ble_eq_true rfl, Nat.le_of_ble_eq_true rfl⟩⟩ rfl (Nat.le_of_ble_eq_true rfl) dX11_keep_3 [] [0, 1, 2, 3, 4, 5, 6, 7, 8, 9, 10, 11, 12, 13, 14, 15, 16, 17, 18, 19, 20, 21, 22, 23] trivial (by decide +kernel) rfl [oX11 ao atext atold aL aC alaw aotherLaw anow atrial ahistory aguess acrewPlan amoatPlan achance io_wind io_spadeLimit, rQ Y (ao 1) 3 (fun j => some (akept j 0)), rI Y (ao 2) 3 co_keptChildren, oX2 aC iC_size, oX9 (akept 0) aL aC (ikept_moats 0) (ikept_spades 0) (ikept_tides 0), rI Y ((akept 0) 1) 12 (ckept_wall 0), rI Y ((akept 0) 2) 12 (ckept_depth 0), rI Y ((akept 0) 3) 8 (ckept_mood 0), rI Y ((akept 0) 4) 8 (ckept_place 0), oX9 (akept 1) aL aC (ikept_moats 1) (ikept_spades 1) (ikept_tides 1), rI Y ((akept 1) 1) 12 (ckept_wall 1), rI Y ((akept 1) 2) 12 (ckept_depth 1), rI Y ((akept 1) 3) 8 (ckept_mood 1), rI Y ((akept 1) 4) 8 (ckept_place 1), oX9 (akept 2) aL aC (ikept_moats 2) (ikept_spades 2) (ikept_tides 2), rI Y ((akept 2) 1) 12 (ckept_wall 2), rI Y ((akept 2) 2) 12 (ckept_depth 2), rI Y ((akept 2) 3) 8 (ckept_mood 2), rI Y ((akept 2) 4) 8 (ckept_place 2), oX9 anow aL aC inow_moats inow_spades inow_tides, rI Y (anow 1) 12 cnow_wall, rI Y (anow 2) 12 cnow_depth, rI Y (anow 3) 8 cnow_mood, rI Y (anow 4) 8 cnow_place] trivial ⟨rfl, rfl, rfl, rfl, rfl, rfl, rfl, rfl, rfl, rfl, rfl, rfl, rfl, rfl, rfl, rfl, rfl, rfl, rfl, rfl, rfl, rfl, rfl, rfl, trivial⟩ 24 rfl (by decide +kernel) ?_
  refine a_if_ne C 11 dX11_keep_6 (by decide) (fun h2 => ?_) (fun h2 => ?_)
  · have hf := fx_f h2 hf
    refine a_aload_n C dX11_keep_11 rfl ?_
    refine a_get C (eB_X11_70 _) dX11_keep_12 0 rfl rfl ?_
    refine a_iload_n C dX11_keep_15 rfl ?_
    obtain ⟨h3, hf⟩ := fx_ite hf
    obtain ⟨j4, hj4, ej4⟩ := vp_in_of h3 (by decide)
    have ek4 : (Int32.toNatClampNeg x1) = j4 := by rw [ej4]; exact nI_clamp (by omega)
    rw [ek4] at hf
    rcases (show j4 = 0 ∨ j4 = 1 ∨ j4 = 2 by omega) with rfl | rfl | rfl
    · refine a_aldq (v := akept 0 0) C dX11_keep_16 1 rfl h3 (by rw [ek4]) ?_
      refine a_aload_n C dX11_keep_17 rfl ?_
      refine a_get C (eB_X11_56 _) dX11_keep_18 0 rfl rfl ?_
      obtain ⟨r5, h5, hf⟩ := fx_bind hf
      refine a_fV C (kX9_copy l D Y (akept 0) aL aC anow (ikept_moats 0) (ikept_spades 0) (ikept_tides 0) (ckept_wall 0) (ckept_depth 0) (ckept_mood 0) (ckept_place 0) inow_moats inow_spades inow_tides cnow_wall cnow_depth cnow_mood cnow_place r5 h5) (gB_X11_282 _) rfl dvX9_copy ⟨⟨rfl, rfl⟩, ⟨Nat.le_of_ble_eq_true rfl, Nat.le_of_ble_eq_true rfl⟩, ⟨Nat.le_of_ble_eq_true rfl, Nat.le_of_ble_eq_true rfl⟩⟩ rfl (Nat.le_of_ble_eq_true rfl) dX11_keep_21 rfl rfl [4, 5, 6, 7, 8, 19, 20, 21, 22, 23] [0, 1, 2, 3, 9, 10, 11, 12, 13, 14, 15, 16, 17, 18] ⟨rfl, rfl, rfl, rfl, rfl, rfl, rfl, rfl, rfl, rfl, trivial⟩ (by decide +kernel) rfl [oX11 ao atext atold aL aC alaw aotherLaw anow atrial ahistory aguess acrewPlan amoatPlan achance io_wind io_spadeLimit, rQ Y (ao 1) 3 (fun j => some (akept j 0)), rI Y (ao 2) 3 co_keptChildren, oX2 aC iC_size, oX9 (akept 0) aL aC r5.1 r5.2.1 r5.2.2.1, rI Y ((akept 0) 1) 12 r5.2.2.2.1, rI Y ((akept 0) 2) 12 r5.2.2.2.2.1, rI Y ((akept 0) 3) 8 r5.2.2.2.2.2.1, rI Y ((akept 0) 4) 8 r5.2.2.2.2.2.2, oX9 (akept 1) aL aC (ikept_moats 1) (ikept_spades 1) (ikept_tides 1), rI Y ((akept 1) 1) 12 (ckept_wall 1), rI Y ((akept 1) 2) 12 (ckept_depth 1), rI Y ((akept 1) 3) 8 (ckept_mood 1), rI Y ((akept 1) 4) 8 (ckept_place 1), oX9 (akept 2) aL aC (ikept_moats 2) (ikept_spades 2) (ikept_tides 2), rI Y ((akept 2) 1) 12 (ckept_wall 2), rI Y ((akept 2) 2) 12 (ckept_depth 2), rI Y ((akept 2) 3) 8 (ckept_mood 2), rI Y ((akept 2) 4) 8 (ckept_place 2), oX9 anow aL aC inow_moats inow_spades inow_tides, rI Y (anow 1) 12 cnow_wall, rI Y (anow 2) 12 cnow_depth, rI Y (anow 3) 8 cnow_mood, rI Y (anow 4) 8 cnow_place] ⟨rfl, rfl, rfl, rfl, rfl, rfl, rfl, rfl, rfl, rfl, trivial⟩ ⟨rfl, rfl, rfl, rfl, rfl, rfl, rfl, rfl, rfl, rfl, rfl, rfl, rfl, rfl, trivial⟩ 24 rfl (by decide +kernel) ?_
      refine a_aload_n C dX11_keep_24 rfl ?_
      refine a_get C (eB_X11_74 _) dX11_keep_25 0 rfl rfl ?_
      refine a_iload_n C dX11_keep_28 rfl ?_
      refine a_aload_n C dX11_keep_29 rfl ?_
      refine a_get C (eB_X11_33 _) dX11_keep_30 0 rfl rfl ?_
      refine a_get C (eB_X11_134 _) dX11_keep_33 3 rfl rfl ?_
      refine a_iast C dX11_keep_36 2 rfl h3 ?_
      refine a_iconst C (1 : Int32) dX11_keep_37 (by decide) ?_
      obtain rfl := fx_some hf
      rw [ek4]
      exact a_zret C hQ (Or.inr rfl) dX11_keep_38 ⟨rfl, rfl⟩
    · refine a_aldq (v := akept 1 0) C dX11_keep_16 1 rfl h3 (by rw [ek4]) ?_
      refine a_aload_n C dX11_keep_17 rfl ?_
      refine a_get C (eB_X11_56 _) dX11_keep_18 0 rfl rfl ?_
      obtain ⟨r5, h5, hf⟩ := fx_bind hf
      refine a_fV C (kX9_copy l D Y (akept 1) aL aC anow (ikept_moats 1) (ikept_spades 1) (ikept_tides 1) (ckept_wall 1) (ckept_depth 1) (ckept_mood 1) (ckept_place 1) inow_moats inow_spades inow_tides cnow_wall cnow_depth cnow_mood cnow_place r5 h5) (gB_X11_282 _) rfl dvX9_copy ⟨⟨rfl, rfl⟩, ⟨Nat.le_of_ble_eq_true rfl, Nat.le_of_ble_eq_true rfl⟩, ⟨Nat.le_of_ble_eq_true rfl, Nat.le_of_ble_eq_true rfl⟩⟩ rfl (Nat.le_of_ble_eq_true rfl) dX11_keep_21 rfl rfl [9, 10, 11, 12, 13, 19, 20, 21, 22, 23] [0, 1, 2, 3, 4, 5, 6, 7, 8, 14, 15, 16, 17, 18] ⟨rfl, rfl, rfl, rfl, rfl, rfl, rfl, rfl, rfl, rfl, trivial⟩ (by decide +kernel) rfl [oX11 ao atext atold aL aC alaw aotherLaw anow atrial ahistory aguess acrewPlan amoatPlan achance io_wind io_spadeLimit, rQ Y (ao 1) 3 (fun j => some (akept j 0)), rI Y (ao 2) 3 co_keptChildren, oX2 aC iC_size, oX9 (akept 0) aL aC (ikept_moats 0) (ikept_spades 0) (ikept_tides 0), rI Y ((akept 0) 1) 12 (ckept_wall 0), rI Y ((akept 0) 2) 12 (ckept_depth 0), rI Y ((akept 0) 3) 8 (ckept_mood 0), rI Y ((akept 0) 4) 8 (ckept_place 0), oX9 (akept 1) aL aC r5.1 r5.2.1 r5.2.2.1, rI Y ((akept 1) 1) 12 r5.2.2.2.1, rI Y ((akept 1) 2) 12 r5.2.2.2.2.1, rI Y ((akept 1) 3) 8 r5.2.2.2.2.2.1, rI Y ((akept 1) 4) 8 r5.2.2.2.2.2.2, oX9 (akept 2) aL aC (ikept_moats 2) (ikept_spades 2) (ikept_tides 2), rI Y ((akept 2) 1) 12 (ckept_wall 2), rI Y ((akept 2) 2) 12 (ckept_depth 2), rI Y ((akept 2) 3) 8 (ckept_mood 2), rI Y ((akept 2) 4) 8 (ckept_place 2), oX9 anow aL aC inow_moats inow_spades inow_tides, rI Y (anow 1) 12 cnow_wall, rI Y (anow 2) 12 cnow_depth, rI Y (anow 3) 8 cnow_mood, rI Y (anow 4) 8 cnow_place] ⟨rfl, rfl, rfl, rfl, rfl, rfl, rfl, rfl, rfl, rfl, trivial⟩ ⟨rfl, rfl, rfl, rfl, rfl, rfl, rfl, rfl, rfl, rfl, rfl, rfl, rfl, rfl, trivial⟩ 24 rfl (by decide +kernel) ?_
      refine a_aload_n C dX11_keep_24 rfl ?_
      refine a_get C (eB_X11_74 _) dX11_keep_25 0 rfl rfl ?_
      refine a_iload_n C dX11_keep_28 rfl ?_
      refine a_aload_n C dX11_keep_29 rfl ?_
      refine a_get C (eB_X11_33 _) dX11_keep_30 0 rfl rfl ?_
      refine a_get C (eB_X11_134 _) dX11_keep_33 3 rfl rfl ?_
      refine a_iast C dX11_keep_36 2 rfl h3 ?_
      refine a_iconst C (1 : Int32) dX11_keep_37 (by decide) ?_
      obtain rfl := fx_some hf
      rw [ek4]
      exact a_zret C hQ (Or.inr rfl) dX11_keep_38 ⟨rfl, rfl⟩
    · refine a_aldq (v := akept 2 0) C dX11_keep_16 1 rfl h3 (by rw [ek4]) ?_
      refine a_aload_n C dX11_keep_17 rfl ?_
      refine a_get C (eB_X11_56 _) dX11_keep_18 0 rfl rfl ?_
      obtain ⟨r5, h5, hf⟩ := fx_bind hf
      refine a_fV C (kX9_copy l D Y (akept 2) aL aC anow (ikept_moats 2) (ikept_spades 2) (ikept_tides 2) (ckept_wall 2) (ckept_depth 2) (ckept_mood 2) (ckept_place 2) inow_moats inow_spades inow_tides cnow_wall cnow_depth cnow_mood cnow_place r5 h5) (gB_X11_282 _) rfl dvX9_copy ⟨⟨rfl, rfl⟩, ⟨Nat.le_of_ble_eq_true rfl, Nat.le_of_ble_eq_true rfl⟩, ⟨Nat.le_of_ble_eq_true rfl, Nat.le_of_ble_eq_true rfl⟩⟩ rfl (Nat.le_of_ble_eq_true rfl) dX11_keep_21 rfl rfl [14, 15, 16, 17, 18, 19, 20, 21, 22, 23] [0, 1, 2, 3, 4, 5, 6, 7, 8, 9, 10, 11, 12, 13] ⟨rfl, rfl, rfl, rfl, rfl, rfl, rfl, rfl, rfl, rfl, trivial⟩ (by decide +kernel) rfl [oX11 ao atext atold aL aC alaw aotherLaw anow atrial ahistory aguess acrewPlan amoatPlan achance io_wind io_spadeLimit, rQ Y (ao 1) 3 (fun j => some (akept j 0)), rI Y (ao 2) 3 co_keptChildren, oX2 aC iC_size, oX9 (akept 0) aL aC (ikept_moats 0) (ikept_spades 0) (ikept_tides 0), rI Y ((akept 0) 1) 12 (ckept_wall 0), rI Y ((akept 0) 2) 12 (ckept_depth 0), rI Y ((akept 0) 3) 8 (ckept_mood 0), rI Y ((akept 0) 4) 8 (ckept_place 0), oX9 (akept 1) aL aC (ikept_moats 1) (ikept_spades 1) (ikept_tides 1), rI Y ((akept 1) 1) 12 (ckept_wall 1), rI Y ((akept 1) 2) 12 (ckept_depth 1), rI Y ((akept 1) 3) 8 (ckept_mood 1), rI Y ((akept 1) 4) 8 (ckept_place 1), oX9 (akept 2) aL aC r5.1 r5.2.1 r5.2.2.1, rI Y ((akept 2) 1) 12 r5.2.2.2.1, rI Y ((akept 2) 2) 12 r5.2.2.2.2.1, rI Y ((akept 2) 3) 8 r5.2.2.2.2.2.1, rI Y ((akept 2) 4) 8 r5.2.2.2.2.2.2, oX9 anow aL aC inow_moats inow_spades inow_tides, rI Y (anow 1) 12 cnow_wall, rI Y (anow 2) 12 cnow_depth, rI Y (anow 3) 8 cnow_mood, rI Y (anow 4) 8 cnow_place] ⟨rfl, rfl, rfl, rfl, rfl, rfl, rfl, rfl, rfl, rfl, trivial⟩ ⟨rfl, rfl, rfl, rfl, rfl, rfl, rfl, rfl, rfl, rfl, rfl, rfl, rfl, rfl, trivial⟩ 24 rfl (by decide +kernel) ?_
      refine a_aload_n C dX11_keep_24 rfl ?_
      refine a_get C (eB_X11_74 _) dX11_keep_25 0 rfl rfl ?_
      refine a_iload_n C dX11_keep_28 rfl ?_
      refine a_aload_n C dX11_keep_29 rfl ?_
      refine a_get C (eB_X11_33 _) dX11_keep_30 0 rfl rfl ?_
      refine a_get C (eB_X11_134 _) dX11_keep_33 3 rfl rfl ?_
      refine a_iast C dX11_keep_36 2 rfl h3 ?_
      refine a_iconst C (1 : Int32) dX11_keep_37 (by decide) ?_
      obtain rfl := fx_some hf
      rw [ek4]
      exact a_zret C hQ (Or.inr rfl) dX11_keep_38 ⟨rfl, rfl⟩
  · have hf := fx_t h2 hf
    refine a_iconst C (0 : Int32) dX11_keep_9 (by decide) ?_
    obtain rfl := fx_some hf
    exact a_zret C hQ (Or.inl rfl) dX11_keep_10 ⟨rfl, rfl⟩
-- X11_again
abbrev rmX11_again : Room := { frames := 2, cells := 0, slots := 0, locals := 61 }
theorem dvX11_again : yX11_again.cls = RX11 ∧ yX11_again.cls ≠ "java/lang/invoke/MethodHandle" ∧ yX11_again.cls ≠ "java/lang/invoke/VarHandle" ∧ (parseMethodDescriptor yX11_again.desc).map (fun d => d.parameters.length) = some 1 := by decide +kernel
def fX11_again_b25 (co_keptChildren : Nat → Int32) (iC_size : Int32) (ihistory_size : Int32) (ikept_moats : Nat → Int32) (ikept_spades : Nat → Int32) (ikept_tides : Nat → Int32) (ckept_wall : Nat → Nat → Int32) (ckept_depth : Nat → Nat → Int32) (ckept_mood : Nat → Nat → Int32) (ckept_place : Nat → Nat → Int32) (inow_moats : Int32) (inow_spades : Int32) (inow_tides : Int32) (cnow_wall : Nat → Int32) (cnow_depth : Nat → Int32) (cnow_mood : Nat → Int32) (cnow_place : Nat → Int32) : Option (Int32 × Int32 × Int32 × Int32 × Int32 × (Nat → Int32) × (Nat → Int32) × (Nat → Int32) × (Nat → Int32)) :=
  some ((0 : Int32), ihistory_size, inow_moats, inow_spades, inow_tides, cnow_wall, cnow_depth, cnow_mood, cnow_place)
set_option maxHeartbeats 4000000 in
set_option maxRecDepth 100000 in
theorem kX11_again_b25 {X : cxT} {l : Launch} {D : va_G} {Y : Nat → ClassId} {ao atext atold aL aC alaw aotherLaw anow atrial ahistory aguess acrewPlan amoatPlan achance : Nat → Nat} {akept : Nat → Nat → Nat} {io_wind : Int32} {io_spadeLimit : Int32} {co_keptChildren : Nat → Int32} {iC_size : Int32} {ihistory_next : Int32} {ihistory_size : Int32} {ikept_moats : Nat → Int32} {ikept_spades : Nat → Int32} {ikept_tides : Nat → Int32} {ckept_wall : Nat → Nat → Int32} {ckept_depth : Nat → Nat → Int32} {ckept_mood : Nat → Nat → Int32} {ckept_place : Nat → Nat → Int32} {inow_moats : Int32} {inow_spades : Int32} {inow_tides : Int32} {cnow_wall : Nat → Int32} {cnow_depth : Nat → Int32} {cnow_mood : Nat → Int32} {cnow_place : Nat → Int32} {res : Int32 × Int32 × Int32 × Int32 × Int32 × (Nat → Int32) × (Nat → Int32) × (Nat → Int32) × (Nat → Int32)} (C : axC X l D Y cX11_again 2 RX11 wsX11_again rmX11_again (some .boolean)) (hQ : axQ X 0 0 (fun r9 w9 => r9 = (some (.int res.1)) ∧ w9 = [oX11 ao atext atold aL aC alaw aotherLaw anow atrial ahistory aguess acrewPlan amoatPlan achance io_wind io_spadeLimit, rQ Y (ao 1) 3 (fun j => some (akept j 0)), rI Y (ao 2) 3 co_keptChildren, oX2 aC iC_size, oX4 ahistory ihistory_next res.2.1, oX9 (akept 0) aL aC (ikept_moats 0) (ikept_spades 0) (ikept_tides 0), rI Y ((akept 0) 1) 12 (ckept_wall 0), rI Y ((akept 0) 2) 12 (ckept_depth 0), rI Y ((akept 0) 3) 8 (ckept_mood 0), rI Y ((akept 0) 4) 8 (ckept_place 0), oX9 (akept 1) aL aC (ikept_moats 1) (ikept_spades 1) (ikept_tides 1), rI Y ((akept 1) 1) 12 (ckept_wall 1), rI Y ((akept 1) 2) 12 (ckept_depth 1), rI Y ((akept 1) 3) 8 (ckept_mood 1), rI Y ((akept 1) 4) 8 (ckept_place 1), oX9 (akept 2) aL aC (ikept_moats 2) (ikept_spades 2) (ikept_tides 2), rI Y ((akept 2) 1) 12 (ckept_wall 2), rI Y ((akept 2) 2) 12 (ckept_depth 2), rI Y ((akept 2) 3) 8 (ckept_mood 2), rI Y ((akept 2) 4) 8 (ckept_place 2), oX9 anow aL aC res.2.2.1 res.2.2.2.1 res.2.2.2.2.1, rI Y (anow 1) 12 res.2.2.2.2.2.1, rI Y (anow 2) 12 res.2.2.2.2.2.2.1, rI Y (anow 3) 8 res.2.2.2.2.2.2.2.1, rI Y (anow 4) 8 res.2.2.2.2.2.2.2.2])) (hf : fX11_again_b25 co_keptChildren iC_size ihistory_size ikept_moats ikept_spades ikept_tides ckept_wall ckept_depth ckept_mood ckept_place inow_moats inow_spades inow_tides cnow_wall cnow_depth cnow_mood cnow_place = some res) : ax X 0 0 25 [none, none] [oX11 ao atext atold aL aC alaw aotherLaw anow atrial ahistory aguess acrewPlan amoatPlan achance io_wind io_spadeLimit, rQ Y (ao 1) 3 (fun j => some (akept j 0)), rI Y (ao 2) 3 co_keptChildren, oX2 aC iC_size, oX4 ahistory ihistory_next ihistory_size, oX9 (akept 0) aL aC (ikept_moats 0) (ikept_spades 0) (ikept_tides 0), rI Y ((akept 0) 1) 12 (ckept_wall 0), rI Y ((akept 0) 2) 12 (ckept_depth 0), rI Y ((akept 0) 3) 8 (ckept_mood 0), rI Y ((akept 0) 4) 8 (ckept_place 0), oX9 (akept 1) aL aC (ikept_moats 1) (ikept_spades 1) (ikept_tides 1), rI Y ((akept 1) 1) 12 (ckept_wall 1), rI Y ((akept 1) 2) 12 (ckept_depth 1), rI Y ((akept 1) 3) 8 (ckept_mood 1), rI Y ((akept 1) 4) 8 (ckept_place 1), oX9 (akept 2) aL aC (ikept_moats 2) (ikept_spades 2) (ikept_tides 2), rI Y ((akept 2) 1) 12 (ckept_wall 2), rI Y ((akept 2) 2) 12 (ckept_depth 2), rI Y ((akept 2) 3) 8 (ckept_mood 2), rI Y ((akept 2) 4) 8 (ckept_place 2), oX9 anow aL aC inow_moats inow_spades inow_tides, rI Y (anow 1) 12 cnow_wall, rI Y (anow 2) 12 cnow_depth, rI Y (anow 3) 8 cnow_mood, rI Y (anow 4) 8 cnow_place] [] := by
  unfold fX11_again_b25 at hf
  refine a_iconst C (0 : Int32) dX11_again_25 (by decide) ?_
  obtain rfl := fx_some hf
  exact a_zret C hQ (Or.inl rfl) dX11_again_26 ⟨rfl, rfl⟩
def fX11_again (co_keptChildren : Nat → Int32) (iC_size : Int32) (ihistory_size : Int32) (ikept_moats : Nat → Int32) (ikept_spades : Nat → Int32) (ikept_tides : Nat → Int32) (ckept_wall : Nat → Nat → Int32) (ckept_depth : Nat → Nat → Int32) (ckept_mood : Nat → Nat → Int32) (ckept_place : Nat → Nat → Int32) (inow_moats : Int32) (inow_spades : Int32) (inow_tides : Int32) (cnow_wall : Nat → Int32) (cnow_depth : Nat → Int32) (cnow_mood : Nat → Int32) (cnow_place : Nat → Int32) (x1 : Int32) : Option (Int32 × Int32 × Int32 × Int32 × Int32 × (Nat → Int32) × (Nat → Int32) × (Nat → Int32) × (Nat → Int32)) :=
  (fX11_within x1 (0 : Int32) (2 : Int32)).bind (fun r1 => if r1 = (0 : Int32) then (fX11_again_b25 co_keptChildren iC_size ihistory_size ikept_moats ikept_spades ikept_tides ckept_wall ckept_depth ckept_mood ckept_place inow_moats inow_spades inow_tides cnow_wall cnow_depth cnow_mood cnow_place) else (if inb x1 3 then if (co_keptChildren (Int32.toNatClampNeg x1)) = iC_size then ((fX9_copy inow_moats inow_spades inow_tides cnow_wall cnow_depth cnow_mood cnow_place (ikept_moats (Int32.toNatClampNeg x1)) (ikept_spades (Int32.toNatClampNeg x1)) (ikept_tides (Int32.toNatClampNeg x1)) (ckept_wall (Int32.toNatClampNeg x1)) (ckept_depth (Int32.toNatClampNeg x1)) (ckept_mood (Int32.toNatClampNeg x1)) (ckept_place (Int32.toNatClampNeg x1))).bind (fun r6 => (fX4_clear ihistory_size).bind (fun r7 => some ((1 : Int32), r7, r6.1, r6.2.1, r6.2.2.1, r6.2.2.2.1, r6.2.2.2.2.1, r6.2.2.2.2.2.1, r6.2.2.2.2.2.2)))) else (fX11_again_b25 co_keptChildren iC_size ihistory_size ikept_moats ikept_spades ikept_tides ckept_wall ckept_depth ckept_mood ckept_place inow_moats inow_spades inow_tides cnow_wall cnow_depth cnow_mood cnow_place) else none))
set_option maxHeartbeats 4000000 in
set_option maxRecDepth 100000 in
theorem kX11_again (l : Launch) (D : va_G) (Y : Nat → ClassId) (ao atext atold aL aC alaw aotherLaw anow atrial ahistory aguess acrewPlan amoatPlan achance : Nat → Nat) (akept : Nat → Nat → Nat) (io_wind : Int32) (io_spadeLimit : Int32) (co_keptChildren : Nat → Int32) (iC_size : Int32) (ihistory_next : Int32) (ihistory_size : Int32) (ikept_moats : Nat → Int32) (ikept_spades : Nat → Int32) (ikept_tides : Nat → Int32) (ckept_wall : Nat → Nat → Int32) (ckept_depth : Nat → Nat → Int32) (ckept_mood : Nat → Nat → Int32) (ckept_place : Nat → Nat → Int32) (inow_moats : Int32) (inow_spades : Int32) (inow_tides : Int32) (cnow_wall : Nat → Int32) (cnow_depth : Nat → Int32) (cnow_mood : Nat → Int32) (cnow_place : Nat → Int32) (x1 : Int32) (res : Int32 × Int32 × Int32 × Int32 × Int32 × (Nat → Int32) × (Nat → Int32) × (Nat → Int32) × (Nat → Int32)) (hf : fX11_again co_keptChildren iC_size ihistory_size ikept_moats ikept_spades ikept_tides ckept_wall ckept_depth ckept_mood ckept_place inow_moats inow_spades inow_tides cnow_wall cnow_depth cnow_mood cnow_place x1 = some res) : amf l D Y yX11_again wsX11_again rmX11_again [.ref (ao 0), .int x1] [oX11 ao atext atold aL aC alaw aotherLaw anow atrial ahistory aguess acrewPlan amoatPlan achance io_wind io_spadeLimit, rQ Y (ao 1) 3 (fun j => some (akept j 0)), rI Y (ao 2) 3 co_keptChildren, oX2 aC iC_size, oX4 ahistory ihistory_next ihistory_size, oX9 (akept 0) aL aC (ikept_moats 0) (ikept_spades 0) (ikept_tides 0), rI Y ((akept 0) 1) 12 (ckept_wall 0), rI Y ((akept 0) 2) 12 (ckept_depth 0), rI Y ((akept 0) 3) 8 (ckept_mood 0), rI Y ((akept 0) 4) 8 (ckept_place 0), oX9 (akept 1) aL aC (ikept_moats 1) (ikept_spades 1) (ikept_tides 1), rI Y ((akept 1) 1) 12 (ckept_wall 1), rI Y ((akept 1) 2) 12 (ckept_depth 1), rI Y ((akept 1) 3) 8 (ckept_mood 1), rI Y ((akept 1) 4) 8 (ckept_place 1), oX9 (akept 2) aL aC (ikept_moats 2) (ikept_spades 2) (ikept_tides 2), rI Y ((akept 2) 1) 12 (ckept_wall 2), rI Y ((akept 2) 2) 12 (ckept_depth 2), rI Y ((akept 2) 3) 8 (ckept_mood 2), rI Y ((akept 2) 4) 8 (ckept_place 2), oX9 anow aL aC inow_moats inow_spades inow_tides, rI Y (anow 1) 12 cnow_wall, rI Y (anow 2) 12 cnow_depth, rI Y (anow 3) 8 cnow_mood, rI Y (anow 4) 8 cnow_place] (some (.int res.1)) [oX11 ao atext atold aL aC alaw aotherLaw anow atrial ahistory aguess acrewPlan amoatPlan achance io_wind io_spadeLimit, rQ Y (ao 1) 3 (fun j => some (akept j 0)), rI Y (ao 2) 3 co_keptChildren, oX2 aC iC_size, oX4 ahistory ihistory_next res.2.1, oX9 (akept 0) aL aC (ikept_moats 0) (ikept_spades 0) (ikept_tides 0), rI Y ((akept 0) 1) 12 (ckept_wall 0), rI Y ((akept 0) 2) 12 (ckept_depth 0), rI Y ((akept 0) 3) 8 (ckept_mood 0), rI Y ((akept 0) 4) 8 (ckept_place 0), oX9 (akept 1) aL aC (ikept_moats 1) (ikept_spades 1) (ikept_tides 1), rI Y ((akept 1) 1) 12 (ckept_wall 1), rI Y ((akept 1) 2) 12 (ckept_depth 1), rI Y ((akept 1) 3) 8 (ckept_mood 1), rI Y ((akept 1) 4) 8 (ckept_place 1), oX9 (akept 2) aL aC (ikept_moats 2) (ikept_spades 2) (ikept_tides 2), rI Y ((akept 2) 1) 12 (ckept_wall 2), rI Y ((akept 2) 2) 12 (ckept_depth 2), rI Y ((akept 2) 3) 8 (ckept_mood 2), rI Y ((akept 2) 4) 8 (ckept_place 2), oX9 anow aL aC res.2.2.1 res.2.2.2.1 res.2.2.2.2.1, rI Y (anow 1) 12 res.2.2.2.2.2.1, rI Y (anow 2) 12 res.2.2.2.2.2.2.1, rI Y (anow 3) 8 res.2.2.2.2.2.2.2.1, rI Y (anow 4) 8 res.2.2.2.2.2.2.2.2] := by
  refine amf.of (cc := cX11_again) (maxL := 2) (rt := (some .boolean)) (by decide) rfl RX11 rfl (Nat.le_of_ble_eq_true rfl) [some (.ref (ao 0)), some (.int x1)] rfl ?_
  intro X C hQ
  unfold fX11_again at hf
  refine a_iload_n C dX11_again_0 rfl ?_
  refine a_iconst C (0 : Int32) dX11_again_1 (by decide) ?_
  refine a_iconst C (2 : Int32) dX11_again_2 (by decide) ?_
  obtain ⟨r1, h1, hf⟩ := fx_bind hf
  refine a_fS C (kX11_within l D Y x1 (0 : Int32) (2 : Int32) r1 h1) (gB_X11_203 _) rfl dvX11_within ⟨⟨rfl, rfl⟩, ⟨Nat.le_of_ble_eq_true rfl, Nat.le_of_ble_eq_true rfl⟩, ⟨Nat.le_of_ble_eq_true rfl, Nat.le_of_ble_eq_true rfl⟩⟩ rfl (Nat.le_of_ble_eq_true rfl) dX11_again_3 [] [0, 1, 2, 3, 4, 5, 6, 7, 8, 9, 10, 11, 12, 13, 14, 15, 16, 17, 18, 19, 20, 21, 22, 23, 24] trivial (by decide +kernel) rfl [oX11 ao atext atold aL aC alaw aotherLaw anow atrial ahistory aguess acrewPlan amoatPlan achance io_wind io_spadeLimit, rQ Y (ao 1) 3 (fun j => some (akept j 0)), rI Y (ao 2) 3 co_keptChildren, oX2 aC iC_size, oX4 ahistory ihistory_next ihistory_size, oX9 (akept 0) aL aC (ikept_moats 0) (ikept_spades 0) (ikept_tides 0), rI Y ((akept 0) 1) 12 (ckept_wall 0), rI Y ((akept 0) 2) 12 (ckept_depth 0), rI Y ((akept 0) 3) 8 (ckept_mood 0), rI Y ((akept 0) 4) 8 (ckept_place 0), oX9 (akept 1) aL aC (ikept_moats 1) (ikept_spades 1) (ikept_tides 1), rI Y ((akept 1) 1) 12 (ckept_wall 1), rI Y ((akept 1) 2) 12 (ckept_depth 1), rI Y ((akept 1) 3) 8 (ckept_mood 1), rI Y ((akept 1) 4) 8 (ckept_place 1), oX9 (akept 2) aL aC (ikept_moats 2) (ikept_spades 2) (ikept_tides 2), rI Y ((akept 2) 1) 12 (ckept_wall 2), rI Y ((akept 2) 2) 12 (ckept_depth 2), rI Y ((akept 2) 3) 8 (ckept_mood 2), rI Y ((akept 2) 4) 8 (ckept_place 2), oX9 anow aL aC inow_moats inow_spades inow_tides, rI Y (anow 1) 12 cnow_wall, rI Y (anow 2) 12 cnow_depth, rI Y (anow 3) 8 cnow_mood, rI Y (anow 4) 8 cnow_place] trivial ⟨rfl, rfl, rfl, rfl, rfl, rfl, rfl, rfl, rfl, rfl, rfl, rfl, rfl, rfl, rfl, rfl, rfl, rfl, rfl, rfl, rfl, rfl, rfl, rfl, rfl, trivial⟩ 25 rfl (by decide +kernel) ?_
  refine a_if_eq C 25 dX11_again_6 (by decide) (fun h2 => ?_) (fun h2 => ?_)
  · have hf := fx_t h2 hf
    refine a_kill [0, 1] ?_
    exact kX11_again_b25 C hQ hf
  · have hf := fx_f h2 hf
    refine a_aload_n C dX11_again_9 rfl ?_
    refine a_get C (eB_X11_74 _) dX11_again_10 0 rfl rfl ?_
    refine a_iload_n C dX11_again_13 rfl ?_
    obtain ⟨h3, hf⟩ := fx_ite hf
    refine a_iald C dX11_again_14 2 rfl h3 ?_
    refine a_aload_n C dX11_again_15 rfl ?_
    refine a_get C (eB_X11_33 _) dX11_again_16 0 rfl rfl ?_
    refine a_get C (eB_X11_134 _) dX11_again_19 3 rfl rfl ?_
    refine a_icmp_eq C 27 dX11_again_22 (by decide) (fun h4 => ?_) (fun h4 => ?_)
    · have hf := fx_t h4 hf
      refine a_aload_n C dX11_again_27 rfl ?_
      refine a_get C (eB_X11_56 _) dX11_again_28 0 rfl rfl ?_
      refine a_aload_n C dX11_again_31 rfl ?_
      refine a_get C (eB_X11_70 _) dX11_again_32 0 rfl rfl ?_
      refine a_iload_n C dX11_again_35 rfl ?_
      obtain ⟨j5, hj5, ej5⟩ := vp_in_of h3 (by decide)
      have ek5 : (Int32.toNatClampNeg x1) = j5 := by rw [ej5]; exact nI_clamp (by omega)
      rw [ek5] at hf
      rcases (show j5 = 0 ∨ j5 = 1 ∨ j5 = 2 by omega) with rfl | rfl | rfl
      · refine a_aldq (v := akept 0 0) C dX11_again_36 1 rfl h3 (by rw [ek5]) ?_
        obtain ⟨r6, h6, hf⟩ := fx_bind hf
        refine a_fV C (kX9_copy l D Y anow aL aC (akept 0) inow_moats inow_spades inow_tides cnow_wall cnow_depth cnow_mood cnow_place (ikept_moats 0) (ikept_spades 0) (ikept_tides 0) (ckept_wall 0) (ckept_depth 0) (ckept_mood 0) (ckept_place 0) r6 h6) (gB_X11_282 _) rfl dvX9_copy ⟨⟨rfl, rfl⟩, ⟨Nat.le_of_ble_eq_true rfl, Nat.le_of_ble_eq_true rfl⟩, ⟨Nat.le_of_ble_eq_true rfl, Nat.le_of_ble_eq_true rfl⟩⟩ rfl (Nat.le_of_ble_eq_true rfl) dX11_again_37 rfl rfl [20, 21, 22, 23, 24, 5, 6, 7, 8, 9] [0, 1, 2, 3, 4, 10, 11, 12, 13, 14, 15, 16, 17, 18, 19] ⟨rfl, rfl, rfl, rfl, rfl, rfl, rfl, rfl, rfl, rfl, trivial⟩ (by decide +kernel) rfl [oX11 ao atext atold aL aC alaw aotherLaw anow atrial ahistory aguess acrewPlan amoatPlan achance io_wind io_spadeLimit, rQ Y (ao 1) 3 (fun j => some (akept j 0)), rI Y (ao 2) 3 co_keptChildren, oX2 aC iC_size, oX4 ahistory ihistory_next ihistory_size, oX9 (akept 0) aL aC (ikept_moats 0) (ikept_spades 0) (ikept_tides 0), rI Y ((akept 0) 1) 12 (ckept_wall 0), rI Y ((akept 0) 2) 12 (ckept_depth 0), rI Y ((akept 0) 3) 8 (ckept_mood 0), rI Y ((akept 0) 4) 8 (ckept_place 0), oX9 (akept 1) aL aC (ikept_moats 1) (ikept_spades 1) (ikept_tides 1), rI Y ((akept 1) 1) 12 (ckept_wall 1), rI Y ((akept 1) 2) 12 (ckept_depth 1), rI Y ((akept 1) 3) 8 (ckept_mood 1), rI Y ((akept 1) 4) 8 (ckept_place 1), oX9 (akept 2) aL aC (ikept_moats 2) (ikept_spades 2) (ikept_tides 2), rI Y ((akept 2) 1) 12 (ckept_wall 2), rI Y ((akept 2) 2) 12 (ckept_depth 2), rI Y ((akept 2) 3) 8 (ckept_mood 2), rI Y ((akept 2) 4) 8 (ckept_place 2), oX9 anow aL aC r6.1 r6.2.1 r6.2.2.1, rI Y (anow 1) 12 r6.2.2.2.1, rI Y (anow 2) 12 r6.2.2.2.2.1, rI Y (anow 3) 8 r6.2.2.2.2.2.1, rI Y (anow 4) 8 r6.2.2.2.2.2.2] ⟨rfl, rfl, rfl, rfl, rfl, rfl, rfl, rfl, rfl, rfl, trivial⟩ ⟨rfl, rfl, rfl, rfl, rfl, rfl, rfl, rfl, rfl, rfl, rfl, rfl, rfl, rfl, rfl, trivial⟩ 25 rfl (by decide +kernel) ?_
        refine a_aload_n C dX11_again_40 rfl ?_
        refine a_get C (eB_X11_66 _) dX11_again_41 0 rfl rfl ?_
        obtain ⟨r7, h7, hf⟩ := fx_bind hf
        refine a_fV C (kX4_clear l D Y ahistory ihistory_next ihistory_size r7 h7) (gB_X11_130 _) rfl dvX4_clear ⟨⟨rfl, rfl⟩, ⟨Nat.le_of_ble_eq_true rfl, Nat.le_of_ble_eq_true rfl⟩, ⟨Nat.le_of_ble_eq_true rfl, Nat.le_of_ble_eq_true rfl⟩⟩ rfl (Nat.le_of_ble_eq_true rfl) dX11_again_44 rfl rfl [4] [0, 1, 2, 3, 5, 6, 7, 8, 9, 10, 11, 12, 13, 14, 15, 16, 17, 18, 19, 20, 21, 22, 23, 24] ⟨rfl, trivial⟩ (by decide +kernel) rfl [oX11 ao atext atold aL aC alaw aotherLaw anow atrial ahistory aguess acrewPlan amoatPlan achance io_wind io_spadeLimit, rQ Y (ao 1) 3 (fun j => some (akept j 0)), rI Y (ao 2) 3 co_keptChildren, oX2 aC iC_size, oX4 ahistory ihistory_next r7, oX9 (akept 0) aL aC (ikept_moats 0) (ikept_spades 0) (ikept_tides 0), rI Y ((akept 0) 1) 12 (ckept_wall 0), rI Y ((akept 0) 2) 12 (ckept_depth 0), rI Y ((akept 0) 3) 8 (ckept_mood 0), rI Y ((akept 0) 4) 8 (ckept_place 0), oX9 (akept 1) aL aC (ikept_moats 1) (ikept_spades 1) (ikept_tides 1), rI Y ((akept 1) 1) 12 (ckept_wall 1), rI Y ((akept 1) 2) 12 (ckept_depth 1), rI Y ((akept 1) 3) 8 (ckept_mood 1), rI Y ((akept 1) 4) 8 (ckept_place 1), oX9 (akept 2) aL aC (ikept_moats 2) (ikept_spades 2) (ikept_tides 2), rI Y ((akept 2) 1) 12 (ckept_wall 2), rI Y ((akept 2) 2) 12 (ckept_depth 2), rI Y ((akept 2) 3) 8 (ckept_mood 2), rI Y ((akept 2) 4) 8 (ckept_place 2), oX9 anow aL aC r6.1 r6.2.1 r6.2.2.1, rI Y (anow 1) 12 r6.2.2.2.1, rI Y (anow 2) 12 r6.2.2.2.2.1, rI Y (anow 3) 8 r6.2.2.2.2.2.1, rI Y (anow 4) 8 r6.2.2.2.2.2.2] ⟨rfl, trivial⟩ ⟨rfl, rfl, rfl, rfl, rfl, rfl, rfl, rfl, rfl, rfl, rfl, rfl, rfl, rfl, rfl, rfl, rfl, rfl, rfl, rfl, rfl, rfl, rfl, rfl, trivial⟩ 25 rfl (by decide +kernel) ?_
        refine a_iconst C (1 : Int32) dX11_again_47 (by decide) ?_
        obtain rfl := fx_some hf
        exact a_zret C hQ (Or.inr rfl) dX11_again_48 ⟨rfl, rfl⟩
      · refine a_aldq (v := akept 1 0) C dX11_again_36 1 rfl h3 (by rw [ek5]) ?_
        obtain ⟨r6, h6, hf⟩ := fx_bind hf
        refine a_fV C (kX9_copy l D Y anow aL aC (akept 1) inow_moats inow_spades inow_tides cnow_wall cnow_depth cnow_mood cnow_place (ikept_moats 1) (ikept_spades 1) (ikept_tides 1) (ckept_wall 1) (ckept_depth 1) (ckept_mood 1) (ckept_place 1) r6 h6) (gB_X11_282 _) rfl dvX9_copy ⟨⟨rfl, rfl⟩, ⟨Nat.le_of_ble_eq_true rfl, Nat.le_of_ble_eq_true rfl⟩, ⟨Nat.le_of_ble_eq_true rfl, Nat.le_of_ble_eq_true rfl⟩⟩ rfl (Nat.le_of_ble_eq_true rfl) dX11_again_37 rfl rfl [20, 21, 22, 23, 24, 10, 11, 12, 13, 14] [0, 1, 2, 3, 4, 5, 6, 7, 8, 9, 15, 16, 17, 18, 19] ⟨rfl, rfl, rfl, rfl, rfl, rfl, rfl, rfl, rfl, rfl, trivial⟩ (by decide +kernel) rfl [oX11 ao atext atold aL aC alaw aotherLaw anow atrial ahistory aguess acrewPlan amoatPlan achance io_wind io_spadeLimit, rQ Y (ao 1) 3 (fun j => some (akept j 0)), rI Y (ao 2) 3 co_keptChildren, oX2 aC iC_size, oX4 ahistory ihistory_next ihistory_size, oX9 (akept 0) aL aC (ikept_moats 0) (ikept_spades 0) (ikept_tides 0), rI Y ((akept 0) 1) 12 (ckept_wall 0), rI Y ((akept 0) 2) 12 (ckept_depth 0), rI Y ((akept 0) 3) 8 (ckept_mood 0), rI Y ((akept 0) 4) 8 (ckept_place 0), oX9 (akept 1) aL aC (ikept_moats 1) (ikept_spades 1) (ikept_tides 1), rI Y ((akept 1) 1) 12 (ckept_wall 1), rI Y ((akept 1) 2) 12 (ckept_depth 1), rI Y ((akept 1) 3) 8 (ckept_mood 1), rI Y ((akept 1) 4) 8 (ckept_place 1), oX9 (akept 2) aL aC (ikept_moats 2) (ikept_spades 2) (ikept_tides 2), rI Y ((akept 2) 1) 12 (ckept_wall 2), rI Y ((akept 2) 2) 12 (ckept_depth 2), rI Y ((akept 2) 3) 8 (ckept_mood 2), rI Y ((akept 2) 4) 8 (ckept_place 2), oX9 anow aL aC r6.1 r6.2.1 r6.2.2.1, rI Y (anow 1) 12 r6.2.2.2.1, rI Y (anow 2) 12 r6.2.2.2.2.1, rI Y (anow 3) 8 r6.2.2.2.2.2.1, rI Y (anow 4) 8 r6.2.2.2.2.2.2] ⟨rfl, rfl, rfl, rfl, rfl, rfl, rfl, rfl, rfl, rfl, trivial⟩ ⟨rfl, rfl, rfl, rfl, rfl, rfl, rfl, rfl, rfl, rfl, rfl, rfl, rfl, rfl, rfl, trivial⟩ 25 rfl (by decide +kernel) ?_
        refine a_aload_n C dX11_again_40 rfl ?_
        refine a_get C (eB_X11_66 _) dX11_again_41 0 rfl rfl ?_
        obtain ⟨r7, h7, hf⟩ := fx_bind hf
        refine a_fV C (kX4_clear l D Y ahistory ihistory_next ihistory_size r7 h7) (gB_X11_130 _) rfl dvX4_clear ⟨⟨rfl, rfl⟩, ⟨Nat.le_of_ble_eq_true rfl, Nat.le_of_ble_eq_true rfl⟩, ⟨Nat.le_of_ble_eq_true rfl, Nat.le_of_ble_eq_true rfl⟩⟩ rfl (Nat.le_of_ble_eq_true rfl) dX11_again_44 rfl rfl [4] [0, 1, 2, 3, 5, 6, 7, 8, 9, 10, 11, 12, 13, 14, 15, 16, 17, 18, 19, 20, 21, 22, 23, 24] ⟨rfl, trivial⟩ (by decide +kernel) rfl [oX11 ao atext atold aL aC alaw aotherLaw anow atrial ahistory aguess acrewPlan amoatPlan achance io_wind io_spadeLimit, rQ Y (ao 1) 3 (fun j => some (akept j 0)), rI Y (ao 2) 3 co_keptChildren, oX2 aC iC_size, oX4 ahistory ihistory_next r7, oX9 (akept 0) aL aC (ikept_moats 0) (ikept_spades 0) (ikept_tides 0), rI Y ((akept 0) 1) 12 (ckept_wall 0), rI Y ((akept 0) 2) 12 (ckept_depth 0), rI Y ((akept 0) 3) 8 (ckept_mood 0), rI Y ((akept 0) 4) 8 (ckept_place 0), oX9 (akept 1) aL aC (ikept_moats 1) (ikept_spades 1) (ikept_tides 1), rI Y ((akept 1) 1) 12 (ckept_wall 1), rI Y ((akept 1) 2) 12 (ckept_depth 1), rI Y ((akept 1) 3) 8 (ckept_mood 1), rI Y ((akept 1) 4) 8 (ckept_place 1), oX9 (akept 2) aL aC (ikept_moats 2) (ikept_spades 2) (ikept_tides 2), rI Y ((akept 2) 1) 12 (ckept_wall 2), rI Y ((akept 2) 2) 12 (ckept_depth 2), rI Y ((akept 2) 3) 8 (ckept_mood 2), rI Y ((akept 2) 4) 8 (ckept_place 2), oX9 anow aL aC r6.1 r6.2.1 r6.2.2.1, rI Y (anow 1) 12 r6.2.2.2.1, rI Y (anow 2) 12 r6.2.2.2.2.1, rI Y (anow 3) 8 r6.2.2.2.2.2.1, rI Y (anow 4) 8 r6.2.2.2.2.2.2] ⟨rfl, trivial⟩ ⟨rfl, rfl, rfl, rfl, rfl, rfl, rfl, rfl, rfl, rfl, rfl, rfl, rfl, rfl, rfl, rfl, rfl, rfl, rfl, rfl, rfl, rfl, rfl, rfl, trivial⟩ 25 rfl (by decide +kernel) ?_
        refine a_iconst C (1 : Int32) dX11_again_47 (by decide) ?_
        obtain rfl := fx_some hf
        exact a_zret C hQ (Or.inr rfl) dX11_again_48 ⟨rfl, rfl⟩
      · refine a_aldq (v := akept 2 0) C dX11_again_36 1 rfl h3 (by rw [ek5]) ?_
        obtain ⟨r6, h6, hf⟩ := fx_bind hf
        refine a_fV C (kX9_copy l D Y anow aL aC (akept 2) inow_moats inow_spades inow_tides cnow_wall cnow_depth cnow_mood cnow_place (ikept_moats 2) (ikept_spades 2) (ikept_tides 2) (ckept_wall 2) (ckept_depth 2) (ckept_mood 2) (ckept_place 2) r6 h6) (gB_X11_282 _) rfl dvX9_copy ⟨⟨rfl, rfl⟩, ⟨Nat.le_of_ble_eq_true rfl, Nat.le_of_ble_eq_true rfl⟩, ⟨Nat.le_of_ble_eq_true rfl, Nat.le_of_ble_eq_true rfl⟩⟩ rfl (Nat.le_of_ble_eq_true rfl) dX11_again_37 rfl rfl [20, 21, 22, 23, 24, 15, 16, 17, 18, 19] [0, 1, 2, 3, 4, 5, 6, 7, 8, 9, 10, 11, 12, 13, 14] ⟨rfl, rfl, rfl, rfl, rfl, rfl, rfl, rfl, rfl, rfl, trivial⟩ (by decide +kernel) rfl [oX11 ao atext atold aL aC alaw aotherLaw anow atrial ahistory aguess acrewPlan amoatPlan achance io_wind io_spadeLimit, rQ Y (ao 1) 3 (fun j => some (akept j 0)), rI Y (ao 2) 3 co_keptChildren, oX2 aC iC_size, oX4 ahistory ihistory_next ihistory_size, oX9 (akept 0) aL aC (ikept_moats 0) (ikept_spades 0) (ikept_tides 0), rI Y ((akept 0) 1) 12 (ckept_wall 0), rI Y ((akept 0) 2) 12 (ckept_depth 0), rI Y ((akept 0) 3) 8 (ckept_mood 0), rI Y ((akept 0) 4) 8 (ckept_place 0), oX9 (akept 1) aL aC (ikept_moats 1) (ikept_spades 1) (ikept_tides 1), rI Y ((akept 1) 1) 12 (ckept_wall 1), rI Y ((akept 1) 2) 12 (ckept_depth 1), rI Y ((akept 1) 3) 8 (ckept_mood 1), rI Y ((akept 1) 4) 8 (ckept_place 1), oX9 (akept 2) aL aC (ikept_moats 2) (ikept_spades 2) (ikept_tides 2), rI Y ((akept 2) 1) 12 (ckept_wall 2), rI Y ((akept 2) 2) 12 (ckept_depth 2), rI Y ((akept 2) 3) 8 (ckept_mood 2), rI Y ((akept 2) 4) 8 (ckept_place 2), oX9 anow aL aC r6.1 r6.2.1 r6.2.2.1, rI Y (anow 1) 12 r6.2.2.2.1, rI Y (anow 2) 12 r6.2.2.2.2.1, rI Y (anow 3) 8 r6.2.2.2.2.2.1, rI Y (anow 4) 8 r6.2.2.2.2.2.2] ⟨rfl, rfl, rfl, rfl, rfl, rfl, rfl, rfl, rfl, rfl, trivial⟩ ⟨rfl, rfl, rfl, rfl, rfl, rfl, rfl, rfl, rfl, rfl, rfl, rfl, rfl, rfl, rfl, trivial⟩ 25 rfl (by decide +kernel) ?_
        refine a_aload_n C dX11_again_40 rfl ?_
        refine a_get C (eB_X11_66 _) dX11_again_41 0 rfl rfl ?_
        obtain ⟨r7, h7, hf⟩ := fx_bind hf
        refine a_fV C (kX4_clear l D Y ahistory ihistory_next ihistory_size r7 h7) (gB_X11_130 _) rfl dvX4_clear ⟨⟨rfl, rfl⟩, ⟨Nat.le_of_ble_eq_true rfl, Nat.le_of_ble_eq_true rfl⟩, ⟨Nat.le_of_ble_eq_true rfl, Nat.le_of_ble_eq_true rfl⟩⟩ rfl (Nat.le_of_ble_eq_true rfl) dX11_again_44 rfl rfl [4] [0, 1, 2, 3, 5, 6, 7, 8, 9, 10, 11, 12, 13, 14, 15, 16, 17, 18, 19, 20, 21, 22, 23, 24] ⟨rfl, trivial⟩ (by decide +kernel) rfl [oX11 ao atext atold aL aC alaw aotherLaw anow atrial ahistory aguess acrewPlan amoatPlan achance io_wind io_spadeLimit, rQ Y (ao 1) 3 (fun j => some (akept j 0)), rI Y (ao 2) 3 co_keptChildren, oX2 aC iC_size, oX4 ahistory ihistory_next r7, oX9 (akept 0) aL aC (ikept_moats 0) (ikept_spades 0) (ikept_tides 0), rI Y ((akept 0) 1) 12 (ckept_wall 0), rI Y ((akept 0) 2) 12 (ckept_depth 0), rI Y ((akept 0) 3) 8 (ckept_mood 0), rI Y ((akept 0) 4) 8 (ckept_place 0), oX9 (akept 1) aL aC (ikept_moats 1) (ikept_spades 1) (ikept_tides 1), rI Y ((akept 1) 1) 12 (ckept_wall 1), rI Y ((akept 1) 2) 12 (ckept_depth 1), rI Y ((akept 1) 3) 8 (ckept_mood 1), rI Y ((akept 1) 4) 8 (ckept_place 1), oX9 (akept 2) aL aC (ikept_moats 2) (ikept_spades 2) (ikept_tides 2), rI Y ((akept 2) 1) 12 (ckept_wall 2), rI Y ((akept 2) 2) 12 (ckept_depth 2), rI Y ((akept 2) 3) 8 (ckept_mood 2), rI Y ((akept 2) 4) 8 (ckept_place 2), oX9 anow aL aC r6.1 r6.2.1 r6.2.2.1, rI Y (anow 1) 12 r6.2.2.2.1, rI Y (anow 2) 12 r6.2.2.2.2.1, rI Y (anow 3) 8 r6.2.2.2.2.2.1, rI Y (anow 4) 8 r6.2.2.2.2.2.2] ⟨rfl, trivial⟩ ⟨rfl, rfl, rfl, rfl, rfl, rfl, rfl, rfl, rfl, rfl, rfl, rfl, rfl, rfl, rfl, rfl, rfl, rfl, rfl, rfl, rfl, rfl, rfl, rfl, trivial⟩ 25 rfl (by decide +kernel) ?_
        refine a_iconst C (1 : Int32) dX11_again_47 (by decide) ?_
        obtain rfl := fx_some hf
        exact a_zret C hQ (Or.inr rfl) dX11_again_48 ⟨rfl, rfl⟩
    · have hf := fx_f h4 hf
      refine a_kill [0, 1] ?_
      exact kX11_again_b25 C hQ hf
-- X11_count
abbrev rmX11_count : Room := { frames := 2, cells := 0, slots := 0, locals := 43 }
theorem dvX11_count : yX11_count.cls = RX11 ∧ yX11_count.cls ≠ "java/lang/invoke/MethodHandle" ∧ yX11_count.cls ≠ "java/lang/invoke/VarHandle" ∧ (parseMethodDescriptor yX11_count.desc).map (fun d => d.parameters.length) = some 1 := by decide +kernel
def fX11_count (io_wind : Int32) (io_spadeLimit : Int32) (iC_size : Int32) (iL_cells : Int32) (iguess_cells : Int32) (ihistory_size : Int32) (inow_moats : Int32) (inow_spades : Int32) (inow_tides : Int32) (cnow_wall : Nat → Int32) (cnow_depth : Nat → Int32) (cnow_place : Nat → Int32) (itext_length : Int32) (itold_size : Int32) (x1 : Int32) : Option (Int32) :=
  if x1 = (0 : Int32) then (some iL_cells) else if x1 = (1 : Int32) then (some iC_size) else if x1 = (2 : Int32) then (some inow_tides) else if x1 = (3 : Int32) then (some io_wind) else if x1 = (4 : Int32) then (some io_spadeLimit) else if x1 = (5 : Int32) then (some inow_spades) else if x1 = (6 : Int32) then (some inow_moats) else if x1 = (7 : Int32) then ((fX9_wet cnow_depth iL_cells).bind (fun r9 => some r9)) else if x1 = (8 : Int32) then ((fX9_atHome cnow_place iC_size).bind (fun r11 => some r11)) else if x1 = (9 : Int32) then ((fX9_sand cnow_wall iL_cells).bind (fun r13 => some r13)) else if x1 = (10 : Int32) then (some iguess_cells) else if x1 = (11 : Int32) then (some ihistory_size) else if x1 = (12 : Int32) then (some itold_size) else if x1 = (13 : Int32) then (some itext_length) else (some (-100 : Int32))
set_option maxHeartbeats 400000 in
set_option maxRecDepth 100000 in
theorem kX11_count (l : Launch) (D : va_G) (Y : Nat → ClassId) (ao atext atold aL aC alaw aotherLaw anow atrial ahistory aguess acrewPlan amoatPlan achance : Nat → Nat) (io_wind : Int32) (io_spadeLimit : Int32) (iC_size : Int32) (iL_cells : Int32) (iguess_cells : Int32) (ihistory_next : Int32) (ihistory_size : Int32) (inow_moats : Int32) (inow_spades : Int32) (inow_tides : Int32) (cnow_wall : Nat → Int32) (cnow_depth : Nat → Int32) (cnow_place : Nat → Int32) (itext_length : Int32) (itold_size : Int32) (x1 : Int32) (res : Int32) (hf : fX11_count io_wind io_spadeLimit iC_size iL_cells iguess_cells ihistory_size inow_moats inow_spades inow_tides cnow_wall cnow_depth cnow_place itext_length itold_size x1 = some res) : amf l D Y yX11_count wsX11_count rmX11_count [.ref (ao 0), .int x1] [oX11 ao atext atold aL aC alaw aotherLaw anow atrial ahistory aguess acrewPlan amoatPlan achance io_wind io_spadeLimit, oX2 aC iC_size, oX5 aL iL_cells, oX3 aguess aC iguess_cells, oX4 ahistory ihistory_next ihistory_size, oX9 anow aL aC inow_moats inow_spades inow_tides, rI Y (anow 1) 12 cnow_wall, rI Y (anow 2) 12 cnow_depth, rI Y (anow 4) 8 cnow_place, oX10 atext itext_length, oX8 atold itold_size] (some (.int res)) [oX11 ao atext atold aL aC alaw aotherLaw anow atrial ahistory aguess acrewPlan amoatPlan achance io_wind io_spadeLimit, oX2 aC iC_size, oX5 aL iL_cells, oX3 aguess aC iguess_cells, oX4 ahistory ihistory_next ihistory_size, oX9 anow aL aC inow_moats inow_spades inow_tides, rI Y (anow 1) 12 cnow_wall, rI Y (anow 2) 12 cnow_depth, rI Y (anow 4) 8 cnow_place, oX10 atext itext_length, oX8 atold itold_size] := by
  refine amf.of (cc := cX11_count) (maxL := 2) (rt := (some .int)) (by decide) rfl RX11 rfl (Nat.le_of_ble_eq_true rfl) [some (.ref (ao 0)), some (.int x1)] rfl ?_
  intro X C hQ
  unfold fX11_count at hf
  refine a_iload_n C dX11_count_0 rfl ?_
  by_cases h1 : x1 = (0 : Int32)
  · have hf := fx_t h1 hf
    refine a_tableIn (off := 71) C 72 dX11_count_1 (by rw [h1]; decide) (by rw [h1]; decide) (by rw [h1]; first | done | rfl | decide) (by decide) ?_
    refine a_aload_n C dX11_count_72 rfl ?_
    refine a_get C (eB_X11_26 _) dX11_count_73 0 rfl rfl ?_
    refine a_get C (eB_X11_131 _) dX11_count_76 2 rfl rfl ?_
    obtain rfl := fx_some hf
    exact a_iret C hQ dX11_count_79 ⟨rfl, rfl⟩
  have hf := fx_f h1 hf
  by_cases h2 : x1 = (1 : Int32)
  · have hf := fx_t h2 hf
    refine a_tableIn (off := 79) C 80 dX11_count_1 (by rw [h2]; decide) (by rw [h2]; decide) (by rw [h2]; first | done | rfl | decide) (by decide) ?_
    refine a_aload_n C dX11_count_80 rfl ?_
    refine a_get C (eB_X11_33 _) dX11_count_81 0 rfl rfl ?_
    refine a_get C (eB_X11_134 _) dX11_count_84 1 rfl rfl ?_
    obtain rfl := fx_some hf
    exact a_iret C hQ dX11_count_87 ⟨rfl, rfl⟩
  have hf := fx_f h2 hf
  by_cases h3 : x1 = (2 : Int32)
  · have hf := fx_t h3 hf
    refine a_tableIn (off := 87) C 88 dX11_count_1 (by rw [h3]; decide) (by rw [h3]; decide) (by rw [h3]; first | done | rfl | decide) (by decide) ?_
    refine a_aload_n C dX11_count_88 rfl ?_
    refine a_get C (eB_X11_56 _) dX11_count_89 0 rfl rfl ?_
    refine a_get C (eB_X11_380 _) dX11_count_92 5 rfl rfl ?_
    obtain rfl := fx_some hf
    exact a_iret C hQ dX11_count_95 ⟨rfl, rfl⟩
  have hf := fx_f h3 hf
  by_cases h4 : x1 = (3 : Int32)
  · have hf := fx_t h4 hf
    refine a_tableIn (off := 95) C 96 dX11_count_1 (by rw [h4]; decide) (by rw [h4]; decide) (by rw [h4]; first | done | rfl | decide) (by decide) ?_
    refine a_aload_n C dX11_count_96 rfl ?_
    refine a_get C (eB_X11_207 _) dX11_count_97 0 rfl rfl ?_
    obtain rfl := fx_some hf
    exact a_iret C hQ dX11_count_100 ⟨rfl, rfl⟩
  have hf := fx_f h4 hf
  by_cases h5 : x1 = (4 : Int32)
  · have hf := fx_t h5 hf
    refine a_tableIn (off := 100) C 101 dX11_count_1 (by rw [h5]; decide) (by rw [h5]; decide) (by rw [h5]; first | done | rfl | decide) (by decide) ?_
    refine a_aload_n C dX11_count_101 rfl ?_
    refine a_get C (eB_X11_47 _) dX11_count_102 0 rfl rfl ?_
    obtain rfl := fx_some hf
    exact a_iret C hQ dX11_count_105 ⟨rfl, rfl⟩
  have hf := fx_f h5 hf
  by_cases h6 : x1 = (5 : Int32)
  · have hf := fx_t h6 hf
    refine a_tableIn (off := 105) C 106 dX11_count_1 (by rw [h6]; decide) (by rw [h6]; decide) (by rw [h6]; first | done | rfl | decide) (by decide) ?_
    refine a_aload_n C dX11_count_106 rfl ?_
    refine a_get C (eB_X11_56 _) dX11_count_107 0 rfl rfl ?_
    refine a_get C (eB_X11_192 _) dX11_count_110 5 rfl rfl ?_
    obtain rfl := fx_some hf
    exact a_iret C hQ dX11_count_113 ⟨rfl, rfl⟩
  have hf := fx_f h6 hf
  by_cases h7 : x1 = (6 : Int32)
  · have hf := fx_t h7 hf
    refine a_tableIn (off := 113) C 114 dX11_count_1 (by rw [h7]; decide) (by rw [h7]; decide) (by rw [h7]; first | done | rfl | decide) (by decide) ?_
    refine a_aload_n C dX11_count_114 rfl ?_
    refine a_get C (eB_X11_56 _) dX11_count_115 0 rfl rfl ?_
    refine a_get C (eB_X11_159 _) dX11_count_118 5 rfl rfl ?_
    obtain rfl := fx_some hf
    exact a_iret C hQ dX11_count_121 ⟨rfl, rfl⟩
  have hf := fx_f h7 hf
  by_cases h8 : x1 = (7 : Int32)
  · have hf := fx_t h8 hf
    refine a_tableIn (off := 121) C 122 dX11_count_1 (by rw [h8]; decide) (by rw [h8]; decide) (by rw [h8]; first | done | rfl | decide) (by decide) ?_
    refine a_aload_n C dX11_count_122 rfl ?_
    refine a_get C (eB_X11_56 _) dX11_count_123 0 rfl rfl ?_
    obtain ⟨r9, h9, hf⟩ := fx_bind hf
    refine a_fV C (kX9_wet l D Y anow aL aC inow_moats inow_spades inow_tides cnow_depth iL_cells r9 h9) (gB_X11_261 _) rfl dvX9_wet ⟨⟨rfl, rfl⟩, ⟨Nat.le_of_ble_eq_true rfl, Nat.le_of_ble_eq_true rfl⟩, ⟨Nat.le_of_ble_eq_true rfl, Nat.le_of_ble_eq_true rfl⟩⟩ rfl (Nat.le_of_ble_eq_true rfl) dX11_count_126 rfl rfl [5, 7, 2] [0, 1, 3, 4, 6, 8, 9, 10] ⟨rfl, rfl, rfl, trivial⟩ (by decide +kernel) rfl [oX11 ao atext atold aL aC alaw aotherLaw anow atrial ahistory aguess acrewPlan amoatPlan achance io_wind io_spadeLimit, oX2 aC iC_size, oX5 aL iL_cells, oX3 aguess aC iguess_cells, oX4 ahistory ihistory_next ihistory_size, oX9 anow aL aC inow_moats inow_spades inow_tides, rI Y (anow 1) 12 cnow_wall, rI Y (anow 2) 12 cnow_depth, rI Y (anow 4) 8 cnow_place, oX10 atext itext_length, oX8 atold itold_size] ⟨rfl, rfl, rfl, trivial⟩ ⟨rfl, rfl, rfl, rfl, rfl, rfl, rfl, rfl, trivial⟩ 11 rfl (by decide +kernel) ?_
    obtain rfl := fx_some hf
    exact a_iret C hQ dX11_count_129 ⟨rfl, rfl⟩
  have hf := fx_f h8 hf
  by_cases h10 : x1 = (8 : Int32)
  · have hf := fx_t h10 hf
    refine a_tableIn (off := 129) C 130 dX11_count_1 (by rw [h10]; decide) (by rw [h10]; decide) (by rw [h10]; first | done | rfl | decide) (by decide) ?_
    refine a_aload_n C dX11_count_130 rfl ?_
    refine a_get C (eB_X11_56 _) dX11_count_131 0 rfl rfl ?_
    obtain ⟨r11, h11, hf⟩ := fx_bind hf
    refine a_fV C (kX9_atHome l D Y anow aL aC inow_moats inow_spades inow_tides cnow_place iC_size r11 h11) (gB_X11_330 _) rfl dvX9_atHome ⟨⟨rfl, rfl⟩, ⟨Nat.le_of_ble_eq_true rfl, Nat.le_of_ble_eq_true rfl⟩, ⟨Nat.le_of_ble_eq_true rfl, Nat.le_of_ble_eq_true rfl⟩⟩ rfl (Nat.le_of_ble_eq_true rfl) dX11_count_134 rfl rfl [5, 8, 1] [0, 2, 3, 4, 6, 7, 9, 10] ⟨rfl, rfl, rfl, trivial⟩ (by decide +kernel) rfl [oX11 ao atext atold aL aC alaw aotherLaw anow atrial ahistory aguess acrewPlan amoatPlan achance io_wind io_spadeLimit, oX2 aC iC_size, oX5 aL iL_cells, oX3 aguess aC iguess_cells, oX4 ahistory ihistory_next ihistory_size, oX9 anow aL aC inow_moats inow_spades inow_tides, rI Y (anow 1) 12 cnow_wall, rI Y (anow 2) 12 cnow_depth, rI Y (anow 4) 8 cnow_place, oX10 atext itext_length, oX8 atold itold_size] ⟨rfl, rfl, rfl, trivial⟩ ⟨rfl, rfl, rfl, rfl, rfl, rfl, rfl, rfl, trivial⟩ 11 rfl (by decide +kernel) ?_
    obtain rfl := fx_some hf
    exact a_iret C hQ dX11_count_137 ⟨rfl, rfl⟩
  have hf := fx_f h10 hf
  by_cases h12 : x1 = (9 : Int32)
  · have hf := fx_t h12 hf
    refine a_tableIn (off := 137) C 138 dX11_count_1 (by rw [h12]; decide) (by rw [h12]; decide) (by rw [h12]; first | done | rfl | decide) (by decide) ?_
    refine a_aload_n C dX11_count_138 rfl ?_
    refine a_get C (eB_X11_56 _) dX11_count_139 0 rfl rfl ?_
    obtain ⟨r13, h13, hf⟩ := fx_bind hf
    refine a_fV C (kX9_sand l D Y anow aL aC inow_moats inow_spades inow_tides cnow_wall iL_cells r13 h13) (gB_X11_333 _) rfl dvX9_sand ⟨⟨rfl, rfl⟩, ⟨Nat.le_of_ble_eq_true rfl, Nat.le_of_ble_eq_true rfl⟩, ⟨Nat.le_of_ble_eq_true rfl, Nat.le_of_ble_eq_true rfl⟩⟩ rfl (Nat.le_of_ble_eq_true rfl) dX11_count_142 rfl rfl [5, 6, 2] [0, 1, 3, 4, 7, 8, 9, 10] ⟨rfl, rfl, rfl, trivial⟩ (by decide +kernel) rfl [oX11 ao atext atold aL aC alaw aotherLaw anow atrial ahistory aguess acrewPlan amoatPlan achance io_wind io_spadeLimit, oX2 aC iC_size, oX5 aL iL_cells, oX3 aguess aC iguess_cells, oX4 ahistory ihistory_next ihistory_size, oX9 anow aL aC inow_moats inow_spades inow_tides, rI Y (anow 1) 12 cnow_wall, rI Y (anow 2) 12 cnow_depth, rI Y (anow 4) 8 cnow_place, oX10 atext itext_length, oX8 atold itold_size] ⟨rfl, rfl, rfl, trivial⟩ ⟨rfl, rfl, rfl, rfl, rfl, rfl, rfl, rfl, trivial⟩ 11 rfl (by decide +kernel) ?_
    obtain rfl := fx_some hf
    exact a_iret C hQ dX11_count_145 ⟨rfl, rfl⟩
  have hf := fx_f h12 hf
  by_cases h14 : x1 = (10 : Int32)
  · have hf := fx_t h14 hf
    refine a_tableIn (off := 145) C 146 dX11_count_1 (by rw [h14]; decide) (by rw [h14]; decide) (by rw [h14]; first | done | rfl | decide) (by decide) ?_
    refine a_aload_n C dX11_count_146 rfl ?_
    refine a_get C (eB_X11_83 _) dX11_count_147 0 rfl rfl ?_
    refine a_get C (eB_X11_339 _) dX11_count_150 3 rfl rfl ?_
    obtain rfl := fx_some hf
    exact a_iret C hQ dX11_count_153 ⟨rfl, rfl⟩
  have hf := fx_f h14 hf
  by_cases h15 : x1 = (11 : Int32)
  · have hf := fx_t h15 hf
    refine a_tableIn (off := 153) C 154 dX11_count_1 (by rw [h15]; decide) (by rw [h15]; decide) (by rw [h15]; first | done | rfl | decide) (by decide) ?_
    refine a_aload_n C dX11_count_154 rfl ?_
    refine a_get C (eB_X11_66 _) dX11_count_155 0 rfl rfl ?_
    refine a_get C (eB_X11_383 _) dX11_count_158 4 rfl rfl ?_
    obtain rfl := fx_some hf
    exact a_iret C hQ dX11_count_161 ⟨rfl, rfl⟩
  have hf := fx_f h15 hf
  by_cases h16 : x1 = (12 : Int32)
  · have hf := fx_t h16 hf
    refine a_tableIn (off := 161) C 162 dX11_count_1 (by rw [h16]; decide) (by rw [h16]; decide) (by rw [h16]; first | done | rfl | decide) (by decide) ?_
    refine a_aload_n C dX11_count_162 rfl ?_
    refine a_get C (eB_X11_19 _) dX11_count_163 0 rfl rfl ?_
    refine a_get C (eB_X11_384 _) dX11_count_166 10 rfl rfl ?_
    obtain rfl := fx_some hf
    exact a_iret C hQ dX11_count_169 ⟨rfl, rfl⟩
  have hf := fx_f h16 hf
  by_cases h17 : x1 = (13 : Int32)
  · have hf := fx_t h17 hf
    refine a_tableIn (off := 169) C 170 dX11_count_1 (by rw [h17]; decide) (by rw [h17]; decide) (by rw [h17]; first | done | rfl | decide) (by decide) ?_
    refine a_aload_n C dX11_count_170 rfl ?_
    refine a_get C (eB_X11_10 _) dX11_count_171 0 rfl rfl ?_
    refine a_get C (eB_X11_114 _) dX11_count_174 9 rfl rfl ?_
    obtain rfl := fx_some hf
    exact a_iret C hQ dX11_count_177 ⟨rfl, rfl⟩
  have hf := fx_f h17 hf
  refine a_tableOut C 178 dX11_count_1 (by have z0 := lv_neT (a := 0) h1 (by decide); have z1 := lv_neT (a := 1) h2 (by decide); have z2 := lv_neT (a := 2) h3 (by decide); have z3 := lv_neT (a := 3) h4 (by decide); have z4 := lv_neT (a := 4) h5 (by decide); have z5 := lv_neT (a := 5) h6 (by decide); have z6 := lv_neT (a := 6) h7 (by decide); have z7 := lv_neT (a := 7) h8 (by decide); have z8 := lv_neT (a := 8) h10 (by decide); have z9 := lv_neT (a := 9) h12 (by decide); have z10 := lv_neT (a := 10) h14 (by decide); have z11 := lv_neT (a := 11) h15 (by decide); have z12 := lv_neT (a := 12) h16 (by decide); have z13 := lv_neT (a := 13) h17 (by decide); omega) (by decide) ?_
  refine a_bipush C (-100 : Int32) dX11_count_178 (by decide) ?_
  obtain rfl := fx_some hf
  exact a_iret C hQ dX11_count_180 ⟨rfl, rfl⟩
-- X11_buildAndTell
abbrev rmX11_buildAndTell : Room := { frames := 5, cells := 0, slots := 0, locals := 110 }
theorem dvX11_buildAndTell : yX11_buildAndTell.cls = RX11 ∧ yX11_buildAndTell.cls ≠ "java/lang/invoke/MethodHandle" ∧ yX11_buildAndTell.cls ≠ "java/lang/invoke/VarHandle" ∧ (parseMethodDescriptor yX11_buildAndTell.desc).map (fun d => d.parameters.length) = some 1 := by decide +kernel
def fX11_buildAndTell (iC_size : Int32) (cC_age : Nat → Int32) (cC_skill : Nat → Int32) (cC_pals : Nat → Int32) (iL_cells : Int32) (inow_spades : Int32) (cnow_wall : Nat → Int32) (cnow_mood : Nat → Int32) (cnow_place : Nat → Int32) (itold_size : Int32) (ctold_numbers : Nat → Int64) (x1 : Int32) : Option (Int32 × (Nat → Int32) × (Nat → Int32) × (Nat → Int32) × Int32 × (Nat → Int64)) :=
  (fX11_within x1 (0 : Int32) (30 : Int32)).bind (fun r1 => if r1 = (0 : Int32) then (some ((-1 : Int32), cnow_wall, cnow_mood, cnow_place, itold_size, ctold_numbers)) else ((fX9_sand cnow_wall iL_cells).bind (fun r3 => (fX9_atHome cnow_place iC_size).bind (fun r4 => (fX9_buildOn inow_spades cnow_wall cnow_mood cnow_place iC_size cC_age cC_skill cC_pals iL_cells x1).bind (fun r5 => (fX9_atHome r5.2.2 iC_size).bind (fun r6 => (fX8_tell itold_size ctold_numbers ((r6 &&& (r4 ^^^ (-1 : Int32))).toInt64)).bind (fun r7 => (fX9_sand r5.1 iL_cells).bind (fun r8 => some ((r8 - r3), r5.1, r5.2.1, r5.2.2, r7.1, r7.2)))))))))
set_option maxHeartbeats 400000 in
set_option maxRecDepth 100000 in
theorem kX11_buildAndTell (l : Launch) (D : va_G) (Y : Nat → ClassId) (ao atext atold aL aC alaw aotherLaw anow atrial ahistory aguess acrewPlan amoatPlan achance : Nat → Nat) (io_wind : Int32) (io_spadeLimit : Int32) (iC_size : Int32) (cC_age : Nat → Int32) (cC_skill : Nat → Int32) (cC_pals : Nat → Int32) (iL_cells : Int32) (inow_moats : Int32) (inow_spades : Int32) (inow_tides : Int32) (cnow_wall : Nat → Int32) (cnow_mood : Nat → Int32) (cnow_place : Nat → Int32) (itold_size : Int32) (ctold_numbers : Nat → Int64) (x1 : Int32) (res : Int32 × (Nat → Int32) × (Nat → Int32) × (Nat → Int32) × Int32 × (Nat → Int64)) (hf : fX11_buildAndTell iC_size cC_age cC_skill cC_pals iL_cells inow_spades cnow_wall cnow_mood cnow_place itold_size ctold_numbers x1 = some res) : amf l D Y yX11_buildAndTell wsX11_buildAndTell rmX11_buildAndTell [.ref (ao 0), .int x1] [oX11 ao atext atold aL aC alaw aotherLaw anow atrial ahistory aguess acrewPlan amoatPlan achance io_wind io_spadeLimit, oX2 aC iC_size, rI Y (aC 1) 8 cC_age, rI Y (aC 2) 8 cC_skill, rI Y (aC 4) 8 cC_pals, oX5 aL iL_cells, oX9 anow aL aC inow_moats inow_spades inow_tides, rI Y (anow 1) 12 cnow_wall, rI Y (anow 3) 8 cnow_mood, rI Y (anow 4) 8 cnow_place, oX8 atold itold_size, rJ Y (atold 1) 12 ctold_numbers] (some (.int res.1)) [oX11 ao atext atold aL aC alaw aotherLaw anow atrial ahistory aguess acrewPlan amoatPlan achance io_wind io_spadeLimit, oX2 aC iC_size, rI Y (aC 1) 8 cC_age, rI Y (aC 2) 8 cC_skill, rI Y (aC 4) 8 cC_pals, oX5 aL iL_cells, oX9 anow aL aC inow_moats inow_spades inow_tides, rI Y (anow 1) 12 res.2.1, rI Y (anow 3) 8 res.2.2.1, rI Y (anow 4) 8 res.2.2.2.1, oX8 atold res.2.2.2.2.1, rJ Y (atold 1) 12 res.2.2.2.2.2] := by
  refine amf.of (cc := cX11_buildAndTell) (maxL := 4) (rt := (some .int)) (by decide) rfl RX11 rfl (Nat.le_of_ble_eq_true rfl) [some (.ref (ao 0)), some (.int x1), none, none] rfl ?_
  intro X C hQ
  unfold fX11_buildAndTell at hf
  refine a_iload_n C dX11_buildAndTell_0 rfl ?_
  refine a_iconst C (0 : Int32) dX11_buildAndTell_1 (by decide) ?_
  refine a_bipush C (30 : Int32) dX11_buildAndTell_2 (by decide) ?_
  obtain ⟨r1, h1, hf⟩ := fx_bind hf
  refine a_fS C (kX11_within l D Y x1 (0 : Int32) (30 : Int32) r1 h1) (gB_X11_203 _) rfl dvX11_within ⟨⟨rfl, rfl⟩, ⟨Nat.le_of_ble_eq_true rfl, Nat.le_of_ble_eq_true rfl⟩, ⟨Nat.le_of_ble_eq_true rfl, Nat.le_of_ble_eq_true rfl⟩⟩ rfl (Nat.le_of_ble_eq_true rfl) dX11_buildAndTell_4 [] [0, 1, 2, 3, 4, 5, 6, 7, 8, 9, 10, 11] trivial (by decide +kernel) rfl [oX11 ao atext atold aL aC alaw aotherLaw anow atrial ahistory aguess acrewPlan amoatPlan achance io_wind io_spadeLimit, oX2 aC iC_size, rI Y (aC 1) 8 cC_age, rI Y (aC 2) 8 cC_skill, rI Y (aC 4) 8 cC_pals, oX5 aL iL_cells, oX9 anow aL aC inow_moats inow_spades inow_tides, rI Y (anow 1) 12 cnow_wall, rI Y (anow 3) 8 cnow_mood, rI Y (anow 4) 8 cnow_place, oX8 atold itold_size, rJ Y (atold 1) 12 ctold_numbers] trivial ⟨rfl, rfl, rfl, rfl, rfl, rfl, rfl, rfl, rfl, rfl, rfl, rfl, trivial⟩ 12 rfl (by decide +kernel) ?_
  refine a_if_ne C 12 dX11_buildAndTell_7 (by decide) (fun h2 => ?_) (fun h2 => ?_)
  · have hf := fx_f h2 hf
    refine a_aload_n C dX11_buildAndTell_12 rfl ?_
    refine a_get C (eB_X11_56 _) dX11_buildAndTell_13 0 rfl rfl ?_
    obtain ⟨r3, h3, hf⟩ := fx_bind hf
    refine a_fV C (kX9_sand l D Y anow aL aC inow_moats inow_spades inow_tides cnow_wall iL_cells r3 h3) (gB_X11_333 _) rfl dvX9_sand ⟨⟨rfl, rfl⟩, ⟨Nat.le_of_ble_eq_true rfl, Nat.le_of_ble_eq_true rfl⟩, ⟨Nat.le_of_ble_eq_true rfl, Nat.le_of_ble_eq_true rfl⟩⟩ rfl (Nat.le_of_ble_eq_true rfl) dX11_buildAndTell_16 rfl rfl [6, 7, 5] [0, 1, 2, 3, 4, 8, 9, 10, 11] ⟨rfl, rfl, rfl, trivial⟩ (by decide +kernel) rfl [oX11 ao atext atold aL aC alaw aotherLaw anow atrial ahistory aguess acrewPlan amoatPlan achance io_wind io_spadeLimit, oX2 aC iC_size, rI Y (aC 1) 8 cC_age, rI Y (aC 2) 8 cC_skill, rI Y (aC 4) 8 cC_pals, oX5 aL iL_cells, oX9 anow aL aC inow_moats inow_spades inow_tides, rI Y (anow 1) 12 cnow_wall, rI Y (anow 3) 8 cnow_mood, rI Y (anow 4) 8 cnow_place, oX8 atold itold_size, rJ Y (atold 1) 12 ctold_numbers] ⟨rfl, rfl, rfl, trivial⟩ ⟨rfl, rfl, rfl, rfl, rfl, rfl, rfl, rfl, rfl, trivial⟩ 12 rfl (by decide +kernel) ?_
    refine a_istore_n C dX11_buildAndTell_19 (by decide) rfl ?_
    refine a_aload_n C dX11_buildAndTell_20 rfl ?_
    refine a_get C (eB_X11_56 _) dX11_buildAndTell_21 0 rfl rfl ?_
    obtain ⟨r4, h4, hf⟩ := fx_bind hf
    refine a_fV C (kX9_atHome l D Y anow aL aC inow_moats inow_spades inow_tides cnow_place iC_size r4 h4) (gB_X11_330 _) rfl dvX9_atHome ⟨⟨rfl, rfl⟩, ⟨Nat.le_of_ble_eq_true rfl, Nat.le_of_ble_eq_true rfl⟩, ⟨Nat.le_of_ble_eq_true rfl, Nat.le_of_ble_eq_true rfl⟩⟩ rfl (Nat.le_of_ble_eq_true rfl) dX11_buildAndTell_24 rfl rfl [6, 9, 1] [0, 2, 3, 4, 5, 7, 8, 10, 11] ⟨rfl, rfl, rfl, trivial⟩ (by decide +kernel) rfl [oX11 ao atext atold aL aC alaw aotherLaw anow atrial ahistory aguess acrewPlan amoatPlan achance io_wind io_spadeLimit, oX2 aC iC_size, rI Y (aC 1) 8 cC_age, rI Y (aC 2) 8 cC_skill, rI Y (aC 4) 8 cC_pals, oX5 aL iL_cells, oX9 anow aL aC inow_moats inow_spades inow_tides, rI Y (anow 1) 12 cnow_wall, rI Y (anow 3) 8 cnow_mood, rI Y (anow 4) 8 cnow_place, oX8 atold itold_size, rJ Y (atold 1) 12 ctold_numbers] ⟨rfl, rfl, rfl, trivial⟩ ⟨rfl, rfl, rfl, rfl, rfl, rfl, rfl, rfl, rfl, trivial⟩ 12 rfl (by decide +kernel) ?_
    refine a_istore_n C dX11_buildAndTell_27 (by decide) rfl ?_
    refine a_aload_n C dX11_buildAndTell_28 rfl ?_
    refine a_get C (eB_X11_56 _) dX11_buildAndTell_29 0 rfl rfl ?_
    refine a_iload_n C dX11_buildAndTell_32 rfl ?_
    obtain ⟨r5, h5, hf⟩ := fx_bind hf
    refine a_fV C (kX9_buildOn l D Y anow aL aC inow_moats inow_spades inow_tides cnow_wall cnow_mood cnow_place iC_size cC_age cC_skill cC_pals iL_cells x1 r5 h5) (gB_X11_309 _) rfl dvX9_buildOn ⟨⟨rfl, rfl⟩, ⟨Nat.le_of_ble_eq_true rfl, Nat.le_of_ble_eq_true rfl⟩, ⟨Nat.le_of_ble_eq_true rfl, Nat.le_of_ble_eq_true rfl⟩⟩ rfl (Nat.le_of_ble_eq_true rfl) dX11_buildAndTell_33 rfl rfl [6, 7, 8, 9, 1, 2, 3, 4, 5] [0, 10, 11] ⟨rfl, rfl, rfl, rfl, rfl, rfl, rfl, rfl, rfl, trivial⟩ (by decide +kernel) rfl [oX11 ao atext atold aL aC alaw aotherLaw anow atrial ahistory aguess acrewPlan amoatPlan achance io_wind io_spadeLimit, oX2 aC iC_size, rI Y (aC 1) 8 cC_age, rI Y (aC 2) 8 cC_skill, rI Y (aC 4) 8 cC_pals, oX5 aL iL_cells, oX9 anow aL aC inow_moats inow_spades inow_tides, rI Y (anow 1) 12 r5.1, rI Y (anow 3) 8 r5.2.1, rI Y (anow 4) 8 r5.2.2, oX8 atold itold_size, rJ Y (atold 1) 12 ctold_numbers] ⟨rfl, rfl, rfl, rfl, rfl, rfl, rfl, rfl, rfl, trivial⟩ ⟨rfl, rfl, rfl, trivial⟩ 12 rfl (by decide +kernel) ?_
    refine a_aload_n C dX11_buildAndTell_36 rfl ?_
    refine a_get C (eB_X11_19 _) dX11_buildAndTell_37 0 rfl rfl ?_
    refine a_aload_n C dX11_buildAndTell_40 rfl ?_
    refine a_get C (eB_X11_56 _) dX11_buildAndTell_41 0 rfl rfl ?_
    obtain ⟨r6, h6, hf⟩ := fx_bind hf
    refine a_fV C (kX9_atHome l D Y anow aL aC inow_moats inow_spades inow_tides r5.2.2 iC_size r6 h6) (gB_X11_330 _) rfl dvX9_atHome ⟨⟨rfl, rfl⟩, ⟨Nat.le_of_ble_eq_true rfl, Nat.le_of_ble_eq_true rfl⟩, ⟨Nat.le_of_ble_eq_true rfl, Nat.le_of_ble_eq_true rfl⟩⟩ rfl (Nat.le_of_ble_eq_true rfl) dX11_buildAndTell_44 rfl rfl [6, 9, 1] [0, 2, 3, 4, 5, 7, 8, 10, 11] ⟨rfl, rfl, rfl, trivial⟩ (by decide +kernel) rfl [oX11 ao atext atold aL aC alaw aotherLaw anow atrial ahistory aguess acrewPlan amoatPlan achance io_wind io_spadeLimit, oX2 aC iC_size, rI Y (aC 1) 8 cC_age, rI Y (aC 2) 8 cC_skill, rI Y (aC 4) 8 cC_pals, oX5 aL iL_cells, oX9 anow aL aC inow_moats inow_spades inow_tides, rI Y (anow 1) 12 r5.1, rI Y (anow 3) 8 r5.2.1, rI Y (anow 4) 8 r5.2.2, oX8 atold itold_size, rJ Y (atold 1) 12 ctold_numbers] ⟨rfl, rfl, rfl, trivial⟩ ⟨rfl, rfl, rfl, rfl, rfl, rfl, rfl, rfl, rfl, trivial⟩ 12 rfl (by decide +kernel) ?_
    refine a_iload_n C dX11_buildAndTell_47 rfl ?_
    refine a_iconst C (-1 : Int32) dX11_buildAndTell_48 (by decide) ?_
    refine a_ixor C dX11_buildAndTell_49 ?_
    refine a_iand C dX11_buildAndTell_50 ?_
    refine a_i2l C dX11_buildAndTell_51 ?_
    obtain ⟨r7, h7, hf⟩ := fx_bind hf
    refine a_fV C (kX8_tell l D Y atold itold_size ctold_numbers ((r6 &&& (r4 ^^^ (-1 : Int32))).toInt64) r7 h7) (gB_X11_279 _) rfl dvX8_tell ⟨⟨rfl, rfl⟩, ⟨Nat.le_of_ble_eq_true rfl, Nat.le_of_ble_eq_true rfl⟩, ⟨Nat.le_of_ble_eq_true rfl, Nat.le_of_ble_eq_true rfl⟩⟩ rfl (Nat.le_of_ble_eq_true rfl) dX11_buildAndTell_52 rfl rfl [10, 11] [0, 1, 2, 3, 4, 5, 6, 7, 8, 9] ⟨rfl, rfl, trivial⟩ (by decide +kernel) rfl [oX11 ao atext atold aL aC alaw aotherLaw anow atrial ahistory aguess acrewPlan amoatPlan achance io_wind io_spadeLimit, oX2 aC iC_size, rI Y (aC 1) 8 cC_age, rI Y (aC 2) 8 cC_skill, rI Y (aC 4) 8 cC_pals, oX5 aL iL_cells, oX9 anow aL aC inow_moats inow_spades inow_tides, rI Y (anow 1) 12 r5.1, rI Y (anow 3) 8 r5.2.1, rI Y (anow 4) 8 r5.2.2, oX8 atold r7.1, rJ Y (atold 1) 12 r7.2] ⟨rfl, rfl, trivial⟩ ⟨rfl, rfl, rfl, rfl, rfl, rfl, rfl, rfl, rfl, rfl, trivial⟩ 12 rfl (by decide +kernel) ?_
    refine a_aload_n C dX11_buildAndTell_55 rfl ?_
    refine a_get C (eB_X11_56 _) dX11_buildAndTell_56 0 rfl rfl ?_
    obtain ⟨r8, h8, hf⟩ := fx_bind hf
    refine a_fV C (kX9_sand l D Y anow aL aC inow_moats inow_spades inow_tides r5.1 iL_cells r8 h8) (gB_X11_333 _) rfl dvX9_sand ⟨⟨rfl, rfl⟩, ⟨Nat.le_of_ble_eq_true rfl, Nat.le_of_ble_eq_true rfl⟩, ⟨Nat.le_of_ble_eq_true rfl, Nat.le_of_ble_eq_true rfl⟩⟩ rfl (Nat.le_of_ble_eq_true rfl) dX11_buildAndTell_59 rfl rfl [6, 7, 5] [0, 1, 2, 3, 4, 8, 9, 10, 11] ⟨rfl, rfl, rfl, trivial⟩ (by decide +kernel) rfl [oX11 ao atext atold aL aC alaw aotherLaw anow atrial ahistory aguess acrewPlan amoatPlan achance io_wind io_spadeLimit, oX2 aC iC_size, rI Y (aC 1) 8 cC_age, rI Y (aC 2) 8 cC_skill, rI Y (aC 4) 8 cC_pals, oX5 aL iL_cells, oX9 anow aL aC inow_moats inow_spades inow_tides, rI Y (anow 1) 12 r5.1, rI Y (anow 3) 8 r5.2.1, rI Y (anow 4) 8 r5.2.2, oX8 atold r7.1, rJ Y (atold 1) 12 r7.2] ⟨rfl, rfl, rfl, trivial⟩ ⟨rfl, rfl, rfl, rfl, rfl, rfl, rfl, rfl, rfl, trivial⟩ 12 rfl (by decide +kernel) ?_
    refine a_iload_n C dX11_buildAndTell_62 rfl ?_
    refine a_isub C dX11_buildAndTell_63 ?_
    obtain rfl := fx_some hf
    exact a_iret C hQ dX11_buildAndTell_64 ⟨rfl, rfl⟩
  · have hf := fx_t h2 hf
    refine a_iconst C (-1 : Int32) dX11_buildAndTell_10 (by decide) ?_
    obtain rfl := fx_some hf
    exact a_iret C hQ dX11_buildAndTell_11 ⟨rfl, rfl⟩
-- X11_wordsOf
abbrev rmX11_wordsOf : Room := { frames := 0, cells := 0, slots := 0, locals := 0 }
theorem dvX11_wordsOf : yX11_wordsOf.cls ≠ "java/lang/invoke/MethodHandle" ∧ yX11_wordsOf.cls ≠ "java/lang/invoke/VarHandle" ∧ (parseMethodDescriptor yX11_wordsOf.desc).map (fun d => d.parameters.length) = some 1 := by decide +kernel
def fX11_wordsOf (x0 : Int32) : Option (Int32) :=
  if x0 = (98 : Int32) then (some (1 : Int32)) else if x0 = (99 : Int32) then (some (-1 : Int32)) else if x0 = (100 : Int32) then (some (-1 : Int32)) else if x0 = (101 : Int32) then (some (-1 : Int32)) else if x0 = (102 : Int32) then (some (-1 : Int32)) else if x0 = (103 : Int32) then (some (2 : Int32)) else if x0 = (104 : Int32) then (some (1 : Int32)) else if x0 = (105 : Int32) then (some (-1 : Int32)) else if x0 = (106 : Int32) then (some (-1 : Int32)) else if x0 = (107 : Int32) then (some (-1 : Int32)) else if x0 = (108 : Int32) then (some (-1 : Int32)) else if x0 = (109 : Int32) then (some (1 : Int32)) else if x0 = (110 : Int32) then (some (-1 : Int32)) else if x0 = (111 : Int32) then (some (-1 : Int32)) else if x0 = (112 : Int32) then (some (-1 : Int32)) else if x0 = (113 : Int32) then (some (-1 : Int32)) else if x0 = (114 : Int32) then (some (-1 : Int32)) else if x0 = (115 : Int32) then (some (1 : Int32)) else if x0 = (116 : Int32) then (some (1 : Int32)) else if x0 = (117 : Int32) then (some (-1 : Int32)) else if x0 = (118 : Int32) then (some (-1 : Int32)) else if x0 = (119 : Int32) then (some (0 : Int32)) else (some (-1 : Int32))
set_option maxHeartbeats 400000 in
set_option maxRecDepth 100000 in
theorem kX11_wordsOf (l : Launch) (D : va_G) (Y : Nat → ClassId) (x0 : Int32) (res : Int32) (hf : fX11_wordsOf x0 = some res) : amf l D Y yX11_wordsOf wsX11_wordsOf rmX11_wordsOf [.int x0] [] (some (.int res)) [] := by
  refine amf.of (cc := cX11_wordsOf) (maxL := 1) (rt := (some .int)) (by decide) rfl RX11 rfl (Nat.le_of_ble_eq_true rfl) [some (.int x0)] rfl ?_
  intro X C hQ
  unfold fX11_wordsOf at hf
  refine a_iload_n C dX11_wordsOf_0 rfl ?_
  by_cases h1 : x0 = (98 : Int32)
  · have hf := fx_t h1 hf
    refine a_tableIn (off := 105) C 106 dX11_wordsOf_1 (by rw [h1]; decide) (by rw [h1]; decide) (by rw [h1]; first | done | rfl | decide) (by decide) ?_
    refine a_iconst C (1 : Int32) dX11_wordsOf_106 (by decide) ?_
    obtain rfl := fx_some hf
    exact a_iret C hQ dX11_wordsOf_107 ⟨rfl, rfl⟩
  have hf := fx_f h1 hf
  by_cases h2 : x0 = (99 : Int32)
  · have hf := fx_t h2 hf
    refine a_tableIn (off := 109) C 110 dX11_wordsOf_1 (by rw [h2]; decide) (by rw [h2]; decide) (by rw [h2]; first | done | rfl | decide) (by decide) ?_
    refine a_iconst C (-1 : Int32) dX11_wordsOf_110 (by decide) ?_
    obtain rfl := fx_some hf
    exact a_iret C hQ dX11_wordsOf_111 ⟨rfl, rfl⟩
  have hf := fx_f h2 hf
  by_cases h3 : x0 = (100 : Int32)
  · have hf := fx_t h3 hf
    refine a_tableIn (off := 109) C 110 dX11_wordsOf_1 (by rw [h3]; decide) (by rw [h3]; decide) (by rw [h3]; first | done | rfl | decide) (by decide) ?_
    refine a_iconst C (-1 : Int32) dX11_wordsOf_110 (by decide) ?_
    obtain rfl := fx_some hf
    exact a_iret C hQ dX11_wordsOf_111 ⟨rfl, rfl⟩
  have hf := fx_f h3 hf
  by_cases h4 : x0 = (101 : Int32)
  · have hf := fx_t h4 hf
    refine a_tableIn (off := 109) C 110 dX11_wordsOf_1 (by rw [h4]; decide) (by rw [h4]; decide) (by rw [h4]; first | done | rfl | decide) (by decide) ?_
    refine a_iconst C (-1 : Int32) dX11_wordsOf_110 (by decide) ?_
    obtain rfl := fx_some hf
    exact a_iret C hQ dX11_wordsOf_111 ⟨rfl, rfl⟩
  have hf := fx_f h4 hf
  by_cases h5 : x0 = (102 : Int32)
  · have hf := fx_t h5 hf
    refine a_tableIn (off := 109) C 110 dX11_wordsOf_1 (by rw [h5]; decide) (by rw [h5]; decide) (by rw [h5]; first | done | rfl | decide) (by decide) ?_
    refine a_iconst C (-1 : Int32) dX11_wordsOf_110 (by decide) ?_
    obtain rfl := fx_some hf
    exact a_iret C hQ dX11_wordsOf_111 ⟨rfl, rfl⟩
  have hf := fx_f h5 hf
  by_cases h6 : x0 = (103 : Int32)
  · have hf := fx_t h6 hf
    refine a_tableIn (off := 103) C 104 dX11_wordsOf_1 (by rw [h6]; decide) (by rw [h6]; decide) (by rw [h6]; first | done | rfl | decide) (by decide) ?_
    refine a_iconst C (2 : Int32) dX11_wordsOf_104 (by decide) ?_
    obtain rfl := fx_some hf
    exact a_iret C hQ dX11_wordsOf_105 ⟨rfl, rfl⟩
  have hf := fx_f h6 hf
  by_cases h7 : x0 = (104 : Int32)
  · have hf := fx_t h7 hf
    refine a_tableIn (off := 105) C 106 dX11_wordsOf_1 (by rw [h7]; decide) (by rw [h7]; decide) (by rw [h7]; first | done | rfl | decide) (by decide) ?_
    refine a_iconst C (1 : Int32) dX11_wordsOf_106 (by decide) ?_
    obtain rfl := fx_some hf
    exact a_iret C hQ dX11_wordsOf_107 ⟨rfl, rfl⟩
  have hf := fx_f h7 hf
  by_cases h8 : x0 = (105 : Int32)
  · have hf := fx_t h8 hf
    refine a_tableIn (off := 109) C 110 dX11_wordsOf_1 (by rw [h8]; decide) (by rw [h8]; decide) (by rw [h8]; first | done | rfl | decide) (by decide) ?_
    refine a_iconst C (-1 : Int32) dX11_wordsOf_110 (by decide) ?_
    obtain rfl := fx_some hf
    exact a_iret C hQ dX11_wordsOf_111 ⟨rfl, rfl⟩
  have hf := fx_f h8 hf
  by_cases h9 : x0 = (106 : Int32)
  · have hf := fx_t h9 hf
    refine a_tableIn (off := 109) C 110 dX11_wordsOf_1 (by rw [h9]; decide) (by rw [h9]; decide) (by rw [h9]; first | done | rfl | decide) (by decide) ?_
    refine a_iconst C (-1 : Int32) dX11_wordsOf_110 (by decide) ?_
    obtain rfl := fx_some hf
    exact a_iret C hQ dX11_wordsOf_111 ⟨rfl, rfl⟩
  have hf := fx_f h9 hf
  by_cases h10 : x0 = (107 : Int32)
  · have hf := fx_t h10 hf
    refine a_tableIn (off := 109) C 110 dX11_wordsOf_1 (by rw [h10]; decide) (by rw [h10]; decide) (by rw [h10]; first | done | rfl | decide) (by decide) ?_
    refine a_iconst C (-1 : Int32) dX11_wordsOf_110 (by decide) ?_
    obtain rfl := fx_some hf
    exact a_iret C hQ dX11_wordsOf_111 ⟨rfl, rfl⟩
  have hf := fx_f h10 hf
  by_cases h11 : x0 = (108 : Int32)
  · have hf := fx_t h11 hf
    refine a_tableIn (off := 109) C 110 dX11_wordsOf_1 (by rw [h11]; decide) (by rw [h11]; decide) (by rw [h11]; first | done | rfl | decide) (by decide) ?_
    refine a_iconst C (-1 : Int32) dX11_wordsOf_110 (by decide) ?_
    obtain rfl := fx_some hf
    exact a_iret C hQ dX11_wordsOf_111 ⟨rfl, rfl⟩
  have hf := fx_f h11 hf
  by_cases h12 : x0 = (109 : Int32)
  · have hf := fx_t h12 hf
    refine a_tableIn (off := 105) C 106 dX11_wordsOf_1 (by rw [h12]; decide) (by rw [h12]; decide) (by rw [h12]; first | done | rfl | decide) (by decide) ?_
    refine a_iconst C (1 : Int32) dX11_wordsOf_106 (by decide) ?_
    obtain rfl := fx_some hf
    exact a_iret C hQ dX11_wordsOf_107 ⟨rfl, rfl⟩
  have hf := fx_f h12 hf
  by_cases h13 : x0 = (110 : Int32)
  · have hf := fx_t h13 hf
    refine a_tableIn (off := 109) C 110 dX11_wordsOf_1 (by rw [h13]; decide) (by rw [h13]; decide) (by rw [h13]; first | done | rfl | decide) (by decide) ?_
    refine a_iconst C (-1 : Int32) dX11_wordsOf_110 (by decide) ?_
    obtain rfl := fx_some hf
    exact a_iret C hQ dX11_wordsOf_111 ⟨rfl, rfl⟩
  have hf := fx_f h13 hf
  by_cases h14 : x0 = (111 : Int32)
  · have hf := fx_t h14 hf
    refine a_tableIn (off := 109) C 110 dX11_wordsOf_1 (by rw [h14]; decide) (by rw [h14]; decide) (by rw [h14]; first | done | rfl | decide) (by decide) ?_
    refine a_iconst C (-1 : Int32) dX11_wordsOf_110 (by decide) ?_
    obtain rfl := fx_some hf
    exact a_iret C hQ dX11_wordsOf_111 ⟨rfl, rfl⟩
  have hf := fx_f h14 hf
  by_cases h15 : x0 = (112 : Int32)
  · have hf := fx_t h15 hf
    refine a_tableIn (off := 109) C 110 dX11_wordsOf_1 (by rw [h15]; decide) (by rw [h15]; decide) (by rw [h15]; first | done | rfl | decide) (by decide) ?_
    refine a_iconst C (-1 : Int32) dX11_wordsOf_110 (by decide) ?_
    obtain rfl := fx_some hf
    exact a_iret C hQ dX11_wordsOf_111 ⟨rfl, rfl⟩
  have hf := fx_f h15 hf
  by_cases h16 : x0 = (113 : Int32)
  · have hf := fx_t h16 hf
    refine a_tableIn (off := 109) C 110 dX11_wordsOf_1 (by rw [h16]; decide) (by rw [h16]; decide) (by rw [h16]; first | done | rfl | decide) (by decide) ?_
    refine a_iconst C (-1 : Int32) dX11_wordsOf_110 (by decide) ?_
    obtain rfl := fx_some hf
    exact a_iret C hQ dX11_wordsOf_111 ⟨rfl, rfl⟩
  have hf := fx_f h16 hf
  by_cases h17 : x0 = (114 : Int32)
  · have hf := fx_t h17 hf
    refine a_tableIn (off := 109) C 110 dX11_wordsOf_1 (by rw [h17]; decide) (by rw [h17]; decide) (by rw [h17]; first | done | rfl | decide) (by decide) ?_
    refine a_iconst C (-1 : Int32) dX11_wordsOf_110 (by decide) ?_
    obtain rfl := fx_some hf
    exact a_iret C hQ dX11_wordsOf_111 ⟨rfl, rfl⟩
  have hf := fx_f h17 hf
  by_cases h18 : x0 = (115 : Int32)
  · have hf := fx_t h18 hf
    refine a_tableIn (off := 105) C 106 dX11_wordsOf_1 (by rw [h18]; decide) (by rw [h18]; decide) (by rw [h18]; first | done | rfl | decide) (by decide) ?_
    refine a_iconst C (1 : Int32) dX11_wordsOf_106 (by decide) ?_
    obtain rfl := fx_some hf
    exact a_iret C hQ dX11_wordsOf_107 ⟨rfl, rfl⟩
  have hf := fx_f h18 hf
  by_cases h19 : x0 = (116 : Int32)
  · have hf := fx_t h19 hf
    refine a_tableIn (off := 105) C 106 dX11_wordsOf_1 (by rw [h19]; decide) (by rw [h19]; decide) (by rw [h19]; first | done | rfl | decide) (by decide) ?_
    refine a_iconst C (1 : Int32) dX11_wordsOf_106 (by decide) ?_
    obtain rfl := fx_some hf
    exact a_iret C hQ dX11_wordsOf_107 ⟨rfl, rfl⟩
  have hf := fx_f h19 hf
  by_cases h20 : x0 = (117 : Int32)
  · have hf := fx_t h20 hf
    refine a_tableIn (off := 109) C 110 dX11_wordsOf_1 (by rw [h20]; decide) (by rw [h20]; decide) (by rw [h20]; first | done | rfl | decide) (by decide) ?_
    refine a_iconst C (-1 : Int32) dX11_wordsOf_110 (by decide) ?_
    obtain rfl := fx_some hf
    exact a_iret C hQ dX11_wordsOf_111 ⟨rfl, rfl⟩
  have hf := fx_f h20 hf
  by_cases h21 : x0 = (118 : Int32)
  · have hf := fx_t h21 hf
    refine a_tableIn (off := 109) C 110 dX11_wordsOf_1 (by rw [h21]; decide) (by rw [h21]; decide) (by rw [h21]; first | done | rfl | decide) (by decide) ?_
    refine a_iconst C (-1 : Int32) dX11_wordsOf_110 (by decide) ?_
    obtain rfl := fx_some hf
    exact a_iret C hQ dX11_wordsOf_111 ⟨rfl, rfl⟩
  have hf := fx_f h21 hf
  by_cases h22 : x0 = (119 : Int32)
  · have hf := fx_t h22 hf
    refine a_tableIn (off := 107) C 108 dX11_wordsOf_1 (by rw [h22]; decide) (by rw [h22]; decide) (by rw [h22]; first | done | rfl | decide) (by decide) ?_
    refine a_iconst C (0 : Int32) dX11_wordsOf_108 (by decide) ?_
    obtain rfl := fx_some hf
    exact a_iret C hQ dX11_wordsOf_109 ⟨rfl, rfl⟩
  have hf := fx_f h22 hf
  refine a_tableOut C 110 dX11_wordsOf_1 (by have z0 := lv_neT (a := 98) h1 (by decide); have z1 := lv_neT (a := 99) h2 (by decide); have z2 := lv_neT (a := 100) h3 (by decide); have z3 := lv_neT (a := 101) h4 (by decide); have z4 := lv_neT (a := 102) h5 (by decide); have z5 := lv_neT (a := 103) h6 (by decide); have z6 := lv_neT (a := 104) h7 (by decide); have z7 := lv_neT (a := 105) h8 (by decide); have z8 := lv_neT (a := 106) h9 (by decide); have z9 := lv_neT (a := 107) h10 (by decide); have z10 := lv_neT (a := 108) h11 (by decide); have z11 := lv_neT (a := 109) h12 (by decide); have z12 := lv_neT (a := 110) h13 (by decide); have z13 := lv_neT (a := 111) h14 (by decide); have z14 := lv_neT (a := 112) h15 (by decide); have z15 := lv_neT (a := 113) h16 (by decide); have z16 := lv_neT (a := 114) h17 (by decide); have z17 := lv_neT (a := 115) h18 (by decide); have z18 := lv_neT (a := 116) h19 (by decide); have z19 := lv_neT (a := 117) h20 (by decide); have z20 := lv_neT (a := 118) h21 (by decide); have z21 := lv_neT (a := 119) h22 (by decide); omega) (by decide) ?_
  refine a_iconst C (-1 : Int32) dX11_wordsOf_110 (by decide) ?_
  obtain rfl := fx_some hf
  exact a_iret C hQ dX11_wordsOf_111 ⟨rfl, rfl⟩
-- X11_wordFits
abbrev rmX11_wordFits : Room := { frames := 1, cells := 0, slots := 0, locals := 22 }
theorem dvX11_wordFits : yX11_wordFits.cls ≠ "java/lang/invoke/MethodHandle" ∧ yX11_wordFits.cls ≠ "java/lang/invoke/VarHandle" ∧ (parseMethodDescriptor yX11_wordFits.desc).map (fun d => d.parameters.length) = some 3 := by decide +kernel
def fX11_wordFits_b42 (s0 : Int32) (s1 : Int32) (s2 : Int32) : Option (Int32) :=
  (fX11_within s0 s1 s2).bind (fun r1 => if r1 = 0 ∨ r1 = 1 then some r1 else none)
set_option maxHeartbeats 400000 in
set_option maxRecDepth 100000 in
theorem kX11_wordFits_b42 {X : cxT} {l : Launch} {D : va_G} {Y : Nat → ClassId} {s0 : Int32} {s1 : Int32} {s2 : Int32} {res : Int32} (C : axC X l D Y cX11_wordFits 4 RX11 wsX11_wordFits rmX11_wordFits (some .boolean)) (hQ : axQ X 0 0 (fun r9 w9 => r9 = (some (.int res)) ∧ w9 = [])) (hf : fX11_wordFits_b42 s0 s1 s2 = some res) : ax X 0 0 42 [none, none, none, none] [] [.int s2, .int s1, .int s0] := by
  unfold fX11_wordFits_b42 at hf
  obtain ⟨r1, h1, hf⟩ := fx_bind hf
  refine a_fS C (kX11_within l D Y s0 s1 s2 r1 h1) (gB_X11_203 _) rfl dvX11_within ⟨⟨rfl, rfl⟩, ⟨Nat.le_of_ble_eq_true rfl, Nat.le_of_ble_eq_true rfl⟩, ⟨Nat.le_of_ble_eq_true rfl, Nat.le_of_ble_eq_true rfl⟩⟩ rfl (Nat.le_of_ble_eq_true rfl) dX11_wordFits_42 [] [] trivial (by decide +kernel) rfl [] trivial trivial 0 rfl (by decide +kernel) ?_
  obtain ⟨h2, hf⟩ := fx_ite hf
  obtain rfl := fx_some hf
  exact a_zret C hQ h2 dX11_wordFits_45 ⟨rfl, rfl⟩
def fX11_wordFits_b27 (x2 : Int32) (s0 : Int32) : Option (Int32) :=
  if s0 = (0 : Int32) then (fX11_wordFits_b42 x2 (97 : Int32) (104 : Int32)) else (fX11_wordFits_b42 x2 (97 : Int32) (108 : Int32))
set_option maxHeartbeats 400000 in
set_option maxRecDepth 100000 in
theorem kX11_wordFits_b27 {X : cxT} {l : Launch} {D : va_G} {Y : Nat → ClassId} {x2 : Int32} {s0 : Int32} {res : Int32} (C : axC X l D Y cX11_wordFits 4 RX11 wsX11_wordFits rmX11_wordFits (some .boolean)) (hQ : axQ X 0 0 (fun r9 w9 => r9 = (some (.int res)) ∧ w9 = [])) (hf : fX11_wordFits_b27 x2 s0 = some res) : ax X 0 0 27 [none, none, some (.int x2), none] [] [.int s0] := by
  unfold fX11_wordFits_b27 at hf
  refine a_istore_n C dX11_wordFits_27 (by decide) rfl ?_
  refine a_iload_n C dX11_wordFits_28 rfl ?_
  refine a_bipush C (97 : Int32) dX11_wordFits_29 (by decide) ?_
  refine a_iload_n C dX11_wordFits_31 rfl ?_
  refine a_if_eq C 40 dX11_wordFits_32 (by decide) (fun h3 => ?_) (fun h3 => ?_)
  · have hf := fx_t h3 hf
    refine a_bipush C (104 : Int32) dX11_wordFits_40 (by decide) ?_
    refine a_kill [2, 3] ?_
    exact kX11_wordFits_b42 C hQ hf
  · have hf := fx_f h3 hf
    refine a_bipush C (108 : Int32) dX11_wordFits_35 (by decide) ?_
    refine a_goto C 42 dX11_wordFits_37 (by decide) ?_
    refine a_kill [2, 3] ?_
    exact kX11_wordFits_b42 C hQ hf
def fX11_wordFits_b22 (x2 : Int32) : Option (Int32) :=
  fX11_wordFits_b27 x2 (1 : Int32)
set_option maxHeartbeats 400000 in
set_option maxRecDepth 100000 in
theorem kX11_wordFits_b22 {X : cxT} {l : Launch} {D : va_G} {Y : Nat → ClassId} {x2 : Int32} {res : Int32} (C : axC X l D Y cX11_wordFits 4 RX11 wsX11_wordFits rmX11_wordFits (some .boolean)) (hQ : axQ X 0 0 (fun r9 w9 => r9 = (some (.int res)) ∧ w9 = [])) (hf : fX11_wordFits_b22 x2 = some res) : ax X 0 0 22 [none, none, some (.int x2), none] [] [] := by
  unfold fX11_wordFits_b22 at hf
  refine a_iconst C (1 : Int32) dX11_wordFits_22 (by decide) ?_
  refine a_goto C 27 dX11_wordFits_23 (by decide) ?_
  exact kX11_wordFits_b27 C hQ hf
def fX11_wordFits (x0 : Int32) (x1 : Int32) (x2 : Int32) : Option (Int32) :=
  if x0 = (98 : Int32) then ((fX11_isDigit x2).bind (fun r7 => if r7 = 0 ∨ r7 = 1 then some r7 else none)) else (if x0 = (109 : Int32) then (fX11_wordFits_b22 x2) else (if x1 = (1 : Int32) then (fX11_wordFits_b22 x2) else (fX11_wordFits_b27 x2 (0 : Int32))))
set_option maxHeartbeats 400000 in
set_option maxRecDepth 100000 in
theorem kX11_wordFits (l : Launch) (D : va_G) (Y : Nat → ClassId) (x0 : Int32) (x1 : Int32) (x2 : Int32) (res : Int32) (hf : fX11_wordFits x0 x1 x2 = some res) : amf l D Y yX11_wordFits wsX11_wordFits rmX11_wordFits [.int x0, .int x1, .int x2] [] (some (.int res)) [] := by
  refine amf.of (cc := cX11_wordFits) (maxL := 4) (rt := (some .boolean)) (by decide) rfl RX11 rfl (Nat.le_of_ble_eq_true rfl) [some (.int x0), some (.int x1), some (.int x2), none] rfl ?_
  intro X C hQ
  unfold fX11_wordFits at hf
  refine a_iload_n C dX11_wordFits_0 rfl ?_
  refine a_bipush C (98 : Int32) dX11_wordFits_1 (by decide) ?_
  refine a_icmp_ne C 11 dX11_wordFits_3 (by decide) (fun h4 => ?_) (fun h4 => ?_)
  · have hf := fx_f h4 hf
    refine a_iload_n C dX11_wordFits_11 rfl ?_
    refine a_bipush C (109 : Int32) dX11_wordFits_12 (by decide) ?_
    refine a_icmp_eq C 22 dX11_wordFits_14 (by decide) (fun h5 => ?_) (fun h5 => ?_)
    · have hf := fx_t h5 hf
      refine a_kill [0, 1] ?_
      exact kX11_wordFits_b22 C hQ hf
    · have hf := fx_f h5 hf
      refine a_iload_n C dX11_wordFits_17 rfl ?_
      refine a_iconst C (1 : Int32) dX11_wordFits_18 (by decide) ?_
      refine a_icmp_ne C 26 dX11_wordFits_19 (by decide) (fun h6 => ?_) (fun h6 => ?_)
      · have hf := fx_f h6 hf
        refine a_iconst C (0 : Int32) dX11_wordFits_26 (by decide) ?_
        refine a_kill [0, 1] ?_
        exact kX11_wordFits_b27 C hQ hf
      · have hf := fx_t h6 hf
        refine a_kill [0, 1] ?_
        exact kX11_wordFits_b22 C hQ hf
  · have hf := fx_t h4 hf
    refine a_iload_n C dX11_wordFits_6 rfl ?_
    obtain ⟨r7, h7, hf⟩ := fx_bind hf
    refine a_fS C (kX11_isDigit l D Y x2 r7 h7) (gB_X11_421 _) rfl dvX11_isDigit ⟨⟨rfl, rfl⟩, ⟨Nat.le_of_ble_eq_true rfl, Nat.le_of_ble_eq_true rfl⟩, ⟨Nat.le_of_ble_eq_true rfl, Nat.le_of_ble_eq_true rfl⟩⟩ rfl (Nat.le_of_ble_eq_true rfl) dX11_wordFits_7 [] [] trivial (by decide +kernel) rfl [] trivial trivial 0 rfl (by decide +kernel) ?_
    obtain ⟨h8, hf⟩ := fx_ite hf
    obtain rfl := fx_some hf
    exact a_zret C hQ h8 dX11_wordFits_10 ⟨rfl, rfl⟩
-- X11_wordAt
abbrev rmX11_wordAt : Room := { frames := 1, cells := 0, slots := 0, locals := 22 }
theorem dvX11_wordAt : yX11_wordAt.cls = RX11 ∧ yX11_wordAt.cls ≠ "java/lang/invoke/MethodHandle" ∧ yX11_wordAt.cls ≠ "java/lang/invoke/VarHandle" ∧ (parseMethodDescriptor yX11_wordAt.desc).map (fun d => d.parameters.length) = some 1 := by decide +kernel
def fX11_wordAt_b40 (ctext_signs : Nat → Int32) (s0 : Int32) : Option (Int32) :=
  some s0
set_option maxHeartbeats 400000 in
set_option maxRecDepth 100000 in
theorem kX11_wordAt_b40 {X : cxT} {l : Launch} {D : va_G} {Y : Nat → ClassId} {ao atext atold aL aC alaw aotherLaw anow atrial ahistory aguess acrewPlan amoatPlan achance : Nat → Nat} {io_wind : Int32} {io_spadeLimit : Int32} {itext_length : Int32} {ctext_signs : Nat → Int32} {s0 : Int32} {res : Int32} (C : axC X l D Y cX11_wordAt 3 RX11 wsX11_wordAt rmX11_wordAt (some .int)) (hQ : axQ X 0 0 (fun r9 w9 => r9 = (some (.int res)) ∧ w9 = [oX11 ao atext atold aL aC alaw aotherLaw anow atrial ahistory aguess acrewPlan amoatPlan achance io_wind io_spadeLimit, oX10 atext itext_length, rC Y (atext 1) 80 ctext_signs])) (hf : fX11_wordAt_b40 ctext_signs s0 = some res) : ax X 0 0 40 [none, none, none] [oX11 ao atext atold aL aC alaw aotherLaw anow atrial ahistory aguess acrewPlan amoatPlan achance io_wind io_spadeLimit, oX10 atext itext_length, rC Y (atext 1) 80 ctext_signs] [.int s0] := by
  unfold fX11_wordAt_b40 at hf
  obtain rfl := fx_some hf
  exact a_iret C hQ dX11_wordAt_40 ⟨rfl, rfl⟩
def fX11_wordAt (ctext_signs : Nat → Int32) (x1 : Int32) : Option (Int32) :=
  (fX11_within x1 (0 : Int32) (79 : Int32)).bind (fun r1 => if r1 = (0 : Int32) then (some (-1 : Int32)) else (if inb x1 80 then (fX11_isDigit (ctext_signs (Int32.toNatClampNeg x1))).bind (fun r4 => if r4 = (0 : Int32) then (fX11_wordAt_b40 ctext_signs ((ctext_signs (Int32.toNatClampNeg x1)) - (97 : Int32))) else (fX11_wordAt_b40 ctext_signs ((ctext_signs (Int32.toNatClampNeg x1)) - (48 : Int32)))) else none))
set_option maxHeartbeats 400000 in
set_option maxRecDepth 100000 in
theorem kX11_wordAt (l : Launch) (D : va_G) (Y : Nat → ClassId) (ao atext atold aL aC alaw aotherLaw anow atrial ahistory aguess acrewPlan amoatPlan achance : Nat → Nat) (io_wind : Int32) (io_spadeLimit : Int32) (itext_length : Int32) (ctext_signs : Nat → Int32) (x1 : Int32) (res : Int32) (hf : fX11_wordAt ctext_signs x1 = some res) : amf l D Y yX11_wordAt wsX11_wordAt rmX11_wordAt [.ref (ao 0), .int x1] [oX11 ao atext atold aL aC alaw aotherLaw anow atrial ahistory aguess acrewPlan amoatPlan achance io_wind io_spadeLimit, oX10 atext itext_length, rC Y (atext 1) 80 ctext_signs] (some (.int res)) [oX11 ao atext atold aL aC alaw aotherLaw anow atrial ahistory aguess acrewPlan amoatPlan achance io_wind io_spadeLimit, oX10 atext itext_length, rC Y (atext 1) 80 ctext_signs] := by
  refine amf.of (cc := cX11_wordAt) (maxL := 3) (rt := (some .int)) (by decide) rfl RX11 rfl (Nat.le_of_ble_eq_true rfl) [some (.ref (ao 0)), some (.int x1), none] rfl ?_
  intro X C hQ
  unfold fX11_wordAt at hf
  refine a_iload_n C dX11_wordAt_0 rfl ?_
  refine a_iconst C (0 : Int32) dX11_wordAt_1 (by decide) ?_
  refine a_bipush C (79 : Int32) dX11_wordAt_2 (by decide) ?_
  obtain ⟨r1, h1, hf⟩ := fx_bind hf
  refine a_fS C (kX11_within l D Y x1 (0 : Int32) (79 : Int32) r1 h1) (gB_X11_203 _) rfl dvX11_within ⟨⟨rfl, rfl⟩, ⟨Nat.le_of_ble_eq_true rfl, Nat.le_of_ble_eq_true rfl⟩, ⟨Nat.le_of_ble_eq_true rfl, Nat.le_of_ble_eq_true rfl⟩⟩ rfl (Nat.le_of_ble_eq_true rfl) dX11_wordAt_4 [] [0, 1, 2] trivial (by decide +kernel) rfl [oX11 ao atext atold aL aC alaw aotherLaw anow atrial ahistory aguess acrewPlan amoatPlan achance io_wind io_spadeLimit, oX10 atext itext_length, rC Y (atext 1) 80 ctext_signs] trivial ⟨rfl, rfl, rfl, trivial⟩ 3 rfl (by decide +kernel) ?_
  refine a_if_ne C 12 dX11_wordAt_7 (by decide) (fun h2 => ?_) (fun h2 => ?_)
  · have hf := fx_f h2 hf
    refine a_aload_n C dX11_wordAt_12 rfl ?_
    refine a_get C (eB_X11_10 _) dX11_wordAt_13 0 rfl rfl ?_
    refine a_get C (eB_X11_240 _) dX11_wordAt_16 1 rfl rfl ?_
    refine a_iload_n C dX11_wordAt_19 rfl ?_
    obtain ⟨h3, hf⟩ := fx_ite hf
    refine a_cald C dX11_wordAt_20 2 rfl h3 ?_
    refine a_istore_n C dX11_wordAt_21 (by decide) rfl ?_
    refine a_iload_n C dX11_wordAt_22 rfl ?_
    obtain ⟨r4, h4, hf⟩ := fx_bind hf
    refine a_fS C (kX11_isDigit l D Y (ctext_signs (Int32.toNatClampNeg x1)) r4 h4) (gB_X11_421 _) rfl dvX11_isDigit ⟨⟨rfl, rfl⟩, ⟨Nat.le_of_ble_eq_true rfl, Nat.le_of_ble_eq_true rfl⟩, ⟨Nat.le_of_ble_eq_true rfl, Nat.le_of_ble_eq_true rfl⟩⟩ rfl (Nat.le_of_ble_eq_true rfl) dX11_wordAt_23 [] [0, 1, 2] trivial (by decide +kernel) rfl [oX11 ao atext atold aL aC alaw aotherLaw anow atrial ahistory aguess acrewPlan amoatPlan achance io_wind io_spadeLimit, oX10 atext itext_length, rC Y (atext 1) 80 ctext_signs] trivial ⟨rfl, rfl, rfl, trivial⟩ 3 rfl (by decide +kernel) ?_
    refine a_if_eq C 36 dX11_wordAt_26 (by decide) (fun h5 => ?_) (fun h5 => ?_)
    · have hf := fx_t h5 hf
      refine a_iload_n C dX11_wordAt_36 rfl ?_
      refine a_bipush C (97 : Int32) dX11_wordAt_37 (by decide) ?_
      refine a_isub C dX11_wordAt_39 ?_
      refine a_kill [0, 1, 2] ?_
      exact kX11_wordAt_b40 C hQ hf
    · have hf := fx_f h5 hf
      refine a_iload_n C dX11_wordAt_29 rfl ?_
      refine a_bipush C (48 : Int32) dX11_wordAt_30 (by decide) ?_
      refine a_isub C dX11_wordAt_32 ?_
      refine a_goto C 40 dX11_wordAt_33 (by decide) ?_
      refine a_kill [0, 1, 2] ?_
      exact kX11_wordAt_b40 C hQ hf
  · have hf := fx_t h2 hf
    refine a_iconst C (-1 : Int32) dX11_wordAt_10 (by decide) ?_
    obtain rfl := fx_some hf
    exact a_iret C hQ dX11_wordAt_11 ⟨rfl, rfl⟩
-- X11_heightOf
abbrev rmX11_heightOf : Room := { frames := 3, cells := 0, slots := 0, locals := 69 }
theorem dvX11_heightOf : yX11_heightOf.cls = RX11 ∧ yX11_heightOf.cls ≠ "java/lang/invoke/MethodHandle" ∧ yX11_heightOf.cls ≠ "java/lang/invoke/VarHandle" ∧ (parseMethodDescriptor yX11_heightOf.desc).map (fun d => d.parameters.length) = some 3 := by decide +kernel
def fX11_heightOf (io_wind : Int32) (ip1_length : Int32) (cp1_codes : Nat → Int32) (cp1_stack : Nat → Int32) (ip2_moats : Int32) (ip2_tides : Int32) (iL_cells : Int32) (x3 : Int32) : Option (Int32 × (Nat → Int32)) :=
  (fJ6_bitCount_0f7a4 ip2_moats).bind (fun r1 => (fX6_value ip1_length cp1_codes cp1_stack (jrem (ip2_tides + x3) (8 : Int32)) io_wind iL_cells r1).bind (fun r2 => some (r2.1, r2.2)))
set_option maxHeartbeats 400000 in
set_option maxRecDepth 100000 in
theorem kX11_heightOf (l : Launch) (D : va_G) (Y : Nat → ClassId) (ao atext atold aL aC alaw aotherLaw anow atrial ahistory aguess acrewPlan amoatPlan achance ap1 ap2 : Nat → Nat) (io_wind : Int32) (io_spadeLimit : Int32) (ip1_length : Int32) (ip1_at : Int32) (ip1_sign : Int32) (ip1_bad : Int32) (cp1_codes : Nat → Int32) (cp1_stack : Nat → Int32) (ip2_moats : Int32) (ip2_spades : Int32) (ip2_tides : Int32) (iL_cells : Int32) (x3 : Int32) (res : Int32 × (Nat → Int32)) (hf : fX11_heightOf io_wind ip1_length cp1_codes cp1_stack ip2_moats ip2_tides iL_cells x3 = some res) : amf l D Y yX11_heightOf wsX11_heightOf rmX11_heightOf [.ref (ao 0), .ref (ap1 0), .ref (ap2 0), .int x3] [oX11 ao atext atold aL aC alaw aotherLaw anow atrial ahistory aguess acrewPlan amoatPlan achance io_wind io_spadeLimit, oX6 ap1 ip1_length ip1_at ip1_sign ip1_bad, rI Y (ap1 1) 40 cp1_codes, rI Y (ap1 2) 40 cp1_stack, oX9 ap2 aL aC ip2_moats ip2_spades ip2_tides, oX5 aL iL_cells] (some (.int res.1)) [oX11 ao atext atold aL aC alaw aotherLaw anow atrial ahistory aguess acrewPlan amoatPlan achance io_wind io_spadeLimit, oX6 ap1 ip1_length ip1_at ip1_sign ip1_bad, rI Y (ap1 1) 40 cp1_codes, rI Y (ap1 2) 40 res.2, oX9 ap2 aL aC ip2_moats ip2_spades ip2_tides, oX5 aL iL_cells] := by
  refine amf.of (cc := cX11_heightOf) (maxL := 4) (rt := (some .int)) (by decide) rfl RX11 rfl (Nat.le_of_ble_eq_true rfl) [some (.ref (ao 0)), some (.ref (ap1 0)), some (.ref (ap2 0)), some (.int x3)] rfl ?_
  intro X C hQ
  unfold fX11_heightOf at hf
  refine a_aload_n C dX11_heightOf_0 rfl ?_
  refine a_aload_n C dX11_heightOf_1 rfl ?_
  refine a_get C (eB_X11_380 _) dX11_heightOf_2 4 rfl rfl ?_
  refine a_iload_n C dX11_heightOf_5 rfl ?_
  refine a_iadd C dX11_heightOf_6 ?_
  refine a_bipush C (8 : Int32) dX11_heightOf_7 (by decide) ?_
  refine a_irem C dX11_heightOf_9 (by decide) ?_
  refine a_aload_n C dX11_heightOf_10 rfl ?_
  refine a_get C (eB_X11_207 _) dX11_heightOf_11 0 rfl rfl ?_
  refine a_aload_n C dX11_heightOf_14 rfl ?_
  refine a_get C (eB_X11_26 _) dX11_heightOf_15 0 rfl rfl ?_
  refine a_get C (eB_X11_131 _) dX11_heightOf_18 5 rfl rfl ?_
  refine a_aload_n C dX11_heightOf_21 rfl ?_
  refine a_get C (eB_X11_159 _) dX11_heightOf_22 4 rfl rfl ?_
  obtain ⟨r1, h1, hf⟩ := fx_bind hf
  refine a_fS C (kJ6_bitCount_0f7a4 l D Y ip2_moats r1 h1) (gB_X11_210 _) rfl dvJ6_bitCount_0f7a4 ⟨⟨rfl, rfl⟩, ⟨Nat.le_of_ble_eq_true rfl, Nat.le_of_ble_eq_true rfl⟩, ⟨Nat.le_of_ble_eq_true rfl, Nat.le_of_ble_eq_true rfl⟩⟩ rfl (Nat.le_of_ble_eq_true rfl) dX11_heightOf_25 [] [0, 1, 2, 3, 4, 5] trivial (by decide +kernel) rfl [oX11 ao atext atold aL aC alaw aotherLaw anow atrial ahistory aguess acrewPlan amoatPlan achance io_wind io_spadeLimit, oX6 ap1 ip1_length ip1_at ip1_sign ip1_bad, rI Y (ap1 1) 40 cp1_codes, rI Y (ap1 2) 40 cp1_stack, oX9 ap2 aL aC ip2_moats ip2_spades ip2_tides, oX5 aL iL_cells] trivial ⟨rfl, rfl, rfl, rfl, rfl, rfl, trivial⟩ 6 rfl (by decide +kernel) ?_
  obtain ⟨r2, h2, hf⟩ := fx_bind hf
  refine a_fV C (kX6_value l D Y ap1 ip1_length ip1_at ip1_sign ip1_bad cp1_codes cp1_stack (jrem (ip2_tides + x3) (8 : Int32)) io_wind iL_cells r1 r2 h2) (gB_X11_424 _) rfl dvX6_value ⟨⟨rfl, rfl⟩, ⟨Nat.le_of_ble_eq_true rfl, Nat.le_of_ble_eq_true rfl⟩, ⟨Nat.le_of_ble_eq_true rfl, Nat.le_of_ble_eq_true rfl⟩⟩ rfl (Nat.le_of_ble_eq_true rfl) dX11_heightOf_28 rfl rfl [1, 2, 3] [0, 4, 5] ⟨rfl, rfl, rfl, trivial⟩ (by decide +kernel) rfl [oX11 ao atext atold aL aC alaw aotherLaw anow atrial ahistory aguess acrewPlan amoatPlan achance io_wind io_spadeLimit, oX6 ap1 ip1_length ip1_at ip1_sign ip1_bad, rI Y (ap1 1) 40 cp1_codes, rI Y (ap1 2) 40 r2.2, oX9 ap2 aL aC ip2_moats ip2_spades ip2_tides, oX5 aL iL_cells] ⟨rfl, rfl, rfl, trivial⟩ ⟨rfl, rfl, rfl, trivial⟩ 6 rfl (by decide +kernel) ?_
  obtain rfl := fx_some hf
  exact a_iret C hQ dX11_heightOf_31 ⟨rfl, rfl⟩
-- X11_breaksOf
abbrev rmX11_breaksOf : Room := { frames := 4, cells := 0, slots := 0, locals := 92 }
theorem dvX11_breaksOf : yX11_breaksOf.cls = RX11 ∧ yX11_breaksOf.cls ≠ "java/lang/invoke/MethodHandle" ∧ yX11_breaksOf.cls ≠ "java/lang/invoke/VarHandle" ∧ (parseMethodDescriptor yX11_breaksOf.desc).map (fun d => d.parameters.length) = some 2 := by decide +kernel
def fX11_breaksOf_b51 (io_wind : Int32) (ip1_length : Int32) (cp1_codes : Nat → Int32) (cp1_stack : Nat → Int32) (iL_cells : Int32) (cL_base : Nat → Int32) (cL_dyke : Nat → Int32) (inow_moats : Int32) (inow_spades : Int32) (inow_tides : Int32) (cnow_wall : Nat → Int32) (cnow_depth : Nat → Int32) (cnow_mood : Nat → Int32) (cnow_place : Nat → Int32) (itrial_moats : Int32) (itrial_spades : Int32) (itrial_tides : Int32) (ctrial_wall : Nat → Int32) (ctrial_depth : Nat → Int32) (ctrial_mood : Nat → Int32) (ctrial_place : Nat → Int32) (x3 : Int32) : Option (Int32 × (Nat → Int32) × Int32 × Int32 × Int32 × (Nat → Int32) × (Nat → Int32) × (Nat → Int32) × (Nat → Int32)) :=
  some (x3, cp1_stack, itrial_moats, itrial_spades, itrial_tides, ctrial_wall, ctrial_depth, ctrial_mood, ctrial_place)
set_option maxHeartbeats 400000 in
set_option maxRecDepth 100000 in
theorem kX11_breaksOf_b51 {X : cxT} {l : Launch} {D : va_G} {Y : Nat → ClassId} {ao atext atold aL aC alaw aotherLaw anow atrial ahistory aguess acrewPlan amoatPlan achance ap1 : Nat → Nat} {io_wind : Int32} {io_spadeLimit : Int32} {ip1_length : Int32} {ip1_at : Int32} {ip1_sign : Int32} {ip1_bad : Int32} {cp1_codes : Nat → Int32} {cp1_stack : Nat → Int32} {iL_cells : Int32} {cL_base : Nat → Int32} {cL_dyke : Nat → Int32} {inow_moats : Int32} {inow_spades : Int32} {inow_tides : Int32} {cnow_wall : Nat → Int32} {cnow_depth : Nat → Int32} {cnow_mood : Nat → Int32} {cnow_place : Nat → Int32} {itrial_moats : Int32} {itrial_spades : Int32} {itrial_tides : Int32} {ctrial_wall : Nat → Int32} {ctrial_depth : Nat → Int32} {ctrial_mood : Nat → Int32} {ctrial_place : Nat → Int32} {x3 : Int32} {res : Int32 × (Nat → Int32) × Int32 × Int32 × Int32 × (Nat → Int32) × (Nat → Int32) × (Nat → Int32) × (Nat → Int32)} (C : axC X l D Y cX11_breaksOf 5 RX11 wsX11_breaksOf rmX11_breaksOf (some .int)) (hQ : axQ X 0 0 (fun r9 w9 => r9 = (some (.int res.1)) ∧ w9 = [oX11 ao atext atold aL aC alaw aotherLaw anow atrial ahistory aguess acrewPlan amoatPlan achance io_wind io_spadeLimit, oX6 ap1 ip1_length ip1_at ip1_sign ip1_bad, rI Y (ap1 1) 40 cp1_codes, rI Y (ap1 2) 40 res.2.1, oX5 aL iL_cells, rI Y (aL 1) 12 cL_base, rI Y (aL 2) 12 cL_dyke, oX9 anow aL aC inow_moats inow_spades inow_tides, rI Y (anow 1) 12 cnow_wall, rI Y (anow 2) 12 cnow_depth, rI Y (anow 3) 8 cnow_mood, rI Y (anow 4) 8 cnow_place, oX9 atrial aL aC res.2.2.1 res.2.2.2.1 res.2.2.2.2.1, rI Y (atrial 1) 12 res.2.2.2.2.2.1, rI Y (atrial 2) 12 res.2.2.2.2.2.2.1, rI Y (atrial 3) 8 res.2.2.2.2.2.2.2.1, rI Y (atrial 4) 8 res.2.2.2.2.2.2.2.2])) (hf : fX11_breaksOf_b51 io_wind ip1_length cp1_codes cp1_stack iL_cells cL_base cL_dyke inow_moats inow_spades inow_tides cnow_wall cnow_depth cnow_mood cnow_place itrial_moats itrial_spades itrial_tides ctrial_wall ctrial_depth ctrial_mood ctrial_place x3 = some res) : ax X 0 0 51 [none, none, none, some (.int x3), none] [oX11 ao atext atold aL aC alaw aotherLaw anow atrial ahistory aguess acrewPlan amoatPlan achance io_wind io_spadeLimit, oX6 ap1 ip1_length ip1_at ip1_sign ip1_bad, rI Y (ap1 1) 40 cp1_codes, rI Y (ap1 2) 40 cp1_stack, oX5 aL iL_cells, rI Y (aL 1) 12 cL_base, rI Y (aL 2) 12 cL_dyke, oX9 anow aL aC inow_moats inow_spades inow_tides, rI Y (anow 1) 12 cnow_wall, rI Y (anow 2) 12 cnow_depth, rI Y (anow 3) 8 cnow_mood, rI Y (anow 4) 8 cnow_place, oX9 atrial aL aC itrial_moats itrial_spades itrial_tides, rI Y (atrial 1) 12 ctrial_wall, rI Y (atrial 2) 12 ctrial_depth, rI Y (atrial 3) 8 ctrial_mood, rI Y (atrial 4) 8 ctrial_place] [] := by
  unfold fX11_breaksOf_b51 at hf
  refine a_iload_n C dX11_breaksOf_51 rfl ?_
  obtain rfl := fx_some hf
  exact a_iret C hQ dX11_breaksOf_52 ⟨rfl, rfl⟩
def fX11_breaksOf_b45 (io_wind : Int32) (ip1_length : Int32) (cp1_codes : Nat → Int32) (cp1_stack : Nat → Int32) (iL_cells : Int32) (cL_base : Nat → Int32) (cL_dyke : Nat → Int32) (inow_moats : Int32) (inow_spades : Int32) (inow_tides : Int32) (cnow_wall : Nat → Int32) (cnow_depth : Nat → Int32) (cnow_mood : Nat → Int32) (cnow_place : Nat → Int32) (itrial_moats : Int32) (itrial_spades : Int32) (itrial_tides : Int32) (ctrial_wall : Nat → Int32) (ctrial_depth : Nat → Int32) (ctrial_mood : Nat → Int32) (ctrial_place : Nat → Int32) (x2 : Int32) (x3 : Int32) (x4 : Int32) (k16 : (Nat → Int32) × Int32 × Int32 × (Nat → Int32) × (Nat → Int32) × Int32 × Int32 → Option (Int32 × (Nat → Int32) × Int32 × Int32 × Int32 × (Nat → Int32) × (Nat → Int32) × (Nat → Int32) × (Nat → Int32))) : Option (Int32 × (Nat → Int32) × Int32 × Int32 × Int32 × (Nat → Int32) × (Nat → Int32) × (Nat → Int32) × (Nat → Int32)) :=
  k16 (cp1_stack, itrial_moats, itrial_tides, ctrial_wall, ctrial_depth, x3, (x4 + (1 : Int32)))
set_option maxHeartbeats 400000 in
set_option maxRecDepth 100000 in
theorem kX11_breaksOf_b45 {X : cxT} {l : Launch} {D : va_G} {Y : Nat → ClassId} {ao atext atold aL aC alaw aotherLaw anow atrial ahistory aguess acrewPlan amoatPlan achance ap1 : Nat → Nat} {io_wind : Int32} {io_spadeLimit : Int32} {ip1_length : Int32} {ip1_at : Int32} {ip1_sign : Int32} {ip1_bad : Int32} {cp1_codes : Nat → Int32} {cp1_stack : Nat → Int32} {iL_cells : Int32} {cL_base : Nat → Int32} {cL_dyke : Nat → Int32} {inow_moats : Int32} {inow_spades : Int32} {inow_tides : Int32} {cnow_wall : Nat → Int32} {cnow_depth : Nat → Int32} {cnow_mood : Nat → Int32} {cnow_place : Nat → Int32} {itrial_moats : Int32} {itrial_spades : Int32} {itrial_tides : Int32} {ctrial_wall : Nat → Int32} {ctrial_depth : Nat → Int32} {ctrial_mood : Nat → Int32} {ctrial_place : Nat → Int32} {x2 : Int32} {x3 : Int32} {x4 : Int32} {res : Int32 × (Nat → Int32) × Int32 × Int32 × Int32 × (Nat → Int32) × (Nat → Int32) × (Nat → Int32) × (Nat → Int32)} (C : axC X l D Y cX11_breaksOf 5 RX11 wsX11_breaksOf rmX11_breaksOf (some .int)) (hQ : axQ X 0 0 (fun r9 w9 => r9 = (some (.int res.1)) ∧ w9 = [oX11 ao atext atold aL aC alaw aotherLaw anow atrial ahistory aguess acrewPlan amoatPlan achance io_wind io_spadeLimit, oX6 ap1 ip1_length ip1_at ip1_sign ip1_bad, rI Y (ap1 1) 40 cp1_codes, rI Y (ap1 2) 40 res.2.1, oX5 aL iL_cells, rI Y (aL 1) 12 cL_base, rI Y (aL 2) 12 cL_dyke, oX9 anow aL aC inow_moats inow_spades inow_tides, rI Y (anow 1) 12 cnow_wall, rI Y (anow 2) 12 cnow_depth, rI Y (anow 3) 8 cnow_mood, rI Y (anow 4) 8 cnow_place, oX9 atrial aL aC res.2.2.1 res.2.2.2.1 res.2.2.2.2.1, rI Y (atrial 1) 12 res.2.2.2.2.2.1, rI Y (atrial 2) 12 res.2.2.2.2.2.2.1, rI Y (atrial 3) 8 res.2.2.2.2.2.2.2.1, rI Y (atrial 4) 8 res.2.2.2.2.2.2.2.2])) {k16 : (Nat → Int32) × Int32 × Int32 × (Nat → Int32) × (Nat → Int32) × Int32 × Int32 → Option (Int32 × (Nat → Int32) × Int32 × Int32 × Int32 × (Nat → Int32) × (Nat → Int32) × (Nat → Int32) × (Nat → Int32))} (hk16 : ∀ s : (Nat → Int32) × Int32 × Int32 × (Nat → Int32) × (Nat → Int32) × Int32 × Int32, k16 s = some res → ax X 0 0 16 [some (.ref (ao 0)), some (.ref (ap1 0)), some (.int x2), some (.int s.2.2.2.2.2.1), some (.int s.2.2.2.2.2.2)] [oX11 ao atext atold aL aC alaw aotherLaw anow atrial ahistory aguess acrewPlan amoatPlan achance io_wind io_spadeLimit, oX6 ap1 ip1_length ip1_at ip1_sign ip1_bad, rI Y (ap1 1) 40 cp1_codes, rI Y (ap1 2) 40 s.1, oX5 aL iL_cells, rI Y (aL 1) 12 cL_base, rI Y (aL 2) 12 cL_dyke, oX9 anow aL aC inow_moats inow_spades inow_tides, rI Y (anow 1) 12 cnow_wall, rI Y (anow 2) 12 cnow_depth, rI Y (anow 3) 8 cnow_mood, rI Y (anow 4) 8 cnow_place, oX9 atrial aL aC s.2.1 itrial_spades s.2.2.1, rI Y (atrial 1) 12 s.2.2.2.1, rI Y (atrial 2) 12 s.2.2.2.2.1, rI Y (atrial 3) 8 ctrial_mood, rI Y (atrial 4) 8 ctrial_place] []) (hf : fX11_breaksOf_b45 io_wind ip1_length cp1_codes cp1_stack iL_cells cL_base cL_dyke inow_moats inow_spades inow_tides cnow_wall cnow_depth cnow_mood cnow_place itrial_moats itrial_spades itrial_tides ctrial_wall ctrial_depth ctrial_mood ctrial_place x2 x3 x4 k16 = some res) : ax X 0 0 45 [some (.ref (ao 0)), some (.ref (ap1 0)), some (.int x2), some (.int x3), some (.int x4)] [oX11 ao atext atold aL aC alaw aotherLaw anow atrial ahistory aguess acrewPlan amoatPlan achance io_wind io_spadeLimit, oX6 ap1 ip1_length ip1_at ip1_sign ip1_bad, rI Y (ap1 1) 40 cp1_codes, rI Y (ap1 2) 40 cp1_stack, oX5 aL iL_cells, rI Y (aL 1) 12 cL_base, rI Y (aL 2) 12 cL_dyke, oX9 anow aL aC inow_moats inow_spades inow_tides, rI Y (anow 1) 12 cnow_wall, rI Y (anow 2) 12 cnow_depth, rI Y (anow 3) 8 cnow_mood, rI Y (anow 4) 8 cnow_place, oX9 atrial aL aC itrial_moats itrial_spades itrial_tides, rI Y (atrial 1) 12 ctrial_wall, rI Y (atrial 2) 12 ctrial_depth, rI Y (atrial 3) 8 ctrial_mood, rI Y (atrial 4) 8 ctrial_place] [] := by
  unfold fX11_breaksOf_b45 at hf
  refine a_iinc C (1 : Int32) dX11_breaksOf_45 (by decide) rfl (by decide) rfl ?_
  refine a_goto C 16 dX11_breaksOf_48 (by decide) ?_
  exact hk16 (cp1_stack, itrial_moats, itrial_tides, ctrial_wall, ctrial_depth, x3, (x4 + (1 : Int32))) hf
def fX11_breaksOf_l16 (io_wind : Int32) (ip1_length : Int32) (cp1_codes : Nat → Int32) (iL_cells : Int32) (cL_base : Nat → Int32) (cL_dyke : Nat → Int32) (inow_moats : Int32) (inow_spades : Int32) (inow_tides : Int32) (cnow_wall : Nat → Int32) (cnow_depth : Nat → Int32) (cnow_mood : Nat → Int32) (cnow_place : Nat → Int32) (itrial_spades : Int32) (ctrial_mood : Nat → Int32) (ctrial_place : Nat → Int32) (x2 : Int32) (k16 : (Nat → Int32) × Int32 × Int32 × (Nat → Int32) × (Nat → Int32) × Int32 × Int32 → Option (Int32 × (Nat → Int32) × Int32 × Int32 × Int32 × (Nat → Int32) × (Nat → Int32) × (Nat → Int32) × (Nat → Int32))) (cp1_stack : Nat → Int32) (itrial_moats : Int32) (itrial_tides : Int32) (ctrial_wall : Nat → Int32) (ctrial_depth : Nat → Int32) (x3 : Int32) (x4 : Int32) : Option (Int32 × (Nat → Int32) × Int32 × Int32 × Int32 × (Nat → Int32) × (Nat → Int32) × (Nat → Int32) × (Nat → Int32)) :=
  if x2 ≤ x4 then (fX11_breaksOf_b51 io_wind ip1_length cp1_codes cp1_stack iL_cells cL_base cL_dyke inow_moats inow_spades inow_tides cnow_wall cnow_depth cnow_mood cnow_place itrial_moats itrial_spades itrial_tides ctrial_wall ctrial_depth ctrial_mood ctrial_place x3) else ((fX11_heightOf io_wind ip1_length cp1_codes cp1_stack itrial_moats itrial_tides iL_cells (0 : Int32)).bind (fun r2 => (fX9_surge itrial_moats itrial_tides ctrial_wall ctrial_depth iL_cells cL_base cL_dyke r2.1).bind (fun r3 => if r3.1 = (0 : Int32) then (fX11_breaksOf_b45 io_wind ip1_length cp1_codes r2.2 iL_cells cL_base cL_dyke inow_moats inow_spades inow_tides cnow_wall cnow_depth cnow_mood cnow_place r3.2.1 itrial_spades r3.2.2.1 r3.2.2.2.1 r3.2.2.2.2 ctrial_mood ctrial_place x2 x3 x4 k16) else (fX11_breaksOf_b45 io_wind ip1_length cp1_codes r2.2 iL_cells cL_base cL_dyke inow_moats inow_spades inow_tides cnow_wall cnow_depth cnow_mood cnow_place r3.2.1 itrial_spades r3.2.2.1 r3.2.2.2.1 r3.2.2.2.2 ctrial_mood ctrial_place x2 (x3 + (1 : Int32)) x4 k16))))
def fX11_breaksOf_b16 (io_wind : Int32) (ip1_length : Int32) (cp1_codes : Nat → Int32) (cp1_stack : Nat → Int32) (iL_cells : Int32) (cL_base : Nat → Int32) (cL_dyke : Nat → Int32) (inow_moats : Int32) (inow_spades : Int32) (inow_tides : Int32) (cnow_wall : Nat → Int32) (cnow_depth : Nat → Int32) (cnow_mood : Nat → Int32) (cnow_place : Nat → Int32) (itrial_moats : Int32) (itrial_spades : Int32) (itrial_tides : Int32) (ctrial_wall : Nat → Int32) (ctrial_depth : Nat → Int32) (ctrial_mood : Nat → Int32) (ctrial_place : Nat → Int32) (x2 : Int32) (x3 : Int32) (x4 : Int32) : Option (Int32 × (Nat → Int32) × Int32 × Int32 × Int32 × (Nat → Int32) × (Nat → Int32) × (Nat → Int32) × (Nat → Int32)) :=
  loopN (fun (s : (Nat → Int32) × Int32 × Int32 × (Nat → Int32) × (Nat → Int32) × Int32 × Int32) k16 => fX11_breaksOf_l16 io_wind ip1_length cp1_codes iL_cells cL_base cL_dyke inow_moats inow_spades inow_tides cnow_wall cnow_depth cnow_mood cnow_place itrial_spades ctrial_mood ctrial_place x2 k16 s.1 s.2.1 s.2.2.1 s.2.2.2.1 s.2.2.2.2.1 s.2.2.2.2.2.1 s.2.2.2.2.2.2) FUEL (cp1_stack, itrial_moats, itrial_tides, ctrial_wall, ctrial_depth, x3, x4)
set_option maxHeartbeats 400000 in
set_option maxRecDepth 100000 in
theorem kX11_breaksOf_l16 {X : cxT} {l : Launch} {D : va_G} {Y : Nat → ClassId} {ao atext atold aL aC alaw aotherLaw anow atrial ahistory aguess acrewPlan amoatPlan achance ap1 : Nat → Nat} {io_wind : Int32} {io_spadeLimit : Int32} {ip1_length : Int32} {ip1_at : Int32} {ip1_sign : Int32} {ip1_bad : Int32} {cp1_codes : Nat → Int32} {cp1_stack : Nat → Int32} {iL_cells : Int32} {cL_base : Nat → Int32} {cL_dyke : Nat → Int32} {inow_moats : Int32} {inow_spades : Int32} {inow_tides : Int32} {cnow_wall : Nat → Int32} {cnow_depth : Nat → Int32} {cnow_mood : Nat → Int32} {cnow_place : Nat → Int32} {itrial_moats : Int32} {itrial_spades : Int32} {itrial_tides : Int32} {ctrial_wall : Nat → Int32} {ctrial_depth : Nat → Int32} {ctrial_mood : Nat → Int32} {ctrial_place : Nat → Int32} {x2 : Int32} {x3 : Int32} {x4 : Int32} {res : Int32 × (Nat → Int32) × Int32 × Int32 × Int32 × (Nat → Int32) × (Nat → Int32) × (Nat → Int32) × (Nat → Int32)} (C : axC X l D Y cX11_breaksOf 5 RX11 wsX11_breaksOf rmX11_breaksOf (some .int)) (hQ : axQ X 0 0 (fun r9 w9 => r9 = (some (.int res.1)) ∧ w9 = [oX11 ao atext atold aL aC alaw aotherLaw anow atrial ahistory aguess acrewPlan amoatPlan achance io_wind io_spadeLimit, oX6 ap1 ip1_length ip1_at ip1_sign ip1_bad, rI Y (ap1 1) 40 cp1_codes, rI Y (ap1 2) 40 res.2.1, oX5 aL iL_cells, rI Y (aL 1) 12 cL_base, rI Y (aL 2) 12 cL_dyke, oX9 anow aL aC inow_moats inow_spades inow_tides, rI Y (anow 1) 12 cnow_wall, rI Y (anow 2) 12 cnow_depth, rI Y (anow 3) 8 cnow_mood, rI Y (anow 4) 8 cnow_place, oX9 atrial aL aC res.2.2.1 res.2.2.2.1 res.2.2.2.2.1, rI Y (atrial 1) 12 res.2.2.2.2.2.1, rI Y (atrial 2) 12 res.2.2.2.2.2.2.1, rI Y (atrial 3) 8 res.2.2.2.2.2.2.2.1, rI Y (atrial 4) 8 res.2.2.2.2.2.2.2.2])) {k16 : (Nat → Int32) × Int32 × Int32 × (Nat → Int32) × (Nat → Int32) × Int32 × Int32 → Option (Int32 × (Nat → Int32) × Int32 × Int32 × Int32 × (Nat → Int32) × (Nat → Int32) × (Nat → Int32) × (Nat → Int32))} (hk16 : ∀ s : (Nat → Int32) × Int32 × Int32 × (Nat → Int32) × (Nat → Int32) × Int32 × Int32, k16 s = some res → ax X 0 0 16 [some (.ref (ao 0)), some (.ref (ap1 0)), some (.int x2), some (.int s.2.2.2.2.2.1), some (.int s.2.2.2.2.2.2)] [oX11 ao atext atold aL aC alaw aotherLaw anow atrial ahistory aguess acrewPlan amoatPlan achance io_wind io_spadeLimit, oX6 ap1 ip1_length ip1_at ip1_sign ip1_bad, rI Y (ap1 1) 40 cp1_codes, rI Y (ap1 2) 40 s.1, oX5 aL iL_cells, rI Y (aL 1) 12 cL_base, rI Y (aL 2) 12 cL_dyke, oX9 anow aL aC inow_moats inow_spades inow_tides, rI Y (anow 1) 12 cnow_wall, rI Y (anow 2) 12 cnow_depth, rI Y (anow 3) 8 cnow_mood, rI Y (anow 4) 8 cnow_place, oX9 atrial aL aC s.2.1 itrial_spades s.2.2.1, rI Y (atrial 1) 12 s.2.2.2.1, rI Y (atrial 2) 12 s.2.2.2.2.1, rI Y (atrial 3) 8 ctrial_mood, rI Y (atrial 4) 8 ctrial_place] []) (hf : fX11_breaksOf_l16 io_wind ip1_length cp1_codes iL_cells cL_base cL_dyke inow_moats inow_spades inow_tides cnow_wall cnow_depth cnow_mood cnow_place itrial_spades ctrial_mood ctrial_place x2 k16 cp1_stack itrial_moats itrial_tides ctrial_wall ctrial_depth x3 x4 = some res) : ax X 0 0 16 [some (.ref (ao 0)), some (.ref (ap1 0)), some (.int x2), some (.int x3), some (.int x4)] [oX11 ao atext atold aL aC alaw aotherLaw anow atrial ahistory aguess acrewPlan amoatPlan achance io_wind io_spadeLimit, oX6 ap1 ip1_length ip1_at ip1_sign ip1_bad, rI Y (ap1 1) 40 cp1_codes, rI Y (ap1 2) 40 cp1_stack, oX5 aL iL_cells, rI Y (aL 1) 12 cL_base, rI Y (aL 2) 12 cL_dyke, oX9 anow aL aC inow_moats inow_spades inow_tides, rI Y (anow 1) 12 cnow_wall, rI Y (anow 2) 12 cnow_depth, rI Y (anow 3) 8 cnow_mood, rI Y (anow 4) 8 cnow_place, oX9 atrial aL aC itrial_moats itrial_spades itrial_tides, rI Y (atrial 1) 12 ctrial_wall, rI Y (atrial 2) 12 ctrial_depth, rI Y (atrial 3) 8 ctrial_mood, rI Y (atrial 4) 8 ctrial_place] [] := by
  unfold fX11_breaksOf_l16 at hf
  refine a_iload C dX11_breaksOf_16 rfl ?_
  refine a_iload_n C dX11_breaksOf_18 rfl ?_
  refine a_icmp_ge C 51 dX11_breaksOf_19 (by decide) (fun h1 => ?_) (fun h1 => ?_)
  · have hf := fx_t h1 hf
    refine a_kill [0, 1, 2, 4] ?_
    exact kX11_breaksOf_b51 C hQ hf
  · have hf := fx_f h1 hf
    refine a_aload_n C dX11_breaksOf_22 rfl ?_
    refine a_get C (eB_X11_60 _) dX11_breaksOf_23 0 rfl rfl ?_
    refine a_aload_n C dX11_breaksOf_26 rfl ?_
    refine a_aload_n C dX11_breaksOf_27 rfl ?_
    refine a_aload_n C dX11_breaksOf_28 rfl ?_
    refine a_get C (eB_X11_60 _) dX11_breaksOf_29 0 rfl rfl ?_
    refine a_iconst C (0 : Int32) dX11_breaksOf_32 (by decide) ?_
    obtain ⟨r2, h2, hf⟩ := fx_bind hf
    refine a_fV C (kX11_heightOf l D Y ao atext atold aL aC alaw aotherLaw anow atrial ahistory aguess acrewPlan amoatPlan achance ap1 atrial io_wind io_spadeLimit ip1_length ip1_at ip1_sign ip1_bad cp1_codes cp1_stack itrial_moats itrial_spades itrial_tides iL_cells (0 : Int32) r2 h2) (gB_X11_272 _) rfl dvX11_heightOf ⟨⟨rfl, rfl⟩, ⟨Nat.le_of_ble_eq_true rfl, Nat.le_of_ble_eq_true rfl⟩, ⟨Nat.le_of_ble_eq_true rfl, Nat.le_of_ble_eq_true rfl⟩⟩ rfl (Nat.le_of_ble_eq_true rfl) dX11_breaksOf_33 rfl rfl [0, 1, 2, 3, 12, 4] [5, 6, 7, 8, 9, 10, 11, 13, 14, 15, 16] ⟨rfl, rfl, rfl, rfl, rfl, rfl, trivial⟩ (by decide +kernel) rfl [oX11 ao atext atold aL aC alaw aotherLaw anow atrial ahistory aguess acrewPlan amoatPlan achance io_wind io_spadeLimit, oX6 ap1 ip1_length ip1_at ip1_sign ip1_bad, rI Y (ap1 1) 40 cp1_codes, rI Y (ap1 2) 40 r2.2, oX5 aL iL_cells, rI Y (aL 1) 12 cL_base, rI Y (aL 2) 12 cL_dyke, oX9 anow aL aC inow_moats inow_spades inow_tides, rI Y (anow 1) 12 cnow_wall, rI Y (anow 2) 12 cnow_depth, rI Y (anow 3) 8 cnow_mood, rI Y (anow 4) 8 cnow_place, oX9 atrial aL aC itrial_moats itrial_spades itrial_tides, rI Y (atrial 1) 12 ctrial_wall, rI Y (atrial 2) 12 ctrial_depth, rI Y (atrial 3) 8 ctrial_mood, rI Y (atrial 4) 8 ctrial_place] ⟨rfl, rfl, rfl, rfl, rfl, rfl, trivial⟩ ⟨rfl, rfl, rfl, rfl, rfl, rfl, rfl, rfl, rfl, rfl, rfl, trivial⟩ 17 rfl (by decide +kernel) ?_
    obtain ⟨r3, h3, hf⟩ := fx_bind hf
    refine a_fV C (kX9_surge l D Y atrial aL aC itrial_moats itrial_spades itrial_tides ctrial_wall ctrial_depth iL_cells cL_base cL_dyke r2.1 r3 h3) (gB_X11_285 _) rfl dvX9_surge ⟨⟨rfl, rfl⟩, ⟨Nat.le_of_ble_eq_true rfl, Nat.le_of_ble_eq_true rfl⟩, ⟨Nat.le_of_ble_eq_true rfl, Nat.le_of_ble_eq_true rfl⟩⟩ rfl (Nat.le_of_ble_eq_true rfl) dX11_breaksOf_36 rfl rfl [12, 13, 14, 4, 5, 6] [0, 1, 2, 3, 7, 8, 9, 10, 11, 15, 16] ⟨rfl, rfl, rfl, rfl, rfl, rfl, trivial⟩ (by decide +kernel) rfl [oX11 ao atext atold aL aC alaw aotherLaw anow atrial ahistory aguess acrewPlan amoatPlan achance io_wind io_spadeLimit, oX6 ap1 ip1_length ip1_at ip1_sign ip1_bad, rI Y (ap1 1) 40 cp1_codes, rI Y (ap1 2) 40 r2.2, oX5 aL iL_cells, rI Y (aL 1) 12 cL_base, rI Y (aL 2) 12 cL_dyke, oX9 anow aL aC inow_moats inow_spades inow_tides, rI Y (anow 1) 12 cnow_wall, rI Y (anow 2) 12 cnow_depth, rI Y (anow 3) 8 cnow_mood, rI Y (anow 4) 8 cnow_place, oX9 atrial aL aC r3.2.1 itrial_spades r3.2.2.1, rI Y (atrial 1) 12 r3.2.2.2.1, rI Y (atrial 2) 12 r3.2.2.2.2, rI Y (atrial 3) 8 ctrial_mood, rI Y (atrial 4) 8 ctrial_place] ⟨rfl, rfl, rfl, rfl, rfl, rfl, trivial⟩ ⟨rfl, rfl, rfl, rfl, rfl, rfl, rfl, rfl, rfl, rfl, rfl, trivial⟩ 17 rfl (by decide +kernel) ?_
    refine a_if_eq C 45 dX11_breaksOf_39 (by decide) (fun h4 => ?_) (fun h4 => ?_)
    · have hf := fx_t h4 hf
      exact kX11_breaksOf_b45 C hQ hk16 hf
    · have hf := fx_f h4 hf
      refine a_iinc C (1 : Int32) dX11_breaksOf_42 (by decide) rfl (by decide) rfl ?_
      exact kX11_breaksOf_b45 C hQ hk16 hf
set_option maxHeartbeats 400000 in
set_option maxRecDepth 100000 in
theorem kX11_breaksOf_b16 {X : cxT} {l : Launch} {D : va_G} {Y : Nat → ClassId} {ao atext atold aL aC alaw aotherLaw anow atrial ahistory aguess acrewPlan amoatPlan achance ap1 : Nat → Nat} {io_wind : Int32} {io_spadeLimit : Int32} {ip1_length : Int32} {ip1_at : Int32} {ip1_sign : Int32} {ip1_bad : Int32} {cp1_codes : Nat → Int32} {cp1_stack : Nat → Int32} {iL_cells : Int32} {cL_base : Nat → Int32} {cL_dyke : Nat → Int32} {inow_moats : Int32} {inow_spades : Int32} {inow_tides : Int32} {cnow_wall : Nat → Int32} {cnow_depth : Nat → Int32} {cnow_mood : Nat → Int32} {cnow_place : Nat → Int32} {itrial_moats : Int32} {itrial_spades : Int32} {itrial_tides : Int32} {ctrial_wall : Nat → Int32} {ctrial_depth : Nat → Int32} {ctrial_mood : Nat → Int32} {ctrial_place : Nat → Int32} {x2 : Int32} {x3 : Int32} {x4 : Int32} {res : Int32 × (Nat → Int32) × Int32 × Int32 × Int32 × (Nat → Int32) × (Nat → Int32) × (Nat → Int32) × (Nat → Int32)} (C : axC X l D Y cX11_breaksOf 5 RX11 wsX11_breaksOf rmX11_breaksOf (some .int)) (hQ : axQ X 0 0 (fun r9 w9 => r9 = (some (.int res.1)) ∧ w9 = [oX11 ao atext atold aL aC alaw aotherLaw anow atrial ahistory aguess acrewPlan amoatPlan achance io_wind io_spadeLimit, oX6 ap1 ip1_length ip1_at ip1_sign ip1_bad, rI Y (ap1 1) 40 cp1_codes, rI Y (ap1 2) 40 res.2.1, oX5 aL iL_cells, rI Y (aL 1) 12 cL_base, rI Y (aL 2) 12 cL_dyke, oX9 anow aL aC inow_moats inow_spades inow_tides, rI Y (anow 1) 12 cnow_wall, rI Y (anow 2) 12 cnow_depth, rI Y (anow 3) 8 cnow_mood, rI Y (anow 4) 8 cnow_place, oX9 atrial aL aC res.2.2.1 res.2.2.2.1 res.2.2.2.2.1, rI Y (atrial 1) 12 res.2.2.2.2.2.1, rI Y (atrial 2) 12 res.2.2.2.2.2.2.1, rI Y (atrial 3) 8 res.2.2.2.2.2.2.2.1, rI Y (atrial 4) 8 res.2.2.2.2.2.2.2.2])) (hf : fX11_breaksOf_b16 io_wind ip1_length cp1_codes cp1_stack iL_cells cL_base cL_dyke inow_moats inow_spades inow_tides cnow_wall cnow_depth cnow_mood cnow_place itrial_moats itrial_spades itrial_tides ctrial_wall ctrial_depth ctrial_mood ctrial_place x2 x3 x4 = some res) : ax X 0 0 16 [some (.ref (ao 0)), some (.ref (ap1 0)), some (.int x2), some (.int x3), some (.int x4)] [oX11 ao atext atold aL aC alaw aotherLaw anow atrial ahistory aguess acrewPlan amoatPlan achance io_wind io_spadeLimit, oX6 ap1 ip1_length ip1_at ip1_sign ip1_bad, rI Y (ap1 1) 40 cp1_codes, rI Y (ap1 2) 40 cp1_stack, oX5 aL iL_cells, rI Y (aL 1) 12 cL_base, rI Y (aL 2) 12 cL_dyke, oX9 anow aL aC inow_moats inow_spades inow_tides, rI Y (anow 1) 12 cnow_wall, rI Y (anow 2) 12 cnow_depth, rI Y (anow 3) 8 cnow_mood, rI Y (anow 4) 8 cnow_place, oX9 atrial aL aC itrial_moats itrial_spades itrial_tides, rI Y (atrial 1) 12 ctrial_wall, rI Y (atrial 2) 12 ctrial_depth, rI Y (atrial 3) 8 ctrial_mood, rI Y (atrial 4) 8 ctrial_place] [] := by
  unfold fX11_breaksOf_b16 at hf
  exact fx_loop (P := fun s : (Nat → Int32) × Int32 × Int32 × (Nat → Int32) × (Nat → Int32) × Int32 × Int32 => ax X 0 0 16 [some (.ref (ao 0)), some (.ref (ap1 0)), some (.int x2), some (.int s.2.2.2.2.2.1), some (.int s.2.2.2.2.2.2)] [oX11 ao atext atold aL aC alaw aotherLaw anow atrial ahistory aguess acrewPlan amoatPlan achance io_wind io_spadeLimit, oX6 ap1 ip1_length ip1_at ip1_sign ip1_bad, rI Y (ap1 1) 40 cp1_codes, rI Y (ap1 2) 40 s.1, oX5 aL iL_cells, rI Y (aL 1) 12 cL_base, rI Y (aL 2) 12 cL_dyke, oX9 anow aL aC inow_moats inow_spades inow_tides, rI Y (anow 1) 12 cnow_wall, rI Y (anow 2) 12 cnow_depth, rI Y (anow 3) 8 cnow_mood, rI Y (anow 4) 8 cnow_place, oX9 atrial aL aC s.2.1 itrial_spades s.2.2.1, rI Y (atrial 1) 12 s.2.2.2.1, rI Y (atrial 2) 12 s.2.2.2.2.1, rI Y (atrial 3) 8 ctrial_mood, rI Y (atrial 4) 8 ctrial_place] []) (fun s k16 hk16 h => kX11_breaksOf_l16 C hQ hk16 h) FUEL (cp1_stack, itrial_moats, itrial_tides, ctrial_wall, ctrial_depth, x3, x4) hf
def fX11_breaksOf (io_wind : Int32) (ip1_length : Int32) (cp1_codes : Nat → Int32) (cp1_stack : Nat → Int32) (iL_cells : Int32) (cL_base : Nat → Int32) (cL_dyke : Nat → Int32) (inow_moats : Int32) (inow_spades : Int32) (inow_tides : Int32) (cnow_wall : Nat → Int32) (cnow_depth : Nat → Int32) (cnow_mood : Nat → Int32) (cnow_place : Nat → Int32) (itrial_moats : Int32) (itrial_spades : Int32) (itrial_tides : Int32) (ctrial_wall : Nat → Int32) (ctrial_depth : Nat → Int32) (ctrial_mood : Nat → Int32) (ctrial_place : Nat → Int32) (x2 : Int32) : Option (Int32 × (Nat → Int32) × Int32 × Int32 × Int32 × (Nat → Int32) × (Nat → Int32) × (Nat → Int32) × (Nat → Int32)) :=
  (fX9_copy itrial_moats itrial_spades itrial_tides ctrial_wall ctrial_depth ctrial_mood ctrial_place inow_moats inow_spades inow_tides cnow_wall cnow_depth cnow_mood cnow_place).bind (fun r5 => fX11_breaksOf_b16 io_wind ip1_length cp1_codes cp1_stack iL_cells cL_base cL_dyke inow_moats inow_spades inow_tides cnow_wall cnow_depth cnow_mood cnow_place r5.1 r5.2.1 r5.2.2.1 r5.2.2.2.1 r5.2.2.2.2.1 r5.2.2.2.2.2.1 r5.2.2.2.2.2.2 x2 (0 : Int32) (0 : Int32))
set_option maxHeartbeats 400000 in
set_option maxRecDepth 100000 in
theorem kX11_breaksOf (l : Launch) (D : va_G) (Y : Nat → ClassId) (ao atext atold aL aC alaw aotherLaw anow atrial ahistory aguess acrewPlan amoatPlan achance ap1 : Nat → Nat) (io_wind : Int32) (io_spadeLimit : Int32) (ip1_length : Int32) (ip1_at : Int32) (ip1_sign : Int32) (ip1_bad : Int32) (cp1_codes : Nat → Int32) (cp1_stack : Nat → Int32) (iL_cells : Int32) (cL_base : Nat → Int32) (cL_dyke : Nat → Int32) (inow_moats : Int32) (inow_spades : Int32) (inow_tides : Int32) (cnow_wall : Nat → Int32) (cnow_depth : Nat → Int32) (cnow_mood : Nat → Int32) (cnow_place : Nat → Int32) (itrial_moats : Int32) (itrial_spades : Int32) (itrial_tides : Int32) (ctrial_wall : Nat → Int32) (ctrial_depth : Nat → Int32) (ctrial_mood : Nat → Int32) (ctrial_place : Nat → Int32) (x2 : Int32) (res : Int32 × (Nat → Int32) × Int32 × Int32 × Int32 × (Nat → Int32) × (Nat → Int32) × (Nat → Int32) × (Nat → Int32)) (hf : fX11_breaksOf io_wind ip1_length cp1_codes cp1_stack iL_cells cL_base cL_dyke inow_moats inow_spades inow_tides cnow_wall cnow_depth cnow_mood cnow_place itrial_moats itrial_spades itrial_tides ctrial_wall ctrial_depth ctrial_mood ctrial_place x2 = some res) : amf l D Y yX11_breaksOf wsX11_breaksOf rmX11_breaksOf [.ref (ao 0), .ref (ap1 0), .int x2] [oX11 ao atext atold aL aC alaw aotherLaw anow atrial ahistory aguess acrewPlan amoatPlan achance io_wind io_spadeLimit, oX6 ap1 ip1_length ip1_at ip1_sign ip1_bad, rI Y (ap1 1) 40 cp1_codes, rI Y (ap1 2) 40 cp1_stack, oX5 aL iL_cells, rI Y (aL 1) 12 cL_base, rI Y (aL 2) 12 cL_dyke, oX9 anow aL aC inow_moats inow_spades inow_tides, rI Y (anow 1) 12 cnow_wall, rI Y (anow 2) 12 cnow_depth, rI Y (anow 3) 8 cnow_mood, rI Y (anow 4) 8 cnow_place, oX9 atrial aL aC itrial_moats itrial_spades itrial_tides, rI Y (atrial 1) 12 ctrial_wall, rI Y (atrial 2) 12 ctrial_depth, rI Y (atrial 3) 8 ctrial_mood, rI Y (atrial 4) 8 ctrial_place] (some (.int res.1)) [oX11 ao atext atold aL aC alaw aotherLaw anow atrial ahistory aguess acrewPlan amoatPlan achance io_wind io_spadeLimit, oX6 ap1 ip1_length ip1_at ip1_sign ip1_bad, rI Y (ap1 1) 40 cp1_codes, rI Y (ap1 2) 40 res.2.1, oX5 aL iL_cells, rI Y (aL 1) 12 cL_base, rI Y (aL 2) 12 cL_dyke, oX9 anow aL aC inow_moats inow_spades inow_tides, rI Y (anow 1) 12 cnow_wall, rI Y (anow 2) 12 cnow_depth, rI Y (anow 3) 8 cnow_mood, rI Y (anow 4) 8 cnow_place, oX9 atrial aL aC res.2.2.1 res.2.2.2.1 res.2.2.2.2.1, rI Y (atrial 1) 12 res.2.2.2.2.2.1, rI Y (atrial 2) 12 res.2.2.2.2.2.2.1, rI Y (atrial 3) 8 res.2.2.2.2.2.2.2.1, rI Y (atrial 4) 8 res.2.2.2.2.2.2.2.2] := by
  refine amf.of (cc := cX11_breaksOf) (maxL := 5) (rt := (some .int)) (by decide) rfl RX11 rfl (Nat.le_of_ble_eq_true rfl) [some (.ref (ao 0)), some (.ref (ap1 0)), some (.int x2), none, none] rfl ?_
  intro X C hQ
  unfold fX11_breaksOf at hf
  refine a_aload_n C dX11_breaksOf_0 rfl ?_
  refine a_get C (eB_X11_60 _) dX11_breaksOf_1 0 rfl rfl ?_
  refine a_aload_n C dX11_breaksOf_4 rfl ?_
  refine a_get C (eB_X11_56 _) dX11_breaksOf_5 0 rfl rfl ?_
  obtain ⟨r5, h5, hf⟩ := fx_bind hf
  refine a_fV C (kX9_copy l D Y atrial aL aC anow itrial_moats itrial_spades itrial_tides ctrial_wall ctrial_depth ctrial_mood ctrial_place inow_moats inow_spades inow_tides cnow_wall cnow_depth cnow_mood cnow_place r5 h5) (gB_X11_282 _) rfl dvX9_copy ⟨⟨rfl, rfl⟩, ⟨Nat.le_of_ble_eq_true rfl, Nat.le_of_ble_eq_true rfl⟩, ⟨Nat.le_of_ble_eq_true rfl, Nat.le_of_ble_eq_true rfl⟩⟩ rfl (Nat.le_of_ble_eq_true rfl) dX11_breaksOf_8 rfl rfl [12, 13, 14, 15, 16, 7, 8, 9, 10, 11] [0, 1, 2, 3, 4, 5, 6] ⟨rfl, rfl, rfl, rfl, rfl, rfl, rfl, rfl, rfl, rfl, trivial⟩ (by decide +kernel) rfl [oX11 ao atext atold aL aC alaw aotherLaw anow atrial ahistory aguess acrewPlan amoatPlan achance io_wind io_spadeLimit, oX6 ap1 ip1_length ip1_at ip1_sign ip1_bad, rI Y (ap1 1) 40 cp1_codes, rI Y (ap1 2) 40 cp1_stack, oX5 aL iL_cells, rI Y (aL 1) 12 cL_base, rI Y (aL 2) 12 cL_dyke, oX9 anow aL aC inow_moats inow_spades inow_tides, rI Y (anow 1) 12 cnow_wall, rI Y (anow 2) 12 cnow_depth, rI Y (anow 3) 8 cnow_mood, rI Y (anow 4) 8 cnow_place, oX9 atrial aL aC r5.1 r5.2.1 r5.2.2.1, rI Y (atrial 1) 12 r5.2.2.2.1, rI Y (atrial 2) 12 r5.2.2.2.2.1, rI Y (atrial 3) 8 r5.2.2.2.2.2.1, rI Y (atrial 4) 8 r5.2.2.2.2.2.2] ⟨rfl, rfl, rfl, rfl, rfl, rfl, rfl, rfl, rfl, rfl, trivial⟩ ⟨rfl, rfl, rfl, rfl, rfl, rfl, rfl, trivial⟩ 17 rfl (by decide +kernel) ?_
  refine a_iconst C (0 : Int32) dX11_breaksOf_11 (by decide) ?_
  refine a_istore_n C dX11_breaksOf_12 (by decide) rfl ?_
  refine a_iconst C (0 : Int32) dX11_breaksOf_13 (by decide) ?_
  refine a_istore C dX11_breaksOf_14 (by decide) rfl ?_
  exact kX11_breaksOf_b16 C hQ hf
-- X11_bestForSpade
abbrev rmX11_bestForSpade : Room := { frames := 3, cells := 0, slots := 0, locals := 66 }
theorem dvX11_bestForSpade : yX11_bestForSpade.cls = RX11 ∧ yX11_bestForSpade.cls ≠ "java/lang/invoke/MethodHandle" ∧ yX11_bestForSpade.cls ≠ "java/lang/invoke/VarHandle" ∧ (parseMethodDescriptor yX11_bestForSpade.desc).map (fun d => d.parameters.length) = some 0 := by decide +kernel
def fX11_bestForSpade_b93 (iC_size : Int32) (cC_age : Nat → Int32) (cC_skill : Nat → Int32) (cC_pals : Nat → Int32) (itrial_spades : Int32) (ctrial_mood : Nat → Int32) (ctrial_place : Nat → Int32) (x2 : Int32) : Option (Int32 × Int32) :=
  some (x2, itrial_spades)
set_option maxHeartbeats 400000 in
set_option maxRecDepth 100000 in
theorem kX11_bestForSpade_b93 {X : cxT} {l : Launch} {D : va_G} {Y : Nat → ClassId} {ao atext atold aL aC alaw aotherLaw anow atrial ahistory aguess acrewPlan amoatPlan achance : Nat → Nat} {io_wind : Int32} {io_spadeLimit : Int32} {iC_size : Int32} {cC_age : Nat → Int32} {cC_skill : Nat → Int32} {cC_pals : Nat → Int32} {itrial_moats : Int32} {itrial_spades : Int32} {itrial_tides : Int32} {ctrial_mood : Nat → Int32} {ctrial_place : Nat → Int32} {x2 : Int32} {res : Int32 × Int32} (C : axC X l D Y cX11_bestForSpade 7 RX11 wsX11_bestForSpade rmX11_bestForSpade (some .int)) (hQ : axQ X 0 0 (fun r9 w9 => r9 = (some (.int res.1)) ∧ w9 = [oX11 ao atext atold aL aC alaw aotherLaw anow atrial ahistory aguess acrewPlan amoatPlan achance io_wind io_spadeLimit, oX2 aC iC_size, rI Y (aC 1) 8 cC_age, rI Y (aC 2) 8 cC_skill, rI Y (aC 4) 8 cC_pals, oX9 atrial aL aC itrial_moats res.2 itrial_tides, rI Y (atrial 3) 8 ctrial_mood, rI Y (atrial 4) 8 ctrial_place])) (hf : fX11_bestForSpade_b93 iC_size cC_age cC_skill cC_pals itrial_spades ctrial_mood ctrial_place x2 = some res) : ax X 0 0 93 [none, none, some (.int x2), none, none, none, none] [oX11 ao atext atold aL aC alaw aotherLaw anow atrial ahistory aguess acrewPlan amoatPlan achance io_wind io_spadeLimit, oX2 aC iC_size, rI Y (aC 1) 8 cC_age, rI Y (aC 2) 8 cC_skill, rI Y (aC 4) 8 cC_pals, oX9 atrial aL aC itrial_moats itrial_spades itrial_tides, rI Y (atrial 3) 8 ctrial_mood, rI Y (atrial 4) 8 ctrial_place] [] := by
  unfold fX11_bestForSpade_b93 at hf
  refine a_iload_n C dX11_bestForSpade_93 rfl ?_
  obtain rfl := fx_some hf
  exact a_iret C hQ dX11_bestForSpade_94 ⟨rfl, rfl⟩
def fX11_bestForSpade_b87 (iC_size : Int32) (cC_age : Nat → Int32) (cC_skill : Nat → Int32) (cC_pals : Nat → Int32) (itrial_spades : Int32) (ctrial_mood : Nat → Int32) (ctrial_place : Nat → Int32) (x1 : Int32) (x2 : Int32) (x3 : Int32) (x4 : Int32) (k15 : Int32 × Int32 × Int32 × Int32 → Option (Int32 × Int32)) : Option (Int32 × Int32) :=
  k15 (itrial_spades, x2, x3, (x4 + (1 : Int32)))
set_option maxHeartbeats 400000 in
set_option maxRecDepth 100000 in
theorem kX11_bestForSpade_b87 {X : cxT} {l : Launch} {D : va_G} {Y : Nat → ClassId} {ao atext atold aL aC alaw aotherLaw anow atrial ahistory aguess acrewPlan amoatPlan achance : Nat → Nat} {io_wind : Int32} {io_spadeLimit : Int32} {iC_size : Int32} {cC_age : Nat → Int32} {cC_skill : Nat → Int32} {cC_pals : Nat → Int32} {itrial_moats : Int32} {itrial_spades : Int32} {itrial_tides : Int32} {ctrial_mood : Nat → Int32} {ctrial_place : Nat → Int32} {x1 : Int32} {x2 : Int32} {x3 : Int32} {x4 : Int32} {res : Int32 × Int32} (C : axC X l D Y cX11_bestForSpade 7 RX11 wsX11_bestForSpade rmX11_bestForSpade (some .int)) (hQ : axQ X 0 0 (fun r9 w9 => r9 = (some (.int res.1)) ∧ w9 = [oX11 ao atext atold aL aC alaw aotherLaw anow atrial ahistory aguess acrewPlan amoatPlan achance io_wind io_spadeLimit, oX2 aC iC_size, rI Y (aC 1) 8 cC_age, rI Y (aC 2) 8 cC_skill, rI Y (aC 4) 8 cC_pals, oX9 atrial aL aC itrial_moats res.2 itrial_tides, rI Y (atrial 3) 8 ctrial_mood, rI Y (atrial 4) 8 ctrial_place])) {k15 : Int32 × Int32 × Int32 × Int32 → Option (Int32 × Int32)} (hk15 : ∀ s : Int32 × Int32 × Int32 × Int32, k15 s = some res → ax X 0 0 15 [some (.ref (ao 0)), some (.int x1), some (.int s.2.1), some (.int s.2.2.1), some (.int s.2.2.2), none, none] [oX11 ao atext atold aL aC alaw aotherLaw anow atrial ahistory aguess acrewPlan amoatPlan achance io_wind io_spadeLimit, oX2 aC iC_size, rI Y (aC 1) 8 cC_age, rI Y (aC 2) 8 cC_skill, rI Y (aC 4) 8 cC_pals, oX9 atrial aL aC itrial_moats s.1 itrial_tides, rI Y (atrial 3) 8 ctrial_mood, rI Y (atrial 4) 8 ctrial_place] []) (hf : fX11_bestForSpade_b87 iC_size cC_age cC_skill cC_pals itrial_spades ctrial_mood ctrial_place x1 x2 x3 x4 k15 = some res) : ax X 0 0 87 [some (.ref (ao 0)), some (.int x1), some (.int x2), some (.int x3), some (.int x4), none, none] [oX11 ao atext atold aL aC alaw aotherLaw anow atrial ahistory aguess acrewPlan amoatPlan achance io_wind io_spadeLimit, oX2 aC iC_size, rI Y (aC 1) 8 cC_age, rI Y (aC 2) 8 cC_skill, rI Y (aC 4) 8 cC_pals, oX9 atrial aL aC itrial_moats itrial_spades itrial_tides, rI Y (atrial 3) 8 ctrial_mood, rI Y (atrial 4) 8 ctrial_place] [] := by
  unfold fX11_bestForSpade_b87 at hf
  refine a_iinc C (1 : Int32) dX11_bestForSpade_87 (by decide) rfl (by decide) rfl ?_
  refine a_goto C 15 dX11_bestForSpade_90 (by decide) ?_
  exact hk15 (itrial_spades, x2, x3, (x4 + (1 : Int32))) hf
def fX11_bestForSpade_l15 (iC_size : Int32) (cC_age : Nat → Int32) (cC_skill : Nat → Int32) (cC_pals : Nat → Int32) (ctrial_mood : Nat → Int32) (ctrial_place : Nat → Int32) (x1 : Int32) (k15 : Int32 × Int32 × Int32 × Int32 → Option (Int32 × Int32)) (itrial_spades : Int32) (x2 : Int32) (x3 : Int32) (x4 : Int32) : Option (Int32 × Int32) :=
  if iC_size ≤ x4 then (fX11_bestForSpade_b93 iC_size cC_age cC_skill cC_pals itrial_spades ctrial_mood ctrial_place x2) else ((fX9_buckets itrial_spades ctrial_mood ctrial_place iC_size cC_age cC_skill cC_pals x4).bind (fun r2 => (fX9_buckets (x1 ||| (jshl (1 : Int32) x4)) ctrial_mood ctrial_place iC_size cC_age cC_skill cC_pals x4).bind (fun r3 => if (r3 - r2) ≤ x3 then (fX11_bestForSpade_b87 iC_size cC_age cC_skill cC_pals x1 ctrial_mood ctrial_place x1 x2 x3 x4 k15) else (fX11_bestForSpade_b87 iC_size cC_age cC_skill cC_pals x1 ctrial_mood ctrial_place x1 (jshl (1 : Int32) x4) (r3 - r2) x4 k15))))
def fX11_bestForSpade_b15 (iC_size : Int32) (cC_age : Nat → Int32) (cC_skill : Nat → Int32) (cC_pals : Nat → Int32) (itrial_spades : Int32) (ctrial_mood : Nat → Int32) (ctrial_place : Nat → Int32) (x1 : Int32) (x2 : Int32) (x3 : Int32) (x4 : Int32) : Option (Int32 × Int32) :=
  loopN (fun (s : Int32 × Int32 × Int32 × Int32) k15 => fX11_bestForSpade_l15 iC_size cC_age cC_skill cC_pals ctrial_mood ctrial_place x1 k15 s.1 s.2.1 s.2.2.1 s.2.2.2) FUEL (itrial_spades, x2, x3, x4)
set_option maxHeartbeats 400000 in
set_option maxRecDepth 100000 in
theorem kX11_bestForSpade_l15 {X : cxT} {l : Launch} {D : va_G} {Y : Nat → ClassId} {ao atext atold aL aC alaw aotherLaw anow atrial ahistory aguess acrewPlan amoatPlan achance : Nat → Nat} {io_wind : Int32} {io_spadeLimit : Int32} {iC_size : Int32} {cC_age : Nat → Int32} {cC_skill : Nat → Int32} {cC_pals : Nat → Int32} {itrial_moats : Int32} {itrial_spades : Int32} {itrial_tides : Int32} {ctrial_mood : Nat → Int32} {ctrial_place : Nat → Int32} {x1 : Int32} {x2 : Int32} {x3 : Int32} {x4 : Int32} {res : Int32 × Int32} (C : axC X l D Y cX11_bestForSpade 7 RX11 wsX11_bestForSpade rmX11_bestForSpade (some .int)) (hQ : axQ X 0 0 (fun r9 w9 => r9 = (some (.int res.1)) ∧ w9 = [oX11 ao atext atold aL aC alaw aotherLaw anow atrial ahistory aguess acrewPlan amoatPlan achance io_wind io_spadeLimit, oX2 aC iC_size, rI Y (aC 1) 8 cC_age, rI Y (aC 2) 8 cC_skill, rI Y (aC 4) 8 cC_pals, oX9 atrial aL aC itrial_moats res.2 itrial_tides, rI Y (atrial 3) 8 ctrial_mood, rI Y (atrial 4) 8 ctrial_place])) {k15 : Int32 × Int32 × Int32 × Int32 → Option (Int32 × Int32)} (hk15 : ∀ s : Int32 × Int32 × Int32 × Int32, k15 s = some res → ax X 0 0 15 [some (.ref (ao 0)), some (.int x1), some (.int s.2.1), some (.int s.2.2.1), some (.int s.2.2.2), none, none] [oX11 ao atext atold aL aC alaw aotherLaw anow atrial ahistory aguess acrewPlan amoatPlan achance io_wind io_spadeLimit, oX2 aC iC_size, rI Y (aC 1) 8 cC_age, rI Y (aC 2) 8 cC_skill, rI Y (aC 4) 8 cC_pals, oX9 atrial aL aC itrial_moats s.1 itrial_tides, rI Y (atrial 3) 8 ctrial_mood, rI Y (atrial 4) 8 ctrial_place] []) (hf : fX11_bestForSpade_l15 iC_size cC_age cC_skill cC_pals ctrial_mood ctrial_place x1 k15 itrial_spades x2 x3 x4 = some res) : ax X 0 0 15 [some (.ref (ao 0)), some (.int x1), some (.int x2), some (.int x3), some (.int x4), none, none] [oX11 ao atext atold aL aC alaw aotherLaw anow atrial ahistory aguess acrewPlan amoatPlan achance io_wind io_spadeLimit, oX2 aC iC_size, rI Y (aC 1) 8 cC_age, rI Y (aC 2) 8 cC_skill, rI Y (aC 4) 8 cC_pals, oX9 atrial aL aC itrial_moats itrial_spades itrial_tides, rI Y (atrial 3) 8 ctrial_mood, rI Y (atrial 4) 8 ctrial_place] [] := by
  unfold fX11_bestForSpade_l15 at hf
  refine a_iload C dX11_bestForSpade_15 rfl ?_
  refine a_aload_n C dX11_bestForSpade_17 rfl ?_
  refine a_get C (eB_X11_33 _) dX11_bestForSpade_18 0 rfl rfl ?_
  refine a_get C (eB_X11_134 _) dX11_bestForSpade_21 1 rfl rfl ?_
  refine a_icmp_ge C 93 dX11_bestForSpade_24 (by decide) (fun h1 => ?_) (fun h1 => ?_)
  · have hf := fx_t h1 hf
    refine a_kill [0, 1, 3, 4] ?_
    exact kX11_bestForSpade_b93 C hQ hf
  · have hf := fx_f h1 hf
    refine a_aload_n C dX11_bestForSpade_27 rfl ?_
    refine a_get C (eB_X11_60 _) dX11_bestForSpade_28 0 rfl rfl ?_
    refine a_iload C dX11_bestForSpade_31 rfl ?_
    obtain ⟨r2, h2, hf⟩ := fx_bind hf
    refine a_fV C (kX9_buckets l D Y atrial aL aC itrial_moats itrial_spades itrial_tides ctrial_mood ctrial_place iC_size cC_age cC_skill cC_pals x4 r2 h2) (gB_X11_198 _) rfl dvX9_buckets ⟨⟨rfl, rfl⟩, ⟨Nat.le_of_ble_eq_true rfl, Nat.le_of_ble_eq_true rfl⟩, ⟨Nat.le_of_ble_eq_true rfl, Nat.le_of_ble_eq_true rfl⟩⟩ rfl (Nat.le_of_ble_eq_true rfl) dX11_bestForSpade_33 rfl rfl [5, 6, 7, 1, 2, 3, 4] [0] ⟨rfl, rfl, rfl, rfl, rfl, rfl, rfl, trivial⟩ (by decide +kernel) rfl [oX11 ao atext atold aL aC alaw aotherLaw anow atrial ahistory aguess acrewPlan amoatPlan achance io_wind io_spadeLimit, oX2 aC iC_size, rI Y (aC 1) 8 cC_age, rI Y (aC 2) 8 cC_skill, rI Y (aC 4) 8 cC_pals, oX9 atrial aL aC itrial_moats itrial_spades itrial_tides, rI Y (atrial 3) 8 ctrial_mood, rI Y (atrial 4) 8 ctrial_place] ⟨rfl, rfl, rfl, rfl, rfl, rfl, rfl, trivial⟩ ⟨rfl, trivial⟩ 8 rfl (by decide +kernel) ?_
    refine a_istore C dX11_bestForSpade_36 (by decide) rfl ?_
    refine a_aload_n C dX11_bestForSpade_38 rfl ?_
    refine a_get C (eB_X11_60 _) dX11_bestForSpade_39 0 rfl rfl ?_
    refine a_iload_n C dX11_bestForSpade_42 rfl ?_
    refine a_iconst C (1 : Int32) dX11_bestForSpade_43 (by decide) ?_
    refine a_iload C dX11_bestForSpade_44 rfl ?_
    refine a_ishl C dX11_bestForSpade_46 ?_
    refine a_ior C dX11_bestForSpade_47 ?_
    refine a_put C (eB_X11_192 _) tfX9_7 dX11_bestForSpade_48 5 rfl rfl rfl (Nat.le_of_ble_eq_true rfl) ?_
    refine a_aload_n C dX11_bestForSpade_51 rfl ?_
    refine a_get C (eB_X11_60 _) dX11_bestForSpade_52 0 rfl rfl ?_
    refine a_iload C dX11_bestForSpade_55 rfl ?_
    obtain ⟨r3, h3, hf⟩ := fx_bind hf
    refine a_fV C (kX9_buckets l D Y atrial aL aC itrial_moats (x1 ||| (jshl (1 : Int32) x4)) itrial_tides ctrial_mood ctrial_place iC_size cC_age cC_skill cC_pals x4 r3 h3) (gB_X11_198 _) rfl dvX9_buckets ⟨⟨rfl, rfl⟩, ⟨Nat.le_of_ble_eq_true rfl, Nat.le_of_ble_eq_true rfl⟩, ⟨Nat.le_of_ble_eq_true rfl, Nat.le_of_ble_eq_true rfl⟩⟩ rfl (Nat.le_of_ble_eq_true rfl) dX11_bestForSpade_57 rfl rfl [5, 6, 7, 1, 2, 3, 4] [0] ⟨rfl, rfl, rfl, rfl, rfl, rfl, rfl, trivial⟩ (by decide +kernel) rfl [oX11 ao atext atold aL aC alaw aotherLaw anow atrial ahistory aguess acrewPlan amoatPlan achance io_wind io_spadeLimit, oX2 aC iC_size, rI Y (aC 1) 8 cC_age, rI Y (aC 2) 8 cC_skill, rI Y (aC 4) 8 cC_pals, oX9 atrial aL aC itrial_moats (x1 ||| (jshl (1 : Int32) x4)) itrial_tides, rI Y (atrial 3) 8 ctrial_mood, rI Y (atrial 4) 8 ctrial_place] ⟨rfl, rfl, rfl, rfl, rfl, rfl, rfl, trivial⟩ ⟨rfl, trivial⟩ 8 rfl (by decide +kernel) ?_
    refine a_iload C dX11_bestForSpade_60 rfl ?_
    refine a_isub C dX11_bestForSpade_62 ?_
    refine a_istore C dX11_bestForSpade_63 (by decide) rfl ?_
    refine a_aload_n C dX11_bestForSpade_65 rfl ?_
    refine a_get C (eB_X11_60 _) dX11_bestForSpade_66 0 rfl rfl ?_
    refine a_iload_n C dX11_bestForSpade_69 rfl ?_
    refine a_put C (eB_X11_192 _) tfX9_7 dX11_bestForSpade_70 5 rfl rfl rfl (Nat.le_of_ble_eq_true rfl) ?_
    refine a_iload C dX11_bestForSpade_73 rfl ?_
    refine a_iload_n C dX11_bestForSpade_75 rfl ?_
    refine a_icmp_le C 87 dX11_bestForSpade_76 (by decide) (fun h4 => ?_) (fun h4 => ?_)
    · have hf := fx_t h4 hf
      refine a_kill [5, 6] ?_
      exact kX11_bestForSpade_b87 C hQ hk15 hf
    · have hf := fx_f h4 hf
      refine a_iload C dX11_bestForSpade_79 rfl ?_
      refine a_istore_n C dX11_bestForSpade_81 (by decide) rfl ?_
      refine a_iconst C (1 : Int32) dX11_bestForSpade_82 (by decide) ?_
      refine a_iload C dX11_bestForSpade_83 rfl ?_
      refine a_ishl C dX11_bestForSpade_85 ?_
      refine a_istore_n C dX11_bestForSpade_86 (by decide) rfl ?_
      refine a_kill [5, 6] ?_
      exact kX11_bestForSpade_b87 C hQ hk15 hf
set_option maxHeartbeats 400000 in
set_option maxRecDepth 100000 in
theorem kX11_bestForSpade_b15 {X : cxT} {l : Launch} {D : va_G} {Y : Nat → ClassId} {ao atext atold aL aC alaw aotherLaw anow atrial ahistory aguess acrewPlan amoatPlan achance : Nat → Nat} {io_wind : Int32} {io_spadeLimit : Int32} {iC_size : Int32} {cC_age : Nat → Int32} {cC_skill : Nat → Int32} {cC_pals : Nat → Int32} {itrial_moats : Int32} {itrial_spades : Int32} {itrial_tides : Int32} {ctrial_mood : Nat → Int32} {ctrial_place : Nat → Int32} {x1 : Int32} {x2 : Int32} {x3 : Int32} {x4 : Int32} {res : Int32 × Int32} (C : axC X l D Y cX11_bestForSpade 7 RX11 wsX11_bestForSpade rmX11_bestForSpade (some .int)) (hQ : axQ X 0 0 (fun r9 w9 => r9 = (some (.int res.1)) ∧ w9 = [oX11 ao atext atold aL aC alaw aotherLaw anow atrial ahistory aguess acrewPlan amoatPlan achance io_wind io_spadeLimit, oX2 aC iC_size, rI Y (aC 1) 8 cC_age, rI Y (aC 2) 8 cC_skill, rI Y (aC 4) 8 cC_pals, oX9 atrial aL aC itrial_moats res.2 itrial_tides, rI Y (atrial 3) 8 ctrial_mood, rI Y (atrial 4) 8 ctrial_place])) (hf : fX11_bestForSpade_b15 iC_size cC_age cC_skill cC_pals itrial_spades ctrial_mood ctrial_place x1 x2 x3 x4 = some res) : ax X 0 0 15 [some (.ref (ao 0)), some (.int x1), some (.int x2), some (.int x3), some (.int x4), none, none] [oX11 ao atext atold aL aC alaw aotherLaw anow atrial ahistory aguess acrewPlan amoatPlan achance io_wind io_spadeLimit, oX2 aC iC_size, rI Y (aC 1) 8 cC_age, rI Y (aC 2) 8 cC_skill, rI Y (aC 4) 8 cC_pals, oX9 atrial aL aC itrial_moats itrial_spades itrial_tides, rI Y (atrial 3) 8 ctrial_mood, rI Y (atrial 4) 8 ctrial_place] [] := by
  unfold fX11_bestForSpade_b15 at hf
  exact fx_loop (P := fun s : Int32 × Int32 × Int32 × Int32 => ax X 0 0 15 [some (.ref (ao 0)), some (.int x1), some (.int s.2.1), some (.int s.2.2.1), some (.int s.2.2.2), none, none] [oX11 ao atext atold aL aC alaw aotherLaw anow atrial ahistory aguess acrewPlan amoatPlan achance io_wind io_spadeLimit, oX2 aC iC_size, rI Y (aC 1) 8 cC_age, rI Y (aC 2) 8 cC_skill, rI Y (aC 4) 8 cC_pals, oX9 atrial aL aC itrial_moats s.1 itrial_tides, rI Y (atrial 3) 8 ctrial_mood, rI Y (atrial 4) 8 ctrial_place] []) (fun s k15 hk15 h => kX11_bestForSpade_l15 C hQ hk15 h) FUEL (itrial_spades, x2, x3, x4) hf
def fX11_bestForSpade (iC_size : Int32) (cC_age : Nat → Int32) (cC_skill : Nat → Int32) (cC_pals : Nat → Int32) (itrial_spades : Int32) (ctrial_mood : Nat → Int32) (ctrial_place : Nat → Int32) : Option (Int32 × Int32) :=
  fX11_bestForSpade_b15 iC_size cC_age cC_skill cC_pals itrial_spades ctrial_mood ctrial_place itrial_spades (0 : Int32) (0 : Int32) (0 : Int32)
set_option maxHeartbeats 400000 in
set_option maxRecDepth 100000 in
theorem kX11_bestForSpade (l : Launch) (D : va_G) (Y : Nat → ClassId) (ao atext atold aL aC alaw aotherLaw anow atrial ahistory aguess acrewPlan amoatPlan achance : Nat → Nat) (io_wind : Int32) (io_spadeLimit : Int32) (iC_size : Int32) (cC_age : Nat → Int32) (cC_skill : Nat → Int32) (cC_pals : Nat → Int32) (itrial_moats : Int32) (itrial_spades : Int32) (itrial_tides : Int32) (ctrial_mood : Nat → Int32) (ctrial_place : Nat → Int32) (res : Int32 × Int32) (hf : fX11_bestForSpade iC_size cC_age cC_skill cC_pals itrial_spades ctrial_mood ctrial_place = some res) : amf l D Y yX11_bestForSpade wsX11_bestForSpade rmX11_bestForSpade [.ref (ao 0)] [oX11 ao atext atold aL aC alaw aotherLaw anow atrial ahistory aguess acrewPlan amoatPlan achance io_wind io_spadeLimit, oX2 aC iC_size, rI Y (aC 1) 8 cC_age, rI Y (aC 2) 8 cC_skill, rI Y (aC 4) 8 cC_pals, oX9 atrial aL aC itrial_moats itrial_spades itrial_tides, rI Y (atrial 3) 8 ctrial_mood, rI Y (atrial 4) 8 ctrial_place] (some (.int res.1)) [oX11 ao atext atold aL aC alaw aotherLaw anow atrial ahistory aguess acrewPlan amoatPlan achance io_wind io_spadeLimit, oX2 aC iC_size, rI Y (aC 1) 8 cC_age, rI Y (aC 2) 8 cC_skill, rI Y (aC 4) 8 cC_pals, oX9 atrial aL aC itrial_moats res.2 itrial_tides, rI Y (atrial 3) 8 ctrial_mood, rI Y (atrial 4) 8 ctrial_place] := by
  refine amf.of (cc := cX11_bestForSpade) (maxL := 7) (rt := (some .int)) (by decide) rfl RX11 rfl (Nat.le_of_ble_eq_true rfl) [some (.ref (ao 0)), none, none, none, none, none, none] rfl ?_
  intro X C hQ
  unfold fX11_bestForSpade at hf
  refine a_aload_n C dX11_bestForSpade_0 rfl ?_
  refine a_get C (eB_X11_60 _) dX11_bestForSpade_1 0 rfl rfl ?_
  refine a_get C (eB_X11_192 _) dX11_bestForSpade_4 5 rfl rfl ?_
  refine a_istore_n C dX11_bestForSpade_7 (by decide) rfl ?_
  refine a_iconst C (0 : Int32) dX11_bestForSpade_8 (by decide) ?_
  refine a_istore_n C dX11_bestForSpade_9 (by decide) rfl ?_
  refine a_iconst C (0 : Int32) dX11_bestForSpade_10 (by decide) ?_
  refine a_istore_n C dX11_bestForSpade_11 (by decide) rfl ?_
  refine a_iconst C (0 : Int32) dX11_bestForSpade_12 (by decide) ?_
  refine a_istore C dX11_bestForSpade_13 (by decide) rfl ?_
  exact kX11_bestForSpade_b15 C hQ hf
-- X11_sendDrawn
abbrev rmX11_sendDrawn : Room := { frames := 1, cells := 0, slots := 0, locals := 21 }
theorem dvX11_sendDrawn : yX11_sendDrawn.cls = RX11 ∧ yX11_sendDrawn.cls ≠ "java/lang/invoke/MethodHandle" ∧ yX11_sendDrawn.cls ≠ "java/lang/invoke/VarHandle" ∧ (parseMethodDescriptor yX11_sendDrawn.desc).map (fun d => d.parameters.length) = some 0 := by decide +kernel
def fX11_sendDrawn_b85 (iC_size : Int32) (iL_cells : Int32) (ichance_seed : Int32) (ctrial_mood : Nat → Int32) (ctrial_place : Nat → Int32) : Option (Int32 × (Nat → Int32)) :=
  some (ichance_seed, ctrial_place)
set_option maxHeartbeats 400000 in
set_option maxRecDepth 100000 in
theorem kX11_sendDrawn_b85 {X : cxT} {l : Launch} {D : va_G} {Y : Nat → ClassId} {ao atext atold aL aC alaw aotherLaw anow atrial ahistory aguess acrewPlan amoatPlan achance : Nat → Nat} {io_wind : Int32} {io_spadeLimit : Int32} {iC_size : Int32} {iL_cells : Int32} {ichance_seed : Int32} {itrial_moats : Int32} {itrial_spades : Int32} {itrial_tides : Int32} {ctrial_mood : Nat → Int32} {ctrial_place : Nat → Int32} {res : Int32 × (Nat → Int32)} (C : axC X l D Y cX11_sendDrawn 3 RX11 wsX11_sendDrawn rmX11_sendDrawn none) (hQ : axQ X 0 0 (fun r9 w9 => r9 = none ∧ w9 = [oX11 ao atext atold aL aC alaw aotherLaw anow atrial ahistory aguess acrewPlan amoatPlan achance io_wind io_spadeLimit, oX2 aC iC_size, oX5 aL iL_cells, oX0 achance res.1, oX9 atrial aL aC itrial_moats itrial_spades itrial_tides, rI Y (atrial 3) 8 ctrial_mood, rI Y (atrial 4) 8 res.2])) (hf : fX11_sendDrawn_b85 iC_size iL_cells ichance_seed ctrial_mood ctrial_place = some res) : ax X 0 0 85 [none, none, none] [oX11 ao atext atold aL aC alaw aotherLaw anow atrial ahistory aguess acrewPlan amoatPlan achance io_wind io_spadeLimit, oX2 aC iC_size, oX5 aL iL_cells, oX0 achance ichance_seed, oX9 atrial aL aC itrial_moats itrial_spades itrial_tides, rI Y (atrial 3) 8 ctrial_mood, rI Y (atrial 4) 8 ctrial_place] [] := by
  unfold fX11_sendDrawn_b85 at hf
  obtain rfl := fx_some hf
  exact a_vret C hQ dX11_sendDrawn_85 ⟨rfl, rfl⟩
def fX11_sendDrawn (iC_size : Int32) (iL_cells : Int32) (ichance_seed : Int32) (ctrial_mood : Nat → Int32) (ctrial_place : Nat → Int32) : Option (Int32 × (Nat → Int32)) :=
  if iC_size = (0 : Int32) then (some (ichance_seed, ctrial_place)) else ((fX0_draw ichance_seed iC_size).bind (fun r2 => (fX0_draw r2.2 iL_cells).bind (fun r3 => (fX2_has iC_size r2.1).bind (fun r4 => if r4 = (0 : Int32) then (fX11_sendDrawn_b85 iC_size iL_cells r3.2 ctrial_mood ctrial_place) else ((fX5_has iL_cells r3.1).bind (fun r6 => if r6 = (0 : Int32) then (fX11_sendDrawn_b85 iC_size iL_cells r3.2 ctrial_mood ctrial_place) else (if inb r2.1 8 then if (ctrial_mood (Int32.toNatClampNeg r2.1)) = (0 : Int32) then (fX11_sendDrawn_b85 iC_size iL_cells r3.2 ctrial_mood ctrial_place) else (fX11_sendDrawn_b85 iC_size iL_cells r3.2 ctrial_mood (upd ctrial_place (Int32.toNatClampNeg r2.1) r3.1)) else none)))))))
set_option maxHeartbeats 400000 in
set_option maxRecDepth 100000 in
theorem kX11_sendDrawn (l : Launch) (D : va_G) (Y : Nat → ClassId) (ao atext atold aL aC alaw aotherLaw anow atrial ahistory aguess acrewPlan amoatPlan achance : Nat → Nat) (io_wind : Int32) (io_spadeLimit : Int32) (iC_size : Int32) (iL_cells : Int32) (ichance_seed : Int32) (itrial_moats : Int32) (itrial_spades : Int32) (itrial_tides : Int32) (ctrial_mood : Nat → Int32) (ctrial_place : Nat → Int32) (res : Int32 × (Nat → Int32)) (hf : fX11_sendDrawn iC_size iL_cells ichance_seed ctrial_mood ctrial_place = some res) : amf l D Y yX11_sendDrawn wsX11_sendDrawn rmX11_sendDrawn [.ref (ao 0)] [oX11 ao atext atold aL aC alaw aotherLaw anow atrial ahistory aguess acrewPlan amoatPlan achance io_wind io_spadeLimit, oX2 aC iC_size, oX5 aL iL_cells, oX0 achance ichance_seed, oX9 atrial aL aC itrial_moats itrial_spades itrial_tides, rI Y (atrial 3) 8 ctrial_mood, rI Y (atrial 4) 8 ctrial_place] none [oX11 ao atext atold aL aC alaw aotherLaw anow atrial ahistory aguess acrewPlan amoatPlan achance io_wind io_spadeLimit, oX2 aC iC_size, oX5 aL iL_cells, oX0 achance res.1, oX9 atrial aL aC itrial_moats itrial_spades itrial_tides, rI Y (atrial 3) 8 ctrial_mood, rI Y (atrial 4) 8 res.2] := by
  refine amf.of (cc := cX11_sendDrawn) (maxL := 3) (rt := none) (by decide) rfl RX11 rfl (Nat.le_of_ble_eq_true rfl) [some (.ref (ao 0)), none, none] rfl ?_
  intro X C hQ
  unfold fX11_sendDrawn at hf
  refine a_aload_n C dX11_sendDrawn_0 rfl ?_
  refine a_get C (eB_X11_33 _) dX11_sendDrawn_1 0 rfl rfl ?_
  refine a_get C (eB_X11_134 _) dX11_sendDrawn_4 1 rfl rfl ?_
  refine a_if_ne C 11 dX11_sendDrawn_7 (by decide) (fun h1 => ?_) (fun h1 => ?_)
  · have hf := fx_f h1 hf
    refine a_aload_n C dX11_sendDrawn_11 rfl ?_
    refine a_get C (eB_X11_106 _) dX11_sendDrawn_12 0 rfl rfl ?_
    refine a_aload_n C dX11_sendDrawn_15 rfl ?_
    refine a_get C (eB_X11_33 _) dX11_sendDrawn_16 0 rfl rfl ?_
    refine a_get C (eB_X11_134 _) dX11_sendDrawn_19 1 rfl rfl ?_
    obtain ⟨r2, h2, hf⟩ := fx_bind hf
    refine a_fV C (kX0_draw l D Y achance ichance_seed iC_size r2 h2) (gB_X11_374 _) rfl dvX0_draw ⟨⟨rfl, rfl⟩, ⟨Nat.le_of_ble_eq_true rfl, Nat.le_of_ble_eq_true rfl⟩, ⟨Nat.le_of_ble_eq_true rfl, Nat.le_of_ble_eq_true rfl⟩⟩ rfl (Nat.le_of_ble_eq_true rfl) dX11_sendDrawn_22 rfl rfl [3] [0, 1, 2, 4, 5, 6] ⟨rfl, trivial⟩ (by decide +kernel) rfl [oX11 ao atext atold aL aC alaw aotherLaw anow atrial ahistory aguess acrewPlan amoatPlan achance io_wind io_spadeLimit, oX2 aC iC_size, oX5 aL iL_cells, oX0 achance r2.2, oX9 atrial aL aC itrial_moats itrial_spades itrial_tides, rI Y (atrial 3) 8 ctrial_mood, rI Y (atrial 4) 8 ctrial_place] ⟨rfl, trivial⟩ ⟨rfl, rfl, rfl, rfl, rfl, rfl, trivial⟩ 7 rfl (by decide +kernel) ?_
    refine a_istore_n C dX11_sendDrawn_25 (by decide) rfl ?_
    refine a_aload_n C dX11_sendDrawn_26 rfl ?_
    refine a_get C (eB_X11_106 _) dX11_sendDrawn_27 0 rfl rfl ?_
    refine a_aload_n C dX11_sendDrawn_30 rfl ?_
    refine a_get C (eB_X11_26 _) dX11_sendDrawn_31 0 rfl rfl ?_
    refine a_get C (eB_X11_131 _) dX11_sendDrawn_34 2 rfl rfl ?_
    obtain ⟨r3, h3, hf⟩ := fx_bind hf
    refine a_fV C (kX0_draw l D Y achance r2.2 iL_cells r3 h3) (gB_X11_374 _) rfl dvX0_draw ⟨⟨rfl, rfl⟩, ⟨Nat.le_of_ble_eq_true rfl, Nat.le_of_ble_eq_true rfl⟩, ⟨Nat.le_of_ble_eq_true rfl, Nat.le_of_ble_eq_true rfl⟩⟩ rfl (Nat.le_of_ble_eq_true rfl) dX11_sendDrawn_37 rfl rfl [3] [0, 1, 2, 4, 5, 6] ⟨rfl, trivial⟩ (by decide +kernel) rfl [oX11 ao atext atold aL aC alaw aotherLaw anow atrial ahistory aguess acrewPlan amoatPlan achance io_wind io_spadeLimit, oX2 aC iC_size, oX5 aL iL_cells, oX0 achance r3.2, oX9 atrial aL aC itrial_moats itrial_spades itrial_tides, rI Y (atrial 3) 8 ctrial_mood, rI Y (atrial 4) 8 ctrial_place] ⟨rfl, trivial⟩ ⟨rfl, rfl, rfl, rfl, rfl, rfl, trivial⟩ 7 rfl (by decide +kernel) ?_
    refine a_istore_n C dX11_sendDrawn_40 (by decide) rfl ?_
    refine a_aload_n C dX11_sendDrawn_41 rfl ?_
    refine a_get C (eB_X11_33 _) dX11_sendDrawn_42 0 rfl rfl ?_
    refine a_iload_n C dX11_sendDrawn_45 rfl ?_
    obtain ⟨r4, h4, hf⟩ := fx_bind hf
    refine a_fV C (kX2_has l D Y aC iC_size r2.1 r4 h4) (gB_X11_177 _) rfl dvX2_has ⟨⟨rfl, rfl⟩, ⟨Nat.le_of_ble_eq_true rfl, Nat.le_of_ble_eq_true rfl⟩, ⟨Nat.le_of_ble_eq_true rfl, Nat.le_of_ble_eq_true rfl⟩⟩ rfl (Nat.le_of_ble_eq_true rfl) dX11_sendDrawn_46 rfl rfl [1] [0, 2, 3, 4, 5, 6] ⟨rfl, trivial⟩ (by decide +kernel) rfl [oX11 ao atext atold aL aC alaw aotherLaw anow atrial ahistory aguess acrewPlan amoatPlan achance io_wind io_spadeLimit, oX2 aC iC_size, oX5 aL iL_cells, oX0 achance r3.2, oX9 atrial aL aC itrial_moats itrial_spades itrial_tides, rI Y (atrial 3) 8 ctrial_mood, rI Y (atrial 4) 8 ctrial_place] ⟨rfl, trivial⟩ ⟨rfl, rfl, rfl, rfl, rfl, rfl, trivial⟩ 7 rfl (by decide +kernel) ?_
    refine a_if_eq C 85 dX11_sendDrawn_49 (by decide) (fun h5 => ?_) (fun h5 => ?_)
    · have hf := fx_t h5 hf
      refine a_kill [0, 1, 2] ?_
      exact kX11_sendDrawn_b85 C hQ hf
    · have hf := fx_f h5 hf
      refine a_aload_n C dX11_sendDrawn_52 rfl ?_
      refine a_get C (eB_X11_26 _) dX11_sendDrawn_53 0 rfl rfl ?_
      refine a_iload_n C dX11_sendDrawn_56 rfl ?_
      obtain ⟨r6, h6, hf⟩ := fx_bind hf
      refine a_fV C (kX5_has l D Y aL iL_cells r3.1 r6 h6) (gB_X11_143 _) rfl dvX5_has ⟨⟨rfl, rfl⟩, ⟨Nat.le_of_ble_eq_true rfl, Nat.le_of_ble_eq_true rfl⟩, ⟨Nat.le_of_ble_eq_true rfl, Nat.le_of_ble_eq_true rfl⟩⟩ rfl (Nat.le_of_ble_eq_true rfl) dX11_sendDrawn_57 rfl rfl [2] [0, 1, 3, 4, 5, 6] ⟨rfl, trivial⟩ (by decide +kernel) rfl [oX11 ao atext atold aL aC alaw aotherLaw anow atrial ahistory aguess acrewPlan amoatPlan achance io_wind io_spadeLimit, oX2 aC iC_size, oX5 aL iL_cells, oX0 achance r3.2, oX9 atrial aL aC itrial_moats itrial_spades itrial_tides, rI Y (atrial 3) 8 ctrial_mood, rI Y (atrial 4) 8 ctrial_place] ⟨rfl, trivial⟩ ⟨rfl, rfl, rfl, rfl, rfl, rfl, trivial⟩ 7 rfl (by decide +kernel) ?_
      refine a_if_eq C 85 dX11_sendDrawn_60 (by decide) (fun h7 => ?_) (fun h7 => ?_)
      · have hf := fx_t h7 hf
        refine a_kill [0, 1, 2] ?_
        exact kX11_sendDrawn_b85 C hQ hf
      · have hf := fx_f h7 hf
        refine a_aload_n C dX11_sendDrawn_63 rfl ?_
        refine a_get C (eB_X11_60 _) dX11_sendDrawn_64 0 rfl rfl ?_
        refine a_get C (eB_X11_189 _) dX11_sendDrawn_67 4 rfl rfl ?_
        refine a_iload_n C dX11_sendDrawn_70 rfl ?_
        obtain ⟨h8, hf⟩ := fx_ite hf
        refine a_iald C dX11_sendDrawn_71 5 rfl h8 ?_
        refine a_if_eq C 85 dX11_sendDrawn_72 (by decide) (fun h9 => ?_) (fun h9 => ?_)
        · have hf := fx_t h9 hf
          refine a_kill [0, 1, 2] ?_
          exact kX11_sendDrawn_b85 C hQ hf
        · have hf := fx_f h9 hf
          refine a_aload_n C dX11_sendDrawn_75 rfl ?_
          refine a_get C (eB_X11_60 _) dX11_sendDrawn_76 0 rfl rfl ?_
          refine a_get C (eB_X11_195 _) dX11_sendDrawn_79 4 rfl rfl ?_
          refine a_iload_n C dX11_sendDrawn_82 rfl ?_
          refine a_iload_n C dX11_sendDrawn_83 rfl ?_
          refine a_iast C dX11_sendDrawn_84 6 rfl h8 ?_
          refine a_kill [0, 1, 2] ?_
          exact kX11_sendDrawn_b85 C hQ hf
  · have hf := fx_t h1 hf
    obtain rfl := fx_some hf
    exact a_vret C hQ dX11_sendDrawn_10 ⟨rfl, rfl⟩
-- X11_narrowed
abbrev rmX11_narrowed : Room := { frames := 0, cells := 0, slots := 0, locals := 0 }
theorem dvX11_narrowed : yX11_narrowed.cls ≠ "java/lang/invoke/MethodHandle" ∧ yX11_narrowed.cls ≠ "java/lang/invoke/VarHandle" ∧ (parseMethodDescriptor yX11_narrowed.desc).map (fun d => d.parameters.length) = some 2 := by decide +kernel
def fX11_narrowed_b18 (s0 : Int32) : Option (Int32) :=
  some s0
set_option maxHeartbeats 400000 in
set_option maxRecDepth 100000 in
theorem kX11_narrowed_b18 {X : cxT} {l : Launch} {D : va_G} {Y : Nat → ClassId} {s0 : Int32} {res : Int32} (C : axC X l D Y cX11_narrowed 2 RX11 wsX11_narrowed rmX11_narrowed (some .int)) (hQ : axQ X 0 0 (fun r9 w9 => r9 = (some (.int res)) ∧ w9 = [])) (hf : fX11_narrowed_b18 s0 = some res) : ax X 0 0 18 [none, none] [] [.int s0] := by
  unfold fX11_narrowed_b18 at hf
  obtain rfl := fx_some hf
  exact a_iret C hQ dX11_narrowed_18 ⟨rfl, rfl⟩
def fX11_narrowed (x0 : Int32) (x1 : Int32) : Option (Int32) :=
  if x0 = (0 : Int32) then (some (x1.toInt8.toInt32)) else (if x0 = (1 : Int32) then (fX11_narrowed_b18 (x1.toInt16.toInt32)) else (fX11_narrowed_b18 x1))
set_option maxHeartbeats 400000 in
set_option maxRecDepth 100000 in
theorem kX11_narrowed (l : Launch) (D : va_G) (Y : Nat → ClassId) (x0 : Int32) (x1 : Int32) (res : Int32) (hf : fX11_narrowed x0 x1 = some res) : amf l D Y yX11_narrowed wsX11_narrowed rmX11_narrowed [.int x0, .int x1] [] (some (.int res)) [] := by
  refine amf.of (cc := cX11_narrowed) (maxL := 2) (rt := (some .int)) (by decide) rfl RX11 rfl (Nat.le_of_ble_eq_true rfl) [some (.int x0), some (.int x1)] rfl ?_
  intro X C hQ
  unfold fX11_narrowed at hf
  refine a_iload_n C dX11_narrowed_0 rfl ?_
  refine a_if_ne C 7 dX11_narrowed_1 (by decide) (fun h1 => ?_) (fun h1 => ?_)
  · have hf := fx_f h1 hf
    refine a_iload_n C dX11_narrowed_7 rfl ?_
    refine a_iconst C (1 : Int32) dX11_narrowed_8 (by decide) ?_
    refine a_icmp_ne C 17 dX11_narrowed_9 (by decide) (fun h2 => ?_) (fun h2 => ?_)
    · have hf := fx_f h2 hf
      refine a_iload_n C dX11_narrowed_17 rfl ?_
      refine a_kill [0, 1] ?_
      exact kX11_narrowed_b18 C hQ hf
    · have hf := fx_t h2 hf
      refine a_iload_n C dX11_narrowed_12 rfl ?_
      refine a_i2s C dX11_narrowed_13 ?_
      refine a_goto C 18 dX11_narrowed_14 (by decide) ?_
      refine a_kill [0, 1] ?_
      exact kX11_narrowed_b18 C hQ hf
  · have hf := fx_t h1 hf
    refine a_iload_n C dX11_narrowed_4 rfl ?_
    refine a_i2b C dX11_narrowed_5 ?_
    obtain rfl := fx_some hf
    exact a_iret C hQ dX11_narrowed_6 ⟨rfl, rfl⟩
-- X11_divisor
abbrev rmX11_divisor : Room := { frames := 0, cells := 0, slots := 0, locals := 0 }
theorem dvX11_divisor : yX11_divisor.cls ≠ "java/lang/invoke/MethodHandle" ∧ yX11_divisor.cls ≠ "java/lang/invoke/VarHandle" ∧ (parseMethodDescriptor yX11_divisor.desc).map (fun d => d.parameters.length) = some 2 := by decide +kernel
def fX11_divisor_b44 (x4 : Int64) : Option (Int64) :=
  some x4
set_option maxHeartbeats 400000 in
set_option maxRecDepth 100000 in
theorem kX11_divisor_b44 {X : cxT} {l : Launch} {D : va_G} {Y : Nat → ClassId} {x4 : Int64} {res : Int64} (C : axC X l D Y cX11_divisor 11 RX11 wsX11_divisor rmX11_divisor (some .long)) (hQ : axQ X 0 0 (fun r9 w9 => r9 = (some (.long res)) ∧ w9 = [])) (hf : fX11_divisor_b44 x4 = some res) : ax X 0 0 44 [none, none, none, none, some (.long x4), none, none, none, none, none, none] [] [] := by
  unfold fX11_divisor_b44 at hf
  refine a_lload C dX11_divisor_44 rfl ?_
  obtain rfl := fx_some hf
  exact a_lret C hQ dX11_divisor_46 ⟨rfl, rfl⟩
def fX11_divisor_l9 (k9 : Int64 × Int64 × Int32 → Option (Int64)) (x4 : Int64) (x6 : Int64) (x8 : Int32) : Option (Int64) :=
  if (100 : Int32) ≤ x8 then (fX11_divisor_b44 x4) else (if (lg_cmp x6 (0 : Int64)) = (0 : Int32) then (fX11_divisor_b44 x4) else (if ¬ x6 = 0 then k9 (x6, (jlrem x4 x6), (x8 + (1 : Int32))) else none))
def fX11_divisor_b9 (x4 : Int64) (x6 : Int64) (x8 : Int32) : Option (Int64) :=
  loopN (fun (s : Int64 × Int64 × Int32) k9 => fX11_divisor_l9  k9 s.1 s.2.1 s.2.2) FUEL (x4, x6, x8)
set_option maxHeartbeats 400000 in
set_option maxRecDepth 100000 in
theorem kX11_divisor_l9 {X : cxT} {l : Launch} {D : va_G} {Y : Nat → ClassId} {x4 : Int64} {x6 : Int64} {x8 : Int32} {res : Int64} (C : axC X l D Y cX11_divisor 11 RX11 wsX11_divisor rmX11_divisor (some .long)) (hQ : axQ X 0 0 (fun r9 w9 => r9 = (some (.long res)) ∧ w9 = [])) {k9 : Int64 × Int64 × Int32 → Option (Int64)} (hk9 : ∀ s : Int64 × Int64 × Int32, k9 s = some res → ax X 0 0 9 [none, none, none, none, some (.long s.1), none, some (.long s.2.1), none, some (.int s.2.2), none, none] [] []) (hf : fX11_divisor_l9  k9 x4 x6 x8 = some res) : ax X 0 0 9 [none, none, none, none, some (.long x4), none, some (.long x6), none, some (.int x8), none, none] [] [] := by
  unfold fX11_divisor_l9 at hf
  refine a_iload C dX11_divisor_9 rfl ?_
  refine a_bipush C (100 : Int32) dX11_divisor_11 (by decide) ?_
  refine a_icmp_ge C 44 dX11_divisor_13 (by decide) (fun h1 => ?_) (fun h1 => ?_)
  · have hf := fx_t h1 hf
    refine a_kill [6, 8] ?_
    exact kX11_divisor_b44 C hQ hf
  · have hf := fx_f h1 hf
    refine a_lload C dX11_divisor_16 rfl ?_
    refine a_lconst C (0 : Int64) dX11_divisor_18 (by decide) ?_
    refine a_lcmp C dX11_divisor_19 ?_
    refine a_if_eq C 44 dX11_divisor_20 (by decide) (fun h2 => ?_) (fun h2 => ?_)
    · have hf := fx_t h2 hf
      refine a_kill [6, 8] ?_
      exact kX11_divisor_b44 C hQ hf
    · have hf := fx_f h2 hf
      refine a_lload C dX11_divisor_23 rfl ?_
      refine a_lload C dX11_divisor_25 rfl ?_
      obtain ⟨h3, hf⟩ := fx_ite hf
      refine a_lrem C dX11_divisor_27 h3 ?_
      refine a_lstore C dX11_divisor_28 (by decide) rfl ?_
      refine a_lload C dX11_divisor_30 rfl ?_
      refine a_lstore C dX11_divisor_32 (by decide) rfl ?_
      refine a_lload C dX11_divisor_34 rfl ?_
      refine a_lstore C dX11_divisor_36 (by decide) rfl ?_
      refine a_iinc C (1 : Int32) dX11_divisor_38 (by decide) rfl (by decide) rfl ?_
      refine a_goto C 9 dX11_divisor_41 (by decide) ?_
      refine a_kill [9] ?_
      exact hk9 (x6, (jlrem x4 x6), (x8 + (1 : Int32))) hf
set_option maxHeartbeats 400000 in
set_option maxRecDepth 100000 in
theorem kX11_divisor_b9 {X : cxT} {l : Launch} {D : va_G} {Y : Nat → ClassId} {x4 : Int64} {x6 : Int64} {x8 : Int32} {res : Int64} (C : axC X l D Y cX11_divisor 11 RX11 wsX11_divisor rmX11_divisor (some .long)) (hQ : axQ X 0 0 (fun r9 w9 => r9 = (some (.long res)) ∧ w9 = [])) (hf : fX11_divisor_b9 x4 x6 x8 = some res) : ax X 0 0 9 [none, none, none, none, some (.long x4), none, some (.long x6), none, some (.int x8), none, none] [] [] := by
  unfold fX11_divisor_b9 at hf
  exact fx_loop (P := fun s : Int64 × Int64 × Int32 => ax X 0 0 9 [none, none, none, none, some (.long s.1), none, some (.long s.2.1), none, some (.int s.2.2), none, none] [] []) (fun s k9 hk9 h => kX11_divisor_l9 C hQ hk9 h) FUEL (x4, x6, x8) hf
def fX11_divisor (x0 : Int64) (x2 : Int64) : Option (Int64) :=
  fX11_divisor_b9 x0 x2 (0 : Int32)
set_option maxHeartbeats 400000 in
set_option maxRecDepth 100000 in
theorem kX11_divisor (l : Launch) (D : va_G) (Y : Nat → ClassId) (x0 : Int64) (x2 : Int64) (res : Int64) (hf : fX11_divisor x0 x2 = some res) : amf l D Y yX11_divisor wsX11_divisor rmX11_divisor [.long x0, .long x2] [] (some (.long res)) [] := by
  refine amf.of (cc := cX11_divisor) (maxL := 11) (rt := (some .long)) (by decide) rfl RX11 rfl (Nat.le_of_ble_eq_true rfl) [some (.long x0), none, some (.long x2), none, none, none, none, none, none, none, none] rfl ?_
  intro X C hQ
  unfold fX11_divisor at hf
  refine a_lload_n C dX11_divisor_0 rfl ?_
  refine a_lstore C dX11_divisor_1 (by decide) rfl ?_
  refine a_lload_n C dX11_divisor_3 rfl ?_
  refine a_lstore C dX11_divisor_4 (by decide) rfl ?_
  refine a_iconst C (0 : Int32) dX11_divisor_6 (by decide) ?_
  refine a_istore C dX11_divisor_7 (by decide) rfl ?_
  refine a_kill [0, 2] ?_
  exact kX11_divisor_b9 C hQ hf
-- X11_sheet
abbrev rmX11_sheet : Room := { frames := 2, cells := 0, slots := 0, locals := 42 }
theorem dvX11_sheet : yX11_sheet.cls = RX11 ∧ yX11_sheet.cls ≠ "java/lang/invoke/MethodHandle" ∧ yX11_sheet.cls ≠ "java/lang/invoke/VarHandle" ∧ (parseMethodDescriptor yX11_sheet.desc).map (fun d => d.parameters.length) = some 4 := by decide +kernel
def fX11_sheet_b15 (iC_size : Int32) (cnow_mood : Nat → Int32) : Option (Int32 × (Nat → Int32)) :=
  some ((-1 : Int32), cnow_mood)
set_option maxHeartbeats 400000 in
set_option maxRecDepth 100000 in
theorem kX11_sheet_b15 {X : cxT} {l : Launch} {D : va_G} {Y : Nat → ClassId} {ao atext atold aL aC alaw aotherLaw anow atrial ahistory aguess acrewPlan amoatPlan achance : Nat → Nat} {io_wind : Int32} {io_spadeLimit : Int32} {iC_size : Int32} {inow_moats : Int32} {inow_spades : Int32} {inow_tides : Int32} {cnow_mood : Nat → Int32} {res : Int32 × (Nat → Int32)} (C : axC X l D Y cX11_sheet 8 RX11 wsX11_sheet rmX11_sheet (some .int)) (hQ : axQ X 0 0 (fun r9 w9 => r9 = (some (.int res.1)) ∧ w9 = [oX11 ao atext atold aL aC alaw aotherLaw anow atrial ahistory aguess acrewPlan amoatPlan achance io_wind io_spadeLimit, oX2 aC iC_size, oX9 anow aL aC inow_moats inow_spades inow_tides, rI Y (anow 3) 8 res.2])) (hf : fX11_sheet_b15 iC_size cnow_mood = some res) : ax X 0 0 15 [none, none, none, none, none, none, none, none] [oX11 ao atext atold aL aC alaw aotherLaw anow atrial ahistory aguess acrewPlan amoatPlan achance io_wind io_spadeLimit, oX2 aC iC_size, oX9 anow aL aC inow_moats inow_spades inow_tides, rI Y (anow 3) 8 cnow_mood] [] := by
  unfold fX11_sheet_b15 at hf
  refine a_iconst C (-1 : Int32) dX11_sheet_15 (by decide) ?_
  obtain rfl := fx_some hf
  exact a_iret C hQ dX11_sheet_16 ⟨rfl, rfl⟩
def fX11_sheet_b123 (iC_size : Int32) (cnow_mood : Nat → Int32) (x5 : Int32) : Option (Int32 × (Nat → Int32)) :=
  some (x5, cnow_mood)
set_option maxHeartbeats 400000 in
set_option maxRecDepth 100000 in
theorem kX11_sheet_b123 {X : cxT} {l : Launch} {D : va_G} {Y : Nat → ClassId} {ao atext atold aL aC alaw aotherLaw anow atrial ahistory aguess acrewPlan amoatPlan achance : Nat → Nat} {io_wind : Int32} {io_spadeLimit : Int32} {iC_size : Int32} {inow_moats : Int32} {inow_spades : Int32} {inow_tides : Int32} {cnow_mood : Nat → Int32} {x5 : Int32} {res : Int32 × (Nat → Int32)} (C : axC X l D Y cX11_sheet 8 RX11 wsX11_sheet rmX11_sheet (some .int)) (hQ : axQ X 0 0 (fun r9 w9 => r9 = (some (.int res.1)) ∧ w9 = [oX11 ao atext atold aL aC alaw aotherLaw anow atrial ahistory aguess acrewPlan amoatPlan achance io_wind io_spadeLimit, oX2 aC iC_size, oX9 anow aL aC inow_moats inow_spades inow_tides, rI Y (anow 3) 8 res.2])) (hf : fX11_sheet_b123 iC_size cnow_mood x5 = some res) : ax X 0 0 123 [none, none, none, none, none, some (.int x5), none, none] [oX11 ao atext atold aL aC alaw aotherLaw anow atrial ahistory aguess acrewPlan amoatPlan achance io_wind io_spadeLimit, oX2 aC iC_size, oX9 anow aL aC inow_moats inow_spades inow_tides, rI Y (anow 3) 8 cnow_mood] [] := by
  unfold fX11_sheet_b123 at hf
  refine a_iload C dX11_sheet_123 rfl ?_
  obtain rfl := fx_some hf
  exact a_iret C hQ dX11_sheet_125 ⟨rfl, rfl⟩
def fX11_sheet_b94 (iC_size : Int32) (cnow_mood : Nat → Int32) (x1 : Int32) (x2 : Int32) (x4 : Int32) (x5 : Int32) (x6 : Int32) (x7 : Int32) (s1 : Int32) (s2 : Int32) (k52 : (Nat → Int32) × Int32 × Int32 × Int32 → Option (Int32 × (Nat → Int32))) : Option (Int32 × (Nat → Int32)) :=
  if inb s1 8 then if inb x7 8 then k52 ((upd cnow_mood (Int32.toNatClampNeg s1) s2), (x5 + ((upd cnow_mood (Int32.toNatClampNeg s1) s2) (Int32.toNatClampNeg x7))), (x6 + x4), (x7 + (1 : Int32))) else none else none
set_option maxHeartbeats 400000 in
set_option maxRecDepth 100000 in
theorem kX11_sheet_b94 {X : cxT} {l : Launch} {D : va_G} {Y : Nat → ClassId} {ao atext atold aL aC alaw aotherLaw anow atrial ahistory aguess acrewPlan amoatPlan achance : Nat → Nat} {io_wind : Int32} {io_spadeLimit : Int32} {iC_size : Int32} {inow_moats : Int32} {inow_spades : Int32} {inow_tides : Int32} {cnow_mood : Nat → Int32} {x1 : Int32} {x2 : Int32} {x4 : Int32} {x5 : Int32} {x6 : Int32} {x7 : Int32} {s1 : Int32} {s2 : Int32} {res : Int32 × (Nat → Int32)} (C : axC X l D Y cX11_sheet 8 RX11 wsX11_sheet rmX11_sheet (some .int)) (hQ : axQ X 0 0 (fun r9 w9 => r9 = (some (.int res.1)) ∧ w9 = [oX11 ao atext atold aL aC alaw aotherLaw anow atrial ahistory aguess acrewPlan amoatPlan achance io_wind io_spadeLimit, oX2 aC iC_size, oX9 anow aL aC inow_moats inow_spades inow_tides, rI Y (anow 3) 8 res.2])) {k52 : (Nat → Int32) × Int32 × Int32 × Int32 → Option (Int32 × (Nat → Int32))} (hk52 : ∀ s : (Nat → Int32) × Int32 × Int32 × Int32, k52 s = some res → ax X 0 0 52 [some (.ref (ao 0)), some (.int x1), some (.int x2), none, some (.int x4), some (.int s.2.1), some (.int s.2.2.1), some (.int s.2.2.2)] [oX11 ao atext atold aL aC alaw aotherLaw anow atrial ahistory aguess acrewPlan amoatPlan achance io_wind io_spadeLimit, oX2 aC iC_size, oX9 anow aL aC inow_moats inow_spades inow_tides, rI Y (anow 3) 8 s.1] []) (hf : fX11_sheet_b94 iC_size cnow_mood x1 x2 x4 x5 x6 x7 s1 s2 k52 = some res) : ax X 0 0 94 [some (.ref (ao 0)), some (.int x1), some (.int x2), none, some (.int x4), some (.int x5), some (.int x6), some (.int x7)] [oX11 ao atext atold aL aC alaw aotherLaw anow atrial ahistory aguess acrewPlan amoatPlan achance io_wind io_spadeLimit, oX2 aC iC_size, oX9 anow aL aC inow_moats inow_spades inow_tides, rI Y (anow 3) 8 cnow_mood] [.int s2, .int s1, .ref (anow 3)] := by
  unfold fX11_sheet_b94 at hf
  obtain ⟨h1, hf⟩ := fx_ite hf
  refine a_iast C dX11_sheet_94 3 rfl h1 ?_
  refine a_iload C dX11_sheet_95 rfl ?_
  refine a_aload_n C dX11_sheet_97 rfl ?_
  refine a_get C (eB_X11_56 _) dX11_sheet_98 0 rfl rfl ?_
  refine a_get C (eB_X11_189 _) dX11_sheet_101 2 rfl rfl ?_
  refine a_iload C dX11_sheet_104 rfl ?_
  obtain ⟨h2, hf⟩ := fx_ite hf
  refine a_iald C dX11_sheet_106 3 rfl h2 ?_
  refine a_iadd C dX11_sheet_107 ?_
  refine a_istore C dX11_sheet_108 (by decide) rfl ?_
  refine a_iload C dX11_sheet_110 rfl ?_
  refine a_iload C dX11_sheet_112 rfl ?_
  refine a_iadd C dX11_sheet_114 ?_
  refine a_istore C dX11_sheet_115 (by decide) rfl ?_
  refine a_iinc C (1 : Int32) dX11_sheet_117 (by decide) rfl (by decide) rfl ?_
  refine a_goto C 52 dX11_sheet_120 (by decide) ?_
  exact hk52 ((upd cnow_mood (Int32.toNatClampNeg s1) s2), (x5 + ((upd cnow_mood (Int32.toNatClampNeg s1) s2) (Int32.toNatClampNeg x7))), (x6 + x4), (x7 + (1 : Int32))) hf
def fX11_sheet_l52 (iC_size : Int32) (x1 : Int32) (x2 : Int32) (x4 : Int32) (k52 : (Nat → Int32) × Int32 × Int32 × Int32 → Option (Int32 × (Nat → Int32))) (cnow_mood : Nat → Int32) (x5 : Int32) (x6 : Int32) (x7 : Int32) : Option (Int32 × (Nat → Int32)) :=
  if iC_size ≤ x7 then (fX11_sheet_b123 iC_size cnow_mood x5) else (if x2 ≤ x7 then (fX11_sheet_b94 iC_size cnow_mood x1 x2 x4 x5 x6 x7 x7 (0 : Int32) k52) else ((fX11_narrowed x1 x6).bind (fun r5 => (fX11_clamp r5 (9 : Int32)).bind (fun r6 => fX11_sheet_b94 iC_size cnow_mood x1 x2 x4 x5 x6 x7 x7 r6 k52))))
def fX11_sheet_b52 (iC_size : Int32) (cnow_mood : Nat → Int32) (x1 : Int32) (x2 : Int32) (x4 : Int32) (x5 : Int32) (x6 : Int32) (x7 : Int32) : Option (Int32 × (Nat → Int32)) :=
  loopN (fun (s : (Nat → Int32) × Int32 × Int32 × Int32) k52 => fX11_sheet_l52 iC_size x1 x2 x4 k52 s.1 s.2.1 s.2.2.1 s.2.2.2) FUEL (cnow_mood, x5, x6, x7)
set_option maxHeartbeats 400000 in
set_option maxRecDepth 100000 in
theorem kX11_sheet_l52 {X : cxT} {l : Launch} {D : va_G} {Y : Nat → ClassId} {ao atext atold aL aC alaw aotherLaw anow atrial ahistory aguess acrewPlan amoatPlan achance : Nat → Nat} {io_wind : Int32} {io_spadeLimit : Int32} {iC_size : Int32} {inow_moats : Int32} {inow_spades : Int32} {inow_tides : Int32} {cnow_mood : Nat → Int32} {x1 : Int32} {x2 : Int32} {x4 : Int32} {x5 : Int32} {x6 : Int32} {x7 : Int32} {res : Int32 × (Nat → Int32)} (C : axC X l D Y cX11_sheet 8 RX11 wsX11_sheet rmX11_sheet (some .int)) (hQ : axQ X 0 0 (fun r9 w9 => r9 = (some (.int res.1)) ∧ w9 = [oX11 ao atext atold aL aC alaw aotherLaw anow atrial ahistory aguess acrewPlan amoatPlan achance io_wind io_spadeLimit, oX2 aC iC_size, oX9 anow aL aC inow_moats inow_spades inow_tides, rI Y (anow 3) 8 res.2])) {k52 : (Nat → Int32) × Int32 × Int32 × Int32 → Option (Int32 × (Nat → Int32))} (hk52 : ∀ s : (Nat → Int32) × Int32 × Int32 × Int32, k52 s = some res → ax X 0 0 52 [some (.ref (ao 0)), some (.int x1), some (.int x2), none, some (.int x4), some (.int s.2.1), some (.int s.2.2.1), some (.int s.2.2.2)] [oX11 ao atext atold aL aC alaw aotherLaw anow atrial ahistory aguess acrewPlan amoatPlan achance io_wind io_spadeLimit, oX2 aC iC_size, oX9 anow aL aC inow_moats inow_spades inow_tides, rI Y (anow 3) 8 s.1] []) (hf : fX11_sheet_l52 iC_size x1 x2 x4 k52 cnow_mood x5 x6 x7 = some res) : ax X 0 0 52 [some (.ref (ao 0)), some (.int x1), some (.int x2), none, some (.int x4), some (.int x5), some (.int x6), some (.int x7)] [oX11 ao atext atold aL aC alaw aotherLaw anow atrial ahistory aguess acrewPlan amoatPlan achance io_wind io_spadeLimit, oX2 aC iC_size, oX9 anow aL aC inow_moats inow_spades inow_tides, rI Y (anow 3) 8 cnow_mood] [] := by
  unfold fX11_sheet_l52 at hf
  refine a_iload C dX11_sheet_52 rfl ?_
  refine a_aload_n C dX11_sheet_54 rfl ?_
  refine a_get C (eB_X11_33 _) dX11_sheet_55 0 rfl rfl ?_
  refine a_get C (eB_X11_134 _) dX11_sheet_58 1 rfl rfl ?_
  refine a_icmp_ge C 123 dX11_sheet_61 (by decide) (fun h3 => ?_) (fun h3 => ?_)
  · have hf := fx_t h3 hf
    refine a_kill [0, 1, 2, 4, 6, 7] ?_
    exact kX11_sheet_b123 C hQ hf
  · have hf := fx_f h3 hf
    refine a_aload_n C dX11_sheet_64 rfl ?_
    refine a_get C (eB_X11_56 _) dX11_sheet_65 0 rfl rfl ?_
    refine a_get C (eB_X11_189 _) dX11_sheet_68 2 rfl rfl ?_
    refine a_iload C dX11_sheet_71 rfl ?_
    refine a_iload C dX11_sheet_73 rfl ?_
    refine a_iload_n C dX11_sheet_75 rfl ?_
    refine a_icmp_ge C 93 dX11_sheet_76 (by decide) (fun h4 => ?_) (fun h4 => ?_)
    · have hf := fx_t h4 hf
      refine a_iconst C (0 : Int32) dX11_sheet_93 (by decide) ?_
      exact kX11_sheet_b94 C hQ hk52 hf
    · have hf := fx_f h4 hf
      refine a_iload_n C dX11_sheet_79 rfl ?_
      refine a_iload C dX11_sheet_80 rfl ?_
      obtain ⟨r5, h5, hf⟩ := fx_bind hf
      refine a_fS C (kX11_narrowed l D Y x1 x6 r5 h5) (gB_X11_221 _) rfl dvX11_narrowed ⟨⟨rfl, rfl⟩, ⟨Nat.le_of_ble_eq_true rfl, Nat.le_of_ble_eq_true rfl⟩, ⟨Nat.le_of_ble_eq_true rfl, Nat.le_of_ble_eq_true rfl⟩⟩ rfl (Nat.le_of_ble_eq_true rfl) dX11_sheet_82 [] [0, 1, 2, 3] trivial (by decide +kernel) rfl [oX11 ao atext atold aL aC alaw aotherLaw anow atrial ahistory aguess acrewPlan amoatPlan achance io_wind io_spadeLimit, oX2 aC iC_size, oX9 anow aL aC inow_moats inow_spades inow_tides, rI Y (anow 3) 8 cnow_mood] trivial ⟨rfl, rfl, rfl, rfl, trivial⟩ 4 rfl (by decide +kernel) ?_
      refine a_bipush C (9 : Int32) dX11_sheet_85 (by decide) ?_
      obtain ⟨r6, h6, hf⟩ := fx_bind hf
      refine a_fS C (kX11_clamp l D Y r5 (9 : Int32) r6 h6) (gB_X11_225 _) rfl dvX11_clamp ⟨⟨rfl, rfl⟩, ⟨Nat.le_of_ble_eq_true rfl, Nat.le_of_ble_eq_true rfl⟩, ⟨Nat.le_of_ble_eq_true rfl, Nat.le_of_ble_eq_true rfl⟩⟩ rfl (Nat.le_of_ble_eq_true rfl) dX11_sheet_87 [] [0, 1, 2, 3] trivial (by decide +kernel) rfl [oX11 ao atext atold aL aC alaw aotherLaw anow atrial ahistory aguess acrewPlan amoatPlan achance io_wind io_spadeLimit, oX2 aC iC_size, oX9 anow aL aC inow_moats inow_spades inow_tides, rI Y (anow 3) 8 cnow_mood] trivial ⟨rfl, rfl, rfl, rfl, trivial⟩ 4 rfl (by decide +kernel) ?_
      refine a_goto C 94 dX11_sheet_90 (by decide) ?_
      exact kX11_sheet_b94 C hQ hk52 hf
set_option maxHeartbeats 400000 in
set_option maxRecDepth 100000 in
theorem kX11_sheet_b52 {X : cxT} {l : Launch} {D : va_G} {Y : Nat → ClassId} {ao atext atold aL aC alaw aotherLaw anow atrial ahistory aguess acrewPlan amoatPlan achance : Nat → Nat} {io_wind : Int32} {io_spadeLimit : Int32} {iC_size : Int32} {inow_moats : Int32} {inow_spades : Int32} {inow_tides : Int32} {cnow_mood : Nat → Int32} {x1 : Int32} {x2 : Int32} {x4 : Int32} {x5 : Int32} {x6 : Int32} {x7 : Int32} {res : Int32 × (Nat → Int32)} (C : axC X l D Y cX11_sheet 8 RX11 wsX11_sheet rmX11_sheet (some .int)) (hQ : axQ X 0 0 (fun r9 w9 => r9 = (some (.int res.1)) ∧ w9 = [oX11 ao atext atold aL aC alaw aotherLaw anow atrial ahistory aguess acrewPlan amoatPlan achance io_wind io_spadeLimit, oX2 aC iC_size, oX9 anow aL aC inow_moats inow_spades inow_tides, rI Y (anow 3) 8 res.2])) (hf : fX11_sheet_b52 iC_size cnow_mood x1 x2 x4 x5 x6 x7 = some res) : ax X 0 0 52 [some (.ref (ao 0)), some (.int x1), some (.int x2), none, some (.int x4), some (.int x5), some (.int x6), some (.int x7)] [oX11 ao atext atold aL aC alaw aotherLaw anow atrial ahistory aguess acrewPlan amoatPlan achance io_wind io_spadeLimit, oX2 aC iC_size, oX9 anow aL aC inow_moats inow_spades inow_tides, rI Y (anow 3) 8 cnow_mood] [] := by
  unfold fX11_sheet_b52 at hf
  exact fx_loop (P := fun s : (Nat → Int32) × Int32 × Int32 × Int32 => ax X 0 0 52 [some (.ref (ao 0)), some (.int x1), some (.int x2), none, some (.int x4), some (.int s.2.1), some (.int s.2.2.1), some (.int s.2.2.2)] [oX11 ao atext atold aL aC alaw aotherLaw anow atrial ahistory aguess acrewPlan amoatPlan achance io_wind io_spadeLimit, oX2 aC iC_size, oX9 anow aL aC inow_moats inow_spades inow_tides, rI Y (anow 3) 8 s.1] []) (fun s k52 hk52 h => kX11_sheet_l52 C hQ hk52 h) FUEL (cnow_mood, x5, x6, x7) hf
def fX11_sheet (iC_size : Int32) (cnow_mood : Nat → Int32) (x1 : Int32) (x2 : Int32) (x3 : Int32) (x4 : Int32) : Option (Int32 × (Nat → Int32)) :=
  (fX11_within x1 (0 : Int32) (3 : Int32)).bind (fun r7 => if r7 = (0 : Int32) then (fX11_sheet_b15 iC_size cnow_mood) else (if x2 ≤ (8 : Int32) then (if x1 = (3 : Int32) then ((fJ7_fill_53178 cnow_mood 8 (0 : Int32)).bind (fun r12 => some ((-3 : Int32), r12))) else (if (0 : Int32) ≤ x2 then (fX11_sheet_b52 iC_size cnow_mood x1 x2 x4 (0 : Int32) x3 (0 : Int32)) else (some ((-2 : Int32), cnow_mood)))) else (fX11_sheet_b15 iC_size cnow_mood)))
set_option maxHeartbeats 400000 in
set_option maxRecDepth 100000 in
theorem kX11_sheet (l : Launch) (D : va_G) (Y : Nat → ClassId) (ao atext atold aL aC alaw aotherLaw anow atrial ahistory aguess acrewPlan amoatPlan achance : Nat → Nat) (io_wind : Int32) (io_spadeLimit : Int32) (iC_size : Int32) (inow_moats : Int32) (inow_spades : Int32) (inow_tides : Int32) (cnow_mood : Nat → Int32) (x1 : Int32) (x2 : Int32) (x3 : Int32) (x4 : Int32) (res : Int32 × (Nat → Int32)) (hf : fX11_sheet iC_size cnow_mood x1 x2 x3 x4 = some res) : amf l D Y yX11_sheet wsX11_sheet rmX11_sheet [.ref (ao 0), .int x1, .int x2, .int x3, .int x4] [oX11 ao atext atold aL aC alaw aotherLaw anow atrial ahistory aguess acrewPlan amoatPlan achance io_wind io_spadeLimit, oX2 aC iC_size, oX9 anow aL aC inow_moats inow_spades inow_tides, rI Y (anow 3) 8 cnow_mood] (some (.int res.1)) [oX11 ao atext atold aL aC alaw aotherLaw anow atrial ahistory aguess acrewPlan amoatPlan achance io_wind io_spadeLimit, oX2 aC iC_size, oX9 anow aL aC inow_moats inow_spades inow_tides, rI Y (anow 3) 8 res.2] := by
  refine amf.of (cc := cX11_sheet) (maxL := 8) (rt := (some .int)) (by decide) rfl RX11 rfl (Nat.le_of_ble_eq_true rfl) [some (.ref (ao 0)), some (.int x1), some (.int x2), some (.int x3), some (.int x4), none, none, none] rfl ?_
  intro X C hQ
  unfold fX11_sheet at hf
  refine a_iload_n C dX11_sheet_0 rfl ?_
  refine a_iconst C (0 : Int32) dX11_sheet_1 (by decide) ?_
  refine a_iconst C (3 : Int32) dX11_sheet_2 (by decide) ?_
  obtain ⟨r7, h7, hf⟩ := fx_bind hf
  refine a_fS C (kX11_within l D Y x1 (0 : Int32) (3 : Int32) r7 h7) (gB_X11_203 _) rfl dvX11_within ⟨⟨rfl, rfl⟩, ⟨Nat.le_of_ble_eq_true rfl, Nat.le_of_ble_eq_true rfl⟩, ⟨Nat.le_of_ble_eq_true rfl, Nat.le_of_ble_eq_true rfl⟩⟩ rfl (Nat.le_of_ble_eq_true rfl) dX11_sheet_3 [] [0, 1, 2, 3] trivial (by decide +kernel) rfl [oX11 ao atext atold aL aC alaw aotherLaw anow atrial ahistory aguess acrewPlan amoatPlan achance io_wind io_spadeLimit, oX2 aC iC_size, oX9 anow aL aC inow_moats inow_spades inow_tides, rI Y (anow 3) 8 cnow_mood] trivial ⟨rfl, rfl, rfl, rfl, trivial⟩ 4 rfl (by decide +kernel) ?_
  refine a_if_eq C 15 dX11_sheet_6 (by decide) (fun h8 => ?_) (fun h8 => ?_)
  · have hf := fx_t h8 hf
    refine a_kill [0, 1, 2, 3, 4] ?_
    exact kX11_sheet_b15 C hQ hf
  · have hf := fx_f h8 hf
    refine a_iload_n C dX11_sheet_9 rfl ?_
    refine a_bipush C (8 : Int32) dX11_sheet_10 (by decide) ?_
    refine a_icmp_le C 17 dX11_sheet_12 (by decide) (fun h9 => ?_) (fun h9 => ?_)
    · have hf := fx_t h9 hf
      refine a_iload_n C dX11_sheet_17 rfl ?_
      refine a_iconst C (3 : Int32) dX11_sheet_18 (by decide) ?_
      refine a_icmp_ne C 36 dX11_sheet_19 (by decide) (fun h10 => ?_) (fun h10 => ?_)
      · have hf := fx_f h10 hf
        refine a_iload_n C dX11_sheet_36 rfl ?_
        refine a_if_ge C 43 dX11_sheet_37 (by decide) (fun h11 => ?_) (fun h11 => ?_)
        · have hf := fx_t h11 hf
          refine a_iconst C (0 : Int32) dX11_sheet_43 (by decide) ?_
          refine a_istore C dX11_sheet_44 (by decide) rfl ?_
          refine a_iload_n C dX11_sheet_46 rfl ?_
          refine a_istore C dX11_sheet_47 (by decide) rfl ?_
          refine a_iconst C (0 : Int32) dX11_sheet_49 (by decide) ?_
          refine a_istore C dX11_sheet_50 (by decide) rfl ?_
          refine a_kill [3] ?_
          exact kX11_sheet_b52 C hQ hf
        · have hf := fx_f h11 hf
          refine a_bipush C (-2 : Int32) dX11_sheet_40 (by decide) ?_
          obtain rfl := fx_some hf
          exact a_iret C hQ dX11_sheet_42 ⟨rfl, rfl⟩
      · have hf := fx_t h10 hf
        refine a_aload_n C dX11_sheet_22 rfl ?_
        refine a_get C (eB_X11_56 _) dX11_sheet_23 0 rfl rfl ?_
        refine a_get C (eB_X11_189 _) dX11_sheet_26 2 rfl rfl ?_
        refine a_iconst C (0 : Int32) dX11_sheet_29 (by decide) ?_
        obtain ⟨r12, h12, hf⟩ := fx_bind hf
        refine a_fS C (kJ7_fill_53178 l D Y (anow 3) cnow_mood 8 (0 : Int32) r12 h12) (gB_X11_215 _) rfl dvJ7_fill_53178 ⟨⟨rfl, rfl⟩, ⟨Nat.le_of_ble_eq_true rfl, Nat.le_of_ble_eq_true rfl⟩, ⟨Nat.le_of_ble_eq_true rfl, Nat.le_of_ble_eq_true rfl⟩⟩ rfl (Nat.le_of_ble_eq_true rfl) dX11_sheet_30 [3] [0, 1, 2] ⟨rfl, trivial⟩ (by decide +kernel) rfl [oX11 ao atext atold aL aC alaw aotherLaw anow atrial ahistory aguess acrewPlan amoatPlan achance io_wind io_spadeLimit, oX2 aC iC_size, oX9 anow aL aC inow_moats inow_spades inow_tides, rI Y (anow 3) 8 r12] ⟨rfl, trivial⟩ ⟨rfl, rfl, rfl, trivial⟩ 4 rfl (by decide +kernel) ?_
        refine a_bipush C (-3 : Int32) dX11_sheet_33 (by decide) ?_
        obtain rfl := fx_some hf
        exact a_iret C hQ dX11_sheet_35 ⟨rfl, rfl⟩
    · have hf := fx_f h9 hf
      refine a_kill [0, 1, 2, 3, 4] ?_
      exact kX11_sheet_b15 C hQ hf
