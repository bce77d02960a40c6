/-! ===== acts that can be undone ===== -/
theorem j_act {n m T : Nat} {wall depth mood place now : Nat → Int32} {moats spades tides : Int32} (hn : n ≤ 12) (hm : m ≤ 8) (hs : SS n m T wall depth mood place moats spades tides now) {next size undos : Int32} {rm rs rt undone : Nat → Int32} {rw rd ro rp : Nat → Nat → Int32} (hh : hR n m T next size rm rs rt rw rd ro rp undos undone) {wind lim msz lsz len ts kind x y : Int32} {age skill pals base dyke codes stack : Nat → Int32} {tn : Nat → Int64} {a mo' sp' ti' ts' : Int32} {st' wa' de' md' pl' : Nat → Int32} {tn' : Nat → Int64} (ep : fX11_perform wind lim msz age skill pals lsz base dyke len codes stack moats spades tides wall depth mood place ts tn kind x y = some (a, st', mo', sp', ti', wa', de', md', pl', ts', tn')) : ∃ next' size' rm' rs' rt' rw' rd' ro' rp' undone1 undos' undone', fX11_act wind lim msz age skill pals lsz base dyke next size len codes stack moats spades tides wall depth mood place rm rs rt rw rd ro rp ts tn kind x y = some (a, next', size', st', mo', sp', ti', wa', de', md', pl', rm', rs', rt', rw', rd', ro', rp', ts', tn') ∧ fX12_putsBy undos now undone = some undone1 ∧ fX12_counts undos undone1 a = some (a, undos', undone') ∧ (0 ≤ a → fX12_adds undos undone1 a = some (a, undos', undone')) ∧ hR n m T next' size' rm' rs' rt' rw' rd' ro' rp' undos' undone' ∧ (a < 0 → hR n m T next' size' rm' rs' rt' rw' rd' ro' rp' undos undone) := by
  obtain ⟨rm', rs', rt', rw', rd', ro', rp', undone1, e1, e2, hk, hr⟩ := h_mark hn hm hh hs
  by_cases h : a < 0
  · have h2 : ¬ 0 ≤ a := i_nle h
    refine ⟨next, size, rm', rs', rt', rw', rd', ro', rp', undone1, undos, undone1, ?_, e2, ?_, fun z => absurd z h2, hK_R hk, fun _ => hr⟩
    · simp only [fX11_act, e1, ep, ob_s, if_pos h, fX11_act_b32]
    · simp only [fX12_counts, if_neg h2, fX12_counts_b13]
  · have h2 : 0 ≤ a := i_nlt h
    obtain ⟨next', size', undos', undone', e3, e4, hr'⟩ := h_keep hn hm hk a
    refine ⟨next', size', rm', rs', rt', rw', rd', ro', rp', undone1, undos', undone', ?_, e2, ?_, fun _ => e4, hr', fun z => absurd z h⟩
    · simp only [fX11_act, e1, ep, ob_s, if_neg h, e3, fX11_act_b32]
    · simp only [fX12_counts, if_pos h2, e4, ob_s, fX12_counts_b13]
section Perf
variable (wind lim msz lsz len ts x y moats spades tides : Int32) (age skill pals base dyke codes stack wall depth mood place : Nat → Int32) (tn : Nat → Int64)
theorem pf_g : fX11_perform wind lim msz age skill pals lsz base dyke len codes stack moats spades tides wall depth mood place ts tn 103 x y = (fX9_send mood place msz lsz x y).bind (fun r8 => some (r8.1, stack, moats, spades, tides, wall, depth, mood, r8.2, ts, tn)) := by simp [fX11_perform]
theorem pf_h : fX11_perform wind lim msz age skill pals lsz base dyke len codes stack moats spades tides wall depth mood place ts tn 104 x y = (fX9_sendHome place msz x).bind (fun r8 => some (r8.1, stack, moats, spades, tides, wall, depth, mood, r8.2, ts, tn)) := by simp [fX11_perform]
theorem pf_s : fX11_perform wind lim msz age skill pals lsz base dyke len codes stack moats spades tides wall depth mood place ts tn 115 x y = (fX9_passSpade spades msz x lim).bind (fun r8 => some (r8.1, stack, moats, r8.2, tides, wall, depth, mood, place, ts, tn)) := by simp [fX11_perform]
theorem pf_t : fX11_perform wind lim msz age skill pals lsz base dyke len codes stack moats spades tides wall depth mood place ts tn 116 x y = (fX9_cheer mood msz x).bind (fun r8 => some (r8.1, stack, moats, spades, tides, wall, depth, r8.2, place, ts, tn)) := by simp [fX11_perform]
theorem pf_m : fX11_perform wind lim msz age skill pals lsz base dyke len codes stack moats spades tides wall depth mood place ts tn 109 x y = (fX9_dig moats lsz x).bind (fun r8 => some (r8.1, stack, r8.2, spades, tides, wall, depth, mood, place, ts, tn)) := by simp [fX11_perform]
theorem pf_p : fX11_perform wind lim msz age skill pals lsz base dyke len codes stack moats spades tides wall depth mood place ts tn 112 x y = (fX9_drain depth lsz x).bind (fun r8 => some (r8.1, stack, moats, spades, tides, wall, r8.2, mood, place, ts, tn)) := by simp [fX11_perform]
theorem pf_b : fX11_perform wind lim msz age skill pals lsz base dyke len codes stack moats spades tides wall depth mood place ts tn 98 x y = (fX11_buildAndTell msz age skill pals lsz spades wall mood place ts tn x).bind (fun r => some (r.1, stack, moats, spades, tides, r.2.1, depth, r.2.2.1, r.2.2.2.1, r.2.2.2.2.1, r.2.2.2.2.2)) := by simp [fX11_perform]
theorem pf_w : fX11_perform wind lim msz age skill pals lsz base dyke len codes stack moats spades tides wall depth mood place ts tn 119 x y = (fX11_surgeAndTell wind lsz base dyke len codes stack moats tides wall depth ts tn).bind (fun r => some (r.1, r.2.1, r.2.2.1, spades, r.2.2.2.1, r.2.2.2.2.1, r.2.2.2.2.2.1, mood, place, r.2.2.2.2.2.2.1, r.2.2.2.2.2.2.2)) := by simp [fX11_perform]
end Perf
theorem c_go {n m T : Nat} {wall depth mood place now fixed : Nat → Int32} {moats spades tides ts tr : Int32} {tn tw : Nat → Int64} (hn : n ≤ 12) (hm : m ≤ 8) (hs : SS n m T wall depth mood place moats spades tides now) (ht : toR ts tn tr tw) {len : Int32} {age skill pals base dyke codes stack : Nat → Int32} {next size undos : Int32} {rm rs rt undone : Nat → Int32} {rw rd ro rp : Nat → Nat → Int32} (hh : hR n m T next size rm rs rt rw rd ro rp undos undone) (thrown x y : Int32) : ∃ a next' size' st' mo' sp' ti' wa' de' md' pl' rm' rs' rt' rw' rd' ro' rp' ts' tn' undos' now' undone', fX11_go (fixed 0) (fixed 1) (nI m) age skill pals (nI n) base dyke next size len codes stack moats spades tides wall depth mood place rm rs rt rw rd ro rp ts tn x y = some (a, next', size', st', mo', sp', ti', wa', de', md', pl', rm', rs', rt', rw', rd', ro', rp', ts', tn') ∧ fX12_go thrown (nI n) (nI m) undos now undone x y = some (a, 0, undos', now', undone') ∧ SS n m T wa' de' md' pl' mo' sp' ti' now' ∧ hR n m T next' size' rm' rs' rt' rw' rd' ro' rp' undos' undone' ∧ toR ts' tn' tr tw := by
  obtain ⟨a, place', now', e1, e2, hS⟩ := j_send hn hm hs x y
  have ep := pf_g (fixed 0) (fixed 1) (nI m) (nI n) len ts x y moats spades tides age skill pals base dyke codes stack wall depth mood place tn
  rw [e1, ob_s] at ep
  obtain ⟨next', size', rm', rs', rt', rw', rd', ro', rp', undone1, undos', undone', f1, f2, f3, -, hr, -⟩ := j_act hn hm hs hh ep
  repeat apply Exists.intro
  refine ⟨?_, ?_, hS, hr, ht⟩
  · simp only [fX11_go, f1, ob_s]; rfl
  · simp only [fX12_go, f2, e2, f3, ob_s]
theorem c_home {n m T : Nat} {wall depth mood place now fixed : Nat → Int32} {moats spades tides ts tr : Int32} {tn tw : Nat → Int64} (hn : n ≤ 12) (hm : m ≤ 8) (hs : SS n m T wall depth mood place moats spades tides now) (ht : toR ts tn tr tw) {len : Int32} {age skill pals base dyke codes stack : Nat → Int32} {next size undos : Int32} {rm rs rt undone : Nat → Int32} {rw rd ro rp : Nat → Nat → Int32} (hh : hR n m T next size rm rs rt rw rd ro rp undos undone) (thrown x : Int32) : ∃ a next' size' st' mo' sp' ti' wa' de' md' pl' rm' rs' rt' rw' rd' ro' rp' ts' tn' undos' now' undone', fX11_home (fixed 0) (fixed 1) (nI m) age skill pals (nI n) base dyke next size len codes stack moats spades tides wall depth mood place rm rs rt rw rd ro rp ts tn x = some (a, next', size', st', mo', sp', ti', wa', de', md', pl', rm', rs', rt', rw', rd', ro', rp', ts', tn') ∧ fX12_home thrown (nI m) undos now undone x = some (a, 0, undos', now', undone') ∧ SS n m T wa' de' md' pl' mo' sp' ti' now' ∧ hR n m T next' size' rm' rs' rt' rw' rd' ro' rp' undos' undone' ∧ toR ts' tn' tr tw := by
  obtain ⟨a, place', now', e1, e2, hS⟩ := j_home hn hm hs x
  have ep := pf_h (fixed 0) (fixed 1) (nI m) (nI n) len ts x 0 moats spades tides age skill pals base dyke codes stack wall depth mood place tn
  rw [e1, ob_s] at ep
  obtain ⟨next', size', rm', rs', rt', rw', rd', ro', rp', undone1, undos', undone', f1, f2, f3, -, hr, -⟩ := j_act hn hm hs hh ep
  repeat apply Exists.intro
  refine ⟨?_, ?_, hS, hr, ht⟩
  · simp only [fX11_home, f1, ob_s]; rfl
  · simp only [fX12_home, f2, e2, f3, ob_s]
theorem c_spade {n m T : Nat} {wall depth mood place now fixed : Nat → Int32} {moats spades tides ts tr : Int32} {tn tw : Nat → Int64} (hn : n ≤ 12) (hm : m ≤ 8) (hs : SS n m T wall depth mood place moats spades tides now) (ht : toR ts tn tr tw) {len : Int32} {age skill pals base dyke codes stack : Nat → Int32} {next size undos : Int32} {rm rs rt undone : Nat → Int32} {rw rd ro rp : Nat → Nat → Int32} (hh : hR n m T next size rm rs rt rw rd ro rp undos undone) (thrown x : Int32) : ∃ a next' size' st' mo' sp' ti' wa' de' md' pl' rm' rs' rt' rw' rd' ro' rp' ts' tn' undos' now' undone', fX11_spade (fixed 0) (fixed 1) (nI m) age skill pals (nI n) base dyke next size len codes stack moats spades tides wall depth mood place rm rs rt rw rd ro rp ts tn x = some (a, next', size', st', mo', sp', ti', wa', de', md', pl', rm', rs', rt', rw', rd', ro', rp', ts', tn') ∧ fX12_spade thrown (nI m) undos fixed now undone x = some (a, 0, undos', now', undone') ∧ SS n m T wa' de' md' pl' mo' sp' ti' now' ∧ hR n m T next' size' rm' rs' rt' rw' rd' ro' rp' undos' undone' ∧ toR ts' tn' tr tw := by
  obtain ⟨a, spades', now', e1, e2, hS⟩ := j_spade hn hm hs (fixed := fixed) x
  have ep := pf_s (fixed 0) (fixed 1) (nI m) (nI n) len ts x 0 moats spades tides age skill pals base dyke codes stack wall depth mood place tn
  rw [e1, ob_s] at ep
  obtain ⟨next', size', rm', rs', rt', rw', rd', ro', rp', undone1, undos', undone', f1, f2, f3, -, hr, -⟩ := j_act hn hm hs hh ep
  repeat apply Exists.intro
  refine ⟨?_, ?_, hS, hr, ht⟩
  · simp only [fX11_spade, f1, ob_s]; rfl
  · simp only [fX12_spade, f2, e2, f3, ob_s]
theorem c_treat {n m T : Nat} {wall depth mood place now fixed : Nat → Int32} {moats spades tides ts tr : Int32} {tn tw : Nat → Int64} (hn : n ≤ 12) (hm : m ≤ 8) (hs : SS n m T wall depth mood place moats spades tides now) (ht : toR ts tn tr tw) {len : Int32} {age skill pals base dyke codes stack : Nat → Int32} {next size undos : Int32} {rm rs rt undone : Nat → Int32} {rw rd ro rp : Nat → Nat → Int32} (hh : hR n m T next size rm rs rt rw rd ro rp undos undone) (thrown x : Int32) : ∃ a next' size' st' mo' sp' ti' wa' de' md' pl' rm' rs' rt' rw' rd' ro' rp' ts' tn' undos' now' undone', fX11_treat (fixed 0) (fixed 1) (nI m) age skill pals (nI n) base dyke next size len codes stack moats spades tides wall depth mood place rm rs rt rw rd ro rp ts tn x = some (a, next', size', st', mo', sp', ti', wa', de', md', pl', rm', rs', rt', rw', rd', ro', rp', ts', tn') ∧ fX12_treat thrown (nI m) undos now undone x = some (a, 0, undos', now', undone') ∧ SS n m T wa' de' md' pl' mo' sp' ti' now' ∧ hR n m T next' size' rm' rs' rt' rw' rd' ro' rp' undos' undone' ∧ toR ts' tn' tr tw := by
  obtain ⟨a, mood', now', e1, e2, hS⟩ := j_treat hn hm hs x
  have ep := pf_t (fixed 0) (fixed 1) (nI m) (nI n) len ts x 0 moats spades tides age skill pals base dyke codes stack wall depth mood place tn
  rw [e1, ob_s] at ep
  obtain ⟨next', size', rm', rs', rt', rw', rd', ro', rp', undone1, undos', undone', f1, f2, f3, -, hr, -⟩ := j_act hn hm hs hh ep
  repeat apply Exists.intro
  refine ⟨?_, ?_, hS, hr, ht⟩
  · simp only [fX11_treat, f1, ob_s]; rfl
  · simp only [fX12_treat, f2, e2, f3, ob_s]
theorem c_moat {n m T : Nat} {wall depth mood place now fixed : Nat → Int32} {moats spades tides ts tr : Int32} {tn tw : Nat → Int64} (hn : n ≤ 12) (hm : m ≤ 8) (hs : SS n m T wall depth mood place moats spades tides now) (ht : toR ts tn tr tw) {len : Int32} {age skill pals base dyke codes stack : Nat → Int32} {next size undos : Int32} {rm rs rt undone : Nat → Int32} {rw rd ro rp : Nat → Nat → Int32} (hh : hR n m T next size rm rs rt rw rd ro rp undos undone) (thrown x : Int32) : ∃ a next' size' st' mo' sp' ti' wa' de' md' pl' rm' rs' rt' rw' rd' ro' rp' ts' tn' undos' now' undone', fX11_moat (fixed 0) (fixed 1) (nI m) age skill pals (nI n) base dyke next size len codes stack moats spades tides wall depth mood place rm rs rt rw rd ro rp ts tn x = some (a, next', size', st', mo', sp', ti', wa', de', md', pl', rm', rs', rt', rw', rd', ro', rp', ts', tn') ∧ fX12_moat thrown (nI n) undos now undone x = some (a, 0, undos', now', undone') ∧ SS n m T wa' de' md' pl' mo' sp' ti' now' ∧ hR n m T next' size' rm' rs' rt' rw' rd' ro' rp' undos' undone' ∧ toR ts' tn' tr tw := by
  obtain ⟨a, moats', now', e1, e2, hS⟩ := j_dig hn hm hs x
  have ep := pf_m (fixed 0) (fixed 1) (nI m) (nI n) len ts x 0 moats spades tides age skill pals base dyke codes stack wall depth mood place tn
  rw [e1, ob_s] at ep
  obtain ⟨next', size', rm', rs', rt', rw', rd', ro', rp', undone1, undos', undone', f1, f2, f3, -, hr, -⟩ := j_act hn hm hs hh ep
  repeat apply Exists.intro
  refine ⟨?_, ?_, hS, hr, ht⟩
  · simp only [fX11_moat, f1, ob_s]; rfl
  · simp only [fX12_moat, f2, e2, f3, ob_s]
/-! ===== build ===== -/
theorem SS_wall {n m T : Nat} {wall depth mood place now : Nat → Int32} {moats spades tides : Int32} (hs : SS n m T wall depth mood place moats spades tides now) : (∀ c, c < n → now c = wall c) := hs.2.1
theorem j_bt {n m T : Nat} {age skill friend pals age' skill' friend' wall depth mood place now : Nat → Int32} {moats spades tides : Int32} (hn : n ≤ 12) (hm : m ≤ 8) (hc : crR m age skill friend pals age' skill' friend') (hs : SS n m T wall depth mood place moats spades tides now) {N : Nat} (hN : N ≤ 30) (ts : Int32) (tn : Nat → Int64) (gets : Nat → Int32) (wh : Int32) : ∃ wall' mood' place' wh' gets' now', fX11_buildAndTell (nI m) age skill pals (nI n) spades wall mood place ts tn (nI N) = some (sumN wall' n - sumN wall n, wall', mood', place', nI 1, vp_updL tn 0 (wentS m place place').toInt64) ∧ fX12_builds (nI n) (nI m) wh age' skill' friend' gets now (nI N) = some (wh', gets', now') ∧ SS n m T wall' depth mood' place' moats spades tides now' ∧ (wh = 0 → wh' = wentS m place place') ∧ 0 ≤ sumN wall' n - sumN wall n := by
  obtain ⟨wall', mood', place', wh', gets', now', e1, e2, hS, hw, hle⟩ := j_builds hn hm hc hs (N := N) (by omega) gets wh
  refine ⟨wall', mood', place', wh', gets', now', ?_, e2, hS, hw, sum_ge hn hs.1.1 hS.1.1 hle⟩
  have hx : (0 : Int32) ≤ nI N ∧ nI N ≤ 30 := ⟨nI_pos' (by omega), nI_le (b := 30) (by omega) (by omega)⟩
  have eh : bitsN (fun k => decide (place' k = -1)) m &&& (bitsN (fun k => decide (place k = -1)) m ^^^ (-1)) = wentS m place place' := by
    rw [bits_andn _ _ (by omega), wentS]
    apply bitsN_congr
    intro k _
    rw [Bool.and_comm]
  simp only [fX11_buildAndTell, t_within, hx, decide_true, b2i_t, ob_s, t_sand hn, t_atHome hm, e1, t_tell, eh]
  rfl
theorem c_build {n m T : Nat} {age skill friend pals age' skill' friend' wall depth mood place now fixed : Nat → Int32} {moats spades tides ts tr : Int32} {tn tw : Nat → Int64} (hn : n ≤ 12) (hm : m ≤ 8) (hc : crR m age skill friend pals age' skill' friend') (hs : SS n m T wall depth mood place moats spades tides now) (ht : toR ts tn tr tw) {len : Int32} {base dyke codes stack : Nat → Int32} {next size undos : Int32} {rm rs rt undone : Nat → Int32} {rw rd ro rp : Nat → Nat → Int32} (hh : hR n m T next size rm rs rt rw rd ro rp undos undone) (thrown wh x : Int32) (gets : Nat → Int32) : ∃ a next' size' st' mo' sp' ti' wa' de' md' pl' rm' rs' rt' rw' rd' ro' rp' ts' tn' tr' undos' wh' tw' now' undone' gets', fX11_build (fixed 0) (fixed 1) (nI m) age skill pals (nI n) base dyke next size len codes stack moats spades tides wall depth mood place rm rs rt rw rd ro rp ts tn x = some (a, next', size', st', mo', sp', ti', wa', de', md', pl', rm', rs', rt', rw', rd', ro', rp', ts', tn') ∧ fX12_build thrown tr (nI n) (nI m) undos wh tw age' skill' friend' now undone gets x = some (a, 0, tr', undos', wh', tw', now', undone', gets') ∧ SS n m T wa' de' md' pl' mo' sp' ti' now' ∧ hR n m T next' size' rm' rs' rt' rw' rd' ro' rp' undos' undone' ∧ toR ts' tn' tr' tw' := by
  have ein := t_in x (L := 0) (H := 30) 0 30 rfl rfl
  have ep := pf_b (fixed 0) (fixed 1) (nI m) (nI n) len ts x 0 moats spades tides age skill pals base dyke codes stack wall depth mood place tn
  by_cases hx : 0 ≤ x ∧ x ≤ 30
  · obtain ⟨N, -, hN, rfl⟩ := rng_n (a := 0) (b := 30) (by omega) (by omega) hx
    obtain ⟨wall', mood', place', wh', gets', now', e1, e2, hS, hw, hge⟩ := j_bt hn hm hc hs hN ts tn gets 0
    rw [e1, ob_s] at ep
    obtain ⟨next', size', rm', rs', rt', rw', rd', ro', rp', undone1, undos', undone', f1, f2, -, f4, hr, -⟩ := j_act hn hm hs hh ep
    have f4 := f4 hge
    rw [hw rfl] at e2
    have es : sumN now n = sumN wall n := sumN_congr hs.2.1
    have es' : sumN now' n = sumN wall' n := sumN_congr hS.2.1
    repeat apply Exists.intro
    refine ⟨?_, ?_, hS, hr, to_1 tn tw (wentS m place place').toInt64⟩
    · simp only [fX11_build, f1, ob_s]; rfl
    · simp only [fX12_build, ein, hx, decide_true, b2i_t, ob_s, f2, t_wallAll hn, e2, t_ent0, es, es', f4]
      rfl
  · have er : fX11_buildAndTell (nI m) age skill pals (nI n) spades wall mood place ts tn x = some (-1, wall, mood, place, ts, tn) := by
      simp [fX11_buildAndTell, t_within, hx, b2i]
    rw [er, ob_s] at ep
    obtain ⟨next', size', rm', rs', rt', rw', rd', ro', rp', undone1, undos', undone', f1, f2, -, -, -, hr⟩ := j_act hn hm hs hh ep
    have hr := hr (show (-1 : Int32) < 0 by decide)
    repeat apply Exists.intro
    refine ⟨?_, ?_, hs, hr, ht⟩
    · simp only [fX11_build, f1, ob_s]; rfl
    · simp only [fX12_build, ein, hx, decide_false, b2i_f, ob_s]
      rfl
/-! ===== tide ===== -/
theorem brk_pos {n : Nat} (hn : n ≤ 12) (h : Int32) (base wall : Nat → Int32) : 0 ≤ brkS n h base wall := by
  unfold brkS
  rw [bits_W _ (by omega)]
  have := bW_lt (fun c => !decide (h ≤ topS base wall c)) n
  have h2 : 2 ^ n ≤ 2 ^ 12 := Nat.pow_le_pow_right (by decide) hn
  exact nI_pos' (by omega)
theorem j_st {n m T : Nat} {F : Int32 → Int32 → Int32 → Int32 → Int32} {len long moats spades tides : Int32} {codes code base dyke base' dyke' wall depth mood place now fixed : Nat → Int32} (hn : n ≤ 12) (h1 : 1 ≤ n) (hm : m ≤ 8) (hC : laC F len codes) (hM : laM F long code) (hl : laR n base dyke base' dyke') (hs : SS n m T wall depth mood place moats spades tides now) (stack : Nat → Int32) (ts : Int32) (tn : Nat → Int64) (lvl : Int32) (st as : Nat → Int32) : ∃ brk h st1 mo' wall' depth' st' as' now', fX11_surgeAndTell (fixed 0) (nI n) base dyke len codes stack moats tides wall depth ts tn = some (brk, st1, mo', tides + 1, wall', depth', nI 2, vp_updL (vp_updL tn 0 h.toInt64) 1 (sumN depth' n - sumN depth n).toInt64) ∧ fX12_tideComes (nI n) long lvl base' dyke' fixed code st as now = some (brk, h, st', as', now') ∧ SS n m (T + 1) wall' depth' mood place mo' spades (tides + 1) now' ∧ 0 ≤ brk := by
  obtain ⟨st1, e1⟩ := t_heightOf hC stack (fixed 0) moats tides (nI n) 0
  rw [i32_a0] at e1
  obtain ⟨wa', de', th', st4, as4, e2, e3, hS'⟩ := j_tide hn h1 hm hM (fixed := fixed) hl hs lvl st as
  refine ⟨_, _, st1, _, wa', de', st4, as4, th', ?_, e3, hS', brk_pos hn _ _ _⟩
  simp only [fX11_surgeAndTell, t_water hn, e1, e2, ob_s, t_tell2]
theorem c_tide {n m T : Nat} {F : Int32 → Int32 → Int32 → Int32 → Int32} {len long moats spades tides ts tr : Int32} {codes code base dyke base' dyke' wall depth mood place now fixed : Nat → Int32} {tn tw : Nat → Int64} (hn : n ≤ 12) (h1 : 1 ≤ n) (hm : m ≤ 8) (hC : laC F len codes) (hM : laM F long code) (hl : laR n base dyke base' dyke') (hs : SS n m T wall depth mood place moats spades tides now) (ht : toR ts tn tr tw) {age skill pals stack : Nat → Int32} {next size undos : Int32} {rm rs rt undone : Nat → Int32} {rw rd ro rp : Nat → Nat → Int32} (hh : hR n m T next size rm rs rt rw rd ro rp undos undone) (thrown lvl : Int32) (st as : Nat → Int32) : ∃ a next' size' st' mo' sp' ti' wa' de' md' pl' rm' rs' rt' rw' rd' ro' rp' ts' tn' tr' undos' lvl' tw' now' st2 as2 undone', fX11_tide (fixed 0) (fixed 1) (nI m) age skill pals (nI n) base dyke next size len codes stack moats spades tides wall depth mood place rm rs rt rw rd ro rp ts tn = some (a, next', size', st', mo', sp', ti', wa', de', md', pl', rm', rs', rt', rw', rd', ro', rp', ts', tn') ∧ fX12_tide thrown tr (nI n) long undos lvl tw base' dyke' fixed now code st as undone = some (a, 0, tr', undos', lvl', tw', now', st2, as2, undone') ∧ SS n m (T + 1) wa' de' md' pl' mo' sp' ti' now' ∧ hR n m T next' size' rm' rs' rt' rw' rd' ro' rp' undos' undone' ∧ toR ts' tn' tr' tw' := by
  have ep := pf_w (fixed 0) (fixed 1) (nI m) (nI n) len ts 0 0 moats spades tides age skill pals base dyke codes stack wall depth mood place tn
  obtain ⟨brk, h, st1, mo', wall', depth', st', as', now', e1, e2, hS, hge⟩ := j_st hn h1 hm hC hM hl hs (fixed := fixed) stack ts tn lvl st as
  rw [e1, ob_s] at ep
  obtain ⟨next', size', rm', rs', rt', rw', rd', ro', rp', undone1, undos', undone', f1, f2, -, f4, hr, -⟩ := j_act hn hm hs hh ep
  have f4 := f4 hge
  have es : sumN (fun c => now (13 + c)) n = sumN depth n := sumN_congr hs.2.2.1
  have es' : sumN (fun c => now' (13 + c)) n = sumN depth' n := sumN_congr hS.2.2.1
  repeat apply Exists.intro
  refine ⟨?_, ?_, hS, hr, to_2 tn tw h.toInt64 (sumN depth' n - sumN depth n).toInt64⟩
  · simp only [fX11_tide, f1, ob_s]; rfl
  · simp only [fX12_tide, ob_s, f2, t_deepAll hn, e2, t_ent0, t_ent1, es, es', f4]; rfl
/-! ===== pump ===== -/
def puD (depth : Nat → Int32) (x : Int32) (c : Nat) : Int32 := jmax 0 (depth c - x)
theorem t_drain {n : Nat} (hn : n ≤ 12) (depth : Nat → Int32) {x : Int32} (hx : 1 ≤ x ∧ x ≤ 99) : fX9_drain depth (nI n) x = some (bcS (bitsN (fun c => !decide (fillN (puD depth x) depth n c ≤ 0)) n), fillN (puD depth x) depth n) := by
  have e14 : fX9_drain_b14 depth (nI n) x 0 = some (bcS (bitsN (fun c => !decide (fillN (puD depth x) depth n c ≤ 0)) n), fillN (puD depth x) depth n) := by
    unfold fX9_drain_b14
    refine lp_up (fun i => (fillN (puD depth x) depth i, nI i)) n (by omega) (by rw [fill_0]; rfl) ?_ ?_
    · intro i hi k
      have h12 : i < 12 := by omega
      have fs := fill_s (puD depth x) depth i
      rw [← fs]
      simp (disch := omega) [fX9_drain_b49, fX9_drain_l14, nI_leI, nI_ltI, nI_clamp, nI_pos', nI_1, nI_eq, Nat.not_le.mpr hi, h12, fill_at, puD]
    · intro k
      simp (disch := omega) [fX9_drain_b49, fX9_drain_l14, nI_leI, nI_ltI, nI_clamp, nI_pos', nI_1, nI_eq, t_wet hn, t_bc]
  simp only [fX9_drain, t_within, hx, decide_true, b2i_t, ob_s, e14]
  rfl
theorem pu_r {d x : Int32} (hd : 0 ≤ d ∧ d ≤ 999) (hx : 1 ≤ x ∧ x ≤ 99) : 0 ≤ jmax 0 (d - x) ∧ jmax 0 (d - x) ≤ 999 := by
  obtain ⟨h1, h2⟩ := hd
  obtain ⟨h3, h4⟩ := hx
  unfold jmax; grind
def dpR (n : Nat) (D r : Nat → Int32) (i : Nat) : Nat → Int32 := fun j => if 13 ≤ j ∧ j < 13 + i then D (j - 13) else r j
theorem dp_s (n : Nat) (D r : Nat → Int32) (i : Nat) : upd (dpR n D r i) (13 + i) (D i) = dpR n D r (i + 1) := by
  funext j
  by_cases e : j = 13 + i
  · have e2 : 13 + i - 13 = i := by omega
    subst e; rw [pk_us]; simp only [dpR]; rw [if_pos (by omega), e2]
  · rw [pk_un e]
    simp only [dpR]
    have : (13 ≤ j ∧ j < 13 + (i + 1)) ↔ (13 ≤ j ∧ j < 13 + i) := by omega
    simp only [this]
theorem SS_depth {n m T : Nat} {wall depth mood place now : Nat → Int32} {moats spades tides : Int32} (hn : n ≤ 12) (hm : m ≤ 8) (hs : SS n m T wall depth mood place moats spades tides now) {D : Nat → Int32} {depth' : Nat → Int32} (h : ∀ c, c < n → depth' c = D c) (hr : rng n D) : SS n m T wall depth' mood place moats spades tides (dpR n D now n) := by
  obtain ⟨⟨o1, o2, o3, o4, o5⟩, s1, s2, s3, s4, s5, s6, s7⟩ := hs
  refine ⟨⟨o1, fun c hc => by rw [h c hc]; exact hr c hc, o3, o4, o5⟩, fun c hc => ?_, fun c hc => ?_, fun j hj => ?_, fun j hj => ?_, ?_, ?_, ?_⟩
  · simp only [dpR]; rw [if_neg (by omega)]; exact s1 c hc
  · have e2 : 13 + c - 13 = c := by omega
    simp only [dpR]; rw [if_pos (by omega), e2, h c hc]
  · simp only [dpR]; rw [if_neg (by omega)]; exact s3 j hj
  · simp only [dpR]; rw [if_neg (by omega)]; exact s4 j hj
  · simp only [dpR]; rw [if_neg (by omega)]; exact s5
  · simp only [dpR]; rw [if_neg (by omega)]; exact s6
  · simp only [dpR]; rw [if_neg (by omega)]; exact s7
theorem c_pump {n m T : Nat} {wall depth mood place now fixed : Nat → Int32} {moats spades tides ts tr : Int32} {tn tw : Nat → Int64} (hn : n ≤ 12) (hm : m ≤ 8) (hs : SS n m T wall depth mood place moats spades tides now) (ht : toR ts tn tr tw) {len : Int32} {age skill pals base dyke codes stack : Nat → Int32} {next size undos : Int32} {rm rs rt undone : Nat → Int32} {rw rd ro rp : Nat → Nat → Int32} (hh : hR n m T next size rm rs rt rw rd ro rp undos undone) (thrown x : Int32) : ∃ a next' size' st' mo' sp' ti' wa' de' md' pl' rm' rs' rt' rw' rd' ro' rp' ts' tn' undos' now' undone', fX11_pump (fixed 0) (fixed 1) (nI m) age skill pals (nI n) base dyke next size len codes stack moats spades tides wall depth mood place rm rs rt rw rd ro rp ts tn x = some (a, next', size', st', mo', sp', ti', wa', de', md', pl', rm', rs', rt', rw', rd', ro', rp', ts', tn') ∧ fX12_pump thrown (nI n) undos now undone x = some (a, 0, undos', now', undone') ∧ SS n m T wa' de' md' pl' mo' sp' ti' now' ∧ hR n m T next' size' rm' rs' rt' rw' rd' ro' rp' undos' undone' ∧ toR ts' tn' tr tw := by
  have ein := t_in x (L := 1) (H := 99) 1 99 rfl rfl
  have ep := pf_p (fixed 0) (fixed 1) (nI m) (nI n) len ts x 0 moats spades tides age skill pals base dyke codes stack wall depth mood place tn
  by_cases hx : 1 ≤ x ∧ x ≤ 99
  · rw [t_drain hn depth hx, ob_s] at ep
    obtain ⟨next', size', rm', rs', rt', rw', rd', ro', rp', undone1, undos', undone', f1, f2, -, f4, hr, -⟩ := j_act hn hm hs hh ep
    have hS := SS_depth hn hm hs (D := puD depth x) (depth' := fillN (puD depth x) depth n) (fun c hc => fill_lt _ _ hc) (fun c hc => pu_r (hs.1.2.1 c hc) hx)
    have ew := wet_congr hS.2.2.1
    have f4 := f4 (by rw [t_cntB _ hn]; exact nI_pos' (by have := ctN_le (fun c => !decide (fillN (puD depth x) depth n c ≤ 0)) n; omega))
    have e25 : fX12_pump_b25 0 (nI n) undos now undone1 x 0 = some (bcS (bitsN (fun c => !decide (fillN (puD depth x) depth n c ≤ 0)) n), 0, undos', dpR n (puD depth x) now n, undone') := by
      unfold fX12_pump_b25
      refine lp_up (fun i => (dpR n (puD depth x) now i, nI i)) n (by omega) ?_ ?_ ?_
      · refine Prod.ext ?_ rfl
        funext j
        simp only [dpR]; rw [if_neg (by omega)]
      · intro i hi k
        have h43 : 13 + i < 43 := by omega
        have ad : dpR n (puD depth x) now i (13 + i) = depth i := by simp only [dpR]; rw [if_neg (by omega)]; exact hs.2.2.1 i hi
        rw [← dp_s]
        simp (disch := omega) [fX12_pump_b63, fX12_pump_l25, nI_leI, nI_ltI, nI_clamp, nI_pos', nI_1, nI_eq, ix_d, Nat.not_le.mpr hi, h43, ad, puD]
      · intro k
        have hle : nI n ≤ nI n := nI_le (Nat.le_refl n) (by omega)
        simp only [fX12_pump_l25, if_pos hle, fX12_pump_b63, t_wetM hn, ew, t_bc, ob_s, f4]
    repeat apply Exists.intro
    refine ⟨?_, ?_, hS, hr, ht⟩
    · simp only [fX11_pump, f1, ob_s]; rfl
    · simp only [fX12_pump, ein, hx, decide_true, b2i_t, ob_s, f2, e25]
      rfl
  · have er : fX9_drain depth (nI n) x = some (-1, depth) := by
      simp [fX9_drain, t_within, hx, b2i]
    rw [er, ob_s] at ep
    obtain ⟨next', size', rm', rs', rt', rw', rd', ro', rp', undone1, undos', undone', f1, f2, -, -, -, hr⟩ := j_act hn hm hs hh ep
    have hr := hr (show (-1 : Int32) < 0 by decide)
    repeat apply Exists.intro
    refine ⟨?_, ?_, hs, hr, ht⟩
    · simp only [fX11_pump, f1, ob_s]; rfl
    · simp only [fX12_pump, ein, hx, decide_false, b2i_f, ob_s]
      rfl
