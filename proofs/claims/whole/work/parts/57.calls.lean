/-! ===== what is told ===== -/
theorem ob_s {α β : Type} (a : α) (f : α → Option β) : (some a).bind f = f a := (Option.bind_some a f).trans (Eq.refl (f a))
def toR (s : Int32) (a : Nat → Int64) (s' : Int32) (a' : Nat → Int64) : Prop := ∃ k, k ≤ 12 ∧ s = nI k ∧ s' = nI k ∧ ∀ i, i < k → a i = a' i
theorem t_add {k : Nat} (hk : k < 12) (a : Nat → Int64) (x : Int64) : fX8_add (nI k) a x = some (nI (k + 1), vp_updL a k x) := by
  have h : ¬ (12 : Int32) ≤ nI k := nI_ge (b := 12) hk (by omega)
  simp (disch := omega) [fX8_add, fX8_add_b29, nI_leI, nI_ltI, nI_clamp, nI_pos', nI_1, nI_eq, h, hk]
theorem t_ent {k : Nat} (hk : k < 24) (a : Nat → Int64) (x : Int64) : fX12_enters (nI k) a x = some (nI (k + 1), vp_updL a k x) := by
  simp (disch := omega) [fX12_enters, nI_leI, nI_ltI, nI_clamp, nI_pos', nI_1, nI_eq, hk]
theorem t_ent0 (a : Nat → Int64) (x : Int64) : fX12_enters 0 a x = some (nI 1, vp_updL a 0 x) := t_ent (k := 0) (by omega) a x
theorem t_ent1 (a : Nat → Int64) (x : Int64) : fX12_enters (nI 1) a x = some (nI 2, vp_updL a 1 x) := t_ent (k := 1) (by omega) a x
theorem t_add0 (a : Nat → Int64) (x : Int64) : fX8_add 0 a x = some (nI 1, vp_updL a 0 x) := t_add (k := 0) (by omega) a x
theorem t_add1 (a : Nat → Int64) (x : Int64) : fX8_add (nI 1) a x = some (nI 2, vp_updL a 1 x) := t_add (k := 1) (by omega) a x
theorem t_tell (s : Int32) (a : Nat → Int64) (x : Int64) : fX8_tell s a x = some (nI 1, vp_updL a 0 x) := by
  simp only [fX8_tell, fX8_clear, Option.bind_some, t_add0]
theorem t_tell2 (s : Int32) (a : Nat → Int64) (x y : Int64) : fX8_tell_ s a x y = some (nI 2, vp_updL (vp_updL a 0 x) 1 y) := by
  simp only [fX8_tell_, fX8_clear, Option.bind_some, t_add0, t_add1]
theorem to_1 (a a' : Nat → Int64) (x : Int64) : toR (nI 1) (vp_updL a 0 x) (nI 1) (vp_updL a' 0 x) := ⟨1, by omega, rfl, rfl, fun i hi => by
  have : i = 0 := by omega
  subst this; rw [pk_uLs, pk_uLs]⟩
theorem to_2 (a a' : Nat → Int64) (x y : Int64) : toR (nI 2) (vp_updL (vp_updL a 0 x) 1 y) (nI 2) (vp_updL (vp_updL a' 0 x) 1 y) := ⟨2, by omega, rfl, rfl, fun i hi => by
  by_cases e : i = 1
  · subst e; rw [pk_uLs, pk_uLs]
  · have : i = 0 := by omega
    subst this; rw [pk_uLn (show (0 : Nat) ≠ 1 by decide), pk_uLn (show (0 : Nat) ≠ 1 by decide), pk_uLs, pk_uLs]⟩
/-! ===== copies ===== -/
theorem cpy_lt {α : Type} {f g : Nat → α} {n c : Nat} (h : c < n) : va_cpy f g 0 0 n c = f c := by
  rw [pk_cpy_in (by omega) (by omega)]; simp
theorem t_copy (a b c : Int32) (d e f g : Nat → Int32) (moats spades tides : Int32) (wall depth mood place : Nat → Int32) : fX9_copy a b c d e f g moats spades tides wall depth mood place = some (moats, spades, tides, va_cpy wall d 0 0 12, va_cpy depth e 0 0 12, va_cpy mood f 0 0 8, va_cpy place g 0 0 8) := rfl
theorem t_puts (now then_ : Nat → Int32) : fX12_puts now then_ = some (fillN now then_ 43) := by
  unfold fX12_puts fX12_puts_b2
  refine lp_up (fun i => (fillN now then_ i, nI i)) 43 (by omega) (by rw [fill_0]; rfl) ?_ ?_
  · intro i hi k
    have h : ¬ (43 : Int32) ≤ nI i := nI_ge (b := 43) hi (by omega)
    have := fill_s now then_ i
    simp (disch := omega) [fX12_puts_b26, fX12_puts_l2, nI_leI, nI_ltI, nI_clamp, nI_pos', nI_1, nI_eq, h, hi, ← this]
  · intro k
    have h : (43 : Int32) ≤ nI 43 := by decide
    simp [fX12_puts_b26, fX12_puts_l2, h]
theorem SS_congr {n m T : Nat} {wall depth mood place wall' depth' mood' place' : Nat → Int32} {moats spades tides : Int32} {r r' : Nat → Int32} (hn : n ≤ 12) (hm : m ≤ 8) (hs : SS n m T wall depth mood place moats spades tides r) (h1 : ∀ c, c < n → wall' c = wall c) (h2 : ∀ c, c < n → depth' c = depth c) (h3 : ∀ k, k < m → mood' k = mood k) (h4 : ∀ k, k < m → place' k = place k) (h5 : ∀ j, j < 43 → r' j = r j) : SS n m T wall' depth' mood' place' moats spades tides r' := by
  obtain ⟨⟨o1, o2, o3, o4, o5⟩, s1, s2, s3, s4, s5, s6, s7⟩ := hs
  refine ⟨⟨fun c hc => ?_, fun c hc => ?_, fun k hk => ?_, fun k hk => ?_, o5⟩, fun c hc => ?_, fun c hc => ?_, fun k hk => ?_, fun k hk => ?_, ?_, ?_, ?_⟩
  · rw [h1 c hc]; exact o1 c hc
  · rw [h2 c hc]; exact o2 c hc
  · rw [h3 k hk]; exact o3 k hk
  · rw [h4 k hk]; exact o4 k hk
  · rw [h1 c hc, h5 c (by omega)]; exact s1 c hc
  · rw [h2 c hc, h5 _ (by omega)]; exact s2 c hc
  · rw [h3 k hk, h5 _ (by omega)]; exact s3 k hk
  · rw [h4 k hk, h5 _ (by omega)]; exact s4 k hk
  · rw [h5 _ (by omega)]; exact s5
  · rw [h5 _ (by omega)]; exact s6
  · rw [h5 _ (by omega)]; exact s7
theorem j_copy {n m T : Nat} {wall depth mood place : Nat → Int32} {moats spades tides : Int32} {r : Nat → Int32} (hn : n ≤ 12) (hm : m ≤ 8) (hs : SS n m T wall depth mood place moats spades tides r) (d e f g th : Nat → Int32) : SS n m T (va_cpy wall d 0 0 12) (va_cpy depth e 0 0 12) (va_cpy mood f 0 0 8) (va_cpy place g 0 0 8) moats spades tides (fillN r th 43) :=
  SS_congr hn hm hs (fun c hc => cpy_lt (by omega)) (fun c hc => cpy_lt (by omega)) (fun c hc => cpy_lt (by omega)) (fun c hc => cpy_lt (by omega)) (fun j hj => fill_lt _ _ hj)
/-! ===== tides ===== -/
theorem j_breaks0 {n m T : Nat} {F : Int32 → Int32 → Int32 → Int32 → Int32} {len long moats spades tides : Int32} {codes code base dyke base' dyke' wall depth mood place now fixed : Nat → Int32} (hn : n ≤ 12) (h1 : 1 ≤ n) (hm : m ≤ 8) (hC : laC F len codes) (hM : laM F long code) (hl : laR n base dyke base' dyke') (hs : SS n m T wall depth mood place moats spades tides now) {N : Nat} (hN : N ≤ 100) (e1 e2 e3 : Int32) (e4 e5 e6 e7 : Nat → Int32) (stack : Nat → Int32) (lvl : Int32) (nw st as : Nat → Int32) : ∃ a st1 mo ti wa de lvl' th' st' as', fX11_breaksOf_b16 (fixed 0) len codes stack (nI n) base dyke e1 e2 e3 e4 e5 e6 e7 moats spades tides wall depth mood place (nI N) 0 0 = some (a, st1, mo, spades, ti, wa, de, mood, place) ∧ fX12_breakMany_b8 (nI n) long lvl base' dyke' fixed nw now code st as (nI N) 0 0 = some (a, lvl', th', st', as') ∧ SS n m (T + N) wa de mood place mo spades ti th' := by
  unfold fX11_breaksOf_b16 fX12_breakMany_b8
  refine lq2 (fun r u => ∃ a st1 mo ti wa de lvl' th' st' as', r = some (a, st1, mo, spades, ti, wa, de, mood, place) ∧ u = some (a, lvl', th', st', as') ∧ SS n m (T + N) wa de mood place mo spades ti th') (fun i s t => s.2.2.2.2.2.2 = nI i ∧ t.2.2.2.2.2 = nI i ∧ s.2.2.2.2.2.1 = t.2.2.2.2.1 ∧ SS n m (T + i) s.2.2.2.1 s.2.2.2.2.1 mood place s.2.1 spades s.2.2.1 t.2.1) N (by omega) ⟨rfl, rfl, rfl, hs⟩ ?_
  intro i s t k1 k2 hi hI
  obtain ⟨st, mo, ti, wa, de, c, x⟩ := s
  obtain ⟨lv, th, st2, as2, c2, y⟩ := t
  obtain ⟨e1, e2, e3, hS⟩ := hI
  simp only at e1 e2 e3 hS
  subst e1 e2 e3
  by_cases e : i = N
  · subst e
    right
    refine ⟨c, st, mo, ti, wa, de, lv, th, st2, as2, ?_, ?_, hS⟩
    · simp (disch := omega) [fX11_breaksOf_b51, fX11_breaksOf_b45, fX11_breaksOf_l16, nI_leI, nI_ltI, nI_clamp, nI_pos', nI_1, nI_eq]
    · simp (disch := omega) [fX12_breakMany_b41, fX12_breakMany_b30, fX12_breakMany_l8, nI_leI, nI_ltI, nI_clamp, nI_pos', nI_1, nI_eq]
  · have hi2 : i < N := by omega
    left
    refine ⟨hi2, ?_⟩
    obtain ⟨st3, e1⟩ := t_heightOf hC st (fixed 0) mo ti (nI n) 0
    rw [i32_a0] at e1
    obtain ⟨wa', de', th', st4, as4, e2, e3, hS'⟩ := j_tide hn h1 hm hM (fixed := fixed) hl hS lv st2 as2
    generalize levS F (fixed 0) (nI n) mo ti = h at *
    by_cases z : brkS n h base wa = 0
    · refine ⟨(st3, mo &&& (brkS n h base wa ^^^ (-1)), ti + 1, wa', de', c, nI (i + 1)), (h, th', st4, as4, c, nI (i + 1)), ⟨rfl, rfl, rfl, hS'⟩, ?_, ?_⟩
      · simp (disch := omega) [fX11_breaksOf_b51, fX11_breaksOf_b45, fX11_breaksOf_l16, nI_leI, nI_ltI, nI_clamp, nI_pos', nI_1, nI_eq, Nat.not_le.mpr hi2, e1, e2, z]
      · simp (disch := omega) [fX12_breakMany_b41, fX12_breakMany_b30, fX12_breakMany_l8, nI_leI, nI_ltI, nI_clamp, nI_pos', nI_1, nI_eq, Nat.not_le.mpr hi2, e3, z, fX12_flag, fX12_flag_b9]
    · refine ⟨(st3, mo &&& (brkS n h base wa ^^^ (-1)), ti + 1, wa', de', c + 1, nI (i + 1)), (h, th', st4, as4, c + 1, nI (i + 1)), ⟨rfl, rfl, rfl, hS'⟩, ?_, ?_⟩
      · simp (disch := omega) [fX11_breaksOf_b51, fX11_breaksOf_b45, fX11_breaksOf_l16, nI_leI, nI_ltI, nI_clamp, nI_pos', nI_1, nI_eq, Nat.not_le.mpr hi2, e1, e2, z]
      · simp (disch := omega) [fX12_breakMany_b41, fX12_breakMany_b30, fX12_breakMany_l8, nI_leI, nI_ltI, nI_clamp, nI_pos', nI_1, nI_eq, Nat.not_le.mpr hi2, e3, z, fX12_flag, fX12_flag_b9]
theorem j_breaks {n m T : Nat} {F : Int32 → Int32 → Int32 → Int32 → Int32} {len long moats spades tides : Int32} {codes code base dyke base' dyke' wall depth mood place now fixed : Nat → Int32} (hn : n ≤ 12) (h1 : 1 ≤ n) (hm : m ≤ 8) (hC : laC F len codes) (hM : laM F long code) (hl : laR n base dyke base' dyke') (hs : SS n m T wall depth mood place moats spades tides now) {N : Nat} (hN : N ≤ 100) (stack : Nat → Int32) (q1 q2 q3 : Int32) (q4 q5 q6 q7 : Nat → Int32) (lvl : Int32) (th st as : Nat → Int32) : ∃ a st1 mo ti wa de lvl' th' st' as', fX11_breaksOf (fixed 0) len codes stack (nI n) base dyke moats spades tides wall depth mood place q1 q2 q3 q4 q5 q6 q7 (nI N) = some (a, st1, mo, spades, ti, wa, de, va_cpy mood q6 0 0 8, va_cpy place q7 0 0 8) ∧ fX12_breakMany (nI n) long lvl base' dyke' fixed now th code st as (nI N) = some (a, lvl', th', st', as') ∧ SS n m (T + N) wa de (va_cpy mood q6 0 0 8) (va_cpy place q7 0 0 8) mo spades ti th' := by
  have h0 := j_copy hn hm hs q4 q5 q6 q7 th
  obtain ⟨a, st1, mo, ti, wa, de, lvl', th', st', as', e1, e2, hS⟩ := j_breaks0 hn h1 hm hC hM hl h0 (fixed := fixed) hN moats spades tides wall depth mood place stack lvl now st as
  refine ⟨a, st1, mo, ti, wa, de, lvl', th', st', as', ?_, ?_, hS⟩
  · simp only [fX11_breaksOf, t_copy, ob_s, e1]
  · simp only [fX12_breakMany, t_puts, ob_s, e2]
theorem wet_congr {n : Nat} {r depth : Nat → Int32} (h : ∀ c, c < n → r (13 + c) = depth c) : bitsN (fun c => !decide (r (13 + c) ≤ 0)) n = bitsN (fun c => !decide (depth c ≤ 0)) n := bitsN_congr (fun c hc => by rw [h c hc])
theorem rng_n {x : Int32} {a b : Nat} (ha : a < 2 ^ 31) (hb : b < 2 ^ 31) (h : nI a ≤ x ∧ x ≤ nI b) : ∃ k, a ≤ k ∧ k ≤ b ∧ x = nI k := by
  have h0 : 0 ≤ nI a := nI_pos' ha
  obtain ⟨k, hk, rfl⟩ := nI_of (x := x) (by have := h.1; grind)
  rw [nI_leI ha hk, nI_leI hk hb] at h
  exact ⟨k, h.1, h.2, rfl⟩
theorem c_tides {n m T : Nat} {F : Int32 → Int32 → Int32 → Int32 → Int32} {len long moats spades tides : Int32} {codes code base dyke base' dyke' wall depth mood place now fixed : Nat → Int32} (hn : n ≤ 12) (h1 : 1 ≤ n) (hm : m ≤ 8) (hC : laC F len codes) (hM : laM F long code) (hl : laR n base dyke base' dyke') (hs : SS n m T wall depth mood place moats spades tides now) (x : Int32) (stack : Nat → Int32) (q1 q2 q3 : Int32) (q4 q5 q6 q7 : Nat → Int32) (lvl thrown : Int32) (th st as : Nat → Int32) {ts tr : Int32} {tn tw : Nat → Int64} (ht : toR ts tn tr tw) : ∃ a st1 ts' tn' p1 p2 p3 p4 p5 p6 p7 tr' lvl' tw' th' st' as', fX11_tides (fixed 0) (nI n) base dyke len codes stack moats spades tides wall depth mood place ts tn q1 q2 q3 q4 q5 q6 q7 x = some (a, st1, ts', tn', p1, p2, p3, p4, p5, p6, p7) ∧ fX12_tides thrown tr (nI n) long lvl tw base' dyke' fixed now th code st as x = some (a, 0, tr', lvl', tw', th', st', as') ∧ toR ts' tn' tr' tw' := by
  have ein := t_in x (L := 0) (H := 60) 0 60 rfl rfl
  by_cases hx : 0 ≤ x ∧ x ≤ 60
  · obtain ⟨N, -, hN, rfl⟩ := rng_n (a := 0) (b := 60) (by omega) (by omega) hx
    obtain ⟨a, st1, mo, ti, wa, de, lvl', th', st', as', e1, e2, hS⟩ := j_breaks (fixed := fixed) hn h1 hm hC hM hl hs (N := N) (by omega) stack q1 q2 q3 q4 q5 q6 q7 lvl th st as
    have ew := wet_congr hS.2.2.1
    have es : sumN (fun c => th' (13 + c)) n = sumN de n := sumN_congr hS.2.2.1
    repeat apply Exists.intro
    refine ⟨?_, ?_, to_2 tn tw (bcS (bitsN (fun c => !decide (de c ≤ 0)) n)).toInt64 (sumN de n).toInt64⟩
    · simp only [fX11_tides, t_within, hx, decide_true, b2i_t, ob_s, e1, t_wet hn, t_water hn, t_bc, t_tell2]
      rfl
    · simp only [fX12_tides, ein, hx, decide_true, b2i_t, ob_s, e2, t_wetM hn, t_deepAll hn, t_bc, t_ent0, t_ent1, ew, es]
      rfl
  · refine ⟨-1, stack, ts, tn, q1, q2, q3, q4, q5, q6, q7, tr, lvl, tw, th, st, as, ?_, ?_, ht⟩
    · simp [fX11_tides, t_within, hx, b2i]
    · simp [fX12_tides, ein, hx, b2i]
theorem c_level {n m T : Nat} {F : Int32 → Int32 → Int32 → Int32 → Int32} {len long moats spades tides : Int32} {codes code base dyke base' dyke' wall depth mood place now fixed : Nat → Int32} (hn : n ≤ 12) (hC : laC F len codes) (hM : laM F long code) (hl : laR n base dyke base' dyke') (hs : SS n m T wall depth mood place moats spades tides now) (x : Int32) (stack : Nat → Int32) (thrown : Int32) (st as : Nat → Int32) {ts tr : Int32} {tn tw : Nat → Int64} (ht : toR ts tn tr tw) : ∃ a st1 ts' tn' tr' tw' st' as', fX11_level (fixed 0) (nI n) base len codes stack moats tides wall ts tn x = some (a, st1, ts', tn') ∧ fX12_level thrown tr (nI n) long tw base' fixed now code st as x = some (a, 0, tr', tw', st', as') ∧ toR ts' tn' tr' tw' := by
  have ein := t_in x (L := 0) (H := 99) 0 99 rfl rfl
  by_cases hx : 0 ≤ x ∧ x ≤ 99
  · obtain ⟨st1, e1⟩ := t_heightOf hC stack (fixed 0) moats tides (nI n) x
    obtain ⟨st2, as2, e2⟩ := t_levelOf hM st as fixed now (nI n) (now 42 + x)
    rw [hs.2.2.2.2.2.1, hs.2.2.2.2.2.2.2] at e2
    have eb : ∀ h : Int32, bitsN (fun c => !decide (h ≤ topS base' now c)) n = bitsN (fun c => !decide (h ≤ topS base wall c)) n := fun h => bitsN_congr (fun c hc => by rw [show topS base' now c = topS base wall c by simp only [topS, (hl.1 c hc).1, hs.2.1 c hc]])
    have i42 : inb (42 : Int32) 43 := inb_n (i := 42) (by omega) (by omega)
    have n42 : (42 : Int32).toNatClampNeg = 42 := rfl
    repeat apply Exists.intro
    refine ⟨?_, ?_, to_1 tn tw (bitsN (fun c => !decide (levS F (fixed 0) (nI n) moats (tides + x) ≤ topS base wall c)) n).toInt64⟩
    · simp only [fX11_level, t_within, hx, decide_true, b2i_t, ob_s, e1, t_below hn, t_tell]
      rfl
    · simp only [fX12_level, ein, hx, decide_true, b2i_t, ob_s, if_pos i42, n42, hs.2.2.2.2.2.2.2, e2, t_lowBy hn, t_ent0, eb]
      rfl
  · refine ⟨-1, stack, ts, tn, tr, tw, st, as, ?_, ?_, ht⟩
    · simp [fX11_level, t_within, hx, b2i]
    · simp [fX12_level, ein, hx, b2i]
theorem c_holds {n m T : Nat} {F : Int32 → Int32 → Int32 → Int32 → Int32} {len long moats spades tides : Int32} {codes code base dyke base' dyke' wall depth mood place now fixed : Nat → Int32} (hn : n ≤ 12) (h1 : 1 ≤ n) (hm : m ≤ 8) (hC : laC F len codes) (hM : laM F long code) (hl : laR n base dyke base' dyke') (hs : SS n m T wall depth mood place moats spades tides now) (stack : Nat → Int32) (q1 q2 q3 : Int32) (q4 q5 q6 q7 : Nat → Int32) (lvl fb thrown : Int32) (th st as : Nat → Int32) {ts tr : Int32} {tn tw : Nat → Int64} (ht : toR ts tn tr tw) : ∃ a st1 ts' tn' p1 p2 p3 p4 p5 p6 p7 tr' lvl' fb' tw' th' st' as', fX11_holds (fixed 0) (nI n) base dyke len codes stack moats spades tides wall depth mood place ts tn q1 q2 q3 q4 q5 q6 q7 = some (a, st1, ts', tn', p1, p2, p3, p4, p5, p6, p7) ∧ fX12_holds thrown tr (nI n) long lvl fb tw base' dyke' fixed now th code st as = some (a, 0, tr', lvl', fb', tw', th', st', as') ∧ toR ts' tn' tr' tw' := by
  have h0 := j_copy hn hm hs q4 q5 q6 q7 th
  have key : ∃ (b : Bool) (i : Nat) (st1 : Nat → Int32) (p1 p3 : Int32) (p4 p5 : Nat → Int32) (lvl' fb' : Int32) (th' st' as' : Nat → Int32), i < 100 ∧ fX11_holds (fixed 0) (nI n) base dyke len codes stack moats spades tides wall depth mood place ts tn q1 q2 q3 q4 q5 q6 q7 = (if b then some (nI (i + 1), st1, nI 2, vp_updL (vp_updL tn 0 fb'.toInt64) 1 lvl'.toInt64, p1, spades, p3, p4, p5, va_cpy mood q6 0 0 8, va_cpy place q7 0 0 8) else some (-2, st1, ts, tn, p1, spades, p3, p4, p5, va_cpy mood q6 0 0 8, va_cpy place q7 0 0 8)) ∧ fX12_breaksIn (nI n) long lvl fb base' dyke' fixed (fillN now th 43) code st as = (if b then some (nI (i + 1), lvl', fb', th', st', as') else some (100, lvl', fb', th', st', as')) ∧ (b = true → i < 99) := by
    unfold fX11_holds fX12_breaksIn
    simp only [t_copy, ob_s]
    unfold fX11_holds_b13 fX12_breaksIn_b2
    refine lq2 (fun r u => ∃ (b : Bool) (i : Nat) (st1 : Nat → Int32) (p1 p3 : Int32) (p4 p5 : Nat → Int32) (lvl' fb' : Int32) (th' st' as' : Nat → Int32), i < 100 ∧ r = (if b then some (nI (i + 1), st1, nI 2, vp_updL (vp_updL tn 0 fb'.toInt64) 1 lvl'.toInt64, p1, spades, p3, p4, p5, va_cpy mood q6 0 0 8, va_cpy place q7 0 0 8) else some (-2, st1, ts, tn, p1, spades, p3, p4, p5, va_cpy mood q6 0 0 8, va_cpy place q7 0 0 8)) ∧ u = (if b then some (nI (i + 1), lvl', fb', th', st', as') else some (100, lvl', fb', th', st', as')) ∧ (b = true → i < 99)) (fun i s t => s.2.2.2.2.2 = nI (i + 1) ∧ t.2.2.2.2.2 = nI (i + 1) ∧ SS n m (T + i) s.2.2.2.1 s.2.2.2.2.1 (va_cpy mood q6 0 0 8) (va_cpy place q7 0 0 8) s.2.1 spades s.2.2.1 t.2.2.1) 99 (by omega) ⟨rfl, rfl, h0⟩ ?_
    intro i s t k1 k2 hi hI
    obtain ⟨st, mo, ti, wa, de, x⟩ := s
    obtain ⟨lv, fb, th, st2, as2, y⟩ := t
    obtain ⟨e1, e2, hS⟩ := hI
    simp only at e1 e2 hS
    subst e1 e2
    by_cases e : i = 99
    · subst e
      right
      have h9 : (99 : Int32) < nI (99 + 1) := by decide
      refine ⟨false, 0, st, mo, ti, wa, de, lv, fb, th, st2, as2, by omega, ?_, ?_, fun z => by cases z⟩
      · simp [fX11_holds_b65, fX11_holds_b46, fX11_holds_l13, h9]
      · simp [fX12_breaksIn_b35, fX12_breaksIn_b27, fX12_breaksIn_l2, h9]
    · have h9 : ¬ (99 : Int32) < nI (i + 1) := nI_nlt (a := 99) (by omega) (by omega)
      obtain ⟨st3, e1⟩ := t_heightOf hC st (fixed 0) mo ti (nI n) 0
      rw [i32_a0] at e1
      obtain ⟨wa', de', th', st4, as4, e2, e3, hS'⟩ := j_tide hn h1 hm hM (fixed := fixed) hl hS lv st2 as2
      generalize levS F (fixed 0) (nI n) mo ti = h at *
      by_cases z : brkS n h base wa = 0
      · left
        refine ⟨by omega, (st3, mo &&& (brkS n h base wa ^^^ (-1)), ti + 1, wa', de', nI (i + 1 + 1)), (h, brkS n h base wa, th', st4, as4, nI (i + 1 + 1)), ⟨rfl, rfl, hS'⟩, ?_, ?_⟩
        · simp (disch := omega) [fX11_holds_b65, fX11_holds_b46, fX11_holds_l13, nI_leI, nI_ltI, nI_clamp, nI_pos', nI_1, nI_eq, h9, e1, e2, z]
        · simp (disch := omega) [fX12_breaksIn_b35, fX12_breaksIn_b27, fX12_breaksIn_l2, nI_leI, nI_ltI, nI_clamp, nI_pos', nI_1, nI_eq, h9, e3, z]
      · right
        refine ⟨true, i, st3, mo &&& (brkS n h base wa ^^^ (-1)), ti + 1, wa', de', h, brkS n h base wa, th', st4, as4, by omega, ?_, ?_, fun _ => by omega⟩
        · simp (disch := omega) [fX11_holds_b65, fX11_holds_b46, fX11_holds_l13, nI_leI, nI_ltI, nI_clamp, nI_pos', nI_1, nI_eq, h9, e1, e2, z, t_tell2]
        · simp (disch := omega) [fX12_breaksIn_b35, fX12_breaksIn_b27, fX12_breaksIn_l2, nI_leI, nI_ltI, nI_clamp, nI_pos', nI_1, nI_eq, h9, e3, z]
  obtain ⟨b, i, st1, p1, p3, p4, p5, lvl', fb', th', st', as', hi, e1, e2, hb⟩ := key
  cases b
  · have h9 : ¬ (100 : Int32) ≤ 99 := by decide
    repeat apply Exists.intro
    refine ⟨e1, ?_, ht⟩
    simp only [fX12_holds, t_puts, ob_s, e2, Bool.false_eq_true, if_false, if_neg h9]
    rfl
  · have h9 : nI (i + 1) ≤ 99 := nI_le (b := 99) (by have := hb rfl; omega) (by omega)
    repeat apply Exists.intro
    refine ⟨e1, ?_, to_2 tn tw _ _⟩
    simp only [fX12_holds, t_puts, ob_s, e2, if_true, if_pos h9, t_ent0, t_ent1]
    rfl
theorem t_isHigh {n : Nat} (hn : n ≤ 12) {F : Int32 → Int32 → Int32 → Int32 → Int32} {long : Int32} {code : Nat → Int32} (hM : laM F long code) (base fixed st as r : Nat → Int32) : ∃ st' as', fX12_isHigh (nI n) long base fixed code st as r = some (b2i (decide (bitsN (fun c => !decide (levS F (fixed 0) (nI n) (r 12) (r 42) ≤ topS base r c)) n = 0)), st', as') := by
  obtain ⟨st2, as2, e2⟩ := t_levelOf hM st as fixed r (nI n) (r 42)
  have i42 : inb (42 : Int32) 43 := inb_n (i := 42) (by omega) (by omega)
  have n42 : (42 : Int32).toNatClampNeg = 42 := rfl
  refine ⟨st2, as2, ?_⟩
  simp only [fX12_isHigh, if_pos i42, n42, e2, ob_s, t_lowBy hn]
  by_cases z : bitsN (fun c => !decide (levS F (fixed 0) (nI n) (r 12) (r 42) ≤ topS base r c)) n = 0
  · simp [z, fX12_isHigh_b22, b2i]
  · simp [z, fX12_isHigh_b22, b2i]
theorem c_spells {n m T : Nat} {F : Int32 → Int32 → Int32 → Int32 → Int32} {len long moats spades tides : Int32} {codes code base dyke base' dyke' age skill friend pals age' skill' friend' wall depth mood place now fixed : Nat → Int32} (hn : n ≤ 12) (hm : m ≤ 8) (hC : laC F len codes) (hM : laM F long code) (hl : laR n base dyke base' dyke') (hc : crR m age skill friend pals age' skill' friend') (hs : SS n m T wall depth mood place moats spades tides now) (stack : Nat → Int32) (q1 q2 q3 : Int32) (q4 q5 q6 q7 : Nat → Int32) (wh thrown : Int32) (th st as gets : Nat → Int32) : ∃ a st1 p1 p2 p3 p4 p5 p6 p7 wh' th' st' as' gets', fX11_spells (fixed 0) (nI m) age skill pals (nI n) base len codes stack moats spades tides wall depth mood place q1 q2 q3 q4 q5 q6 q7 = some (a, st1, p1, p2, p3, p4, p5, p6, p7) ∧ fX12_spells thrown (nI n) (nI m) long wh base' age' skill' friend' fixed now th code st as gets = some (a, 0, wh', th', st', as', gets') := by
  have h0 := j_copy hn hm hs q4 q5 q6 q7 th
  obtain ⟨st1, e1⟩ := t_heightOf hC stack (fixed 0) moats tides (nI n) 0
  rw [i32_a0] at e1
  unfold fX11_spells fX12_spells
  simp only [t_copy, t_puts, ob_s, e1]
  unfold fX11_spells_b27 fX12_spells_b11
  refine lq2 (fun r u => ∃ a st1 p1 p2 p3 p4 p5 p6 p7 wh' th' st' as' gets', r = some (a, st1, p1, p2, p3, p4, p5, p6, p7) ∧ u = some (a, 0, wh', th', st', as', gets')) (fun i s t => s.2.2.2 = nI i ∧ t.2.2.2.2.2 = nI i ∧ SS n m T s.1 (va_cpy depth q5 0 0 12) s.2.1 s.2.2.1 moats spades tides t.2.1) 31 (by omega) ⟨rfl, rfl, h0⟩ ?_
  intro i s t k1 k2 hi hI
  obtain ⟨wa, mo, pl, x⟩ := s
  obtain ⟨w2, th, st2, as2, g2, y⟩ := t
  obtain ⟨e2, e3, hS⟩ := hI
  simp only at e2 e3 hS
  subst e2 e3
  by_cases e : i = 31
  · subst e
    right
    have h9 : (30 : Int32) < nI 31 := by decide
    refine ⟨-2, st1, moats, spades, tides, wa, va_cpy depth q5 0 0 12, mo, pl, w2, th, st2, as2, g2, ?_, ?_⟩
    · simp [fX11_spells_b59, fX11_spells_b44, fX11_spells_l27, h9]
    · simp [fX12_spells_b44, fX12_spells_b28, fX12_spells_l11, h9]
  · have h9 : ¬ (30 : Int32) < nI i := nI_nlt (a := 30) (by omega) (by omega)
    obtain ⟨st3, as3, e4⟩ := t_isHigh hn hM base' fixed st2 as2 th
    rw [hS.2.2.2.2.2.1, hS.2.2.2.2.2.2.2] at e4
    have eb : bitsN (fun c => !decide (levS F (fixed 0) (nI n) moats tides ≤ topS base' th c)) n = bitsN (fun c => !decide (levS F (fixed 0) (nI n) moats tides ≤ topS base wa c)) n := bitsN_congr (fun c hc => by rw [show topS base' th c = topS base wa c by simp only [topS, (hl.1 c hc).1, hS.2.1 c hc]])
    rw [eb] at e4
    obtain ⟨wa', mo', pl', g', th', e5, e6, hS', -, -⟩ := j_spell hn hm hc hS g2 w2
    generalize upT (fun k a => if homB mo pl k then a ||| jshl 1 (nI k) else a) m w2 = wv at e6
    by_cases z : bitsN (fun c => !decide (levS F (fixed 0) (nI n) moats tides ≤ topS base wa c)) n = 0
    · right
      refine ⟨nI i, st1, moats, spades, tides, wa, va_cpy depth q5 0 0 12, mo, pl, w2, th, st3, as3, g2, ?_, ?_⟩
      · simp [fX11_spells_b59, fX11_spells_b44, fX11_spells_l27, h9, t_below hn, z]
      · simp [fX12_spells_b44, fX12_spells_b28, fX12_spells_l11, h9, e4, z, b2i]
    · left
      refine ⟨by omega, (wa', mo', pl', nI (i + 1)), (wv, th', st3, as3, g', nI (i + 1)), ⟨rfl, rfl, hS'⟩, ?_, ?_⟩
      · simp [fX11_spells_b59, fX11_spells_b44, fX11_spells_l27, h9, t_below hn, z, e5, nI_1]
      · simp [fX12_spells_b44, fX12_spells_b28, fX12_spells_l11, h9, e4, z, b2i, e6, nI_1]
