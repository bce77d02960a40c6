/-! ===== drawn summers ===== -/
def drS (seed : Int32) : Int32 := seed * 1103515245 + 12345
theorem ush16 (x : Int32) : ∃ w, w < 65536 ∧ jushr x 16 = nI w := by
  have h := pk_ushr x 16 16 (by decide)
  have hx := x.toBitVec.isLt
  refine ⟨x.toBitVec.toNat / 2 ^ 16, by omega, ?_⟩
  apply Int32.toBitVec_inj.mp
  apply BitVec.eq_of_toNat_eq
  rw [pk_tn (by omega)]
  exact h
theorem t_draws (seed : Int32) {d : Nat} (h0 : 0 < d) (hd : d < 1000) : ∃ w, w < d ∧ fX0_draw seed (nI d) = some (nI w, drS seed) ∧ fX12_draws seed (nI d) = some (nI w, drS seed) := by
  obtain ⟨w, hw, e⟩ := ush16 (drS seed)
  have z1 : ¬ nI d ≤ 0 := nI_nle h0 (by omega)
  have z2 : ¬ nI d = 0 := nI_ne0 h0 (by omega)
  have er : jrem (nI w) (nI d) = nI (w % d) := jrem_n (by omega) h0 (by omega)
  refine ⟨w % d, Nat.mod_lt _ h0, ?_, ?_⟩
  · show (if nI d ≤ 0 then _ else if ¬ nI d = 0 then fX0_draw_b32 (drS seed) (jrem (jushr (drS seed) 16) (nI d)) else none) = _
    rw [if_neg z1, if_pos z2, e, er, fX0_draw_b32]
  · show (if ¬ nI d = 0 then some (jrem (jushr (drS seed) 16) (nI d), drS seed) else none) = _
    rw [if_pos z2, e, er]
theorem j_drawn {n m T : Nat} {wall depth mood place now : Nat → Int32} {moats spades tides : Int32} (hn : n ≤ 12) (h1 : 1 ≤ n) (hm : m ≤ 8) (hs : SS n m T wall depth mood place moats spades tides now) (hm0 : 0 < m) (seed : Int32) : ∃ seed' place' now' k c, fX11_sendDrawn (nI m) (nI n) seed mood place = some (seed', place') ∧ fX12_draws seed (nI m) = some (nI k, drS seed) ∧ fX12_draws (drS seed) (nI n) = some (nI c, seed') ∧ (∃ a, fX12_goes (nI n) (nI m) now (nI k) (nI c) = some (a, now')) ∧ SS n m T wall depth mood place' moats spades tides now' := by
  obtain ⟨k, hk, a1, a2⟩ := t_draws seed hm0 (by omega)
  obtain ⟨c, hc, b1, b2⟩ := t_draws (drS seed) (d := n) (by omega) (by omega)
  have h8 : k < 8 := by omega
  have z : ¬ nI m = 0 := nI_ne0 hm0 (by omega)
  have hx : (0 : Int32) ≤ nI k ∧ nI k < nI m := ⟨nI_pos' (by omega), nI_lt hk (by omega)⟩
  have hy : (0 : Int32) ≤ nI c ∧ nI c < nI n := ⟨nI_pos' (by omega), nI_lt hc (by omega)⟩
  have ea : fX12_atOf now (nI k) = some (place k) := by rw [t_atOf h8, hs.2.2.2.2.1 k hk]
  have em : fX12_moodOf now (nI k) = some (mood k) := by rw [t_moodOf h8, hs.2.2.2.1 k hk]
  by_cases h0 : mood k = 0
  · refine ⟨drS (drS seed), place, now, k, c, ?_, a2, b2, ⟨-2, ?_⟩, hs⟩
    · simp (disch := omega) [fX11_sendDrawn, fX11_sendDrawn_b85, z, a1, b1, t_has2, t_has5, hx, hy, b2i, h8, nI_leI, nI_ltI, nI_clamp, nI_pos', nI_1, nI_eq, h0]
    · simp (disch := omega) [fX12_goes, t_isChild (show m ≤ 12 by omega), t_isCell hn, hx, hy, b2i, ea, em, h0]
  · have hS := SS_place hn hm hs hk (v := nI c) ⟨by have := hy.1; grind, hy.2⟩
    by_cases h2 : place k = nI c
    · refine ⟨drS (drS seed), place, now, k, c, ?_, a2, b2, ⟨-3, ?_⟩, hs⟩
      · have eu := upd_id place h2
        simp (disch := omega) [fX11_sendDrawn, fX11_sendDrawn_b85, z, a1, b1, t_has2, t_has5, hx, hy, b2i, h8, nI_leI, nI_ltI, nI_clamp, nI_pos', nI_1, nI_eq, h0, eu]
      · simp (disch := omega) [fX12_goes, t_isChild (show m ≤ 12 by omega), t_isCell hn, hx, hy, b2i, ea, em, h0, h2]
    · refine ⟨drS (drS seed), _, _, k, c, ?_, a2, b2, ⟨place k + 1, ?_⟩, hS⟩
      · simp (disch := omega) [fX11_sendDrawn, fX11_sendDrawn_b85, z, a1, b1, t_has2, t_has5, hx, hy, b2i, h8, nI_leI, nI_ltI, nI_clamp, nI_pos', nI_1, nI_eq, h0, Nat.not_le.mpr hk, Nat.not_le.mpr hc]
      · have h4 : 25 + 2 * k < 43 := by omega
        simp (disch := omega) [fX12_goes, t_isChild (show m ≤ 12 by omega), t_isCell hn, hx, hy, b2i, ea, em, h0, h2, ix_k, nI_leI, nI_ltI, nI_clamp, nI_pos', nI_1, nI_eq, h4]
theorem j_summers {n m T : Nat} {F : Int32 → Int32 → Int32 → Int32 → Int32} {len long moats spades tides : Int32} {codes code base dyke base' dyke' age skill friend pals age' skill' friend' wall depth mood place now fixed : Nat → Int32} (hn : n ≤ 12) (h1 : 1 ≤ n) (hm : m ≤ 8) (hC : laC F len codes) (hM : laM F long code) (hl : laR n base dyke base' dyke') (hc : crR m age skill friend pals age' skill' friend') (hs : SS n m T wall depth mood place moats spades tides now) {N : Nat} (hN : N ≤ 60) {e1 e2 e3 : Int32} {e4 e5 e6 e7 nw : Nat → Int32} (seed ts tr thr : Int32) (tn tw : Nat → Int64) (stack : Nat → Int32) (wh lvl : Int32) (st as gets : Nat → Int32) : ∃ a seed' st1 mo ti wa de md pl wh' lvl' th' st' as' gets' x y, fX11_summers_b36 (fixed 0) (nI m) age skill pals (nI n) base dyke seed len codes stack e1 e2 e3 e4 e5 e6 e7 ts tn moats spades tides wall depth mood place (nI N) 0 0 = some (a, seed', st1, nI 2, vp_updL (vp_updL tn 0 x) 1 y, mo, spades, ti, wa, de, md, pl) ∧ fX12_summers_b33 0 tr (nI n) (nI m) long wh lvl seed tw base' dyke' age' skill' friend' fixed nw now code st as gets (nI N) 0 0 = some (a, 0, nI 2, wh', lvl', seed', vp_updL (vp_updL tw 0 x) 1 y, th', st', as', gets') := by
  unfold fX11_summers_b36 fX12_summers_b33
  refine lq2 (fun r u => ∃ a seed' st1 mo ti wa de md pl wh' lvl' th' st' as' gets' x y, r = some (a, seed', st1, nI 2, vp_updL (vp_updL tn 0 x) 1 y, mo, spades, ti, wa, de, md, pl) ∧ u = some (a, 0, nI 2, wh', lvl', seed', vp_updL (vp_updL tw 0 x) 1 y, th', st', as', gets')) (fun i s t => s.2.2.2.2.2.2.2.2.2 = nI i ∧ t.2.2.2.2.2.2.2.2 = nI i ∧ s.2.2.2.2.2.2.2.2.1 = t.2.2.2.2.2.2.2.1 ∧ s.1 = t.2.2.1 ∧ SS n m (T + i) s.2.2.2.2.1 s.2.2.2.2.2.1 s.2.2.2.2.2.2.1 s.2.2.2.2.2.2.2.1 s.2.2.1 spades s.2.2.2.1 t.2.2.2.1) N (by omega) ⟨rfl, rfl, rfl, rfl, hs⟩ ?_
  intro i s t k1 k2 hi hI
  obtain ⟨sd, st, mo, ti, wa, de, md, pl, c, x⟩ := s
  obtain ⟨w2, lv, sd2, th, st2, as2, g2, c2, y⟩ := t
  obtain ⟨f1, f2, f3, f4, hS⟩ := hI
  simp only at f1 f2 f3 f4 hS
  subst f1 f2 f3 f4
  by_cases e : i = N
  · subst e
    right
    have hle : nI i ≤ nI i := nI_le (Nat.le_refl i) (by omega)
    have ew := wet_congr hS.2.2.1
    have eh : bitsN (fun k => decide (th (25 + 2 * k) = -1)) m = bitsN (fun k => decide (pl k = -1)) m := bitsN_congr (fun k hk => by rw [hS.2.2.2.2.1 k hk])
    refine ⟨c, sd, st, mo, ti, wa, de, md, pl, w2, lv, th, st2, as2, g2, (bcS (bitsN (fun c => !decide (de c ≤ 0)) n)).toInt64, (bcS (bitsN (fun k => decide (pl k = -1)) m)).toInt64, ?_, ?_⟩
    · simp only [fX11_summers_l36, if_pos hle, fX11_summers_b113, t_wet hn, t_atHome hm, t_bc, ob_s, t_tell2]
    · simp only [fX12_summers_l33, if_pos hle, fX12_summers_b136, t_wetM hn, t_childrenAtM hm, ew, eh, t_bc, ob_s, t_ent0, t_ent1]
  · have hi2 : i < N := by omega
    have c36 : ¬ nI N ≤ nI i := nI_ge hi2 (by omega)
    left
    refine ⟨hi2, ?_⟩
    obtain ⟨w, hw, d1, d2⟩ := t_draws sd (d := 4) (by omega) (by omega)
    have z4 : nI 4 = 4 := rfl
    rw [z4] at d1 d2
    by_cases hw2 : w < 2
    · have z : ¬ (2 : Int32) ≤ nI w := nI_ge (b := 2) hw2 (by omega)
      obtain ⟨wa', mo', pl', g', th', e5, e6, hS', -, -⟩ := j_spell hn hm hc hS g2 w2
      generalize upT (fun k a => if homB md pl k then a ||| jshl 1 (nI k) else a) m w2 = wv at e6
      refine ⟨(drS sd, st, mo, ti, wa', de, mo', pl', c, nI (i + 1)), (wv, lv, drS sd, th', st2, as2, g', c, nI (i + 1)), ⟨rfl, rfl, rfl, rfl, SS_mono (by omega) hS'⟩, ?_, ?_⟩
      · simp only [fX11_summers_l36, if_neg c36, d1, ob_s, if_neg z, e5, fX11_summers_b107, nI_1]
      · simp only [fX12_summers_l33, if_neg c36, d2, ob_s, if_neg z, e6, fX12_summers_b130, nI_1]
    · have z : (2 : Int32) ≤ nI w := nI_le (a := 2) (by omega) (by omega)
      by_cases hw3 : w = 2
      · subst hw3
        have y2 : nI 2 = 2 := rfl
        have y3 : ¬ nI 2 = 3 := by decide
        rcases Nat.eq_zero_or_pos m with hm0 | hm0
        · subst hm0
          have zc : nI 0 = 0 := rfl
          have zl : nI 0 ≤ 0 := by decide
          refine ⟨(drS sd, st, mo, ti, wa, de, md, pl, c, nI (i + 1)), (w2, lv, drS sd, th, st2, as2, g2, c, nI (i + 1)), ⟨rfl, rfl, rfl, rfl, SS_mono (by omega) hS⟩, ?_, ?_⟩
          · simp only [fX11_summers_l36, if_neg c36, d1, ob_s, if_pos z, if_pos y2, fX11_sendDrawn, if_pos zc, fX11_summers_b107, nI_1]
          · simp only [fX12_summers_l33, if_neg c36, d2, ob_s, if_pos z, if_neg y3, if_pos zl, fX12_summers_b130, nI_1]
        · obtain ⟨sd', pl', th', k, cc, g1, g3, g4, ⟨aa, g5⟩, hS'⟩ := j_drawn hn h1 hm hS hm0 (drS sd)
          have zl : ¬ nI m ≤ 0 := nI_nle hm0 (by omega)
          refine ⟨(sd', st, mo, ti, wa, de, md, pl', c, nI (i + 1)), (w2, lv, sd', th', st2, as2, g2, c, nI (i + 1)), ⟨rfl, rfl, rfl, rfl, SS_mono (by omega) hS'⟩, ?_, ?_⟩
          · simp only [fX11_summers_l36, if_neg c36, d1, ob_s, if_pos z, if_pos y2, g1, fX11_summers_b107, nI_1]
          · simp only [fX12_summers_l33, if_neg c36, d2, ob_s, if_pos z, if_neg y3, if_neg zl, g3, g4, g5, fX12_summers_b130, nI_1]
      · have hw4 : w = 3 := by omega
        subst hw4
        have y2 : ¬ nI 3 = 2 := by decide
        have y3 : nI 3 = 3 := rfl
        obtain ⟨st3, e1⟩ := t_heightOf hC st (fixed 0) mo ti (nI n) 0
        rw [i32_a0] at e1
        obtain ⟨wa', de', th', st4, as4, e2, e3, hS'⟩ := j_tide hn h1 hm hM (fixed := fixed) hl hS lv st2 as2
        generalize levS F (fixed 0) (nI n) mo ti = h at *
        by_cases zb : brkS n h base wa = 0
        · refine ⟨(drS sd, st3, mo &&& (brkS n h base wa ^^^ (-1)), ti + 1, wa', de', md, pl, c, nI (i + 1)), (w2, h, drS sd, th', st4, as4, g2, c + 0, nI (i + 1)), ⟨rfl, rfl, (i32_a0 c).symm, rfl, hS'⟩, ?_, ?_⟩
          · simp only [fX11_summers_l36, if_neg c36, d1, ob_s, if_pos z, if_neg y2, e1, e2, if_pos zb, fX11_summers_b107, nI_1]
          · simp only [fX12_summers_l33, if_neg c36, d2, ob_s, if_pos z, if_pos y3, e3, if_pos zb, fX12_summers_b86, fX12_flag, fX12_flag_b9, if_true, fX12_summers_b130, nI_1]
        · have z10 : ¬ (1 : Int32) = 0 := by decide
          refine ⟨(drS sd, st3, mo &&& (brkS n h base wa ^^^ (-1)), ti + 1, wa', de', md, pl, c + 1, nI (i + 1)), (w2, h, drS sd, th', st4, as4, g2, c + 1, nI (i + 1)), ⟨rfl, rfl, rfl, rfl, hS'⟩, ?_, ?_⟩
          · simp only [fX11_summers_l36, if_neg c36, d1, ob_s, if_pos z, if_neg y2, e1, e2, if_neg zb, fX11_summers_b107, nI_1]
          · simp only [fX12_summers_l33, if_neg c36, d2, ob_s, if_pos z, if_pos y3, e3, if_neg zb, fX12_summers_b86, fX12_flag, fX12_flag_b9, if_neg z10, fX12_summers_b130, nI_1]
theorem c_summers {n m T : Nat} {F : Int32 → Int32 → Int32 → Int32 → Int32} {len long moats spades tides ts tr : Int32} {codes code base dyke base' dyke' age skill friend pals age' skill' friend' wall depth mood place now fixed : Nat → Int32} {tn tw : Nat → Int64} (hn : n ≤ 12) (h1 : 1 ≤ n) (hm : m ≤ 8) (hC : laC F len codes) (hM : laM F long code) (hl : laR n base dyke base' dyke') (hc : crR m age skill friend pals age' skill' friend') (hs : SS n m T wall depth mood place moats spades tides now) (ht : toR ts tn tr tw) (x y seed : Int32) (stack : Nat → Int32) (q1 q2 q3 : Int32) (q4 q5 q6 q7 : Nat → Int32) (wh lvl rnd thrown : Int32) (th st as gets : Nat → Int32) : ∃ a sd st1 ts' tn' p1 p2 p3 p4 p5 p6 p7 tr' wh' lvl' rnd' tw' th' st' as' gets', fX11_summers (fixed 0) (nI m) age skill pals (nI n) base dyke seed len codes stack moats spades tides wall depth mood place ts tn q1 q2 q3 q4 q5 q6 q7 x y = some (a, sd, st1, ts', tn', p1, p2, p3, p4, p5, p6, p7) ∧ fX12_summers thrown tr (nI n) (nI m) long wh lvl rnd tw base' dyke' age' skill' friend' fixed now th code st as gets x y = some (a, 0, tr', wh', lvl', rnd', tw', th', st', as', gets') ∧ toR ts' tn' tr' tw' := by
  have q := t_in y (L := 1) (H := 60) 1 60 rfl rfl
  by_cases hy : 1 ≤ y ∧ y ≤ 60
  · obtain ⟨N, -, hN, rfl⟩ := rng_n (a := 1) (b := 60) (by omega) (by omega) hy
    obtain ⟨a, seed', st1, mo, ti, wa, de, md, pl, wh', lvl', th', st', as', gets', u, v, e1, e2⟩ := j_summers hn h1 hm hC hM hl hc (j_copy hn hm hs q4 q5 q6 q7 th) (fixed := fixed) (N := N) (by omega) (e1 := moats) (e2 := spades) (e3 := tides) (e4 := wall) (e5 := depth) (e6 := mood) (e7 := place) (nw := now) x ts tr 0 tn tw stack wh lvl st as gets
    repeat apply Exists.intro
    refine ⟨?_, ?_, to_2 tn tw u v⟩
    · simp only [fX11_summers, t_within, hy, decide_true, b2i_t, ob_s, t_copy, e1]
      rfl
    · simp only [fX12_summers, q, hy, decide_true, b2i_t, ob_s, t_puts, e2]
      rfl
  · refine ⟨-1, seed, stack, ts, tn, q1, q2, q3, q4, q5, q6, q7, tr, wh, lvl, rnd, tw, th, st, as, gets, ?_, ?_, ht⟩
    · simp [fX11_summers, t_within, hy, b2i]
    · simp [fX12_summers, q, hy, b2i]
/-! ===== post ===== -/
theorem low_r {n : Nat} {base wall : Nat → Int32} (hb : ∀ c, c < n → 0 ≤ base c ∧ base c ≤ 9) (hw : rng n wall) : ∀ j, j < n → 0 ≤ lowS base wall j ∧ lowS base wall j ≤ 1089 := by
  intro j
  induction j with
  | zero => intro h; exact top_r (hb 0 h).1 (hb 0 h).2 (hw 0 h).1 (hw 0 h).2
  | succ j ih =>
    intro h
    have h1 := ih (by omega)
    have h2 := top_r (hb (j + 1) h).1 (hb (j + 1) h).2 (hw (j + 1) h).1 (hw (j + 1) h).2
    simp only [lowS, jmin]
    split
    · exact h2
    · exact h1
theorem min_sub {a b h : Int32} (a1 : 0 ≤ a) (a2 : a ≤ 1089) (b1 : 0 ≤ b) (b2 : b ≤ 1089) (h1 : 0 ≤ h) (h2 : h ≤ 999) : jmin (a - h) (b - h) = jmin a b - h := by
  have e : (b - h < a - h) ↔ (b < a) := by
    obtain ⟨x, hx, rfl⟩ := nI_of2 (x := a) (M := 1089) (n := 1089) rfl (by grind) a2
    obtain ⟨y, hy, rfl⟩ := nI_of2 (x := b) (M := 1089) (n := 1089) rfl (by grind) b2
    obtain ⟨z, hz, rfl⟩ := nI_of2 (x := h) (M := 999) (n := 999) rfl (by grind) h2
    rw [Int32.lt_iff_toInt_lt, pk_sub_toInt (by omega) (by omega), pk_sub_toInt (by omega) (by omega), nI_ltI (by omega) (by omega)]
    omega
  unfold jmin
  simp only [e]
  split <;> rfl
theorem min_mil {b h : Int32} (b1 : 0 ≤ b) (b2 : b ≤ 1089) (h1 : 0 ≤ h) (h2 : h ≤ 999) : jmin 1000000 (b - h) = b - h := by unfold jmin; grind
theorem sub_gt {b h : Int32} (b1 : 0 ≤ b) (b2 : b ≤ 1089) (h1 : 0 ≤ h) (h2 : h ≤ 999) : ¬ b - h ≤ -1000000 ∧ jmax (-1000000) (b - h) = b - h := by unfold jmax; grind
theorem t_post113 {n : Nat} (hn : n ≤ 12) (h1 : 1 ≤ n) {base th : Nat → Int32} (hb : ∀ c, c < n → 0 ≤ base c ∧ base c ≤ 9) (hw : rng n th) {h : Int32} (hh : 0 ≤ h ∧ h ≤ 999) (a b c d wh x1 x2 x3 x4 x5 : Int32) (row : Nat → Int64) (age skill friend fixed now code st as gets : Nat → Int32) (k51 : Int32 × (Nat → Int32) × (Nat → Int32) × (Nat → Int32) × (Nat → Int32) × Int32 × Int32 × Int32 → Option (Int32 × Int32 × Int32 × Int32 × (Nat → Int64) × (Nat → Int32) × (Nat → Int32) × (Nat → Int32) × (Nat → Int32))) : fX12_post_b113 a b (nI n) c d wh row base age skill friend fixed now th code st as gets x1 x2 x3 x4 x5 h 1000000 0 k51 = fX12_post_b148 a b (nI n) c d wh row base age skill friend fixed now th code st as gets x1 x2 x3 x4 x5 (lowS base th (n - 1) - h) k51 := by
  unfold fX12_post_b113
  refine lp_up (fun j => (if j = 0 then 1000000 else lowS base th (j - 1) - h, nI j)) n (by omega) rfl ?_ ?_
  · intro j hj k
    have c1 : ¬ nI n ≤ nI j := nI_ge hj (by omega)
    have h2 := top_r (hb j hj).1 (hb j hj).2 (hw j hj).1 (hw j hj).2
    have hv : jmin (if j = 0 then 1000000 else lowS base th (j - 1) - h) (topS base th j - h) = (if j + 1 = 0 then 1000000 else lowS base th (j + 1 - 1) - h) := by
      rw [if_neg (by omega : ¬ j + 1 = 0)]
      by_cases e : j = 0
      · subst e; rw [if_pos rfl]; exact min_mil h2.1 h2.2 hh.1 hh.2
      · obtain ⟨i, rfl⟩ : ∃ i, j = i + 1 := ⟨j - 1, by omega⟩
        rw [if_neg e]
        have hl := low_r hb hw i (by omega)
        exact min_sub hl.1 hl.2 h2.1 h2.2 hh.1 hh.2
    show fX12_post_l113 a b (nI n) c d wh row base age skill friend fixed now th code st as gets x1 x2 x3 x4 x5 h k51 k (if j = 0 then 1000000 else lowS base th (j - 1) - h) (nI j) = k (if j + 1 = 0 then 1000000 else lowS base th (j + 1 - 1) - h, nI (j + 1))
    rw [← hv]
    simp only [fX12_post_l113, if_neg c1, t_topOf (show j < 12 by omega), ob_s, nI_1]
  · intro k
    have hle : nI n ≤ nI n := nI_le (Nat.le_refl n) (by omega)
    have e : ¬ n = 0 := by omega
    simp only [fX12_post_l113, if_pos hle, if_neg e]
theorem c_post {n m T : Nat} {F : Int32 → Int32 → Int32 → Int32 → Int32} {len long moats spades tides ts tr : Int32} {codes code base dyke base' dyke' age skill friend pals age' skill' friend' wall depth mood place now fixed : Nat → Int32} {tn tw : Nat → Int64} (hn : n ≤ 12) (h1 : 1 ≤ n) (hm : m ≤ 8) (hC : laC F len codes) (hM : laM F long code) (hl : laR n base dyke base' dyke') (hc : crR m age skill friend pals age' skill' friend') (hs : SS n m T wall depth mood place moats spades tides now) (ht : toR ts tn tr tw) (x y : Int32) (stack : Nat → Int32) (q1 q2 q3 : Int32) (q4 q5 q6 q7 : Nat → Int32) (wh thrown : Int32) (th st as gets : Nat → Int32) : ∃ a st1 ts' tn' p1 p2 p3 p4 p5 p6 p7 tr' wh' tw' th' st' as' gets', fX11_post (fixed 0) (nI m) age skill pals (nI n) base len codes stack moats spades tides wall depth mood place ts tn q1 q2 q3 q4 q5 q6 q7 x y = some (a, st1, ts', tn', p1, p2, p3, p4, p5, p6, p7) ∧ fX12_post thrown tr (nI n) (nI m) long wh tw base' age' skill' friend' fixed now th code st as gets x y = some (a, 0, tr', wh', tw', th', st', as', gets') ∧ toR ts' tn' tr' tw' := by
  have q := t_in y (L := 1) (H := 9) 1 9 rfl rfl
  by_cases hx : 0 ≤ x ∧ x < nI m
  · by_cases hy : 1 ≤ y ∧ y ≤ 9
    · obtain ⟨k, hk, rfl⟩ := ix_of (by omega) hx
      obtain ⟨N, -, hN, rfl⟩ := rng_n (a := 1) (b := 9) (by omega) (by omega) hy
      have h8 : k < 8 := by omega
      have em : fX12_moodOf now (nI k) = some (mood k) := by rw [t_moodOf h8, hs.2.2.2.1 k hk]
      by_cases h0 : mood k = 0
      · refine ⟨-2, stack, ts, tn, q1, q2, q3, q4, q5, q6, q7, tr, wh, tw, th, st, as, gets, ?_, ?_, ht⟩
        · simp (disch := omega) [fX11_post, t_has2, hx, b2i, t_within, hy, h8, nI_leI, nI_ltI, nI_clamp, nI_pos', nI_1, nI_eq, h0]
        · simp (disch := omega) [fX12_post, t_isChild (show m ≤ 12 by omega), hx, b2i, q, hy, em, h0]
      · obtain ⟨st1, eh⟩ := t_heightOf hC stack (fixed 0) moats tides (nI n) 0
        rw [i32_a0] at eh
        have hh := lev_r F (fixed 0) (nI n) moats tides
        have ehh : levS F (fixed 0) (nI n) moats tides = levS F (fixed 0) (nI n) moats tides := rfl
        revert eh hh ehh
        generalize hgh : levS F (fixed 0) (nI n) moats tides = h
        intro eh hh _
        have key : ∃ a v p1 p2 p3 p4 p5 p6 p7 wh' th' st' as' gets', fX11_post_b61 (fixed 0) (nI m) age skill pals (nI n) base len codes st1 moats spades tides wall depth mood place ts tn q1 q2 q3 q4 q5 q6 q7 (nI k) (nI N) h (-1) 0 0 = some (a, st1, nI 1, vp_updL tn 0 v, p1, p2, p3, p4, p5, p6, p7) ∧ fX12_post_b51 0 tr (nI n) (nI m) long wh tw base' age' skill' friend' fixed now th code st as gets (nI k) (nI N) (-1) (-1000000) 0 = some (a, 0, nI 1, wh', vp_updL tw 0 v, th', st', as', gets') := by
          unfold fX11_post_b61 fX12_post_b51
          refine lq2 (fun r u => ∃ a v p1 p2 p3 p4 p5 p6 p7 wh' th' st' as' gets', r = some (a, st1, nI 1, vp_updL tn 0 v, p1, p2, p3, p4, p5, p6, p7) ∧ u = some (a, 0, nI 1, wh', vp_updL tw 0 v, th', st', as', gets')) (fun i s t => s.2.2.2.2.2.2.2.2.2 = nI i ∧ t.2.2.2.2.2.2.2 = nI i ∧ s.2.2.2.2.2.2.2.1 = t.2.2.2.2.2.1 ∧ (i = 0 → t.2.2.2.2.2.1 = -1 ∧ t.2.2.2.2.2.2.1 = -1000000) ∧ (0 < i → s.2.2.2.2.2.2.2.2.1 = t.2.2.2.2.2.2.1 ∧ ∃ c, c < 12 ∧ t.2.2.2.2.2.1 = nI c)) n (by omega) ⟨rfl, rfl, rfl, fun _ => ⟨rfl, rfl⟩, fun z => absurd z (by omega)⟩ ?_
          intro i s t k1 k2 hi hI
          obtain ⟨b1, b2, b3, b4, b5, b6, b7, bst, bmo, bi⟩ := s
          obtain ⟨w2, th2, st2, as2, g2, cst, cmo, ci⟩ := t
          obtain ⟨f1, f2, f3, f4, f5⟩ := hI
          simp only at f1 f2 f3 f4 f5
          subst f1 f2 f3
          by_cases e : i = n
          · subst e
            right
            have hle : nI i ≤ nI i := nI_le (Nat.le_refl i) (by omega)
            obtain ⟨f6, -⟩ := f5 (by omega)
            subst f6
            refine ⟨bst, (1000 + bmo).toInt64, b1, b2, b3, b4, b5, b6, b7, w2, th2, st2, as2, g2, ?_, ?_⟩
            · simp only [fX11_post_l61, if_pos hle, fX11_post_b141, t_tell, ob_s]
            · simp only [fX12_post_l51, if_pos hle, fX12_post_b177, t_ent0, ob_s]
          · have hi2 : i < n := by omega
            have c61 : ¬ nI n ≤ nI i := nI_ge hi2 (by omega)
            left
            refine ⟨hi2, ?_⟩
            have hS0 := j_copy hn hm hs b4 b5 b6 b7 th2
            have hS1 := SS_place hn hm hS0 hk (v := nI i) ⟨by have := nI_pos' (n := i) (by omega); grind, nI_lt hi2 (by omega)⟩
            obtain ⟨wall', mood', place', wh', gets', now', e1, e2, hS, -, -⟩ := j_builds hn hm hc hS1 (N := N) (by omega) g2 w2
            obtain ⟨st3, as3, e3⟩ := t_levelOf hM st2 as2 fixed now' (nI n) (now' 42)
            rw [hS.2.2.2.2.2.1, hS.2.2.2.2.2.2.2, hgh] at e3
            have i42 : inb (42 : Int32) 43 := inb_n (i := 42) (by omega) (by omega)
            have n42 : (42 : Int32).toNatClampNeg = 42 := rfl
            have i25 : inb (nI (25 + 2 * k)) 43 := inb_n (by omega) (by omega)
            have cl25 : (nI (25 + 2 * k)).toNatClampNeg = 25 + 2 * k := nI_clamp (by omega)
            have cl8 : (nI k).toNatClampNeg = k := nI_clamp (by omega)
            have hb' : ∀ c, c < n → 0 ≤ base' c ∧ base' c ≤ 9 := fun c hc => by rw [(hl.1 c hc).1]; exact hl.2.1 c hc
            have hw' : rng n now' := fun c hc => by rw [hS.2.1 c hc]; exact hS.1.1 c hc
            have elow : lowS base' now' (n - 1) = lowS base wall' (n - 1) := by
              have : ∀ j, j < n → lowS base' now' j = lowS base wall' j := by
                intro j
                induction j with
                | zero => intro hj; simp only [lowS, topS, (hl.1 0 hj).1, hS.2.1 0 hj]
                | succ j ih => intro hj; simp only [lowS, topS, (hl.1 (j + 1) hj).1, hS.2.1 (j + 1) hj]; rw [ih (by omega)]
              exact this (n - 1) (by omega)
            have e113 := t_post113 hn h1 hb' hw' hh 0 tr (nI m) long wh' (nI k) (nI N) bst cmo (nI i) tw age' skill' friend' fixed now code st3 as3 gets' k2
            rw [elow] at e113
            have hlr := low_r hl.2.1 hS.1.1 (n - 1) (by omega)
            generalize hsp : lowS base wall' (n - 1) - h = sp at *
            have eM : fX12_post_l51 0 tr (nI n) (nI m) long tw base' age' skill' friend' fixed now code (nI k) (nI N) k2 w2 th2 st2 as2 g2 bst cmo (nI i) = k2 (wh', now', st3, as3, gets', if sp ≤ cmo then bst else nI i, jmax cmo sp, nI (i + 1)) := by
              simp only [fX12_post_l51, if_neg c61, t_puts, ob_s, ix_p, if_pos i25, cl25, e2, if_pos i42, n42, hS.2.2.2.2.2.2.2, e3, e113, fX12_post_b148]
              by_cases z : sp ≤ cmo
              · rw [if_pos z, if_pos z, fX12_post_b161, nI_1]
              · rw [if_neg z, if_neg z, fX12_post_b161, nI_1]
            have eC : fX11_post_l61 (fixed 0) (nI m) age skill pals (nI n) base len codes st1 moats spades tides wall depth mood place ts tn (nI k) (nI N) h k1 b1 b2 b3 b4 b5 b6 b7 bst bmo (nI i) = k1 (moats, spades, tides, wall', va_cpy depth b5 0 0 12, mood', place', if bst = -1 then nI i else if sp ≤ bmo then bst else nI i, if bst = -1 then sp else if sp ≤ bmo then bmo else sp, nI (i + 1)) := by
              simp only [fX11_post_l61, if_neg c61, t_copy, ob_s, if_pos (inb_n h8 (by omega)), cl8, e1, t_lowestTop hn h1, hsp]
              by_cases z : bst = -1
              · rw [if_pos z, if_pos z, if_pos z, fX11_post_b127, fX11_post_b135, nI_1]
              · rw [if_neg z, if_neg z, if_neg z]
                by_cases z2 : sp ≤ bmo
                · rw [if_pos z2, if_pos z2, if_pos z2, fX11_post_b135, nI_1]
                · rw [if_neg z2, if_neg z2, if_neg z2, fX11_post_b127, fX11_post_b135, nI_1]
            refine ⟨_, _, ?_, eC, eM⟩
            rcases Nat.eq_zero_or_pos i with hi0 | hi0
            · obtain ⟨g1, g3⟩ := f4 hi0
              subst g1 g3
              have hsg := sub_gt hlr.1 hlr.2 hh.1 hh.2
              rw [hsp] at hsg
              refine ⟨rfl, rfl, ?_, fun z => absurd z (by omega), fun _ => ⟨?_, i, by omega, ?_⟩⟩
              · show (if (-1 : Int32) = -1 then nI i else if sp ≤ bmo then -1 else nI i) = if sp ≤ -1000000 then -1 else nI i
                rw [if_pos rfl, if_neg hsg.1]
              · show (if (-1 : Int32) = -1 then sp else if sp ≤ bmo then bmo else sp) = jmax (-1000000) sp
                rw [if_pos rfl, hsg.2]
              · show (if sp ≤ -1000000 then -1 else nI i) = nI i
                rw [if_neg hsg.1]
            · obtain ⟨g1, c, hc12, g3⟩ := f5 hi0
              subst g1
              have zb : ¬ bst = -1 := by
                rw [g3]; intro z
                have := nI_pos' (n := c) (by omega)
                rw [z] at this
                exact absurd this (by decide)
              refine ⟨rfl, rfl, ?_, fun z => absurd z (by omega), fun _ => ⟨?_, ?_⟩⟩
              · show (if bst = -1 then nI i else if sp ≤ bmo then bst else nI i) = if sp ≤ bmo then bst else nI i
                rw [if_neg zb]
              · show (if bst = -1 then sp else if sp ≤ bmo then bmo else sp) = jmax bmo sp
                rw [if_neg zb]
                unfold jmax
                by_cases z : sp ≤ bmo
                · rw [if_pos z, if_neg (by grind)]
                · rw [if_neg z, if_pos (by grind)]
              · show ∃ c, c < 12 ∧ (if sp ≤ bmo then bst else nI i) = nI c
                by_cases z : sp ≤ bmo
                · exact ⟨c, hc12, by rw [if_pos z]; exact g3⟩
                · exact ⟨i, by omega, by rw [if_neg z]⟩
        obtain ⟨a, v, p1, p2, p3, p4, p5, p6, p7, wh', th', st', as', gets', k1, k2⟩ := key
        repeat apply Exists.intro
        refine ⟨?_, ?_, to_1 tn tw v⟩
        · simp only [fX11_post, t_has2, hx, decide_true, b2i_t, ob_s, t_within, hy, if_pos (inb_n h8 (by omega)), nI_clamp (show k < 2 ^ 31 by omega), if_neg h0, eh, k1]
          rfl
        · simp only [fX12_post, t_isChild (show m ≤ 12 by omega), hx, decide_true, b2i_t, ob_s, q, hy, em, if_neg h0, k2]
          rfl
    · refine ⟨-1, stack, ts, tn, q1, q2, q3, q4, q5, q6, q7, tr, wh, tw, th, st, as, gets, ?_, ?_, ht⟩
      · simp [fX11_post, fX11_post_b21, t_has2, hx, b2i, t_within, hy]
      · simp [fX12_post, fX12_post_b25, t_isChild (show m ≤ 12 by omega), hx, b2i, q, hy]
  · refine ⟨-1, stack, ts, tn, q1, q2, q3, q4, q5, q6, q7, tr, wh, tw, th, st, as, gets, ?_, ?_, ht⟩
    · simp [fX11_post, fX11_post_b21, t_has2, hx, b2i]
    · simp [fX12_post, fX12_post_b25, t_isChild (show m ≤ 12 by omega), hx, b2i]
