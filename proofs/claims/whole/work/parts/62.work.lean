/-! ===== fills ===== -/
theorem t_fill {N : Nat} (hN : N < 1000) (f : Nat → Int32) (v : Int32) : fJ7_fill_53178 f N v = some (fillN (fun _ => v) f N) := by
  unfold fJ7_fill_53178 fJ7_fill_53178_b5
  refine lp_up (fun i => (fillN (fun _ => v) f i, nI i)) N (by omega) (by rw [fill_0]; rfl) ?_ ?_
  · intro i hi k
    have h : ¬ nI N ≤ nI i := nI_ge hi (by omega)
    have fs := fill_s (fun _ => v) f i
    show fJ7_fill_53178_l5 N v (nI N) k (fillN (fun _ => v) f i) (nI i) = _
    rw [fJ7_fill_53178_l5, if_neg h, if_pos (inb_n hi (by omega)), nI_clamp (by omega), nI_1, ← fs]
  · intro k
    show fJ7_fill_53178_l5 N v (nI N) k (fillN (fun _ => v) f N) (nI N) = _
    rw [fJ7_fill_53178_l5, if_pos (nI_le (Nat.le_refl N) (by omega)), fJ7_fill_53178_b20]
/-! ===== floods ===== -/
def flD (c : Nat) (v : Int32) (j : Nat) : Int32 := if j = c then v else 0
theorem t_floodsFrom {n : Nat} (hn : n ≤ 12) (h1 : 1 ≤ n) {dyke th K : Nat → Int32} {c : Nat} (hc : c < n) {v : Int32} (hv : 1 ≤ v ∧ v ≤ 999) (hy : ∀ c, c + 1 < n → 0 ≤ dyke c ∧ dyke c ≤ 9) (hK : leastK n dyke (flD c v) K) : fX12_floodsFrom (nI n) dyke th (nI c) v = some (dpR n K th n) := by
  have rD : rng n (flD c v) := fun j hj => by
    unfold flD
    split
    · exact ⟨by have := hv.1; grind, hv.2⟩
    · decide
  have hx : ∀ j, j < n → dpR n (flD c v) th n (13 + j) = flD c v j := fun j hj => by
    have e : 13 + j - 13 = j := by omega
    simp only [dpR]; rw [if_pos (by omega), e]
  have hw := t_waterGoes hn h1 (r := dpR n (flD c v) th n) hy (fun j hj => by
    show 0 ≤ dpR n (flD c v) th n (13 + j) ∧ dpR n (flD c v) th n (13 + j) ≤ 999
    rw [hx j hj]; exact rD j hj) (leastK_congr (fun _ _ => rfl) hx hK)
  have e : (fun j => if 13 ≤ j ∧ j < 13 + n then K (j - 13) else dpR n (flD c v) th n j) = dpR n K th n := by
    funext j
    simp only [dpR]
    by_cases q : 13 ≤ j ∧ j < 13 + n
    · rw [if_pos q, if_pos q]
    · rw [if_neg q, if_neg q, if_neg q]
  rw [e] at hw
  unfold fX12_floodsFrom fX12_floodsFrom_b2
  refine lp_up (fun i => (dpR n (flD c v) th i, nI i)) n (by omega) ?_ ?_ ?_
  · refine Prod.ext ?_ rfl
    funext j
    simp only [dpR]; rw [if_neg (by omega)]
  · intro i hi k
    have h43 : 13 + i < 43 := by omega
    rw [← dp_s]
    by_cases e : i = c
    · subst e
      simp (disch := omega) [fX12_floodsFrom_b35, fX12_floodsFrom_b28, fX12_floodsFrom_l2, nI_leI, nI_ltI, nI_clamp, nI_pos', nI_1, nI_eq, ix_d, Nat.not_le.mpr hi, h43, flD]
    · simp (disch := omega) [fX12_floodsFrom_b35, fX12_floodsFrom_b28, fX12_floodsFrom_l2, nI_leI, nI_ltI, nI_clamp, nI_pos', nI_1, nI_eq, ix_d, Nat.not_le.mpr hi, h43, flD, e]
  · intro k
    have hle : nI n ≤ nI n := nI_le (Nat.le_refl n) (by omega)
    simp only [fX12_floodsFrom_l2, if_pos hle, fX12_floodsFrom_b35, hw, ob_s]
theorem t_canFlood {n : Nat} (hn : n ≤ 12) (x y : Int32) : fX12_canFlood (nI n) x y = some (b2i (decide (0 ≤ x ∧ x < nI n) && decide (1 ≤ y ∧ y ≤ 999))) := by
  have q := t_in y (L := 1) (H := 999) 1 999 rfl rfl
  by_cases hx : 0 ≤ x ∧ x < nI n
  · by_cases hy : 1 ≤ y ∧ y ≤ 999
    · simp [fX12_canFlood, fX12_canFlood_b25, fX12_canFlood_b24, t_isCell hn, hx, q, hy, b2i]
    · simp [fX12_canFlood, fX12_canFlood_b25, fX12_canFlood_b24, t_isCell hn, hx, q, hy, b2i]
  · simp [fX12_canFlood, fX12_canFlood_b25, fX12_canFlood_b24, t_isCell hn, hx, b2i]
theorem c_floods {n : Nat} {base dyke base' dyke' : Nat → Int32} {ts tr : Int32} {tn tw : Nat → Int64} (hn : n ≤ 12) (h1 : 1 ≤ n) (hl : laR n base dyke base' dyke') (ht : toR ts tn tr tw) (x y : Int32) (q5 th : Nat → Int32) (thrown : Int32) : ∃ a ts' tn' p5 tr' tw' th', fX11_floods (nI n) dyke ts tn q5 x y = some (a, ts', tn', p5) ∧ fX12_floods thrown tr (nI n) tw dyke' th x y = some (a, 0, tr', tw', th') ∧ toR ts' tn' tr' tw' := by
  obtain ⟨l1, l2, l3⟩ := hl
  by_cases hx : 0 ≤ x ∧ x < nI n
  · by_cases hy : 1 ≤ y ∧ y ≤ 999
    · obtain ⟨c, hc, rfl⟩ := ix_of (by omega) hx
      have h12 : c < 12 := by omega
      have hd : ∀ j, j < n → flD c y j = upd (fillN (fun _ => 0) q5 12) c y j := fun j hj => by
        unfold flD
        by_cases e : j = c
        · subst e; rw [if_pos rfl, pk_us]
        · rw [if_neg e, pk_un e, fill_lt _ _ (by omega)]
      have rD : rng n (upd (fillN (fun _ => 0) q5 12) c y) := fun j hj => by
        rw [← hd j hj]; unfold flD
        split
        · exact ⟨by have := hy.1; grind, hy.2⟩
        · decide
      have hK := leastK_congr (fun c hc => (l1 c hc).2) hd (sp_least rD l3)
      have em := t_floodsFrom hn h1 (th := th) hc hy (fun c hc => by rw [(l1 c (by omega)).2]; exact l3 c (by omega)) hK
      have eC := t_spread hn h1 (upd (fillN (fun _ => 0) q5 12) c y) dyke
      generalize spreadS n (upd (fillN (fun _ => 0) q5 12) c y) dyke = K at *
      have hx2 : ∀ j, j < n → dpR n K th n (13 + j) = K j := fun j hj => by
        have e : 13 + j - 13 = j := by omega
        simp only [dpR]; rw [if_pos (by omega), e]
      have ew := wet_congr hx2
      have es : sumN (fun c => dpR n K th n (13 + c)) n = sumN K n := sumN_congr hx2
      have cl : (nI c).toNatClampNeg = c := nI_clamp (by omega)
      repeat apply Exists.intro
      refine ⟨?_, ?_, to_2 tn tw (bcS (bitsN (fun c => !decide (K c ≤ 0)) n)).toInt64 (sumN K n).toInt64⟩
      · simp only [fX11_floods, t_has5, hx, decide_true, b2i_t, ob_s, t_within, hy, t_fill (show 12 < 1000 by omega), if_pos (inb_n h12 (by omega)), cl, eC, t_wet hn, t_water hn, t_bc, t_tell2]
        rfl
      · simp only [fX12_floods, t_canFlood hn, hx, hy, decide_true, Bool.and_self, b2i_t, ob_s, em, t_wetM hn, t_deepAll hn, ew, es, t_bc, t_ent0, t_ent1]
        rfl
    · refine ⟨-1, ts, tn, q5, tr, tw, th, ?_, ?_, ht⟩
      · simp [fX11_floods, fX11_floods_b22, t_has5, hx, b2i, t_within, hy]
      · simp [fX12_floods, t_canFlood hn, hx, hy, b2i]
  · refine ⟨-1, ts, tn, q5, tr, tw, th, ?_, ?_, ht⟩
    · simp [fX11_floods, fX11_floods_b22, t_has5, hx, b2i]
    · simp [fX12_floods, t_canFlood hn, hx, b2i]
/-! ===== work ===== -/
theorem c_work {n m T : Nat} {age skill friend pals age' skill' friend' wall depth mood place now : Nat → Int32} {moats spades tides ts tr : Int32} {tn tw : Nat → Int64} (hn : n ≤ 12) (hm : m ≤ 8) (hc : crR m age skill friend pals age' skill' friend') (hs : SS n m T wall depth mood place moats spades tides now) (ht : toR ts tn tr tw) (x : Int32) (q1 q2 q3 : Int32) (q4 q5 q6 q7 th gets : Nat → Int32) (thrown wh : Int32) : ∃ a ts' tn' p1 p2 p3 p4 p5 p6 p7 tr' wh' tw' th' gets', fX11_work (nI m) age skill pals (nI n) moats spades tides wall depth mood place ts tn q1 q2 q3 q4 q5 q6 q7 x = some (a, ts', tn', p1, p2, p3, p4, p5, p6, p7) ∧ fX12_work thrown tr (nI n) (nI m) wh tw age' skill' friend' now th gets x = some (a, 0, tr', wh', tw', th', gets') ∧ toR ts' tn' tr' tw' := by
  have ein := t_in x (L := 0) (H := 30) 0 30 rfl rfl
  by_cases hx : 0 ≤ x ∧ x ≤ 30
  · obtain ⟨N, -, hN, rfl⟩ := rng_n (a := 0) (b := 30) (by omega) (by omega) hx
    obtain ⟨wall', mood', place', wh', gets', now', e1, e2, hS, -, -⟩ := j_builds hn hm hc (j_copy hn hm hs q4 q5 q6 q7 th) (N := N) (by omega) gets wh
    have es : sumN now n = sumN wall n := sumN_congr hs.2.1
    have es' : sumN now' n = sumN wall' n := sumN_congr hS.2.1
    have key : ∃ ts' tn' tr' tw', fX11_work_b40 (nI m) age skill pals (nI n) moats spades tides wall depth mood place 0 tn moats spades tides wall' (va_cpy depth q5 0 0 12) mood' place' 0 = some (sumN wall' n - sumN wall n, ts', tn', moats, spades, tides, wall', va_cpy depth q5 0 0 12, mood', place') ∧ fX12_work_b39 0 0 (nI n) (nI m) wh' tw age' skill' friend' now now' gets' 0 = some (sumN wall' n - sumN wall n, 0, tr', wh', tw', now', gets') ∧ toR ts' tn' tr' tw' := by
      unfold fX11_work_b40 fX12_work_b39
      refine lq2 (fun r u => ∃ ts' tn' tr' tw', r = some (sumN wall' n - sumN wall n, ts', tn', moats, spades, tides, wall', va_cpy depth q5 0 0 12, mood', place') ∧ u = some (sumN wall' n - sumN wall n, 0, tr', wh', tw', now', gets') ∧ toR ts' tn' tr' tw') (fun i s t => s.1 = nI i ∧ t.1 = nI i ∧ s.2.2 = nI i ∧ t.2.2 = nI i ∧ ∀ j, j < i → s.2.1 j = t.2.1 j) n (by omega) ⟨rfl, rfl, rfl, rfl, fun j hj => absurd hj (by omega)⟩ ?_
      intro i s t k1 k2 hi hI
      obtain ⟨a1, a2, a3⟩ := s
      obtain ⟨b1, b2, b3⟩ := t
      obtain ⟨f1, f2, f3, f4, hJ⟩ := hI
      simp only at f1 f2 f3 f4 hJ
      subst f1 f2 f3 f4
      by_cases e : i = n
      · subst e
        right
        refine ⟨nI i, a2, nI i, b2, ?_, ?_, i, hn, rfl, rfl, hJ⟩
        · simp (disch := omega) [fX11_work_b84, fX11_work_l40, nI_leI, nI_ltI, nI_clamp, nI_pos', nI_1, nI_eq, t_sand hn]
        · simp (disch := omega) [fX12_work_b71, fX12_work_l39, nI_leI, nI_ltI, nI_clamp, nI_pos', nI_1, nI_eq, t_wallAll hn, es, es']
      · have hi2 : i < n := by omega
        have h12 : i < 12 := by omega
        have h43 : i < 43 := by omega
        have w1 := hS.2.1 i hi2
        have w2 := hs.2.1 i hi2
        left
        refine ⟨hi2, (nI (i + 1), vp_updL a2 i (wall' i - wall i).toInt64, nI (i + 1)), (nI (i + 1), vp_updL b2 i (wall' i - wall i).toInt64, nI (i + 1)), ⟨rfl, rfl, rfl, rfl, ?_⟩, ?_, ?_⟩
        · intro j hj
          show vp_updL a2 i _ j = vp_updL b2 i _ j
          by_cases e : j = i
          · subst e; rw [pk_uLs, pk_uLs]
          · rw [pk_uLn e, pk_uLn e]; exact hJ j (by omega)
        · simp (disch := omega) [fX11_work_b84, fX11_work_l40, nI_leI, nI_ltI, nI_clamp, nI_pos', nI_1, nI_eq, Nat.not_le.mpr hi2, h12, t_add h12]
        · simp (disch := omega) [fX12_work_b71, fX12_work_l39, nI_leI, nI_ltI, nI_clamp, nI_pos', nI_1, nI_eq, Nat.not_le.mpr hi2, h43, t_ent (show i < 24 by omega), w1, w2]
    obtain ⟨ts', tn', tr', tw', k1, k2, hT⟩ := key
    repeat apply Exists.intro
    refine ⟨?_, ?_, hT⟩
    · simp only [fX11_work, t_within, hx, decide_true, b2i_t, ob_s, t_copy, e1, fX8_clear, k1]
      rfl
    · simp only [fX12_work, ein, hx, decide_true, b2i_t, ob_s, t_puts, e2, k2]
      rfl
  · refine ⟨-1, ts, tn, q1, q2, q3, q4, q5, q6, q7, tr, wh, tw, th, gets, ?_, ?_, ht⟩
    · simp [fX11_work, t_within, hx, b2i]
    · simp [fX12_work, ein, hx, b2i]
/-! ===== sheet ===== -/
def nvS (k e : Int32) : Int32 := if k = 0 then e.toInt8.toInt32 else if k = 1 then e.toInt16.toInt32 else e
theorem t_narrowed (k e : Int32) : fX11_narrowed k e = some (nvS k e) := by
  unfold fX11_narrowed fX11_narrowed_b18 nvS
  split
  · rfl
  · split <;> rfl
theorem cl9_r (x : Int32) : 0 ≤ jmax 0 (jmin 9 x) ∧ jmax 0 (jmin 9 x) ≤ 9 := by unfold jmax jmin; grind
theorem c_sheet {n m T : Nat} {wall depth mood place now : Nat → Int32} {moats spades tides : Int32} (hn : n ≤ 12) (hm : m ≤ 8) (hs : SS n m T wall depth mood place moats spades tides now) (thrown x y f step : Int32) : ∃ a mood' now', fX11_sheet (nI m) mood x y f step = some (a, mood') ∧ fX12_sheet thrown (nI m) now x y f step = some (a, 0, now') ∧ SS n m T wall depth mood' place moats spades tides now' := by
  have q := t_in x (L := 0) (H := 3) 0 3 rfl rfl
  have emo : ∀ (r : Nat → Int32) (v : Int32) (i : Nat), i < m → fX12_moodOf (upd r (26 + 2 * i) v) (nI i) = some v := fun r v i hi => by rw [t_moodOf (by omega), pk_us]
  by_cases hx : 0 ≤ x ∧ x ≤ 3
  · by_cases hy : y ≤ 8
    · by_cases h3 : x = 3
      · subst h3
        have key : ∃ now', fX12_sheet_b46 0 (nI m) now 3 y step 0 f 0 = some (-3, 0, now') ∧ SS n m T wall depth (fillN (fun _ => 0) mood m) place moats spades tides now' := by
          unfold fX12_sheet_b46
          refine lp_inv (fun u => ∃ now', u = some (-3, 0, now') ∧ SS n m T wall depth (fillN (fun _ => 0) mood m) place moats spades tides now') (fun i t => t.2.2.2 = nI i ∧ SS n m T wall depth (fillN (fun _ => 0) mood i) place moats spades tides t.1) m (by omega) ⟨rfl, by rw [fill_0]; exact hs⟩ ?_
          intro i t k hi hI
          obtain ⟨r, s, v, z⟩ := t
          obtain ⟨e1, hS⟩ := hI
          simp only at e1 hS
          subst e1
          by_cases e : i = m
          · subst e
            right
            refine ⟨r, ?_, hS⟩
            simp (disch := omega) [fX12_sheet_b23, fX12_sheet_b159, fX12_sheet_b147, fX12_sheet_b119, fX12_sheet_b104, fX12_sheet_b78, fX12_sheet_l46, fX12_sheet_b37, nI_leI, nI_ltI, nI_clamp, nI_pos', nI_1, nI_eq]
          · have hi2 : i < m := by omega
            have h43 : 26 + 2 * i < 43 := by omega
            left
            have hS' := SS_mood hn hm hS hi2 (v := 0) (by decide)
            have fs : upd (fillN (fun _ => (0 : Int32)) mood i) i 0 = fillN (fun _ => 0) mood (i + 1) := fill_s (fun _ => 0) mood i
            rw [fs] at hS'
            refine ⟨hi2, (upd r (26 + 2 * i) 0, s + 0, v + step, nI (i + 1)), ⟨rfl, hS'⟩, ?_⟩
            simp (disch := omega) [fX12_sheet_b23, fX12_sheet_b159, fX12_sheet_b147, fX12_sheet_b119, fX12_sheet_b104, fX12_sheet_b78, fX12_sheet_l46, fX12_sheet_b37, nI_leI, nI_ltI, nI_clamp, nI_pos', nI_1, nI_eq, Nat.not_le.mpr hi2, ix_m, h43, emo r 0 i hi2]
        obtain ⟨now', k1, hS⟩ := key
        refine ⟨-3, fillN (fun _ => 0) mood 8, now', ?_, ?_, SS_congr hn hm hS (fun _ _ => rfl) (fun _ _ => rfl) (fun k hk => by rw [fill_lt _ _ (by omega), fill_lt _ _ hk]) (fun _ _ => rfl) (fun _ _ => rfl)⟩
        · simp [fX11_sheet, t_within, hx, b2i, hy, t_fill (show 8 < 1000 by omega)]
        · simp only [fX12_sheet, q, hx, decide_true, b2i_t, ob_s, if_pos hy, if_true, fX12_sheet_b37, k1]
          rfl
      · by_cases h0 : 0 ≤ y
        · have key : ∃ a mood' now', fX11_sheet_b52 (nI m) mood x y step 0 f 0 = some (a, mood') ∧ fX12_sheet_b46 0 (nI m) now x y step 0 f 0 = some (a, 0, now') ∧ SS n m T wall depth mood' place moats spades tides now' := by
            unfold fX11_sheet_b52 fX12_sheet_b46
            refine lq2 (fun r u => ∃ a mood' now', r = some (a, mood') ∧ u = some (a, 0, now') ∧ SS n m T wall depth mood' place moats spades tides now') (fun i s t => s.2.2.2 = nI i ∧ t.2.2.2 = nI i ∧ s.2.1 = t.2.1 ∧ s.2.2.1 = t.2.2.1 ∧ SS n m T wall depth s.1 place moats spades tides t.1) m (by omega) ⟨rfl, rfl, rfl, rfl, hs⟩ ?_
            intro i s t k1 k2 hi hI
            obtain ⟨mo, sm, en, z⟩ := s
            obtain ⟨r, sm2, en2, z2⟩ := t
            obtain ⟨e1, e2, e3, e4, hS⟩ := hI
            simp only at e1 e2 e3 e4 hS
            subst e1 e2 e3 e4
            by_cases e : i = m
            · subst e
              right
              refine ⟨sm, mo, r, ?_, ?_, hS⟩
              · simp (disch := omega) [fX11_sheet_b15, fX11_sheet_b123, fX11_sheet_b94, fX11_sheet_l52, nI_leI, nI_ltI, nI_clamp, nI_pos', nI_1, nI_eq]
              · simp (disch := omega) [fX12_sheet_b23, fX12_sheet_b159, fX12_sheet_b147, fX12_sheet_b119, fX12_sheet_b104, fX12_sheet_b78, fX12_sheet_l46, fX12_sheet_b37, nI_leI, nI_ltI, nI_clamp, nI_pos', nI_1, nI_eq, h3]
            · have hi2 : i < m := by omega
              have h43 : 26 + 2 * i < 43 := by omega
              have h8 : i < 8 := by omega
              left
              by_cases hiy : y ≤ nI i
              · have hlt : ¬ nI i < y := fun w => i_nle w hiy
                have hS' := SS_mood hn hm hS hi2 (v := 0) (by decide)
                refine ⟨hi2, (upd mo i 0, sm + 0, en + step, nI (i + 1)), (upd r (26 + 2 * i) 0, sm + 0, en + step, nI (i + 1)), ⟨rfl, rfl, rfl, rfl, hS'⟩, ?_, ?_⟩
                · simp (disch := omega) [fX11_sheet_b15, fX11_sheet_b123, fX11_sheet_b94, fX11_sheet_l52, nI_leI, nI_ltI, nI_clamp, nI_pos', nI_1, nI_eq, Nat.not_le.mpr hi2, h8, hiy, pk_us]
                · by_cases hk0 : x = 0
                  · simp (disch := omega) [fX12_sheet_b23, fX12_sheet_b159, fX12_sheet_b147, fX12_sheet_b119, fX12_sheet_b104, fX12_sheet_b78, fX12_sheet_l46, fX12_sheet_b37, nI_leI, nI_ltI, nI_clamp, nI_pos', nI_1, nI_eq, Nat.not_le.mpr hi2, ix_m, h43, h3, hlt, hk0, emo r 0 i hi2]
                  · by_cases hk1 : x = 1
                    · simp (disch := omega) [fX12_sheet_b23, fX12_sheet_b159, fX12_sheet_b147, fX12_sheet_b119, fX12_sheet_b104, fX12_sheet_b78, fX12_sheet_l46, fX12_sheet_b37, nI_leI, nI_ltI, nI_clamp, nI_pos', nI_1, nI_eq, Nat.not_le.mpr hi2, ix_m, h43, h3, hlt, hk0, hk1, emo r 0 i hi2]
                    · simp (disch := omega) [fX12_sheet_b23, fX12_sheet_b159, fX12_sheet_b147, fX12_sheet_b119, fX12_sheet_b104, fX12_sheet_b78, fX12_sheet_l46, fX12_sheet_b37, nI_leI, nI_ltI, nI_clamp, nI_pos', nI_1, nI_eq, Nat.not_le.mpr hi2, ix_m, h43, h3, hlt, hk0, hk1, emo r 0 i hi2]
              · have hlt : nI i < y := by grind
                have hS' := SS_mood hn hm hS hi2 (cl9_r (nvS x en))
                refine ⟨hi2, (upd mo i (jmax 0 (jmin 9 (nvS x en))), sm + jmax 0 (jmin 9 (nvS x en)), en + step, nI (i + 1)), (upd r (26 + 2 * i) (jmax 0 (jmin 9 (nvS x en))), sm + jmax 0 (jmin 9 (nvS x en)), en + step, nI (i + 1)), ⟨rfl, rfl, rfl, rfl, hS'⟩, ?_, ?_⟩
                · simp (disch := omega) [fX11_sheet_b15, fX11_sheet_b123, fX11_sheet_b94, fX11_sheet_l52, nI_leI, nI_ltI, nI_clamp, nI_pos', nI_1, nI_eq, Nat.not_le.mpr hi2, h8, hiy, pk_us, t_narrowed, fX11_clamp]
                · by_cases hk0 : x = 0
                  · subst hk0
                    have : nvS 0 en = en.toInt8.toInt32 := rfl
                    simp (disch := omega) [fX12_sheet_b23, fX12_sheet_b159, fX12_sheet_b147, fX12_sheet_b119, fX12_sheet_b104, fX12_sheet_b78, fX12_sheet_l46, fX12_sheet_b37, nI_leI, nI_ltI, nI_clamp, nI_pos', nI_1, nI_eq, Nat.not_le.mpr hi2, ix_m, h43, hlt, this, emo r _ i hi2]
                  · by_cases hk1 : x = 1
                    · subst hk1
                      have : nvS 1 en = en.toInt16.toInt32 := rfl
                      simp (disch := omega) [fX12_sheet_b23, fX12_sheet_b159, fX12_sheet_b147, fX12_sheet_b119, fX12_sheet_b104, fX12_sheet_b78, fX12_sheet_l46, fX12_sheet_b37, nI_leI, nI_ltI, nI_clamp, nI_pos', nI_1, nI_eq, Nat.not_le.mpr hi2, ix_m, h43, hlt, this, emo r _ i hi2]
                    · have : nvS x en = en := by simp [nvS, hk0, hk1]
                      simp (disch := omega) [fX12_sheet_b23, fX12_sheet_b159, fX12_sheet_b147, fX12_sheet_b119, fX12_sheet_b104, fX12_sheet_b78, fX12_sheet_l46, fX12_sheet_b37, nI_leI, nI_ltI, nI_clamp, nI_pos', nI_1, nI_eq, Nat.not_le.mpr hi2, ix_m, h43, h3, hlt, hk0, hk1, this, emo r _ i hi2]
          obtain ⟨a, mood', now', k1, k2, hS⟩ := key
          refine ⟨a, mood', now', ?_, ?_, hS⟩
          · simp only [fX11_sheet, t_within, hx, decide_true, b2i_t, ob_s, if_pos hy, if_neg h3, if_pos h0, k1]
            rfl
          · simp only [fX12_sheet, q, hx, decide_true, b2i_t, ob_s, if_pos hy, if_neg h3, if_pos h0, fX12_sheet_b37, k2]
            rfl
        · refine ⟨-2, mood, now, ?_, ?_, hs⟩
          · simp [fX11_sheet, t_within, hx, b2i, hy, h3, h0]
          · simp [fX12_sheet, q, hx, b2i, hy, h3, h0]
    · refine ⟨-1, mood, now, ?_, ?_, hs⟩
      · simp [fX11_sheet, fX11_sheet_b15, t_within, hx, b2i, hy]
      · simp [fX12_sheet, fX12_sheet_b23, q, hx, b2i, hy]
  · refine ⟨-1, mood, now, ?_, ?_, hs⟩
    · simp [fX11_sheet, fX11_sheet_b15, t_within, hx, b2i]
    · simp [fX12_sheet, fX12_sheet_b23, q, hx, b2i]
