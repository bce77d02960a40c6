/-! ===== cell, child, row: class and model throw together, or answer alike ===== -/
theorem dc_6 {x : Int32} (h : 0 ≤ x ∧ x ≤ 6) (h0 : ¬ x = 0) (h1 : ¬ x = 1) (h2 : ¬ x = 2) (h3 : ¬ x = 3) (h4 : ¬ x = 4) (h5 : ¬ x = 5) : x = 6 := by
  obtain ⟨k, -, hk, e⟩ := rng_n (a := 0) (b := 6) (by omega) (by omega) h
  have h9 : k = 0 ∨ k = 1 ∨ k = 2 ∨ k = 3 ∨ k = 4 ∨ k = 5 ∨ k = 6 := by omega
  rcases h9 with z | z | z | z | z | z | z <;> subst z
  · exact absurd e h0
  · exact absurd e h1
  · exact absurd e h2
  · exact absurd e h3
  · exact absurd e h4
  · exact absurd e h5
  · exact e
theorem bitB_v (x : Int32) (k : Nat) : jshr x (nI k) &&& 1 = b2i (bitB x k) := by
  rcases and1 (jshr x (nI k)) with h | h
  · rw [h, (bitB_0 x k).mp h]; rfl
  · rw [h, (bitB_1 x k).mp h]; rfl
theorem k_clamp {k : Nat} (h : k < 2 ^ 31) : Int32.toNatClampNeg (nI k) = k := by simp (disch := omega) [nI_clamp]
theorem n1_0 : ¬ ((1 : Int32) = 0) := by decide
theorem z_0 : (0 : Int32) = 0 := rfl
theorem c_cell {n m T : Nat} {wall depth mood place now base dyke base' dyke' : Nat → Int32} {moats spades tides : Int32} (thrown : Int32) (hn : n ≤ 12) (hm : m ≤ 8) (hl : laR n base dyke base' dyke') (hs : SS n m T wall depth mood place moats spades tides now) (x1 x2 : Int32) :
    (∃ v, fX11_cell (nI m) (nI n) base dyke moats wall depth place x1 x2 = some v ∧ fX12_cell thrown (nI n) (nI m) base' dyke' now x1 x2 = some (v, 0)) ∨ (tX11_cell (nI m) (nI n) base dyke moats wall depth place x1 x2 = some () ∧ fX12_cell thrown (nI n) (nI m) base' dyke' now x1 x2 = some (0, 1)) := by
  have e5 := t_has5 (nI n) x1
  have e6 := t_isCell hn x1
  have ein := t_in x2 (L := 0) (H := 6) 0 6 rfl rfl
  by_cases hx : 0 ≤ x1 ∧ x1 < nI n
  · obtain ⟨i, hi, rfl⟩ := ix_of (by omega) hx
    have h12 : inb (nI i) 12 := inb_n (by omega) (by omega)
    have h43 : inb (nI i) 43 := inb_n (by omega) (by omega)
    have h43' : inb (nI (13 + i)) 43 := inb_n (by omega) (by omega)
    have cl : Int32.toNatClampNeg (nI i) = i := k_clamp (by omega)
    have cl' : Int32.toNatClampNeg (nI (13 + i)) = 13 + i := k_clamp (by omega)
    have i12 : inb (12 : Int32) 43 := by decide
    have c12 : Int32.toNatClampNeg (12 : Int32) = 12 := by decide
    rw [decide_eq_true hx, b2i_t] at e5 e6
    by_cases h6 : 0 ≤ x2 ∧ x2 ≤ 6
    · rw [decide_eq_true h6, b2i_t] at ein
      refine Or.inl ?_
      by_cases h0 : x2 = 0
      · exact ⟨base i, by simp only [fX11_cell, e5, ob_s, if_neg n1_0, if_pos h0, if_pos h12, cl], by simp only [fX12_cell, e6, ob_s, if_neg n1_0, ein, if_pos h0, if_pos h12, cl, (hl.1 i hi).1]⟩
      by_cases h1 : x2 = 1
      · exact ⟨wall i, by simp only [fX11_cell, e5, ob_s, if_neg n1_0, if_neg h0, if_pos h1, if_pos h12, cl], by simp only [fX12_cell, e6, ob_s, if_neg n1_0, ein, if_neg h0, if_pos h1, if_pos h43, cl, hs.2.1 i hi]⟩
      by_cases h2 : x2 = 2
      · exact ⟨b2i (bitB moats i), by simp only [fX11_cell, e5, ob_s, if_neg n1_0, if_neg h0, if_neg h1, if_pos h2, bitB_v], by simp only [fX12_cell, e6, ob_s, if_neg n1_0, ein, if_neg h0, if_neg h1, if_pos h2, if_pos i12, c12, hs.2.2.2.2.2.1, t_hasM, t_flag]⟩
      by_cases h3 : x2 = 3
      · exact ⟨depth i, by simp only [fX11_cell, e5, ob_s, if_neg n1_0, if_neg h0, if_neg h1, if_neg h2, if_pos h3, if_pos h12, cl], by simp only [fX12_cell, e6, ob_s, if_neg n1_0, ein, if_neg h0, if_neg h1, if_neg h2, if_pos h3, ix_d, if_pos h43', cl', hs.2.2.1 i hi]⟩
      by_cases h4 : x2 = 4
      · exact ⟨dyke i, by simp only [fX11_cell, e5, ob_s, if_neg n1_0, if_neg h0, if_neg h1, if_neg h2, if_neg h3, if_pos h4, if_pos h12, cl], by simp only [fX12_cell, e6, ob_s, if_neg n1_0, ein, if_neg h0, if_neg h1, if_neg h2, if_neg h3, if_pos h4, if_pos h12, cl, (hl.1 i hi).2]⟩
      by_cases h5 : x2 = 5
      · have ec : bitsN (fun k => decide (now (25 + 2 * k) = nI i)) m = bitsN (fun k => decide (place k = nI i)) m := bitsN_congr (fun k hk => by rw [hs.2.2.2.2.1 k hk])
        exact ⟨bitsN (fun k => decide (place k = nI i)) m, by simp only [fX11_cell, e5, ob_s, if_neg n1_0, if_neg h0, if_neg h1, if_neg h2, if_neg h3, if_neg h4, if_pos h5, t_childrenAt hm], by simp only [fX12_cell, e6, ob_s, if_neg n1_0, ein, if_neg h0, if_neg h1, if_neg h2, if_neg h3, if_neg h4, if_pos h5, t_childrenAtM hm, ec]⟩
      have h7 := dc_6 h6 h0 h1 h2 h3 h4 h5
      have et : topS base' now i = topS base wall i := by simp only [topS, (hl.1 i hi).1, hs.2.1 i hi]
      exact ⟨topS base wall i, by simp only [fX11_cell, e5, ob_s, if_neg n1_0, if_neg h0, if_neg h1, if_neg h2, if_neg h3, if_neg h4, if_neg h5, if_pos h7, t_top (show i < 12 by omega)], by simp only [fX12_cell, e6, ob_s, if_neg n1_0, ein, if_neg h0, if_neg h1, if_neg h2, if_neg h3, if_neg h4, if_neg h5, t_topOf (show i < 12 by omega), et]⟩
    · rw [decide_eq_false h6, b2i_f] at ein
      have g0 : ¬ x2 = 0 := fun h => h6 (by rw [h]; decide)
      have g1 : ¬ x2 = 1 := fun h => h6 (by rw [h]; decide)
      have g2 : ¬ x2 = 2 := fun h => h6 (by rw [h]; decide)
      have g3 : ¬ x2 = 3 := fun h => h6 (by rw [h]; decide)
      have g4 : ¬ x2 = 4 := fun h => h6 (by rw [h]; decide)
      have g5 : ¬ x2 = 5 := fun h => h6 (by rw [h]; decide)
      have g6 : ¬ x2 = 6 := fun h => h6 (by rw [h]; decide)
      exact Or.inr ⟨by simp only [tX11_cell, e5, ob_s, if_neg n1_0, if_neg g0, if_neg g1, if_neg g2, if_neg g3, if_neg g4, if_neg g5, if_neg g6], by simp only [fX12_cell, e6, ob_s, if_neg n1_0, ein, if_true, fX12_cell_b25, fX12_refuse]⟩
  · rw [decide_eq_false hx, b2i_f] at e5 e6
    exact Or.inr ⟨by simp only [tX11_cell, e5, ob_s, if_true], by simp only [fX12_cell, e6, ob_s, if_true, fX12_cell_b25, fX12_refuse]⟩
theorem c_child {n m T : Nat} {wall depth mood place now age skill friend pals age' skill' friend' : Nat → Int32} {moats spades tides : Int32} (thrown : Int32) (hn : n ≤ 12) (hm : m ≤ 8) (hc : crR m age skill friend pals age' skill' friend') (hs : SS n m T wall depth mood place moats spades tides now) (x1 x2 : Int32) :
    (∃ v, fX11_child (nI m) age skill friend pals spades mood place x1 x2 = some v ∧ fX12_child thrown (nI m) age' skill' friend' now x1 x2 = some (v, 0)) ∨ (tX11_child (nI m) age skill friend pals spades mood place x1 x2 = some () ∧ fX12_child thrown (nI m) age' skill' friend' now x1 x2 = some (0, 1)) := by
  have e5 := t_has2 (nI m) x1
  have e6 := t_isChild (n := m) (by omega) x1
  have ein := t_in x2 (L := 0) (H := 6) 0 6 rfl rfl
  by_cases hx : 0 ≤ x1 ∧ x1 < nI m
  · obtain ⟨i, hi, rfl⟩ := ix_of (by omega) hx
    have h8 : inb (nI i) 8 := inb_n (by omega) (by omega)
    have cl : Int32.toNatClampNeg (nI i) = i := k_clamp (by omega)
    have i41 : inb (41 : Int32) 43 := by decide
    have c41 : Int32.toNatClampNeg (41 : Int32) = 41 := by decide
    have li : i < 8 := by omega
    rw [decide_eq_true hx, b2i_t] at e5 e6
    by_cases h6 : 0 ≤ x2 ∧ x2 ≤ 6
    · rw [decide_eq_true h6, b2i_t] at ein
      refine Or.inl ?_
      by_cases h0 : x2 = 0
      · exact ⟨age i, by simp only [fX11_child, e5, ob_s, if_neg n1_0, if_pos h0, if_pos h8, cl], by simp only [fX12_child, e6, ob_s, if_neg n1_0, ein, if_pos h0, if_pos h8, cl, (hc.1 i hi).1]⟩
      by_cases h1 : x2 = 1
      · exact ⟨skill i, by simp only [fX11_child, e5, ob_s, if_neg n1_0, if_neg h0, if_pos h1, if_pos h8, cl], by simp only [fX12_child, e6, ob_s, if_neg n1_0, ein, if_neg h0, if_pos h1, if_pos h8, cl, (hc.1 i hi).2.1]⟩
      by_cases h2 : x2 = 2
      · exact ⟨friend i, by simp only [fX11_child, e5, ob_s, if_neg n1_0, if_neg h0, if_neg h1, if_pos h2, if_pos h8, cl], by simp only [fX12_child, e6, ob_s, if_neg n1_0, ein, if_neg h0, if_neg h1, if_pos h2, if_pos h8, cl, (hc.1 i hi).2.2]⟩
      by_cases h3 : x2 = 3
      · exact ⟨mood i, by simp only [fX11_child, e5, ob_s, if_neg n1_0, if_neg h0, if_neg h1, if_neg h2, if_pos h3, if_pos h8, cl], by simp only [fX12_child, e6, ob_s, if_neg n1_0, ein, if_neg h0, if_neg h1, if_neg h2, if_pos h3, t_moodOf li, hs.2.2.2.1 i hi]⟩
      by_cases h4 : x2 = 4
      · exact ⟨b2i (bitB spades i), by simp only [fX11_child, e5, ob_s, if_neg n1_0, if_neg h0, if_neg h1, if_neg h2, if_neg h3, if_pos h4, bitB_v], by simp only [fX12_child, e6, ob_s, if_neg n1_0, ein, if_neg h0, if_neg h1, if_neg h2, if_neg h3, if_pos h4, if_pos i41, c41, hs.2.2.2.2.2.2.1, t_hasM, t_flag]⟩
      by_cases h5 : x2 = 5
      · exact ⟨place i, by simp only [fX11_child, e5, ob_s, if_neg n1_0, if_neg h0, if_neg h1, if_neg h2, if_neg h3, if_neg h4, if_pos h5, if_pos h8, cl], by simp only [fX12_child, e6, ob_s, if_neg n1_0, ein, if_neg h0, if_neg h1, if_neg h2, if_neg h3, if_neg h4, if_pos h5, t_atOf li, hs.2.2.2.2.1 i hi]⟩
      have h7 := dc_6 h6 h0 h1 h2 h3 h4 h5
      have hf' : frOk friend' m := fun k hk => by rw [(hc.1 k hk).2.2]; exact hc.2.2.2 k hk
      have eb : buckS age' skill' friend' (atS now) (moS now) (now 41) m i = buckS age skill friend place mood spades m i := by
        rw [hs.2.2.2.2.2.2.1]
        exact buck_congr (fun k hk => (hc.1 k hk).1) (fun k hk => (hc.1 k hk).2.1) (fun k hk => (hc.1 k hk).2.2) (fun k hk => hs.2.2.2.2.1 k hk) (fun k hk => hs.2.2.2.1 k hk) hi
      exact ⟨buckS age skill friend place mood spades m i, by simp only [fX11_child, e5, ob_s, if_neg n1_0, if_neg h0, if_neg h1, if_neg h2, if_neg h3, if_neg h4, if_neg h5, if_pos h7, t_buckets hm hc.2.2.1 hi], by simp only [fX12_child, e6, ob_s, if_neg n1_0, ein, if_neg h0, if_neg h1, if_neg h2, if_neg h3, if_neg h4, if_neg h5, t_bucketsOf hm hn (SS_at hs) hf' hi, eb]⟩
    · rw [decide_eq_false h6, b2i_f] at ein
      have g0 : ¬ x2 = 0 := fun h => h6 (by rw [h]; decide)
      have g1 : ¬ x2 = 1 := fun h => h6 (by rw [h]; decide)
      have g2 : ¬ x2 = 2 := fun h => h6 (by rw [h]; decide)
      have g3 : ¬ x2 = 3 := fun h => h6 (by rw [h]; decide)
      have g4 : ¬ x2 = 4 := fun h => h6 (by rw [h]; decide)
      have g5 : ¬ x2 = 5 := fun h => h6 (by rw [h]; decide)
      have g6 : ¬ x2 = 6 := fun h => h6 (by rw [h]; decide)
      exact Or.inr ⟨by simp only [tX11_child, e5, ob_s, if_neg n1_0, if_neg g0, if_neg g1, if_neg g2, if_neg g3, if_neg g4, if_neg g5, if_neg g6], by simp only [fX12_child, e6, ob_s, if_neg n1_0, ein, if_true, fX12_child_b25, fX12_refuse]⟩
  · rw [decide_eq_false hx, b2i_f] at e5 e6
    exact Or.inr ⟨by simp only [tX11_child, e5, ob_s, if_true], by simp only [fX12_child, e6, ob_s, if_true, fX12_child_b25, fX12_refuse]⟩
theorem c_row {ts tr : Int32} {tn tw : Nat → Int64} (thrown : Int32) (ht : toR ts tn tr tw) (x1 : Int32) :
    (∃ v, fX11_row ts tn x1 = some v ∧ fX12_row thrown tr tw x1 = some (v, 0)) ∨ (tX11_row ts tn x1 = some () ∧ fX12_row thrown tr tw x1 = some (0, 1)) := by
  obtain ⟨k, hk, rfl, rfl, he⟩ := ht
  have e5 := t_within x1 0 (nI k - 1)
  have ein := t_in x1 (L := 0) (H := (nI k - 1).toInt64) 0 (nI k - 1) rfl rfl
  by_cases hx : 0 ≤ x1 ∧ x1 ≤ nI k - 1
  · have hx' : 0 ≤ x1 ∧ x1 < nI k := by
      have h1 : nI k ≤ 12 := nI_le (a := k) (b := 12) hk (by omega)
      have h2 : 0 ≤ nI k := nI_pos' (by omega)
      grind
    rw [decide_eq_true hx, b2i_t] at e5 ein
    obtain ⟨i, hi, rfl⟩ := ix_of (by omega) hx'
    have h12 : inb (nI i) 12 := inb_n (by omega) (by omega)
    have h24 : inb (nI i) 24 := inb_n (by omega) (by omega)
    have cl : Int32.toNatClampNeg (nI i) = i := k_clamp (by omega)
    exact Or.inl ⟨tn i, by simp only [fX11_row, e5, ob_s, if_neg n1_0, if_pos h12, cl], by simp only [fX12_row, ein, ob_s, if_neg n1_0, if_pos h24, cl, he i hi]⟩
  · rw [decide_eq_false hx, b2i_f] at e5 ein
    exact Or.inr ⟨by simp only [tX11_row, e5, ob_s, if_true], by simp only [fX12_row, ein, ob_s, if_true]⟩
