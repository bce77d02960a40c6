/-! ===== two loops side by side ===== -/
theorem lq2 {σ τ R U : Type} {b1 : σ → (σ → Option R) → Option R} {b2 : τ → (τ → Option U) → Option U} {s : σ} {t : τ} (Q : Option R → Option U → Prop) (I : Nat → σ → τ → Prop) (n : Nat) (hn : n < 20000) (h0 : I 0 s t) (hs : ∀ i s t k1 k2, i ≤ n → I i s t → (i < n ∧ ∃ s' t', I (i + 1) s' t' ∧ b1 s k1 = k1 s' ∧ b2 t k2 = k2 t') ∨ Q (b1 s k1) (b2 t k2)) : Q (loopN b1 FUEL s) (loopN b2 FUEL t) := by
  have key : ∀ fuel j s t, j ≤ n → n - j < fuel → I j s t → Q (loopN b1 fuel s) (loopN b2 fuel t) := by
    intro fuel
    induction fuel with
    | zero => intro j s t _ h; omega
    | succ f ih =>
      intro j s t hj h hI
      show Q (b1 s (loopN b1 f)) (b2 t (loopN b2 f))
      rcases hs j s t (loopN b1 f) (loopN b2 f) hj hI with ⟨h1, s', t', h2, h3, h4⟩ | h1
      · rw [h3, h4]; exact ih (j + 1) s' t' (by omega) (by omega) h2
      · exact h1
  exact key FUEL 0 s t (Nat.zero_le _) (lt_F (by omega)) h0
/-! ===== a state of the class beside one of the model ===== -/
def So (n m T : Nat) (wall depth mood place : Nat → Int32) (moats spades tides : Int32) : Prop :=
  rng n wall ∧ rng n depth ∧ (∀ k, k < m → 0 ≤ mood k ∧ mood k ≤ 9) ∧ plOk place n m ∧ isW n moats ∧ isW m spades ∧ ∃ t, t ≤ T ∧ tides = nI t
def Sr (n m : Nat) (wall depth mood place : Nat → Int32) (moats spades tides : Int32) (r : Nat → Int32) : Prop :=
  (∀ c, c < n → r c = wall c) ∧ (∀ c, c < n → r (13 + c) = depth c) ∧ (∀ k, k < m → r (26 + 2 * k) = mood k) ∧ (∀ k, k < m → r (25 + 2 * k) = place k) ∧ r 12 = moats ∧ r 41 = spades ∧ r 42 = tides
def SS (n m T : Nat) (wall depth mood place : Nat → Int32) (moats spades tides : Int32) (r : Nat → Int32) : Prop := So n m T wall depth mood place moats spades tides ∧ Sr n m wall depth mood place moats spades tides r
def crR (m : Nat) (age skill friend pals age' skill' friend' : Nat → Int32) : Prop :=
  (∀ k, k < m → age' k = age k ∧ skill' k = skill k ∧ friend' k = friend k) ∧ (∀ k, k < m → 4 ≤ age k ∧ age k ≤ 13 ∧ 1 ≤ skill k ∧ skill k ≤ 9) ∧ palsOk friend pals m ∧ frOk friend m
def laR (n : Nat) (base dyke base' dyke' : Nat → Int32) : Prop :=
  (∀ c, c < n → base' c = base c ∧ dyke' c = dyke c) ∧ (∀ c, c < n → 0 ≤ base c ∧ base c ≤ 9) ∧ dyOk n dyke
theorem SS_mono {n m T T2 : Nat} (h : T ≤ T2) {wall depth mood place : Nat → Int32} {moats spades tides : Int32} {r : Nat → Int32} (hs : SS n m T wall depth mood place moats spades tides r) : SS n m T2 wall depth mood place moats spades tides r := by
  obtain ⟨⟨a, b, c, d, e, f, t, h1, h2⟩, h3⟩ := hs
  exact ⟨⟨a, b, c, d, e, f, t, by omega, h2⟩, h3⟩
theorem SS_at {n m T : Nat} {wall depth mood place : Nat → Int32} {moats spades tides : Int32} {r : Nat → Int32} (hs : SS n m T wall depth mood place moats spades tides r) : plOk (atS r) n m := by
  intro k hk
  show -1 ≤ r (25 + 2 * k) ∧ r (25 + 2 * k) < nI n
  rw [hs.2.2.2.2.1 k hk]; exact hs.1.2.2.2.1 k hk
theorem gs_congr {n m : Nat} {age skill friend age' skill' friend' wall depth mood place : Nat → Int32} {T : Nat} {moats spades tides : Int32} {r : Nat → Int32} (hs : SS n m T wall depth mood place moats spades tides r) (hc : ∀ k, k < m → age' k = age k ∧ skill' k = skill k ∧ friend' k = friend k) (c : Nat) : gotS age' skill' friend' (moS r) (atS r) (r 41) m m c = gotS age skill friend mood place spades m m c := by
  obtain ⟨-, -, -, h3, h4, -, h5, -⟩ := hs
  apply sumN_congr
  intro k hk
  rw [h5]
  have e1 : atS r k = place k := h4 k hk
  rw [e1, buck_congr (place' := atS r) (mood' := moS r) (fun k hk => (hc k hk).1) (fun k hk => (hc k hk).2.1) (fun k hk => (hc k hk).2.2) h4 h3 hk]
theorem clM_r {mood place : Nat → Int32} {k : Nat} (h : 0 ≤ mood k ∧ mood k ≤ 9) : 0 ≤ clM mood place k ∧ clM mood place k ≤ 9 := by
  unfold clM jmax
  obtain ⟨h1, h2⟩ := h
  split
  · exact ⟨h1, h2⟩
  · grind
theorem clP_r {mood place : Nat → Int32} {k n m : Nat} (hn : n ≤ 12) (hp : plOk place n m) (hk : k < m) : -1 ≤ clP mood place k ∧ clP mood place k < nI n := by
  have h := hp k hk
  unfold clP
  have : (-1 : Int32) < nI n := by
    have := nI_pos' (n := n) (by omega)
    grind
  split
  · exact h
  · split
    · exact ⟨Int32.le_refl _, this⟩
    · exact h
theorem min_ge {w s : Int32} (hw : 0 ≤ w) (hw2 : w ≤ 999) (hs : 0 ≤ s) (hs2 : s ≤ 2000) : w ≤ jmin 999 (w + s) := by unfold jmin; grind
/-- a spell, side by side -/
theorem j_spell {n m T : Nat} (hn : n ≤ 12) (hm : m ≤ 8) {age skill friend pals age' skill' friend' wall depth mood place : Nat → Int32} {moats spades tides : Int32} {r : Nat → Int32} (hc : crR m age skill friend pals age' skill' friend') (hs : SS n m T wall depth mood place moats spades tides r) (gets : Nat → Int32) (wh : Int32) : ∃ wall' mood' place' gets' r', fX9_spell spades wall mood place (nI m) age skill pals (nI n) = some (wall', mood', place') ∧ fX12_spellGoes (nI n) (nI m) wh age' skill' friend' gets r = some (upT (fun k a => if homB mood place k then a ||| jshl 1 (nI k) else a) m wh, gets', r') ∧ SS n m T wall' depth mood' place' moats spades tides r' ∧ (∀ k, k < m → mood' k = clM mood place k ∧ place' k = clP mood place k) ∧ (∀ c, c < n → wall c ≤ wall' c) := by
  have hp := SS_at hs
  obtain ⟨c1, c2, c3, c4⟩ := hc
  have hf : frOk friend' m := by
    intro k hk
    rw [(c1 k hk).2.2]; exact c4 k hk
  obtain ⟨gets', eM⟩ := t_spellM hn hm (age := age') (skill := skill') gets wh hf hp
  have eC := t_spell hn hm (age := age) (mood := mood) (spades := spades) c3 (fun k hk => (c2 k hk).2.2) hs.1.1 hs.1.2.2.2.1
  have eg := gs_congr hs c1
  have hh : upT (fun k a => if homB (moS r) (atS r) k then a ||| jshl 1 (nI k) else a) m wh = upT (fun k a => if homB mood place k then a ||| jshl 1 (nI k) else a) m wh := by
    apply upT_congr
    intro k hk x
    have e1 : atS r k = place k := hs.2.2.2.2.1 k hk
    have e2 : moS r k = mood k := hs.2.2.2.1 k hk
    have e3 : homB (moS r) (atS r) k = homB mood place k := by simp only [homB, e1, e2]
    simp only [e3]
  rw [hh] at eM
  have hgot : ∀ c, c < n → 0 ≤ gotS age skill friend mood place spades m m c ∧ gotS age skill friend mood place spades m m c ≤ 2000 := by
    intro c hc
    have hS := sum_r (f := fun k => if place k = nI c then buckS age skill friend place mood spades m k else 0) (n := m) (by omega) (fun k hk => by
      show 0 ≤ (if place k = nI c then _ else _) ∧ (if place k = nI c then _ else _) ≤ 100
      split
      · exact buck_r (c2 k hk).2.2
      · decide)
    have hS2 : sumN (fun k => if place k = nI c then buckS age skill friend place mood spades m k else 0) m ≤ 2000 := by
      have : (100 : Int32) * nI m ≤ 2000 := by
        show nI 100 * nI m ≤ nI 2000
        rw [pk_mul, nI_leI (by omega) (by omega)]; omega
      exact Int32.le_trans hS.2 this
    exact ⟨hS.1, hS2⟩
  refine ⟨_, _, _, gets', _, eC, eM, ⟨⟨?_, hs.1.2.1, ?_, ?_, hs.1.2.2.2.2⟩, ⟨?_, ?_, ?_, ?_, ?_, ?_, ?_⟩⟩, ?_, ?_⟩
  · intro c hc
    simp only [clW]
    rw [if_pos hc]
    exact min_r (hs.1.1 c hc).1 (hs.1.1 c hc).2 (hgot c hc).1 (hgot c hc).2
  · intro k hk
    rw [fill_lt _ _ hk]; exact clM_r (hs.1.2.2.1 k hk)
  · intro k hk
    rw [fill_lt _ _ hk]; exact clP_r hn hs.1.2.2.2.1 hk
  · intro c hc
    simp only [mdR, clW]
    rw [if_pos hc, if_pos hc, eg c, hs.2.1 c hc]
  · intro c hc
    simp only [mdR]
    rw [if_neg (by omega), if_neg (by omega)]; exact hs.2.2.1 c hc
  · intro k hk
    simp only [mdR]
    have e1 : ¬ (26 + 2 * k - 25) % 2 = 0 := by omega
    have e2 : (26 + 2 * k - 25) / 2 = k := by omega
    rw [if_neg (by omega), if_pos (by omega), if_neg e1, e2, fill_lt _ _ hk]
    have e3 : atS r k = place k := hs.2.2.2.2.1 k hk
    have e4 : moS r k = mood k := hs.2.2.2.1 k hk
    simp only [clM, e3, e4]
  · intro k hk
    simp only [mdR]
    have e1 : (25 + 2 * k - 25) % 2 = 0 := by omega
    have e2 : (25 + 2 * k - 25) / 2 = k := by omega
    rw [if_neg (by omega), if_pos (by omega), if_pos e1, e2, fill_lt _ _ hk]
    have e3 : atS r k = place k := hs.2.2.2.2.1 k hk
    have e4 : moS r k = mood k := hs.2.2.2.1 k hk
    simp only [clP, e3, e4]
  · simp only [mdR]; rw [if_neg (by omega), if_neg (by omega)]; exact hs.2.2.2.2.2.1
  · simp only [mdR]; rw [if_neg (by omega), if_neg (by omega)]; exact hs.2.2.2.2.2.2.1
  · simp only [mdR]; rw [if_neg (by omega), if_neg (by omega)]; exact hs.2.2.2.2.2.2.2
  · intro k hk
    exact ⟨fill_lt _ _ hk, fill_lt _ _ hk⟩
  · intro c hc
    simp only [clW]
    rw [if_pos hc]
    exact min_ge (hs.1.1 c hc).1 (hs.1.1 c hc).2 (hgot c hc).1 (hgot c hc).2
/-! ===== how high ===== -/
def laC (F : Int32 → Int32 → Int32 → Int32 → Int32) (len : Int32) (codes : Nat → Int32) : Prop := ∀ st a b c d, ∃ st', fX6_value len codes st a b c d = some (jmax 0 (jmin 999 (F a b c d)), st')
def laM (F : Int32 → Int32 → Int32 → Int32 → Int32) (long : Int32) (code : Nat → Int32) : Prop := ∀ st asked, ∃ st', fX12_ruled long code st asked = some (F (asked 0) (asked 1) (asked 2) (asked 3), st')
def levS (F : Int32 → Int32 → Int32 → Int32 → Int32) (wind cells moats num : Int32) : Int32 := jmax 0 (jmin 999 (F (jrem num 8) wind cells (bcS moats)))
theorem cl_r (x : Int32) : 0 ≤ jmax 0 (jmin 999 x) ∧ jmax 0 (jmin 999 x) ≤ 999 := by unfold jmax jmin; grind
theorem lev_r (F : Int32 → Int32 → Int32 → Int32 → Int32) (wind cells moats num : Int32) : 0 ≤ levS F wind cells moats num ∧ levS F wind cells moats num ≤ 999 := cl_r _
theorem t_heightOf {F : Int32 → Int32 → Int32 → Int32 → Int32} {len : Int32} {codes : Nat → Int32} (h : laC F len codes) (st : Nat → Int32) (wind moats tides cells x3 : Int32) : ∃ st', fX11_heightOf wind len codes st moats tides cells x3 = some (levS F wind cells moats (tides + x3), st') := by
  obtain ⟨st', e⟩ := h st (jrem (tides + x3) 8) wind cells (bcS moats)
  refine ⟨st', ?_⟩
  simp only [fX11_heightOf, t_bc, Option.bind_some, e]
  rfl
theorem t_levelOf {F : Int32 → Int32 → Int32 → Int32 → Int32} {long : Int32} {code : Nat → Int32} (h : laM F long code) (st asked fixed r : Nat → Int32) (cells num : Int32) : ∃ st' asked', fX12_levelOf cells long fixed code st asked r num = some (levS F (fixed 0) cells (r 12) num, st', asked') := by
  obtain ⟨st', e⟩ := h st (upd (upd (upd (upd asked 0 (jrem num 8)) 1 (fixed 0)) 2 cells) 3 (bcS (r 12)))
  have i0 : inb (0 : Int32) 4 := inb_n (i := 0) (by omega) (by omega)
  have i1 : inb (0 : Int32) 2 := inb_n (i := 0) (by omega) (by omega)
  have i2 : inb (1 : Int32) 4 := inb_n (i := 1) (by omega) (by omega)
  have i3 : inb (2 : Int32) 4 := inb_n (i := 2) (by omega) (by omega)
  have i4 : inb (12 : Int32) 43 := inb_n (i := 12) (by omega) (by omega)
  have i5 : inb (3 : Int32) 4 := inb_n (i := 3) (by omega) (by omega)
  have n0 : (0 : Int32).toNatClampNeg = 0 := rfl
  have n1 : (1 : Int32).toNatClampNeg = 1 := rfl
  have n2 : (2 : Int32).toNatClampNeg = 2 := rfl
  have n3 : (3 : Int32).toNatClampNeg = 3 := rfl
  have n12 : (12 : Int32).toNatClampNeg = 12 := rfl
  refine ⟨st', upd (upd (upd (upd asked 0 (jrem num 8)) 1 (fixed 0)) 2 cells) 3 (bcS (r 12)), ?_⟩
  simp only [fX12_levelOf, if_pos i0, if_pos i1, if_pos i2, if_pos i3, if_pos i4, if_pos i5, n0, n1, n2, n3, n12, t_bc, Option.bind_some, e]
  rfl
/-! ===== a tide ===== -/
def brkS (n : Nat) (h : Int32) (base wall : Nat → Int32) : Int32 := bitsN (fun c => !decide (h ≤ topS base wall c)) n
def tdW (h moats : Int32) (base wall : Nat → Int32) (c : Nat) : Int32 := if h ≤ topS base wall c then jmax 0 (wall c - washS h (base c) (bitB moats c)) else wall c / 2
def tdD (h : Int32) (base wall depth : Nat → Int32) (c : Nat) : Int32 := if h ≤ topS base wall c then depth c else jmin 999 (depth c + (h - topS base wall c))
theorem top_r {b w : Int32} (h1 : 0 ≤ b) (h2 : b ≤ 9) (h3 : 0 ≤ w) (h4 : w ≤ 999) : 0 ≤ 10 * b + w ∧ 10 * b + w ≤ 1089 := by grind
theorem sub_le0 {h t : Int32} (h1 : 0 ≤ h) (h2 : h ≤ 999) (h3 : 0 ≤ t) (h4 : t ≤ 1089) : (h - t ≤ 0) ↔ (h ≤ t) := by grind
theorem fill_id {A f : Nat → Int32} {i : Nat} (h : A i = f i) : fillN A f (i + 1) = fillN A f i := by
  rw [← fill_s, upd_id]; rw [fill_at, h]
theorem t_surge {n : Nat} (hn : n ≤ 12) (h1 : 1 ≤ n) {wall depth base dyke : Nat → Int32} (moats tides h : Int32) (hw : rng n wall) (hb : ∀ c, c < n → 0 ≤ base c ∧ base c ≤ 9) (hh : 0 ≤ h ∧ h ≤ 999) : fX9_surge moats tides wall depth (nI n) base dyke h = some (brkS n h base wall, moats &&& (brkS n h base wall ^^^ (-1)), tides + 1, fillN (tdW h moats base wall) wall n, spreadS n (fillN (tdD h base wall depth) depth n) dyke) := by
  unfold fX9_surge fX9_surge_b4
  refine lp_up (fun i => (fillN (tdW h moats base wall) wall i, fillN (tdD h base wall depth) depth i, bitsN (fun c => !decide (h ≤ topS base wall c)) i, nI i)) n (by omega) (by rw [fill_0, fill_0]; rfl) ?_ ?_
  · intro i hi k
    have h12 : i < 12 := by omega
    have ht : topS base (fillN (tdW h moats base wall) wall i) i = topS base wall i := by simp only [topS, fill_at]
    have hr := top_r (hb i hi).1 (hb i hi).2 (hw i hi).1 (hw i hi).2
    have hs := sub_le0 hh.1 hh.2 hr.1 hr.2
    have hs : (h - topS base wall i ≤ 0) ↔ (h ≤ topS base wall i) := hs
    have eW := fill_s (tdW h moats base wall) wall i
    have eD := fill_s (tdD h base wall depth) depth i
    by_cases hc : h ≤ topS base wall i
    · have vW : tdW h moats base wall i = jmax 0 (wall i - washS h (base i) (bitB moats i)) := by simp [tdW, hc]
      have vD : fillN (tdD h base wall depth) depth (i + 1) = fillN (tdD h base wall depth) depth i := fill_id (by simp [tdD, hc])
      rw [vW] at eW
      cases hm : bitB moats i
      · rw [hm] at eW
        have hwsh := t_wash h (base i) false
        rw [b2i_f] at hwsh
        simp (disch := omega) [fX9_surge_b125, fX9_surge_b119, fX9_surge_b85, fX9_surge_l4, nI_leI, nI_ltI, nI_clamp, nI_pos', nI_1, nI_eq, Nat.not_le.mpr hi, h12, t_top, ht, hs, hc, bitB_0, hm, hwsh, fill_at, ← eW, vD, bitsN_s]
      · rw [hm] at eW
        have hwsh := t_wash h (base i) true
        rw [b2i_t] at hwsh
        simp (disch := omega) [fX9_surge_b125, fX9_surge_b119, fX9_surge_b85, fX9_surge_l4, nI_leI, nI_ltI, nI_clamp, nI_pos', nI_1, nI_eq, Nat.not_le.mpr hi, h12, t_top, ht, hs, hc, bitB_0, hm, hwsh, fill_at, ← eW, vD, bitsN_s]
    · have vW : tdW h moats base wall i = wall i / 2 := by simp [tdW, hc]
      have vD : tdD h base wall depth i = jmin 999 (depth i + (h - topS base wall i)) := by simp [tdD, hc]
      rw [vW] at eW
      rw [vD] at eD
      simp (disch := omega) [fX9_surge_b125, fX9_surge_b119, fX9_surge_b85, fX9_surge_l4, nI_leI, nI_ltI, nI_clamp, nI_pos', nI_1, nI_eq, Nat.not_le.mpr hi, h12, t_top, ht, hs, hc, fill_at, ← eW, ← eD, bitsN_s]
  · intro k
    simp (disch := omega) [fX9_surge_b125, fX9_surge_b119, fX9_surge_b85, fX9_surge_l4, nI_leI, nI_ltI, nI_clamp, nI_pos', nI_1, nI_eq, t_spread hn h1, brkS]
def tdR (h : Int32) (base r : Nat → Int32) (i : Nat) : Nat → Int32 := fun j => if j < i then tdW h (r 12) base r j else if 13 ≤ j ∧ j < 13 + i then tdD h base r (fun c => r (13 + c)) (j - 13) else r j
theorem tdR_w {h : Int32} {base r : Nat → Int32} {i : Nat} (hi : i < 12) : upd (upd (tdR h base r i) (13 + i) (tdD h base r (fun c => r (13 + c)) i)) i (tdW h (r 12) base r i) = tdR h base r (i + 1) := by
  funext j
  by_cases e : j = i
  · subst e; rw [pk_us]; simp only [tdR]; rw [if_pos (by omega)]
  · rw [pk_un e]
    by_cases e2 : j = 13 + i
    · subst e2
      have e3 : 13 + i - 13 = i := by omega
      rw [pk_us]; simp only [tdR]; rw [if_neg (by omega), if_pos (by omega), e3]
    · rw [pk_un e2]
      simp only [tdR]
      have a1 : (j < i + 1) ↔ (j < i) := by omega
      have a2 : (13 ≤ j ∧ j < 13 + (i + 1)) ↔ (13 ≤ j ∧ j < 13 + i) := by omega
      simp only [a1, a2]
theorem sub_as (a b c : Int32) : a + b - c = a + (b - c) := by grind
theorem leastK_congr {n : Nat} {dyke d dyke' d' K : Nat → Int32} (h1 : ∀ c, c < n → dyke' c = dyke c) (h2 : ∀ c, c < n → d' c = d c) (h : leastK n dyke d K) : leastK n dyke' d' K := by
  obtain ⟨k1, k2, k3, k4⟩ := h
  have sc : ∀ D, stab n dyke' D → stab n dyke D := fun D hD c hc => by
    have := hD c hc; rw [h1 c (by omega)] at this; exact this
  refine ⟨k1, fun c hc => by rw [h2 c hc]; exact k2 c hc, fun c hc => by rw [h1 c (by omega)]; exact k3 c hc, fun D d1 d2 d3 => k4 D d1 (fun c hc => by rw [← h2 c hc]; exact d2 c hc) (sc D d3)⟩
def tdF (n : Nat) (h brk : Int32) (base r K : Nat → Int32) : Nat → Int32 := fun j => if j < n then tdW h (r 12) base r j else if 13 ≤ j ∧ j < 13 + n then K (j - 13) else if j = 12 then r 12 &&& (brk ^^^ (-1)) else if j = 42 then r 42 + 1 else r j
theorem tdF_eq {n : Nat} (hn : n ≤ 12) (h brk : Int32) (base r K : Nat → Int32) : upd (fun j => if 13 ≤ j ∧ j < 13 + n then K (j - 13) else upd (tdR h base r n) 12 (r 12 &&& (brk ^^^ (-1))) j) 42 (r 42 + 1) = tdF n h brk base r K := by
  funext j
  simp only [tdF]
  by_cases e42 : j = 42
  · subst e42
    rw [pk_us, if_neg (by omega), if_neg (by omega), if_neg (by omega), if_pos rfl]
  · rw [pk_un e42]
    by_cases ej : j < n
    · rw [if_pos ej, if_neg (by omega), pk_un (by omega)]
      simp only [tdR]; rw [if_pos ej]
    · rw [if_neg ej]
      by_cases e13 : 13 ≤ j ∧ j < 13 + n
      · rw [if_pos e13, if_pos e13]
      · rw [if_neg e13, if_neg e13, if_neg e42]
        by_cases e12 : j = 12
        · subst e12; rw [pk_us, if_pos rfl]
        · rw [pk_un e12, if_neg e12]
          simp only [tdR]; rw [if_neg ej, if_neg e13]
theorem t_tide138 {n : Nat} (hn : n ≤ 12) (h1 : 1 ≤ n) {base dyke r K : Nat → Int32} (long lvl h brk : Int32) (fixed code stack asked : Nat → Int32) (hy : ∀ c, c + 1 < n → 0 ≤ dyke c ∧ dyke c ≤ 9) (hr : rng n (fun c => tdD h base r (fun c => r (13 + c)) c)) (hK : leastK n dyke (fun c => tdD h base r (fun c => r (13 + c)) c) K) : fX12_tideComes_b138 (nI n) long lvl base dyke fixed code stack asked (tdR h base r n) brk = some (brk, lvl, stack, asked, tdF n h brk base r K) := by
  have i42 : inb (42 : Int32) 43 := inb_n (i := 42) (by omega) (by omega)
  have n42 : (42 : Int32).toNatClampNeg = 42 := rfl
  have i12 : inb (12 : Int32) 43 := inb_n (i := 12) (by omega) (by omega)
  have n12 : (12 : Int32).toNatClampNeg = 12 := rfl
  have a12 : tdR h base r n 12 = r 12 := by simp only [tdR]; rw [if_neg (by omega), if_neg (by omega)]
  have a42 : tdR h base r n 42 = r 42 := by simp only [tdR]; rw [if_neg (by omega), if_neg (by omega)]
  have hx : ∀ c, c < n → upd (tdR h base r n) 12 (r 12 &&& (brk ^^^ (-1))) (13 + c) = tdD h base r (fun c => r (13 + c)) c := by
    intro c hc
    have e3 : 13 + c - 13 = c := by omega
    rw [pk_un (by omega)]; simp only [tdR]; rw [if_neg (by omega), if_pos (by omega), e3]
  have hK2 : leastK n dyke (fun c => upd (tdR h base r n) 12 (r 12 &&& (brk ^^^ (-1))) (13 + c)) K := leastK_congr (fun _ _ => rfl) hx hK
  have hr2 : rng n (fun c => upd (tdR h base r n) 12 (r 12 &&& (brk ^^^ (-1))) (13 + c)) := fun c hc => by
    show 0 ≤ upd (tdR h base r n) 12 _ (13 + c) ∧ upd (tdR h base r n) 12 _ (13 + c) ≤ 999
    rw [hx c hc]; exact hr c hc
  have eW := t_waterGoes hn h1 hy hr2 hK2
  have e42 : (fun j => if 13 ≤ j ∧ j < 13 + n then K (j - 13) else upd (tdR h base r n) 12 (r 12 &&& (brk ^^^ (-1))) j) 42 = r 42 := by
    simp only []
    rw [if_neg (by omega), pk_un (by omega), a42]
  rw [fX12_tideComes_b138, if_pos i12, n12, a12, eW, Option.bind_some, if_pos i42, n42, e42, tdF_eq hn]
theorem t_tide25 {n : Nat} (hn : n ≤ 12) {base r : Nat → Int32} (long h : Int32) (dyke fixed code stack asked : Nat → Int32) : fX12_tideComes_b25 (nI n) long h base dyke fixed code stack asked r (brkS n h base r) 0 = fX12_tideComes_b138 (nI n) long h base dyke fixed code stack asked (tdR h base r n) (brkS n h base r) := by
  have i12 : inb (12 : Int32) 43 := inb_n (i := 12) (by omega) (by omega)
  have n12 : (12 : Int32).toNatClampNeg = 12 := rfl
  unfold fX12_tideComes_b25
  refine lp_up (fun i => (tdR h base r i, nI i)) n (by omega) ?_ ?_ ?_
  · have : tdR h base r 0 = r := by
      funext j; simp only [tdR]; rw [if_neg (by omega), if_neg (by omega)]
    simp only [this]; rfl
  · intro i hi k
    have h12 : i < 12 := by omega
    have h43 : i < 43 := by omega
    have h13 : 13 + i < 43 := by omega
    have a12 : tdR h base r i 12 = r 12 := by simp only [tdR]; rw [if_neg (by omega), if_neg (by omega)]
    have ai : tdR h base r i i = r i := by simp only [tdR]; rw [if_neg (by omega), if_neg (by omega)]
    have ad : tdR h base r i (13 + i) = r (13 + i) := by simp only [tdR]; rw [if_neg (by omega), if_neg (by omega)]
    have at1 : topS base (tdR h base r i) i = topS base r i := by simp only [topS, ai]
    have eT := tdR_w (h := h) (base := base) (r := r) h12
    have hB : bitB (brkS n h base r) i = !decide (h ≤ topS base r i) := bitB_bits _ (by omega) hi
    generalize brkS n h base r = brk at *
    by_cases hc : h ≤ topS base r i
    · have vD : tdD h base r (fun c => r (13 + c)) i = r (13 + i) := by simp [tdD, hc]
      rw [vD, upd_id _ ad] at eT
      have vW : tdW h (r 12) base r i = jmax 0 (r i - washS h (base i) (bitB (r 12) i)) := by simp [tdW, hc]
      rw [vW] at eT
      cases hm : bitB (r 12) i
      · rw [hm] at eT
        simp (disch := omega) [fX12_tideComes_b138, fX12_tideComes_b132, fX12_tideComes_b116, fX12_tideComes_l25, nI_leI, nI_ltI, nI_clamp, nI_pos', nI_1, nI_eq, Nat.not_le.mpr hi, h12, h43, t_hasM, hB, hc, b2i, i12, n12, a12, hm, ai, ← eT, washS]
      · rw [hm] at eT
        simp (disch := omega) [fX12_tideComes_b138, fX12_tideComes_b132, fX12_tideComes_b116, fX12_tideComes_l25, nI_leI, nI_ltI, nI_clamp, nI_pos', nI_1, nI_eq, Nat.not_le.mpr hi, h12, h43, t_hasM, hB, hc, b2i, i12, n12, a12, hm, ai, ← eT, washS]
    · have vW : tdW h (r 12) base r i = r i / 2 := by simp [tdW, hc]
      have vD : tdD h base r (fun c => r (13 + c)) i = jmin 999 (r (13 + i) + (h - topS base r i)) := by simp [tdD, hc]
      rw [vW, vD] at eT
      have au : ∀ x, upd (tdR h base r i) (13 + i) x i = r i := fun x => by rw [pk_un (by omega), ai]
      simp (disch := omega) [fX12_tideComes_b138, fX12_tideComes_b132, fX12_tideComes_b116, fX12_tideComes_l25, nI_leI, nI_ltI, nI_clamp, nI_pos', nI_1, nI_eq, ix_d, Nat.not_le.mpr hi, h12, h43, h13, t_hasM, hB, hc, b2i, t_topOf, at1, ad, au, sub_as, ← eT]
  · intro k
    have hle : nI n ≤ nI n := nI_le (Nat.le_refl n) (by omega)
    simp only [fX12_tideComes_l25, if_pos hle]
theorem t_tideM {n : Nat} (hn : n ≤ 12) (h1 : 1 ≤ n) {F : Int32 → Int32 → Int32 → Int32 → Int32} {long : Int32} {code : Nat → Int32} (hF : laM F long code) {base dyke fixed r K : Nat → Int32} {h : Int32} (hh : levS F (fixed 0) (nI n) (r 12) (r 42) = h) (lvl : Int32) (stack asked : Nat → Int32) (hy : ∀ c, c + 1 < n → 0 ≤ dyke c ∧ dyke c ≤ 9) (hr : rng n (fun c => tdD h base r (fun c => r (13 + c)) c)) (hK : leastK n dyke (fun c => tdD h base r (fun c => r (13 + c)) c) K) : ∃ st' as', fX12_tideComes (nI n) long lvl base dyke fixed code stack asked r = some (brkS n h base r, h, st', as', tdF n h (brkS n h base r) base r K) := by
  obtain ⟨st', as', e⟩ := t_levelOf hF stack asked fixed r (nI n) (r 42)
  rw [hh] at e
  refine ⟨st', as', ?_⟩
  have i42 : inb (42 : Int32) 43 := inb_n (i := 42) (by omega) (by omega)
  have n42 : (42 : Int32).toNatClampNeg = 42 := rfl
  have el : fX12_lowBy (nI n) base r h = some (brkS n h base r) := t_lowBy hn base r h
  have e138 := t_tide138 hn h1 long h h (brkS n h base r) fixed code st' as' hy hr hK
  rw [← t_tide25 hn long h dyke fixed code st' as'] at e138
  simp only [fX12_tideComes, if_pos i42, n42, e, el, Option.bind_some, e138]
theorem div_r {x : Int32} {d : Nat} (h0 : 0 ≤ x) (h1 : x ≤ 999) (hd : 0 < d) (hd2 : d < 100) : 0 ≤ x / nI d ∧ x / nI d ≤ 999 := by
  obtain ⟨j, hj, rfl⟩ := nI_of2 (x := x) (M := 999) (n := 999) rfl (by grind) h1
  rw [pk_div (by omega) hd (by omega)]
  have : j / d ≤ j := Nat.div_le_self _ _
  exact ⟨nI_pos' (by omega), nI_le (b := 999) (by omega) (by omega)⟩
theorem wsh_r0 {h b : Int32} (h1 : 0 ≤ h) (h2 : h ≤ 999) (h3 : 0 ≤ b) (h4 : b ≤ 9) : 0 ≤ jmax 0 (h - 10 * b) ∧ jmax 0 (h - 10 * b) ≤ 999 := by unfold jmax; grind
theorem wsh_r {h b : Int32} (m : Bool) (h1 : 0 ≤ h) (h2 : h ≤ 999) (h3 : 0 ≤ b) (h4 : b ≤ 9) : 0 ≤ washS h b m ∧ washS h b m ≤ 999 := by
  have := wsh_r0 h1 h2 h3 h4
  unfold washS
  cases m
  · exact div_r (d := 4) this.1 this.2 (by omega) (by omega)
  · exact div_r (d := 8) this.1 this.2 (by omega) (by omega)
theorem mx_r {a b : Int32} (h1 : 0 ≤ a) (h2 : a ≤ 999) (h3 : 0 ≤ b) (h4 : b ≤ 999) : 0 ≤ jmax 0 (a - b) ∧ jmax 0 (a - b) ≤ 999 := by unfold jmax; grind
theorem tdW_r {h moats : Int32} {base wall : Nat → Int32} {c : Nat} (hh : 0 ≤ h ∧ h ≤ 999) (hb : 0 ≤ base c ∧ base c ≤ 9) (hw : 0 ≤ wall c ∧ wall c ≤ 999) : 0 ≤ tdW h moats base wall c ∧ tdW h moats base wall c ≤ 999 := by
  unfold tdW
  split
  · have := wsh_r (bitB moats c) hh.1 hh.2 hb.1 hb.2
    exact mx_r hw.1 hw.2 this.1 this.2
  · exact div_r (d := 2) hw.1 hw.2 (by omega) (by omega)
theorem mn_r {d h t : Int32} (h1 : 0 ≤ d) (h2 : d ≤ 999) (h3 : 0 ≤ h) (h4 : h ≤ 999) (h5 : 0 ≤ t) (h6 : t ≤ 1089) (h7 : ¬ h ≤ t) : 0 ≤ jmin 999 (d + (h - t)) ∧ jmin 999 (d + (h - t)) ≤ 999 := by unfold jmin; grind
theorem tdD_r {h : Int32} {base wall depth : Nat → Int32} {c : Nat} (hh : 0 ≤ h ∧ h ≤ 999) (hb : 0 ≤ base c ∧ base c ≤ 9) (hw : 0 ≤ wall c ∧ wall c ≤ 999) (hd : 0 ≤ depth c ∧ depth c ≤ 999) : 0 ≤ tdD h base wall depth c ∧ tdD h base wall depth c ≤ 999 := by
  have ht := top_r hb.1 hb.2 hw.1 hw.2
  unfold tdD
  split
  · exact hd
  · exact mn_r hd.1 hd.2 hh.1 hh.2 ht.1 ht.2 (by assumption)
/-- a tide, side by side -/
theorem j_tide {n m T : Nat} (hn : n ≤ 12) (h1 : 1 ≤ n) (hm : m ≤ 8) {F : Int32 → Int32 → Int32 → Int32 → Int32} {long : Int32} {code : Nat → Int32} (hF : laM F long code) {base dyke base' dyke' fixed wall depth mood place : Nat → Int32} {moats spades tides : Int32} {r : Nat → Int32} (hl : laR n base dyke base' dyke') (hs : SS n m T wall depth mood place moats spades tides r) (lvl : Int32) (stack asked : Nat → Int32) : ∃ wall' depth' r' st' as', fX9_surge moats tides wall depth (nI n) base dyke (levS F (fixed 0) (nI n) moats tides) = some (brkS n (levS F (fixed 0) (nI n) moats tides) base wall, moats &&& (brkS n (levS F (fixed 0) (nI n) moats tides) base wall ^^^ (-1)), tides + 1, wall', depth') ∧ fX12_tideComes (nI n) long lvl base' dyke' fixed code stack asked r = some (brkS n (levS F (fixed 0) (nI n) moats tides) base wall, levS F (fixed 0) (nI n) moats tides, st', as', r') ∧ SS n m (T + 1) wall' depth' mood place (moats &&& (brkS n (levS F (fixed 0) (nI n) moats tides) base wall ^^^ (-1))) spades (tides + 1) r' := by
  obtain ⟨l1, l2, l3⟩ := hl
  obtain ⟨⟨o1, o2, o3, o4, o5, o6, t, o7, o8⟩, s1, s2, s3, s4, s5, s6, s7⟩ := hs
  have hh := lev_r F (fixed 0) (nI n) moats tides
  have ehh : levS F (fixed 0) (nI n) (r 12) (r 42) = levS F (fixed 0) (nI n) moats tides := by rw [s5, s7]
  have eC := t_surge hn h1 (depth := depth) (dyke := dyke) moats tides (levS F (fixed 0) (nI n) moats tides) o1 l2 hh
  generalize levS F (fixed 0) (nI n) moats tides = h at *
  have et : ∀ c, c < n → topS base' r c = topS base wall c := fun c hc => by simp only [topS, (l1 c hc).1, s1 c hc]
  have eb : brkS n h base' r = brkS n h base wall := bitsN_congr (fun c hc => by rw [et c hc])
  have eD : ∀ c, c < n → tdD h base' r (fun c => r (13 + c)) c = fillN (tdD h base wall depth) depth n c := fun c hc => by
    rw [fill_lt _ _ hc]; simp only [tdD, et c hc, s2 c hc]
  have eW : ∀ c, c < n → tdW h moats base' r c = tdW h moats base wall c := fun c hc => by
    simp only [tdW, et c hc, (l1 c hc).1, s1 c hc]
  have rD : rng n (fillN (tdD h base wall depth) depth n) := fun c hc => by
    rw [fill_lt _ _ hc]; exact tdD_r hh (l2 c hc) (o1 c hc) (o2 c hc)
  have hK := leastK_congr (fun c hc => (l1 c hc).2) eD (sp_least rD l3)
  have hr : rng n (fun c => tdD h base' r (fun c => r (13 + c)) c) := fun c hc => by
    show 0 ≤ tdD h base' r (fun c => r (13 + c)) c ∧ tdD h base' r (fun c => r (13 + c)) c ≤ 999
    rw [eD c hc]; exact rD c hc
  obtain ⟨st', as', eM⟩ := t_tideM hn h1 hF (base := base') (dyke := dyke') (fixed := fixed) (r := r) (K := spreadS n (fillN (tdD h base wall depth) depth n) dyke) ehh lvl stack asked (fun c hc => by rw [(l1 c (by omega)).2]; exact l3 c (by omega)) hr hK
  rw [eb] at eM
  refine ⟨_, _, _, st', as', eC, eM, ⟨⟨?_, hK.1, o3, o4, isW_and (by omega) _ o5, o6, t + 1, by omega, by rw [o8, nI_1]⟩, ?_, ?_, ?_, ?_, ?_, ?_, ?_⟩⟩
  · intro c hc
    rw [fill_lt _ _ hc]; exact tdW_r hh (l2 c hc) (o1 c hc)
  · intro c hc
    rw [fill_lt _ _ hc]
    show (if c < n then _ else _) = _
    rw [if_pos hc, s5, eW c hc]
  · intro c hc
    have e3 : 13 + c - 13 = c := by omega
    show (if 13 + c < n then _ else _) = _
    rw [if_neg (by omega), if_pos (by omega), e3]
  · intro k hk
    show (if 26 + 2 * k < n then _ else _) = _
    by_cases e42 : 26 + 2 * k = 42
    · omega
    · rw [if_neg (by omega), if_neg (by omega), if_neg (by omega), if_neg e42, s3 k hk]
  · intro k hk
    show (if 25 + 2 * k < n then _ else _) = _
    rw [if_neg (by omega), if_neg (by omega), if_neg (by omega), if_neg (by omega), s4 k hk]
  · show (if 12 < n then _ else _) = _
    rw [if_neg (by omega), if_neg (by omega), if_pos rfl, s5]
  · show (if 41 < n then _ else _) = _
    rw [if_neg (by omega), if_neg (by omega), if_neg (by omega), if_neg (by omega), s6]
  · show (if 42 < n then _ else _) = _
    rw [if_neg (by omega), if_neg (by omega), if_neg (by omega), if_pos rfl, s7]
