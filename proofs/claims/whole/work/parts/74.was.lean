/-! ===== ways and was ===== -/
theorem nF_congrq {q : Nat → Bool} {P Q : Nat → Nat → Bool} {s : Nat → Nat} (h : ∀ c, c < 12 → q c = true → P c = Q c) : ∀ {j R : Nat}, j ≤ 12 → nF q P s j R = nF q Q s j R
  | 0, _, _ => rfl
  | j + 1, R, hj => by
    simp only [nF]
    cases hq : q (11 - j)
    · simp only [Bool.false_eq_true, if_false]
      exact nF_congrq h (by omega)
    · simp only [if_true]
      rw [h (11 - j) (by omega) hq]
      apply smL_congr
      intro T _
      rw [nF_congrq h (R := dfN R T) (by omega)]
def eqv (cells : Int32) (op op' : Nat → Int32) : Prop := ∀ c, c < 12 → bitB cells c = true → op c = op' c
theorem wy_congr {cells : Int32} {s : Nat → Nat} {op op' : Nat → Int32} (h : eqv cells op op') (R : Nat) : wyN cells s op R = wyN cells s op' R := by
  unfold wyN
  exact nF_congrq (fun c hc hq => by funext x; rw [h c hc hq]) (Nat.le_refl _)
theorem eqv_op {cells : Int32} {op op' : Nat → Int32} (h : eqv cells op op') (c x : Nat) : eqv cells (opS op c x) (opS op' c x) := by
  intro d hd hb
  unfold opS
  by_cases e : d = c
  · subst e; rw [pk_us, pk_us, h d hd hb]
  · rw [pk_un e, pk_un e]; exact h d hd hb
theorem fst_congr {p q : Nat → Bool} : ∀ {n : Nat}, (∀ t, t < n → p t = q t) → fstN p n = fstN q n
  | 0, _ => rfl
  | n + 1, h => by
    simp only [fstN]
    rw [fst_congr (fun t ht => h t (by omega)), h n (by omega)]
theorem mw_congr {cells : Int32} {s : Nat → Nat} {m k : Nat} {op op' : Nat → Int32} (h : eqv cells op op') : mwN cells s m k op = mwN cells s m k op' := wy_congr h _
theorem ch_congr {cells : Int32} {s : Nat → Nat} {m k : Nat} {op op' : Nat → Int32} (h : eqv cells op op') : chC cells s m k op = chC cells s m k op' := fst_congr (fun t _ => by rw [mw_congr (eqv_op h t (s k))])
theorem chV_congr {cells : Int32} {s : Nat → Nat} {m k : Nat} {op op' : Nat → Int32} (h : eqv cells op op') : chV cells s m k op = chV cells s m k op' := by
  unfold chV
  rw [mw_congr h, ch_congr h]
theorem chO_congr {cells : Int32} {s : Nat → Nat} {m k : Nat} {op op' : Nat → Int32} (h : eqv cells op op') : eqv cells (chO cells s m k op) (chO cells s m k op') := by
  unfold chO
  rw [mw_congr h, ch_congr h]
  split
  · exact h
  · exact eqv_op h _ _
theorem ls_congr {cells : Int32} {s : Nat → Nat} {m : Nat} : ∀ {r k : Nat} {op op' : Nat → Int32}, eqv cells op op' → ∀ o, lsV cells s m r k op o = lsV cells s m r k op' o
  | 0, _, _, _, _, _ => rfl
  | r + 1, k, op, op', h, o => by
    simp only [lsV]
    rw [chV_congr h, ls_congr (chO_congr h) o]
theorem ex_congr {cells : Int32} {s : Nat → Nat} {m o k : Nat} {op op' : Nat → Int32} (h : eqv cells op op') (i : Nat) : exB cells s m o k op i = exB cells s m o k op' i := by
  unfold exB mxN
  have : eqv cells (shO op s o i) (shO op' s o i) := by
    cases i with
    | zero => exact h
    | succ c => exact eqv_op h _ _
  rw [wy_congr this]
def sN (skill : Nat → Int32) (m i : Nat) : Nat := if i < m then (skill i).toNatClampNeg else 0
theorem sN_I {skill : Nat → Int32} {m i : Nat} (h : 1 ≤ skill i ∧ skill i ≤ 9) (hi : i < m) : skill i = nI (sN skill m i) := by
  obtain ⟨j, hj, e⟩ := nI_of2 (x := skill i) (M := 9) (n := 9) rfl (by have := h.1; grind) h.2
  unfold sN
  rw [if_pos hi, e, nI_clamp (by omega)]
theorem sN_9 {skill : Nat → Int32} {m : Nat} (h : ∀ k, k < m → 1 ≤ skill k ∧ skill k ≤ 9) (i : Nat) : sN skill m i ≤ 9 := by
  unfold sN
  split
  · have := h i (by assumption)
    obtain ⟨j, hj, e⟩ := nI_of2 (x := skill i) (M := 9) (n := 9) rfl (by have := this.1; grind) this.2
    rw [e, nI_clamp (by omega)]; exact hj
  · omega
theorem ct_4 {n : Nat} (hn : n ≤ 12) {x : Int32} (h : isW n x) : ctT (bitB x) 12 = ctN (bitB x) n := by
  unfold ctT
  have e1 : sumW (fun c => if 12 - 12 ≤ c ∧ bitB x c = true then 1 else 0) 12 = sumW (fun c => if bitB x c = true then 1 else 0) 12 := sumW_congr (fun c _ => by
    have : (12 - 12 ≤ c ∧ bitB x c = true) ↔ bitB x c = true := ⟨fun z => z.2, fun z => ⟨by omega, z⟩⟩
    simp only [this])
  rw [e1, sum_12 hn h (fun _ => 1)]
  clear e1 h hn
  induction n with
  | zero => rfl
  | succ n ih => simp only [sumW, ctN]; rw [ih]
theorem add_back (a b : Int32) : a - b + b = a := by grind
theorem t_canBeAt {m i c Fr : Nat} (hm : m ≤ 8) (hi : i < m) (hc : c < 12) (hFr : Fr < 2 ^ m) {cells : Int32} {op sums skill ways next : Nat → Int32} {s : Nat → Nat} (hs : ∀ T, T < 2 ^ m → sums T = nI (sm8 s T)) (h4 : ctT (bitB cells) 12 ≤ 4) (hsk : skill i = nI (s i)) : ∃ w' n', fX3_canBeAt cells op sums ways next skill (nI i) (nI c) (nI Fr) = some (b2i (bitB cells c && decide (0 < wyN cells s (opS op c (s i)) Fr)), op, w', n') := by
  have p2 : 2 ^ m ≤ 256 := Nat.pow_le_pow_right (n := 2) (by decide) (show m ≤ 8 by omega)
  have ci : (nI i).toNatClampNeg = i := nI_clamp (by omega)
  have cc : (nI c).toNatClampNeg = c := nI_clamp (by omega)
  cases hb : bitB cells c
  · have z : jshr cells (nI c) &&& 1 = 0 := (bitB_0 _ _).mpr hb
    exact ⟨ways, next, by simp only [fX3_canBeAt, if_pos z, Bool.false_and, b2i_f]⟩
  · have z : ¬ jshr cells (nI c) &&& 1 = 0 := by rw [bitB_0, hb]; simp
    obtain ⟨w', n', e⟩ := t_fitting hm hFr (cells := cells) (op := opS op c (s i)) (ways := ways) (next := next) hs h4
    have hbd := wy_b (s := s) h4 (opS op c (s i)) (R := Fr) (by omega)
    have hop : upd op c (op c - nI (s i)) = opS op c (s i) := rfl
    have hback : upd (opS op c (s i)) c (opS op c (s i) c + nI (s i)) = op := by
      unfold opS
      rw [pk_us, upd_upd, add_back, upd_id _ rfl]
    refine ⟨w', n', ?_⟩
    by_cases hp : 0 < wyN cells s (opS op c (s i)) Fr
    · have zp : ¬ nI (wyN cells s (opS op c (s i)) Fr) ≤ 0 := nI_nle hp (by omega)
      simp only [fX3_canBeAt, if_neg z, if_pos (inb_n hc (by omega)), if_pos (inb_n (show i < 8 by omega) (by omega)), cc, ci, hsk, hop, e, ob_s, if_neg zp, fX3_canBeAt_b44, hback, hp, decide_true, Bool.and_self, b2i_t]
      rw [if_pos (by decide)]
    · have zp : nI (wyN cells s (opS op c (s i)) Fr) ≤ 0 := by
        have : wyN cells s (opS op c (s i)) Fr = 0 := by omega
        rw [this]; decide
      simp only [fX3_canBeAt, if_neg z, if_pos (inb_n hc (by omega)), if_pos (inb_n (show i < 8 by omega) (by omega)), cc, ci, hsk, hop, e, ob_s, if_pos zp, fX3_canBeAt_b44, hback, hp, decide_false, Bool.and_false, b2i_f]
      rw [if_pos (by decide)]
theorem t_leastOf {m i : Nat} (hm : m ≤ 8) (hi : i < m) {cells : Int32} {op sums skill ways next : Nat → Int32} {s : Nat → Nat} (hs : ∀ T, T < 2 ^ m → sums T = nI (sm8 s T)) (h4 : ctT (bitB cells) 12 ≤ 4) (hsk : skill i = nI (s i)) (hpos : 0 < mwN cells s m i op) : ∃ w' n', fX3_leastOf cells op sums ways next skill (nI i) (nI (gmN (i + 1) m)) = some (chV cells s m i op, chO cells s m i op, w', n') ∧ 0 < mwN cells s m (i + 1) (chO cells s m i op) := by
  have p2 : 2 ^ m ≤ 256 := Nat.pow_le_pow_right (n := 2) (by decide) (show m ≤ 8 by omega)
  have hFr := gm_lt (i + 1) m
  obtain ⟨w1, n1, e⟩ := t_fitting hm hFr (cells := cells) (op := op) (ways := ways) (next := next) hs h4
  have hbd := wy_b (s := s) h4 op (R := gmN (i + 1) m) (by omega)
  by_cases hp : 0 < mwN cells s m (i + 1) op
  · have zp : ¬ nI (wyN cells s op (gmN (i + 1) m)) ≤ 0 := nI_nle hp (by omega)
    have eV : chV cells s m i op = -1 := by unfold chV; rw [if_pos hp]
    have eO : chO cells s m i op = op := by unfold chO; rw [if_pos hp]
    rw [eV, eO]
    exact ⟨w1, n1, by simp only [fX3_leastOf, e, ob_s, if_neg zp], hp⟩
  · have zp : nI (wyN cells s op (gmN (i + 1) m)) ≤ 0 := by
      have : wyN cells s op (gmN (i + 1) m) = 0 := by
        have : mwN cells s m (i + 1) op = 0 := by omega
        exact this
      rw [this]; decide
    have eV : chV cells s m i op = nI (chC cells s m i op) := by unfold chV; rw [if_neg hp]
    have eO : chO cells s m i op = opS op (chC cells s m i op) (s i) := by unfold chO; rw [if_neg hp]
    -- there is a cell
    have hex : ∃ c, c < 12 ∧ (bitB cells c && decide (0 < mwN cells s m (i + 1) (opS op c (s i)))) = true := by
      rw [mw_s hm hi] at hpos
      have : 0 < sumW (fun c => if bitB cells c = true then mwN cells s m (i + 1) (opS op c (s i)) else 0) 12 := by omega
      obtain ⟨c, h1, h2⟩ := sumW_pos.mp this
      cases hb : bitB cells c
      · rw [hb] at h2; simp at h2
      · rw [if_pos hb] at h2
        exact ⟨c, h1, by simp [hb, h2]⟩
    have hsp := fst_spec (fun c => bitB cells c && decide (0 < mwN cells s m (i + 1) (opS op c (s i)))) 12
    have hlt : chC cells s m i op < 12 := by
      refine Classical.byContradiction fun hne => ?_
      obtain ⟨c, h1, h2⟩ := hex
      have := hsp.1 c (by unfold chC at hne; omega)
      rw [h2] at this; cases this
    have hat := hsp.2 hlt
    have hmw : 0 < mwN cells s m (i + 1) (opS op (chC cells s m i op) (s i)) := by
      simp only [Bool.and_eq_true, decide_eq_true_eq] at hat
      exact hat.2
    have e12 : ∃ w' n', fX3_leastOf_b12 cells op sums w1 n1 skill (nI i) (nI (gmN (i + 1) m)) 0 = some (nI (chC cells s m i op), opS op (chC cells s m i op) (s i), w', n') := by
      unfold fX3_leastOf_b12
      refine lp_inv (s := (op, w1, n1, (0 : Int32))) (fun r => ∃ w' n', r = some (nI (chC cells s m i op), opS op (chC cells s m i op) (s i), w', n')) (fun c (t : (Nat → Int32) × (Nat → Int32) × (Nat → Int32) × Int32) => t.2.2.2 = nI c ∧ t.1 = op ∧ c ≤ chC cells s m i op) 12 (by omega) ⟨rfl, rfl, Nat.zero_le _⟩ ?_
      intro c t k12 hc hI
      obtain ⟨o2, w2, n2, x⟩ := t
      obtain ⟨f1, f2, f3⟩ := hI
      simp only at f1 f2
      subst f1 f2
      have hc2 : c < 12 := by omega
      have c12 : ¬ (12 : Int32) ≤ nI c := nI_ge (b := 12) hc2 (by omega)
      obtain ⟨w3, n3, g⟩ := t_canBeAt hm hi hc2 hFr (cells := cells) (op := o2) (ways := w2) (next := n2) (s := s) hs h4 hsk
      by_cases ec : c = chC cells s m i o2
      · right
        have hv : (bitB cells c && decide (0 < wyN cells s (opS o2 c (s i)) (gmN (i + 1) m))) = true := by rw [ec]; exact hat
        rw [hv, b2i_t] at g
        have z10 : ¬ (1 : Int32) = 0 := by decide
        refine ⟨w3, n3, ?_⟩
        simp only [fX3_leastOf_l12, if_neg c12, g, ob_s, if_neg z10, fX3_leastOf_b28, if_pos (inb_n hc2 (by omega)), if_pos (inb_n (show i < 8 by omega) (by omega)), nI_clamp (show c < 2 ^ 31 by omega), nI_clamp (show i < 2 ^ 31 by omega), hsk]
        rw [← ec]; rfl
      · left
        have hv : (bitB cells c && decide (0 < wyN cells s (opS o2 c (s i)) (gmN (i + 1) m))) = false := hsp.1 c (by unfold chC at f3 ec; omega)
        rw [hv, b2i_f] at g
        refine ⟨hc2, (o2, w3, n3, nI (c + 1)), ⟨rfl, rfl, by omega⟩, ?_⟩
        simp only [fX3_leastOf_l12, if_neg c12, g, ob_s, if_true, nI_1]
    obtain ⟨w2, n2, e2⟩ := e12
    rw [eV, eO]
    refine ⟨w2, n2, ?_, hmw⟩
    simp only [fX3_leastOf, e, ob_s, if_pos zp, e2]
theorem gm_0 {m : Nat} (hm : m ≤ 8) : jshl 1 (nI m) - 1 = nI (gmN 0 m) := by
  rw [t_all m (by omega), bits_W _ (by omega)]
  congr 1
theorem gm_n {i m : Nat} (hi : i < m) (hm : m ≤ 8) : nI (gmN i m) &&& (jshl 1 (nI i) ^^^ (-1)) = nI (gmN (i + 1) m) := by
  apply b_ext
  intro j hj
  rw [b_and, b_not _ hj, b_nI _ hj, b_nI _ hj, b_sh1 i (by omega) hj, gm_tb, gm_tb]
  by_cases e : j = i
  · subst e; simp
  · have : (i ≤ j) ↔ (i + 1 ≤ j) := by omega
    simp [e, this]
theorem t_tellLeast {m : Nat} (hm : m ≤ 8) {cells : Int32} {op sums skill ways next : Nat → Int32} {s : Nat → Nat} (hs : ∀ T, T < 2 ^ m → sums T = nI (sm8 s T)) (h4 : ctT (bitB cells) 12 ≤ 4) (hsk : ∀ i, i < m → skill i = nI (s i)) (hpos : 0 < mwN cells s m 0 op) (tn : Nat → Int64) : ∃ o' w' n' tn', fX3_tellLeast cells op sums ways next 0 tn (nI m) skill = some (o', w', n', nI m, tn') ∧ ∀ o, o < m → tn' o = (lsV cells s m m 0 op o).toInt64 := by
  have e10 : ∃ o' w' n' tn', fX3_tellLeast_b10 cells op sums ways next 0 tn (nI m) skill (nI (gmN 0 m)) 0 = some (o', w', n', nI m, tn') ∧ ∀ o, o < m → tn' o = (lsV cells s m m 0 op o).toInt64 := by
    unfold fX3_tellLeast_b10
    refine lp_inv (s := (op, ways, next, (0 : Int32), tn, nI (gmN 0 m), (0 : Int32))) (fun r => ∃ (o' w' n' : Nat → Int32) (tn' : Nat → Int64), r = some (o', w', n', nI m, tn') ∧ ∀ o, o < m → tn' o = (lsV cells s m m 0 op o).toInt64) (fun i (t : (Nat → Int32) × (Nat → Int32) × (Nat → Int32) × Int32 × (Nat → Int64) × Int32 × Int32) => t.2.2.2.2.2.2 = nI i ∧ t.2.2.2.2.2.1 = nI (gmN i m) ∧ t.2.2.2.1 = nI i ∧ 0 < mwN cells s m i t.1 ∧ (∀ o, o < i → t.2.2.2.2.1 o = (lsV cells s m m 0 op o).toInt64) ∧ (∀ o, i ≤ o → o < m → lsV cells s m m 0 op o = lsV cells s m (m - i) i t.1 o)) m (by omega) ⟨rfl, rfl, rfl, hpos, fun o ho => absurd ho (by omega), fun o _ _ => rfl⟩ ?_
    intro i t k10 hi hI
    obtain ⟨o2, w2, n2, sz, nu, fr, x⟩ := t
    obtain ⟨f1, f2, f3, f4, f5, f6⟩ := hI
    simp only at f1 f2 f3 f4 f5 f6
    subst f1 f2 f3
    by_cases e : i = m
    · right
      have hle : nI m ≤ nI i := nI_le (by omega) (by omega)
      subst e
      exact ⟨o2, w2, n2, nu, by simp only [fX3_tellLeast_l10, if_pos hle, fX3_tellLeast_b46], f5⟩
    · left
      have hi2 : i < m := by omega
      have cc : ¬ nI m ≤ nI i := nI_ge hi2 (by omega)
      obtain ⟨w3, n3, g1, g2⟩ := t_leastOf hm hi2 (cells := cells) (op := o2) (ways := w2) (next := n2) hs h4 (hsk i hi2) f4
      have hr : m - i = (m - (i + 1)) + 1 := by omega
      refine ⟨hi2, (chO cells s m i o2, w3, n3, nI (i + 1), vp_updL nu i (chV cells s m i o2).toInt64, nI (gmN (i + 1) m), nI (i + 1)), ⟨rfl, rfl, rfl, g2, ?_, ?_⟩, ?_⟩
      · intro o ho
        show vp_updL nu i _ o = _
        by_cases e : o = i
        · subst e
          rw [pk_uLs, f6 o (Nat.le_refl _) hi2, hr]
          simp only [lsV, if_true]
        · rw [pk_uLn e]; exact f5 o (by omega)
      · intro o h1 h2
        rw [f6 o (by omega) h2, hr]
        simp only [lsV]
        rw [if_neg (by omega)]
      · simp only [fX3_tellLeast_l10, if_neg cc, gm_n hi2 hm, g1, ob_s, t_add (show i < 12 by omega), nI_1]
  obtain ⟨o', w', n', tn', e, h⟩ := e10
  refine ⟨o', w', n', tn', ?_, h⟩
  simp only [fX3_tellLeast, fX2_all, gm_0 hm, ob_s, e]
theorem t_laysP {n m : Nat} (hn : n ≤ 12) (hm : m ≤ 8) {sights : Int32} (hw : isW n sights) {s : Nat → Nat} (hs9 : ∀ i, s i ≤ 9) {skill sightOf : Nat → Int32} (hsk : ∀ i, i < m → skill i = nI (s i)) (hsi : ∀ c, c < n → bitB sights c = true → 0 ≤ sightOf c ∧ sightOf c ≤ 99) {op : Nat → Int32} (hop : eqv sights op sightOf) (h4 : ctT (bitB sights) 12 ≤ 4) (wm : Int32) (built place first can : Nat → Int32) : ∃ built' place' first' can', fX12_laysPlaces (nI n) (nI m) sights wm skill sightOf built place first can = some (nI (mwN sights s m 0 op), built', place', first', can') ∧ (0 < mwN sights s m 0 op → ∀ o, o < m → first' o = lsV sights s m m 0 op o) ∧ (∀ o, o < m → ∀ i, i < 32 → bt (can' o) i = exB sights s m o 0 op i) := by
  have p2 : 2 ^ m ≤ 256 := Nat.pow_le_pow_right (n := 2) (by decide) (show m ≤ 8 by omega)
  have hev : eqv sights (opB sightOf (fillN (fun _ => 0) built n)) op := fun c hc hb => by
    have hcn := isW_bit hw (show c < 32 by omega) hb
    unfold opB
    rw [fill_lt _ _ hcn, hop c hc hb]; grind
  have hbd := wy_b (s := s) h4 op (R := gmN 0 m) (by have := gm_lt 0 m; omega)
  obtain ⟨pl, fi, ca, r1, -, r3, r4⟩ := t_places hn hm hw hs9 hsk (sightOf := sightOf) 12 0 0 (fillN (fun _ => 0) built n) place first (fillN (fun _ => 0) can m) (by omega) (by omega) (fun o ho => absurd ho (by omega)) (by rw [mw_congr hev]; show 0 + wyN sights s op (gmN 0 m) < _; omega) (fun c hc hb => by
    rw [fill_lt _ _ hc]
    exact ⟨Int32.le_refl _, hsi c hc hb⟩)
  rw [mw_congr hev, Nat.zero_add] at r1
  rw [mw_congr hev] at r3
  have z0 : nI 0 = 0 := rfl
  rw [z0] at r1
  have e28 : fX12_laysPlaces_b28 (nI n) (nI m) sights 0 skill sightOf built place first (fillN (fun _ => 0) can m) = some (nI (mwN sights s m 0 op), fillN (fun _ => 0) built n, pl, fi, ca) := by
    unfold fX12_laysPlaces_b28 fX12_laysPlaces_b30
    refine lp_up (fun i => (fillN (fun _ => 0) built i, nI i)) n (by omega) (by rw [fill_0]; rfl) ?_ ?_
    · intro i hi k
      have cc : ¬ nI n ≤ nI i := nI_ge hi (by omega)
      have fs := fill_s (fun _ => (0 : Int32)) built i
      simp only [fX12_laysPlaces_l30, if_neg cc, if_pos (inb_n (show i < 12 by omega) (by omega)), nI_clamp (show i < 2 ^ 31 by omega), nI_1, ← fs]
    · intro k
      have hle : nI n ≤ nI n := nI_le (Nat.le_refl n) (by omega)
      simp only [fX12_laysPlaces_l30, if_pos hle, fX12_laysPlaces_b51, r1, ob_s]
  refine ⟨fillN (fun _ => 0) built n, pl, fi, ca, ?_, ?_, ?_⟩
  · unfold fX12_laysPlaces fX12_laysPlaces_b7
    refine lp_up (fun i => (fillN (fun _ => 0) can i, nI i)) m (by omega) (by rw [fill_0]; rfl) ?_ ?_
    · intro i hi k
      have cc : ¬ nI m ≤ nI i := nI_ge hi (by omega)
      have fs := fill_s (fun _ => (0 : Int32)) can i
      simp only [fX12_laysPlaces_l7, if_neg cc, if_pos (inb_n (show i < 8 by omega) (by omega)), nI_clamp (show i < 2 ^ 31 by omega), nI_1, ← fs]
    · intro k
      have hle : nI m ≤ nI m := nI_le (Nat.le_refl m) (by omega)
      simp only [fX12_laysPlaces_l7, if_pos hle, e28]
  · intro hp o ho
    rw [r3 o ho, if_pos (show 0 = 0 ∧ 0 < mwN sights s m 0 op from ⟨rfl, hp⟩), if_neg (by omega)]
    exact ls_congr hev o
  · intro o ho i hi
    rw [r4 o ho i hi, if_neg (by omega), fill_lt _ _ ho, b_0, Bool.false_or]
    exact ex_congr hev i
theorem c_ways {n m : Nat} {age skill friend pals age' skill' friend' : Nat → Int32} {ts tr : Int32} {tn tw : Nat → Int64} (hn : n ≤ 12) (hm : m ≤ 8) (hc : crR m age skill friend pals age' skill' friend') (ht : toR ts tn tr tw) {cells sights : Int32} {amount sightOf : Nat → Int32} (hg : guR n cells amount sights sightOf) (op sums ways next : Nat → Int32) (thrown wm : Int32) (built place first can : Nat → Int32) : ∃ a op' su' wa' nx' ts' tn' tr' wm' tw' bu' pl' fi' ca', fX11_ways (nI m) skill cells amount op sums ways next ts tn = some (a, op', su', wa', nx', ts', tn') ∧ fX12_ways thrown tr (nI n) (nI m) sights wm tw skill' sightOf built place first can = some (a, 0, tr', wm', tw', bu', pl', fi', ca') ∧ toR ts' tn' tr' tw' := by
  obtain ⟨c1, c2, c3, c4⟩ := hc
  obtain ⟨rfl, hw, h4n, hv⟩ := hg
  have p2 : 2 ^ m ≤ 256 := Nat.pow_le_pow_right (n := 2) (by decide) (show m ≤ 8 by omega)
  have hsk : ∀ i, i < m → skill i = nI (sN skill m i) := fun i hi => sN_I (c2 i hi).2.2 hi
  have hsk' : ∀ i, i < m → skill' i = nI (sN skill m i) := fun i hi => by rw [(c1 i hi).2.1]; exact hsk i hi
  have hs9 := sN_9 (skill := skill) (m := m) (fun k hk => (c2 k hk).2.2)
  have h4 : ctT (bitB sights) 12 ≤ 4 := by rw [ct_4 hn hw]; exact h4n
  obtain ⟨su, e1, hsu⟩ := t_begin hm hsk amount op sums
  generalize hop : va_cpy amount op 0 0 12 = o0 at e1
  have hev : eqv sights o0 sightOf := fun c hc hb => by
    have hcn := isW_bit hw (show c < 32 by omega) hb
    rw [← hop, cpy_lt hc, (hv c hcn hb).1]
  obtain ⟨w1, n1, e2⟩ := t_fitting hm (gm_lt 0 m) (cells := sights) (op := o0) (ways := ways) (next := next) hsu h4
  have hbd := wy_b (s := sN skill m) h4 o0 (R := gmN 0 m) (by have := gm_lt 0 m; omega)
  obtain ⟨bu', pl', fi', ca', r1, r2, -⟩ := t_laysP hn hm hw hs9 hsk' (sightOf := sightOf) (fun c hc hb => ⟨by rw [(hv c hc hb).1]; exact (hv c hc hb).2.1, by rw [(hv c hc hb).1]; exact (hv c hc hb).2.2⟩) hev h4 wm built place first can
  have emw : mwN sights (sN skill m) m 0 o0 = wyN sights (sN skill m) o0 (gmN 0 m) := rfl
  by_cases hp : 0 < mwN sights (sN skill m) m 0 o0
  · have zp : ¬ nI (wyN sights (sN skill m) o0 (gmN 0 m)) ≤ 0 := nI_nle hp (by omega)
    obtain ⟨o', w', n', tn', g1, g2⟩ := t_tellLeast hm (cells := sights) (op := o0) (ways := w1) (next := n1) hsu h4 hsk hp tn
    have r2 := r2 hp
    have key : ∃ tw', fX12_ways_b16 0 0 (nI n) (nI m) sights (nI (mwN sights (sN skill m) m 0 o0)) tw skill' sightOf bu' pl' fi' ca' 0 = some (nI (mwN sights (sN skill m) m 0 o0), 0, nI m, nI (mwN sights (sN skill m) m 0 o0), tw', bu', pl', fi', ca') ∧ ∀ o, o < m → tw' o = (lsV sights (sN skill m) m m 0 o0 o).toInt64 := by
      unfold fX12_ways_b16
      refine lp_inv (s := ((0 : Int32), tw, (0 : Int32))) (fun r => ∃ tw' : Nat → Int64, r = some (nI (mwN sights (sN skill m) m 0 o0), 0, nI m, nI (mwN sights (sN skill m) m 0 o0), tw', bu', pl', fi', ca') ∧ ∀ o, o < m → tw' o = (lsV sights (sN skill m) m m 0 o0 o).toInt64) (fun i (t : Int32 × (Nat → Int64) × Int32) => t.1 = nI i ∧ t.2.2 = nI i ∧ ∀ o, o < i → t.2.1 o = (lsV sights (sN skill m) m m 0 o0 o).toInt64) m (by omega) ⟨rfl, rfl, fun o ho => absurd ho (by omega)⟩ ?_
      intro i t k hi hI
      obtain ⟨a1, a2, a3⟩ := t
      obtain ⟨f1, f2, f3⟩ := hI
      simp only at f1 f2 f3
      subst f1 f2
      by_cases e : i = m
      · right
        have hle : nI m ≤ nI i := nI_le (by omega) (by omega)
        subst e
        exact ⟨a2, by simp only [fX12_ways_l16, if_pos hle, fX12_ways_b48], f3⟩
      · left
        have hi2 : i < m := by omega
        have cc : ¬ nI m ≤ nI i := nI_ge hi2 (by omega)
        have zp2 : ¬ nI (mwN sights (sN skill m) m 0 o0) ≤ 0 := zp
        refine ⟨hi2, (nI (i + 1), vp_updL a2 i (lsV sights (sN skill m) m m 0 o0 i).toInt64, nI (i + 1)), ⟨rfl, rfl, ?_⟩, ?_⟩
        · intro o ho
          show vp_updL a2 i _ o = _
          by_cases e : o = i
          · subst e; rw [pk_uLs]
          · rw [pk_uLn e]; exact f3 o (by omega)
        · simp only [fX12_ways_l16, if_neg cc, if_neg zp2, if_pos (inb_n (show i < 8 by omega) (by omega)), nI_clamp (show i < 2 ^ 31 by omega), r2 i hi2, t_ent (show i < 24 by omega), ob_s, nI_1]
    obtain ⟨tw', k1, k2⟩ := key
    repeat apply Exists.intro
    refine ⟨?_, ?_, ⟨m, by omega, rfl, rfl, fun i hi => (g2 i hi).trans (k2 i hi).symm⟩⟩
    · simp only [fX11_ways, e1, fX2_all, gm_0 hm, ob_s, e2, fX8_clear, if_neg zp, g1, fX11_ways_b44]
      rfl
    · simp only [fX12_ways, r1, ob_s]
      exact k1
  · have h0 : mwN sights (sN skill m) m 0 o0 = 0 := by omega
    have zp : nI (wyN sights (sN skill m) o0 (gmN 0 m)) ≤ 0 := by
      rw [← emw, h0]; decide
    have zp2 : nI (mwN sights (sN skill m) m 0 o0) ≤ 0 := zp
    have k1 : fX12_ways_b16 0 0 (nI n) (nI m) sights (nI (mwN sights (sN skill m) m 0 o0)) tw skill' sightOf bu' pl' fi' ca' 0 = some (nI (mwN sights (sN skill m) m 0 o0), 0, 0, nI (mwN sights (sN skill m) m 0 o0), tw, bu', pl', fi', ca') := by
      unfold fX12_ways_b16
      refine lp_up (fun _ => ((0 : Int32), tw, (0 : Int32))) 0 (by omega) rfl (fun i hi => absurd hi (by omega)) ?_
      intro k
      by_cases hle : nI m ≤ 0
      · simp only [fX12_ways_l16, if_pos hle, fX12_ways_b48]
      · simp only [fX12_ways_l16, if_neg hle, if_pos zp2, fX12_ways_b48]
    repeat apply Exists.intro
    refine ⟨?_, ?_, ⟨0, by omega, rfl, rfl, fun i hi => absurd hi (by omega)⟩⟩
    · simp only [fX11_ways, e1, fX2_all, gm_0 hm, ob_s, e2, fX8_clear, if_pos zp, fX11_ways_b44]
      rfl
    · simp only [fX12_ways, r1, ob_s]
      exact k1
theorem t_cellsOf {m o Fr : Nat} (hm : m ≤ 8) (ho : o < m) (hFr : Fr < 2 ^ m) {cells : Int32} {op sums skill ways next : Nat → Int32} {s : Nat → Nat} (hs : ∀ T, T < 2 ^ m → sums T = nI (sm8 s T)) (h4 : ctT (bitB cells) 12 ≤ 4) (hsk : skill o = nI (s o)) : ∃ w' n', fX3_cellsOf cells op sums ways next skill (nI o) (nI Fr) = some (bitsN (fun c => bitB cells c && decide (0 < wyN cells s (opS op c (s o)) Fr)) 12, op, w', n') := by
  unfold fX3_cellsOf fX3_cellsOf_b5
  refine lp_inv (fun r => ∃ w' n', r = some (bitsN (fun c => bitB cells c && decide (0 < wyN cells s (opS op c (s o)) Fr)) 12, op, w', n')) (fun c t => t.2.2.2.2 = nI c ∧ t.1 = op ∧ t.2.2.2.1 = bitsN (fun c => bitB cells c && decide (0 < wyN cells s (opS op c (s o)) Fr)) c) 12 (by omega) ⟨rfl, rfl, rfl⟩ ?_
  intro c t k5 hc hI
  obtain ⟨o2, w2, n2, bi, x⟩ := t
  obtain ⟨f1, f2, f3⟩ := hI
  simp only at f1 f2 f3
  subst f1 f2 f3
  by_cases e : c = 12
  · right
    have c12 : (12 : Int32) ≤ nI c := by rw [e]; decide
    subst e
    exact ⟨w2, n2, by simp only [fX3_cellsOf_l5, if_pos c12, fX3_cellsOf_b36]⟩
  · left
    have hc2 : c < 12 := by omega
    have c12 : ¬ (12 : Int32) ≤ nI c := nI_ge (b := 12) hc2 (by omega)
    obtain ⟨w3, n3, g⟩ := t_canBeAt hm ho hc2 hFr (cells := cells) (op := o2) (ways := w2) (next := n2) (s := s) hs h4 hsk
    refine ⟨hc2, (o2, w3, n3, bitsN (fun c => bitB cells c && decide (0 < wyN cells s (opS o2 c (s o)) Fr)) (c + 1), nI (c + 1)), ⟨rfl, rfl, rfl⟩, ?_⟩
    rw [bitsN_s]
    cases hv : (bitB cells c && decide (0 < wyN cells s (opS o2 c (s o)) Fr))
    · rw [hv, b2i_f] at g
      simp only [fX3_cellsOf_l5, if_neg c12, g, ob_s, if_true, fX3_cellsOf_b30, nI_1]
      rfl
    · have z10 : ¬ (1 : Int32) = 0 := by decide
      rw [hv, b2i_t] at g
      simp only [fX3_cellsOf_l5, if_neg c12, g, ob_s, if_neg z10, fX3_cellsOf_b30, nI_1]
      rfl
theorem c_was {n m : Nat} {age skill friend pals age' skill' friend' : Nat → Int32} {ts tr : Int32} {tn tw : Nat → Int64} (hn : n ≤ 12) (hm : m ≤ 8) (hc : crR m age skill friend pals age' skill' friend') (ht : toR ts tn tr tw) {cells sights : Int32} {amount sightOf : Nat → Int32} (hg : guR n cells amount sights sightOf) (x : Int32) (op sums ways next : Nat → Int32) (thrown wm : Int32) (built place first can : Nat → Int32) : ∃ a op' su' wa' nx' ts' tn' tr' wm' tw' bu' pl' fi' ca', fX11_was (nI m) skill cells amount op sums ways next ts tn x = some (a, op', su', wa', nx', ts', tn') ∧ fX12_was thrown tr (nI n) (nI m) sights wm tw skill' sightOf built place first can x = some (a, 0, tr', wm', tw', bu', pl', fi', ca') ∧ toR ts' tn' tr' tw' := by
  by_cases hx : 0 ≤ x ∧ x < nI m
  · obtain ⟨o, ho, rfl⟩ := ix_of (by omega) hx
    obtain ⟨c1, c2, c3, c4⟩ := hc
    obtain ⟨rfl, hw, h4n, hv⟩ := hg
    have p2 : 2 ^ m ≤ 256 := Nat.pow_le_pow_right (n := 2) (by decide) (show m ≤ 8 by omega)
    have hsk : ∀ i, i < m → skill i = nI (sN skill m i) := fun i hi => sN_I (c2 i hi).2.2 hi
    have hsk' : ∀ i, i < m → skill' i = nI (sN skill m i) := fun i hi => by rw [(c1 i hi).2.1]; exact hsk i hi
    have hs9 := sN_9 (skill := skill) (m := m) (fun k hk => (c2 k hk).2.2)
    have h4 : ctT (bitB sights) 12 ≤ 4 := by rw [ct_4 hn hw]; exact h4n
    obtain ⟨su, e1, hsu⟩ := t_begin hm hsk amount op sums
    generalize hop : va_cpy amount op 0 0 12 = o0 at e1
    have hev : eqv sights o0 sightOf := fun c hc hb => by
      have hcn := isW_bit hw (show c < 32 by omega) hb
      rw [← hop, cpy_lt hc, (hv c hcn hb).1]
    have eoth : nI (gmN 0 m) &&& (jshl 1 (nI o) ^^^ (-1)) = nI (dfN (gmN 0 m) (2 ^ o)) := by
      rw [sh_n (by omega), df_I _ (by have := gm_lt 0 m; omega)]
    have hFr : dfN (gmN 0 m) (2 ^ o) < 2 ^ m := by
      apply Nat.lt_pow_two_of_testBit
      intro i hi
      rw [df_tb, tb_lt (gm_lt 0 m) hi]; simp
    obtain ⟨w1, n1, e2⟩ := t_fitting hm hFr (cells := sights) (op := o0) (ways := ways) (next := next) hsu h4
    have hbd := wy_b (s := sN skill m) h4 o0 (R := dfN (gmN 0 m) (2 ^ o)) (df_lt _ _)
    obtain ⟨bu', pl', fi', ca', r1, -, r3⟩ := t_laysP hn hm hw hs9 hsk' (sightOf := sightOf) (fun c hc hb => ⟨by rw [(hv c hc hb).1]; exact (hv c hc hb).2.1, by rw [(hv c hc hb).1]; exact (hv c hc hb).2.2⟩) hev h4 wm built place first can
    have hca := r3 o ho
    obtain ⟨w3, n3, e3⟩ := t_cellsOf hm ho hFr (cells := sights) (op := o0) (ways := w1) (next := n1) hsu h4 (hsk o ho)
    have hex : ∀ i, exB sights (sN skill m) m o 0 o0 i = (okB sights i && decide (0 < wyN sights (sN skill m) (shO o0 (sN skill m) o i) (dfN (gmN 0 m) (2 ^ o)))) := fun i => rfl
    have hbit0 : ca' o &&& 1 = b2i (decide (0 < wyN sights (sN skill m) o0 (dfN (gmN 0 m) (2 ^ o)))) := by
      apply b_ext
      intro i hi
      rw [b_and, b_one i hi]
      by_cases e : i = 0
      · subst e
        rw [hca 0 (by omega), hex]
        show ((true && decide (0 < wyN sights (sN skill m) o0 (dfN (gmN 0 m) (2 ^ o)))) && true) = _
        cases decide (0 < wyN sights (sN skill m) o0 (dfN (gmN 0 m) (2 ^ o))) <;> rfl
      · have : bt (b2i (decide (0 < wyN sights (sN skill m) o0 (dfN (gmN 0 m) (2 ^ o))))) i = false := by
          cases decide (0 < wyN sights (sN skill m) o0 (dfN (gmN 0 m) (2 ^ o)))
          · rw [b2i_f, b_0]
          · rw [b2i_t, b_one i hi]; simp [e]
        rw [this]; simp [e]
    have hbits : jshr (ca' o) 1 = bitsN (fun c => bitB sights c && decide (0 < wyN sights (sN skill m) (opS o0 c (sN skill m o)) (dfN (gmN 0 m) (2 ^ o)))) 12 := by
      apply b_ext
      intro i hi
      have h1 : jshr (ca' o) 1 = jshr (ca' o) (nI 1) := rfl
      rw [h1, b_sshr 1 (by omega) _ hi, b_bits _ 12 (by omega) i hi]
      by_cases h31 : 1 + i < 32
      · rw [if_pos h31, hca _ h31, Nat.add_comm 1 i, hex]
        show ((decide (i < 12) && bitB sights i) && decide (0 < wyN sights (sN skill m) (opS o0 i (sN skill m o)) (dfN (gmN 0 m) (2 ^ o)))) = _
        rw [Bool.and_assoc]
      · rw [if_neg h31, hca 31 (by omega)]
        have hi31 : i = 31 := by omega
        subst hi31
        simp [exB, okB]
    have hin : inb (nI o) 8 := inb_n (by omega) (by omega)
    have cl : (nI o).toNatClampNeg = o := nI_clamp (by omega)
    by_cases hp : 0 < wyN sights (sN skill m) o0 (dfN (gmN 0 m) (2 ^ o))
    · have zp : ¬ nI (wyN sights (sN skill m) o0 (dfN (gmN 0 m) (2 ^ o))) ≤ 0 := nI_nle hp (by omega)
      rw [decide_eq_true hp, b2i_t] at hbit0
      repeat apply Exists.intro
      refine ⟨?_, ?_, to_1 tn tw (1 : Int32).toInt64⟩
      · simp only [fX11_was, t_has2, hx, decide_true, b2i_t, ob_s, e1, fX2_all, gm_0 hm, eoth, e2, if_neg zp, fX11_was_b50, t_tell, e3]
        rfl
      · simp only [fX12_was, t_isChild (show m ≤ 12 by omega), hx, decide_true, b2i_t, ob_s, r1, if_pos hin, cl, hbit0, hbits, t_ent0]
        rfl
    · have zp : nI (wyN sights (sN skill m) o0 (dfN (gmN 0 m) (2 ^ o))) ≤ 0 := by
        have : wyN sights (sN skill m) o0 (dfN (gmN 0 m) (2 ^ o)) = 0 := by omega
        rw [this]; decide
      rw [decide_eq_false hp, b2i_f] at hbit0
      repeat apply Exists.intro
      refine ⟨?_, ?_, to_1 tn tw (0 : Int32).toInt64⟩
      · simp only [fX11_was, t_has2, hx, decide_true, b2i_t, ob_s, e1, fX2_all, gm_0 hm, eoth, e2, if_pos zp, fX11_was_b50, t_tell, e3]
        rfl
      · simp only [fX12_was, t_isChild (show m ≤ 12 by omega), hx, decide_true, b2i_t, ob_s, r1, if_pos hin, cl, hbit0, hbits, t_ent0]
        rfl
  · refine ⟨-1, op, sums, ways, next, ts, tn, tr, wm, tw, built, place, first, can, ?_, ?_, ht⟩
    · simp [fX11_was, t_has2, hx, b2i]
    · simp [fX12_was, t_isChild (show m ≤ 12 by omega), hx, b2i]
