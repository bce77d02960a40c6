/-! ===== the model's ways ===== -/
theorem isW_bit {n : Nat} {x : Int32} (h : isW n x) {c : Nat} (hc : c < 32) (hb : bitB x c = true) : c < n := by
  obtain ⟨w, h1, rfl⟩ := h
  rw [bitB_t _ hc, b_nI _ hc] at hb
  rcases Nat.lt_or_ge c n with z | z
  · exact z
  · rw [tb_lt h1 z] at hb; cases hb
theorem any_12 {n : Nat} (hn : n ≤ 12) {x : Int32} (h : isW n x) (p : Nat → Bool) : anyN (fun c => bitB x c && p c) 12 = anyN (fun c => bitB x c && p c) n := by
  rw [Bool.eq_iff_iff, anyN_iff, anyN_iff]
  constructor
  · rintro ⟨c, h1, h2⟩
    simp only [Bool.and_eq_true] at h2
    exact ⟨c, isW_bit h (by omega) h2.1, by simp only [Bool.and_eq_true]; exact h2⟩
  · rintro ⟨c, h1, h2⟩
    exact ⟨c, by omega, h2⟩
theorem sum_12 {n : Nat} (hn : n ≤ 12) {x : Int32} (h : isW n x) (f : Nat → Nat) : sumW (fun c => if bitB x c = true then f c else 0) 12 = sumW (fun c => if bitB x c = true then f c else 0) n := by
  apply sumW_ext hn
  intro i h1 h2
  rw [if_neg (fun z => by have := isW_bit h (by omega) z; omega)]
theorem t_isAsSeen {n : Nat} (hn : n ≤ 12) (sights : Int32) (sightOf built : Nat → Int32) : fX12_isAsSeen (nI n) sights sightOf built = some (b2i (!anyN (fun c => bitB sights c && !decide (sightOf c - built c = 0)) n)) := by
  unfold fX12_isAsSeen fX12_isAsSeen_b4
  refine lp_up (fun i => (b2i (!anyN (fun c => bitB sights c && !decide (sightOf c - built c = 0)) i), nI i)) n (by omega) rfl ?_ ?_
  · intro i hi k
    have cc : ¬ nI n ≤ nI i := nI_ge hi (by omega)
    have z10 : ¬ (1 : Int32) = 0 := by decide
    have cl : (nI i).toNatClampNeg = i := nI_clamp (by omega)
    have hd : (sightOf i - built i = 0) ↔ (built i = sightOf i) := by
      constructor
      · intro h; grind
      · intro h; rw [h]; grind
    show fX12_isAsSeen_l4 (nI n) sights sightOf built k (b2i (!anyN (fun c => bitB sights c && !decide (sightOf c - built c = 0)) i)) (nI i) = k (b2i (!(anyN (fun c => bitB sights c && !decide (sightOf c - built c = 0)) i || (bitB sights i && !decide (sightOf i - built i = 0)))), nI (i + 1))
    cases anyN (fun c => bitB sights c && !decide (sightOf c - built c = 0)) i
    · cases hb : bitB sights i
      · simp only [fX12_isAsSeen_l4, if_neg cc, Bool.not_false, b2i_t, if_neg z10, t_hasM, hb, b2i_f, ob_s, if_true, fX12_isAsSeen_b42, fX12_isAsSeen_b47, nI_1, Bool.false_and, Bool.false_or]
      · by_cases he : built i = sightOf i
        · simp only [fX12_isAsSeen_l4, if_neg cc, Bool.not_false, b2i_t, if_neg z10, t_hasM, hb, ob_s, if_pos (inb_n (show i < 12 by omega) (by omega)), cl, if_pos he, fX12_isAsSeen_b42, fX12_isAsSeen_b47, nI_1, hd.mpr he, decide_true, Bool.not_true, Bool.and_false, Bool.false_or, Bool.not_false, b2i_t]
        · have he2 : ¬ sightOf i - built i = 0 := fun z => he (hd.mp z)
          simp only [fX12_isAsSeen_l4, if_neg cc, Bool.not_false, b2i_t, if_neg z10, t_hasM, hb, ob_s, if_pos (inb_n (show i < 12 by omega) (by omega)), cl, if_neg he, fX12_isAsSeen_b46, fX12_isAsSeen_b47, nI_1, he2, decide_false, Bool.and_true, Bool.false_or, Bool.not_true, b2i_f]
    · simp only [fX12_isAsSeen_l4, if_neg cc, Bool.not_true, b2i_f, if_true, fX12_isAsSeen_b46, fX12_isAsSeen_b47, nI_1, Bool.true_or]
  · intro k
    have hle : nI n ≤ nI n := nI_le (Nat.le_refl n) (by omega)
    simp only [fX12_isAsSeen_l4, if_pos hle, fX12_isAsSeen_b54, b01, if_true]
def opB (sightOf built : Nat → Int32) : Nat → Int32 := fun c => sightOf c - built c
theorem op_upd (sightOf built : Nat → Int32) (c x : Nat) : opB sightOf (upd built c (built c + nI x)) = opS (opB sightOf built) c x := by
  funext i
  unfold opB opS
  by_cases e : i = c
  · subst e; rw [pk_us, pk_us]; grind
  · rw [pk_un e, pk_un e]
theorem prn {si bu sk : Int32} (h1 : 0 ≤ bu) (h2 : bu ≤ si) (h3 : si ≤ 99) (h4 : 0 ≤ sk) (h5 : sk ≤ 9) : (si < bu + sk ↔ si - bu - sk < 0) ∧ -9 ≤ si - bu - sk ∧ si - bu - sk ≤ 99 := by grind
theorem prn2 {a b : Int32} (h1 : a < 0) (h2 : -9 ≤ a) (h3 : 0 ≤ b) (h4 : b ≤ 9) : a - b < 0 := by grind
theorem prn3 {si bu sk : Int32} (h1 : 0 ≤ bu) (h2 : bu ≤ si) (h3 : si ≤ 99) (h4 : 0 ≤ sk) (h5 : sk ≤ 9) (h : ¬ si < bu + sk) : 0 ≤ bu + sk ∧ bu + sk ≤ si := by grind
theorem sub_cancel (a b : Int32) : a + b - b = a := by grind
theorem t_places {n m : Nat} (hn : n ≤ 12) (hm : m ≤ 8) {sights : Int32} (hw : isW n sights) {s : Nat → Nat} (hs9 : ∀ i, s i ≤ 9) {skill sightOf : Nat → Int32} (hsk : ∀ i, i < m → skill i = nI (s i)) : ∀ (d k W : Nat) (built place first can : Nat → Int32), k ≤ m → m - k < d → (∀ o, o < k → ∃ j, j < 13 ∧ place o + 1 = nI j) → W + mwN sights s m k (opB sightOf built) < 2 ^ 31 → (∀ c, c < n → bitB sights c = true → 0 ≤ built c ∧ built c ≤ sightOf c ∧ sightOf c ≤ 99) → ∃ place' first' can', fX12_placesFrom d (nI n) (nI m) sights (nI W) skill sightOf built place first can (nI k) = some (nI (W + mwN sights s m k (opB sightOf built)), built, place', first', can') ∧ (∀ o, o < k → place' o = place o) ∧ (∀ o, o < m → first' o = if W = 0 ∧ 0 < mwN sights s m k (opB sightOf built) then (if o < k then place o else lsV sights s m (m - k) k (opB sightOf built) o) else first o) ∧ (∀ o, o < m → ∀ i, i < 32 → bt (can' o) i = (bt (can o) i || (if o < k then decide (0 < mwN sights s m k (opB sightOf built)) && decide (place o + 1 = nI i) else exB sights s m o k (opB sightOf built) i)))
  | 0, k, W, built, place, first, can, hk, hd, _, _, _ => by omega
  | d + 1, k, W, built, place, first, can, hk, hd, hpl, hW, hbu => by
    show ∃ place' first' can', fX12_placesFrom_s (fX12_placesFrom d) (nI n) (nI m) sights (nI W) skill sightOf built place first can (nI k) = _ ∧ _
    by_cases ekm : k = m
    · -- a whole way
      subst ekm
      have hz : mwN sights s k k (opB sightOf built) = if anyN (fun c => bitB sights c && !decide (sightOf c - built c = 0)) n then 0 else 1 := by
        unfold mwN
        rw [gm_m, wy_base, any_12 hn hw]; rfl
      cases hany : anyN (fun c => bitB sights c && !decide (sightOf c - built c = 0)) n
      · rw [hany] at hz
        simp only [Bool.false_eq_true, if_false] at hz
        have z10 : ¬ (1 : Int32) = 0 := by decide
        have key : ∃ first' can', fX12_placesFrom_b17 (fX12_placesFrom d) (nI n) (nI k) sights (nI W) skill sightOf built place first can 0 = some (nI (W + 1), built, place, first', can') ∧ (∀ o, o < k → first' o = if W = 0 then place o else first o) ∧ (∀ o, o < k → ∀ i, i < 32 → bt (can' o) i = (bt (can o) i || decide (place o + 1 = nI i))) := by
          unfold fX12_placesFrom_b17
          refine lp_inv (s := (first, can, (0 : Int32))) (fun r => ∃ (first' can' : Nat → Int32), r = some (nI (W + 1), built, place, first', can') ∧ (∀ o, o < k → first' o = if W = 0 then place o else first o) ∧ (∀ o, o < k → ∀ i, i < 32 → bt (can' o) i = (bt (can o) i || decide (place o + 1 = nI i)))) (fun j (t : (Nat → Int32) × (Nat → Int32) × Int32) => t.2.2 = nI j ∧ (∀ o, o < k → t.1 o = if o < j then (if W = 0 then place o else first o) else first o) ∧ (∀ o, o < k → ∀ i, i < 32 → bt (t.2.1 o) i = (bt (can o) i || (decide (o < j) && decide (place o + 1 = nI i))))) k (by omega) ⟨rfl, fun o _ => by rw [if_neg (by omega)], fun o _ i _ => by simp⟩ ?_
          intro j t k17 hj hI
          obtain ⟨fi, ca, x⟩ := t
          obtain ⟨e1, e2, e3⟩ := hI
          simp only at e1 e2 e3
          subst e1
          by_cases e : j = k
          · right
            have hle : nI k ≤ nI j := nI_le (by omega) (by omega)
            refine ⟨fi, ca, by simp only [fX12_placesFrom_l17, if_pos hle, fX12_placesFrom_b78, fX12_placesFrom_b88, nI_1], fun o ho => by rw [e2 o ho, if_pos (by omega)], fun o ho i hi => ?_⟩
            have : o < j := by omega
            rw [e3 o ho i hi]; simp [this]
          · left
            have hj2 : j < k := by omega
            have cc : ¬ nI k ≤ nI j := nI_ge hj2 (by omega)
            have h8 : j < 8 := by omega
            have cl : (nI j).toNatClampNeg = j := nI_clamp (by omega)
            obtain ⟨b, hb, eb⟩ := hpl j hj2
            have hfj := e2 j hj2
            rw [if_neg (by omega)] at hfj
            refine ⟨hj2, (upd fi j (if W = 0 then place j else first j), upd ca j (ca j ||| jshl 1 (place j + 1)), nI (j + 1)), ⟨rfl, ?_, ?_⟩, ?_⟩
            · intro o ho
              show upd fi j _ o = _
              by_cases eo : o = j
              · subst eo; rw [pk_us, if_pos (show o < o + 1 by omega)]
              · rw [pk_un eo, e2 o ho]
                have : (o < j + 1) ↔ (o < j) := by omega
                simp only [this]
            · intro o ho i hi
              show bt (upd ca j _ o) i = _
              by_cases eo : o = j
              · subst eo
                rw [pk_us, b_or, e3 o ho i hi, eb, b_sh1 b (by omega) hi]
                have h1 : ¬ o < o := by omega
                have h2 : o < o + 1 := by omega
                have h3 : (nI b = nI i) ↔ (i = b) := by rw [nI_eq (by omega) (by omega)]; exact eq_comm
                simp [h3]
              · rw [pk_un eo, e3 o ho i hi]
                have : (o < j + 1) ↔ (o < j) := by omega
                simp only [this]
            · by_cases hW0 : W = 0
              · have zW : nI W = 0 := by rw [hW0]; rfl
                simp only [fX12_placesFrom_l17, if_neg cc, if_pos zW, if_pos (inb_n h8 (by omega)), cl, fX12_placesFrom_b52, nI_1, if_pos hW0]
              · have zW : ¬ nI W = 0 := nI_ne0 (by omega) (by omega)
                simp only [fX12_placesFrom_l17, if_neg cc, if_neg zW, if_pos (inb_n h8 (by omega)), cl, fX12_placesFrom_b52, nI_1, if_neg hW0, hfj]
        obtain ⟨fi, ca, g1, g2, g3⟩ := key
        refine ⟨place, fi, ca, ?_, fun _ _ => rfl, ?_, ?_⟩
        · rw [hz]
          simp only [fX12_placesFrom_s, if_true, t_isAsSeen hn, hany, Bool.not_false, b2i_t, ob_s, if_neg z10, g1]
        · intro o ho
          rw [g2 o ho, hz]
          by_cases hW0 : W = 0
          · rw [if_pos hW0, if_pos ⟨hW0, by omega⟩, if_pos ho]
          · rw [if_neg hW0, if_neg (fun z => hW0 z.1)]
        · intro o ho i hi
          rw [g3 o ho i hi, if_pos ho, hz]
          simp
      · rw [hany] at hz
        simp only [if_true] at hz
        refine ⟨place, first, can, ?_, fun _ _ => rfl, ?_, ?_⟩
        · rw [hz]
          simp only [fX12_placesFrom_s, if_true, t_isAsSeen hn, hany, Bool.not_true, b2i_f, ob_s, fX12_placesFrom_b88, Nat.add_zero]
        · intro o ho
          rw [hz, if_neg (by omega)]
        · intro o ho i hi
          rw [if_pos ho, hz]; simp
    · -- one child more
      have hk2 : k < m := by omega
      have hk8 : k < 8 := by omega
      have zk : ¬ nI k = nI m := by rw [nI_eq (by omega) (by omega)]; omega
      have cl : (nI k).toNatClampNeg = k := nI_clamp (by omega)
      generalize hop : opB sightOf built = op at *
      let M : (Nat → Int32) → Nat := mwN sights s m (k + 1)
      let S : Nat → Nat := fun c => M op + sumW (fun c => if bitB sights c = true then M (opS op c (s k)) else 0) c
      have hS12 : mwN sights s m k op = S 12 := mw_s hm hk2 op
      have hSn : S n = S 12 := by
        show M op + _ = M op + _
        rw [sum_12 hn hw]
      have hSm : ∀ c, c ≤ n → S c ≤ S n := fun c hc => by
        show M op + _ ≤ M op + _
        have : ∀ a b, a ≤ b → sumW (fun c => if bitB sights c = true then M (opS op c (s k)) else 0) a ≤ sumW (fun c => if bitB sights c = true then M (opS op c (s k)) else 0) b := by
          intro a b hab
          induction b with
          | zero => have : a = 0 := by omega
                    subst this; exact Nat.le_refl _
          | succ b ih =>
            by_cases e : a = b + 1
            · subst e; exact Nat.le_refl _
            · have := ih (by omega)
              simp only [sumW]; omega
        have := this c n hc
        omega
      have hWS : W + S n < 2 ^ 31 := by rw [hSn, ← hS12]; exact hW
      -- nobody is told where k is
      obtain ⟨pl1, fi1, ca1, r1, r2, r3, r4⟩ := t_places hn hm hw hs9 hsk (sightOf := sightOf) d (k + 1) W built (upd place k (-1)) first can (by omega) (by omega) (fun o ho => by
        by_cases e : o = k
        · subst e; rw [pk_us]; exact ⟨0, by omega, rfl⟩
        · rw [pk_un e]; exact hpl o (by omega)) (by rw [hop]; have := hSm 0 (by omega); show W + M op < _; have h0 : S 0 = M op := Nat.add_zero _; omega) hbu
      rw [hop] at r1 r3 r4
      let T : Nat → Int32 := fun o => if o < k then place o else if o = k then chV sights s m k op else lsV sights s m (m - (k + 1)) (k + 1) (chO sights s m k op) o
      let Y : Nat → Nat → Nat → Bool := fun c o i => if o < k then decide (0 < S c) && decide (place o + 1 = nI i) else if o = k then (decide (i = 0) && decide (0 < M op)) || anyN (fun c' => bitB sights c' && (decide (i = c' + 1) && decide (0 < M (opS op c' (s k))))) c else exB sights s m o (k + 1) op i || anyN (fun c' => bitB sights c' && exB sights s m o (k + 1) (opS op c' (s k)) i) c
      have key : ∃ place' first' can', fX12_placesFrom_b105 (fX12_placesFrom d) (nI n) (nI m) sights (nI (W + M op)) skill sightOf built pl1 fi1 ca1 (nI k) 0 = some (nI (W + S n), built, place', first', can') ∧ (∀ o, o < k → place' o = place o) ∧ (∀ o, o < m → first' o = if W = 0 ∧ 0 < S n then T o else first o) ∧ (∀ o, o < m → ∀ i, i < 32 → bt (can' o) i = (bt (can o) i || Y n o i)) := by
        unfold fX12_placesFrom_b105
        refine lp_inv (s := (nI (W + M op), built, pl1, fi1, ca1, (0 : Int32))) (fun r => ∃ (place' first' can' : Nat → Int32), r = some (nI (W + S n), built, place', first', can') ∧ (∀ o, o < k → place' o = place o) ∧ (∀ o, o < m → first' o = if W = 0 ∧ 0 < S n then T o else first o) ∧ (∀ o, o < m → ∀ i, i < 32 → bt (can' o) i = (bt (can o) i || Y n o i))) (fun c (t : Int32 × (Nat → Int32) × (Nat → Int32) × (Nat → Int32) × (Nat → Int32) × Int32) => t.2.2.2.2.2 = nI c ∧ t.1 = nI (W + S c) ∧ t.2.1 = built ∧ (∀ o, o < k → t.2.2.1 o = place o) ∧ (∀ o, o < m → t.2.2.2.1 o = if W = 0 ∧ 0 < S c then T o else first o) ∧ (∀ o, o < m → ∀ i, i < 32 → bt (t.2.2.2.2.1 o) i = (bt (can o) i || Y c o i))) n (by omega) ⟨rfl, rfl, rfl, ?_, ?_, ?_⟩ ?_
        · intro o ho
          show pl1 o = place o
          rw [r2 o (by omega), pk_un (by omega)]
        · intro o ho
          show fi1 o = if W = 0 ∧ 0 < S 0 then T o else first o
          have hS0 : S 0 = M op := Nat.add_zero _
          rw [r3 o ho, hS0]
          by_cases hc : W = 0 ∧ 0 < M op
          · rw [if_pos hc, if_pos hc]
            show _ = if o < k then place o else if o = k then chV sights s m k op else lsV sights s m (m - (k + 1)) (k + 1) (chO sights s m k op) o
            have hM : 0 < mwN sights s m (k + 1) op := hc.2
            by_cases o1 : o < k
            · rw [if_pos (by omega), if_pos o1, pk_un (by omega)]
            · by_cases o2 : o = k
              · subst o2
                rw [if_pos (by omega), if_neg o1, if_pos rfl, pk_us]
                unfold chV
                rw [if_pos hM]
              · rw [if_neg (by omega), if_neg o1, if_neg o2]
                unfold chO
                rw [if_pos hM]
          · rw [if_neg hc, if_neg hc]
        · intro o ho i hi
          show bt (ca1 o) i = _
          rw [r4 o ho i hi]
          congr 1
          show _ = if o < k then decide (0 < S 0) && decide (place o + 1 = nI i) else if o = k then (decide (i = 0) && decide (0 < M op)) || false else exB sights s m o (k + 1) op i || false
          have hS0 : S 0 = M op := Nat.add_zero _
          by_cases o1 : o < k
          · rw [if_pos (by omega), if_pos o1, hS0, pk_un (by omega)]
          · by_cases o2 : o = k
            · subst o2
              rw [if_pos (by omega), if_neg o1, if_pos rfl, pk_us]
              have : ((-1 : Int32) + 1 = nI i) ↔ (i = 0) := by
                show (nI 0 = nI i) ↔ _
                rw [nI_eq (by omega) (by omega)]; exact eq_comm
              simp only [this, Bool.or_false]
              rw [Bool.and_comm]
            · rw [if_neg (by omega), if_neg o1, if_neg o2, Bool.or_false]
        · intro c t k105 hc hI
          obtain ⟨wm, bu, pl, fi, ca, x⟩ := t
          obtain ⟨e1, e2, e3, e4, e5, e6⟩ := hI
          simp only at e1 e2 e3 e4 e5 e6
          subst e1 e2 e3
          by_cases e : c = n
          · right
            have hle : nI n ≤ nI c := nI_le (by omega) (by omega)
            subst e
            exact ⟨pl, fi, ca, by simp only [fX12_placesFrom_l105, if_pos hle, fX12_placesFrom_b196], e4, e5, e6⟩
          · left
            have hc2 : c < n := by omega
            have cc : ¬ nI n ≤ nI c := nI_ge hc2 (by omega)
            have clc : (nI c).toNatClampNeg = c := nI_clamp (by omega)
            refine ⟨hc2, ?_⟩
            -- nothing is told of this cell
            have skip : (bitB sights c = true → M (opS op c (s k)) = 0 ∧ ∀ o i, k < o → o < m → exB sights s m o (k + 1) (opS op c (s k)) i = false) → S (c + 1) = S c ∧ (∀ o i, o < m → Y (c + 1) o i = Y c o i) := by
              intro h
              have hS1 : S (c + 1) = S c := by
                show M op + (sumW (fun c => if bitB sights c = true then M (opS op c (s k)) else 0) c + (if bitB sights c = true then M (opS op c (s k)) else 0)) = M op + sumW (fun c => if bitB sights c = true then M (opS op c (s k)) else 0) c
                cases hb : bitB sights c
                · rw [if_neg (by simp)]; omega
                · rw [if_pos rfl, (h hb).1]; omega
              refine ⟨hS1, fun o i ho => ?_⟩
              show (if o < k then decide (0 < S (c + 1)) && decide (place o + 1 = nI i) else if o = k then (decide (i = 0) && decide (0 < M op)) || (anyN (fun c' => bitB sights c' && (decide (i = c' + 1) && decide (0 < M (opS op c' (s k))))) c || (bitB sights c && (decide (i = c + 1) && decide (0 < M (opS op c (s k)))))) else exB sights s m o (k + 1) op i || (anyN (fun c' => bitB sights c' && exB sights s m o (k + 1) (opS op c' (s k)) i) c || (bitB sights c && exB sights s m o (k + 1) (opS op c (s k)) i))) = if o < k then decide (0 < S c) && decide (place o + 1 = nI i) else if o = k then (decide (i = 0) && decide (0 < M op)) || anyN (fun c' => bitB sights c' && (decide (i = c' + 1) && decide (0 < M (opS op c' (s k))))) c else exB sights s m o (k + 1) op i || anyN (fun c' => bitB sights c' && exB sights s m o (k + 1) (opS op c' (s k)) i) c
              rw [hS1]
              by_cases o1 : o < k
              · rw [if_pos o1, if_pos o1]
              · rw [if_neg o1, if_neg o1]
                by_cases o2 : o = k
                · rw [if_pos o2, if_pos o2]
                  cases hb : bitB sights c
                  · simp
                  · rw [(h hb).1]; simp
                · rw [if_neg o2, if_neg o2]
                  cases hb : bitB sights c
                  · simp
                  · rw [(h hb).2 o i (by omega) ho]; simp
            cases hb : bitB sights c
            · obtain ⟨s1, s2⟩ := skip (fun z => by rw [hb] at z; cases z)
              refine ⟨(nI (W + S c), bu, pl, fi, ca, nI (c + 1)), ⟨rfl, by rw [s1], rfl, e4, fun o ho => by rw [s1]; exact e5 o ho, fun o ho i hi => by rw [s2 o i ho]; exact e6 o ho i hi⟩, ?_⟩
              simp only [fX12_placesFrom_l105, if_neg cc, t_hasM, hb, b2i_f, ob_s, if_true, fX12_placesFrom_b190, nI_1]
            · have z10 : ¬ (1 : Int32) = 0 := by decide
              obtain ⟨b1, b2, b3⟩ := hbu c hc2 hb
              have hs0 : (0 : Int32) ≤ nI (s k) := nI_pos' (by have := hs9 k; omega)
              have hs1 : nI (s k) ≤ 9 := nI_le (b := 9) (hs9 k) (by omega)
              have hpr := prn b1 b2 b3 hs0 hs1
              by_cases hlt : sightOf c < bu c + nI (s k)
              · have hneg : opS op c (s k) c < 0 := by
                  unfold opS
                  rw [pk_us, ← hop]
                  exact hpr.1.mp hlt
                have hge : -9 ≤ opS op c (s k) c := by
                  unfold opS
                  rw [pk_us, ← hop]
                  exact hpr.2.1
                obtain ⟨s1, s2⟩ := skip (fun _ => ⟨wy_neg hs9 (by omega) hb hneg _, fun o i _ _ => by
                  unfold exB mxN
                  have hng : shO (opS op c (s k)) s o i c < 0 := by
                    cases i with
                    | zero => exact hneg
                    | succ dd =>
                      show opS (opS op c (s k)) dd (s o) c < 0
                      unfold opS
                      by_cases ed : c = dd
                      · subst ed
                        rw [pk_us]
                        exact prn2 hneg hge (nI_pos' (by have := hs9 o; omega)) (nI_le (b := 9) (hs9 o) (by omega))
                      · rw [pk_un ed]; exact hneg
                  rw [wy_neg hs9 (by omega) hb hng]; simp⟩)
                refine ⟨(nI (W + S c), bu, pl, fi, ca, nI (c + 1)), ⟨rfl, by rw [s1], rfl, e4, fun o ho => by rw [s1]; exact e5 o ho, fun o ho i hi => by rw [s2 o i ho]; exact e6 o ho i hi⟩, ?_⟩
                simp only [fX12_placesFrom_l105, if_neg cc, t_hasM, hb, b2i_t, ob_s, if_neg z10, if_pos (inb_n (show c < 12 by omega) (by omega)), if_pos (inb_n hk8 (by omega)), clc, cl, hsk k hk2, if_pos hlt, fX12_placesFrom_b190, nI_1]
              · have hbn := prn3 b1 b2 b3 hs0 hs1 hlt
                have hS1 : S (c + 1) = S c + M (opS op c (s k)) := by
                  show M op + (sumW (fun c => if bitB sights c = true then M (opS op c (s k)) else 0) c + (if bitB sights c = true then M (opS op c (s k)) else 0)) = M op + sumW (fun c => if bitB sights c = true then M (opS op c (s k)) else 0) c + M (opS op c (s k))
                  rw [if_pos hb]; omega
                have hSc1 := hSm (c + 1) (by omega)
                have hop2 : opB sightOf (upd bu c (bu c + nI (s k))) = opS op c (s k) := by rw [op_upd, hop]
                obtain ⟨pl2, fi2, ca2, q1, q2, q3, q4⟩ := t_places hn hm hw hs9 hsk (sightOf := sightOf) d (k + 1) (W + S c) (upd bu c (bu c + nI (s k))) (upd pl k (nI c)) fi ca (by omega) (by omega) (fun o ho => by
                  by_cases e : o = k
                  · subst e; rw [pk_us, nI_1]; exact ⟨c + 1, by omega, rfl⟩
                  · rw [pk_un e, e4 o (by omega)]; exact hpl o (by omega)) (by rw [hop2]; show W + S c + M (opS op c (s k)) < _; omega) (fun c' hc' hb' => by
                  by_cases e : c' = c
                  · subst e; rw [pk_us]; exact ⟨hbn.1, hbn.2, b3⟩
                  · rw [pk_un e]; exact hbu c' hc' hb')
                rw [hop2] at q1 q3 q4
                have hback : upd (upd bu c (bu c + nI (s k))) c (bu c + nI (s k) - nI (s k)) = bu := by
                  rw [upd_upd, sub_cancel, upd_id _ rfl]
                refine ⟨(nI (W + S (c + 1)), bu, pl2, fi2, ca2, nI (c + 1)), ⟨rfl, rfl, rfl, ?_, ?_, ?_⟩, ?_⟩
                · intro o ho
                  show pl2 o = place o
                  rw [q2 o (by omega), pk_un (by omega), e4 o ho]
                · intro o ho
                  show fi2 o = if W = 0 ∧ 0 < S (c + 1) then T o else first o
                  rw [q3 o ho]
                  by_cases hW0 : W = 0
                  · by_cases hSc : 0 < S c
                    · rw [if_neg (show ¬ (W + S c = 0 ∧ 0 < mwN sights s m (k + 1) (opS op c (s k))) by omega), if_pos (show W = 0 ∧ 0 < S (c + 1) from ⟨hW0, by omega⟩), e5 o ho, if_pos (show W = 0 ∧ 0 < S c from ⟨hW0, hSc⟩)]
                    · have hM0 : M op = 0 := by
                        have : M op ≤ S c := Nat.le_add_right _ _
                        omega
                      by_cases hMc : 0 < M (opS op c (s k))
                      · rw [if_pos (show W + S c = 0 ∧ 0 < mwN sights s m (k + 1) (opS op c (s k)) from ⟨by omega, hMc⟩), if_pos (show W = 0 ∧ 0 < S (c + 1) from ⟨hW0, by omega⟩)]
                        have hch : chC sights s m k op = c := by
                          unfold chC
                          apply fst_uniq (by omega)
                          · intro t ht
                            cases hbt : bitB sights t
                            · rfl
                            · have : ¬ 0 < mwN sights s m (k + 1) (opS op t (s k)) := fun z => by
                                apply hSc
                                have : 0 < sumW (fun c => if bitB sights c = true then M (opS op c (s k)) else 0) c := sumW_pos.mpr ⟨t, ht, by rw [if_pos hbt]; exact z⟩
                                show 0 < M op + _
                                omega
                              simp [this]
                          · intro _
                            have : 0 < mwN sights s m (k + 1) (opS op c (s k)) := hMc
                            simp [hb, this]
                        have hM0' : ¬ 0 < mwN sights s m (k + 1) op := by
                          show ¬ 0 < M op
                          omega
                        show _ = if o < k then place o else if o = k then chV sights s m k op else lsV sights s m (m - (k + 1)) (k + 1) (chO sights s m k op) o
                        by_cases o1 : o < k
                        · rw [if_pos (by omega), if_pos o1, pk_un (by omega), e4 o o1]
                        · by_cases o2 : o = k
                          · subst o2
                            rw [if_pos (by omega), if_neg o1, if_pos rfl, pk_us]
                            unfold chV
                            rw [if_neg hM0', hch]
                          · rw [if_neg (by omega), if_neg o1, if_neg o2]
                            unfold chO
                            rw [if_neg hM0', hch]
                      · have hz : ¬ 0 < mwN sights s m (k + 1) (opS op c (s k)) := hMc
                        rw [if_neg (show ¬ (W + S c = 0 ∧ 0 < mwN sights s m (k + 1) (opS op c (s k))) from fun w => hz w.2), if_neg (show ¬ (W = 0 ∧ 0 < S (c + 1)) by omega), e5 o ho, if_neg (show ¬ (W = 0 ∧ 0 < S c) by omega)]
                  · rw [if_neg (show ¬ (W + S c = 0 ∧ 0 < mwN sights s m (k + 1) (opS op c (s k))) by omega), if_neg (show ¬ (W = 0 ∧ 0 < S (c + 1)) from fun w => hW0 w.1), e5 o ho, if_neg (show ¬ (W = 0 ∧ 0 < S c) from fun w => hW0 w.1)]
                · intro o ho i hi
                  show bt (ca2 o) i = _
                  rw [q4 o ho i hi, e6 o ho i hi, Bool.or_assoc]
                  congr 1
                  show ((if o < k then decide (0 < S c) && decide (place o + 1 = nI i) else if o = k then (decide (i = 0) && decide (0 < M op)) || anyN (fun c' => bitB sights c' && (decide (i = c' + 1) && decide (0 < M (opS op c' (s k))))) c else exB sights s m o (k + 1) op i || anyN (fun c' => bitB sights c' && exB sights s m o (k + 1) (opS op c' (s k)) i) c) || _) = if o < k then decide (0 < S (c + 1)) && decide (place o + 1 = nI i) else if o = k then (decide (i = 0) && decide (0 < M op)) || (anyN (fun c' => bitB sights c' && (decide (i = c' + 1) && decide (0 < M (opS op c' (s k))))) c || (bitB sights c && (decide (i = c + 1) && decide (0 < M (opS op c (s k)))))) else exB sights s m o (k + 1) op i || (anyN (fun c' => bitB sights c' && exB sights s m o (k + 1) (opS op c' (s k)) i) c || (bitB sights c && exB sights s m o (k + 1) (opS op c (s k)) i))
                  by_cases o1 : o < k
                  · rw [if_pos o1, if_pos (by omega), if_pos o1, pk_un (by omega), e4 o o1, hS1]
                    have hor : decide (0 < S c + M (opS op c (s k))) = (decide (0 < S c) || decide (0 < M (opS op c (s k)))) := by
                      rw [Bool.eq_iff_iff, Bool.or_eq_true]
                      simp only [decide_eq_true_eq]
                      omega
                    rw [hor]
                    show (decide (0 < S c) && decide (place o + 1 = nI i) || decide (0 < M (opS op c (s k))) && decide (place o + 1 = nI i)) = _
                    rw [Bool.and_or_distrib_right]
                  · by_cases o2 : o = k
                    · subst o2
                      rw [if_neg o1, if_pos rfl, if_pos (by omega), if_neg o1, if_pos rfl, pk_us, nI_1, hb]
                      have : (nI (c + 1) = nI i) ↔ (i = c + 1) := by rw [nI_eq (by omega) (by omega)]; exact eq_comm
                      simp only [this, Bool.true_and, Bool.or_assoc]
                      rw [Bool.and_comm (decide (i = c + 1))]
                    · rw [if_neg o1, if_neg o2, if_neg (by omega), if_neg o1, if_neg o2, hb]
                      simp only [Bool.true_and, Bool.or_assoc]
                · have eW : W + S c + mwN sights s m (k + 1) (opS op c (s k)) = W + S (c + 1) := by
                    rw [hS1]; show W + S c + M (opS op c (s k)) = _; omega
                  simp only [fX12_placesFrom_l105, if_neg cc, t_hasM, hb, b2i_t, ob_s, if_neg z10, if_pos (inb_n (show c < 12 by omega) (by omega)), if_pos (inb_n hk8 (by omega)), clc, cl, hsk k hk2, if_neg hlt, nI_1, q1, pk_us, hback, fX12_placesFrom_b190, eW]
      obtain ⟨pl', fi', ca', g1, g2, g3, g4⟩ := key
      refine ⟨pl', fi', ca', ?_, g2, ?_, ?_⟩
      · rw [hS12, ← hSn]
        simp only [fX12_placesFrom_s, if_neg zk, if_pos (inb_n hk8 (by omega)), cl, nI_1, r1, ob_s]
        exact g1
      · intro o ho
        rw [g3 o ho, hS12, ← hSn]
        obtain ⟨r, hr⟩ : ∃ r, m - k = r + 1 := ⟨m - k - 1, by omega⟩
        have hr2 : m - (k + 1) = r := by omega
        rw [hr]
        show (if W = 0 ∧ 0 < S n then (if o < k then place o else if o = k then chV sights s m k op else lsV sights s m (m - (k + 1)) (k + 1) (chO sights s m k op) o) else first o) = _
        rw [hr2]
        rfl
      · intro o ho i hi
        rw [g4 o ho i hi, hS12, ← hSn]
        congr 1
        show (if o < k then decide (0 < S n) && decide (place o + 1 = nI i) else if o = k then (decide (i = 0) && decide (0 < M op)) || anyN (fun c' => bitB sights c' && (decide (i = c' + 1) && decide (0 < M (opS op c' (s k))))) n else exB sights s m o (k + 1) op i || anyN (fun c' => bitB sights c' && exB sights s m o (k + 1) (opS op c' (s k)) i) n) = _
        by_cases o1 : o < k
        · rw [if_pos o1, if_pos o1]
        · rw [if_neg o1, if_neg o1]
          by_cases o2 : o = k
          · subst o2
            rw [if_pos rfl, ← any_12 hn hw]
            unfold exB
            rw [mx_o hm ho]
            cases i with
            | zero =>
              have : anyN (fun c' => bitB sights c' && (decide (0 = c' + 1) && decide (0 < M (opS op c' (s o))))) 12 = false := (anyN_f _ 12).mpr (fun c _ => by simp)
              rw [this]
              simp [okB, shO, M]
              exact decide_eq_decide.mpr Iff.rfl
            | succ dd =>
              rw [Bool.eq_iff_iff, Bool.or_eq_true, anyN_iff]
              simp only [okB, shO, Bool.and_eq_true, decide_eq_true_eq]
              constructor
              · rintro (⟨h1, -⟩ | ⟨c', h1, h2, h3, h4⟩)
                · omega
                · have : c' = dd := by omega
                  subst this
                  exact ⟨⟨h1, h2⟩, decide_eq_true h4⟩
              · rintro ⟨⟨h1, h2⟩, h3⟩
                exact Or.inr ⟨dd, h1, h2, rfl, of_decide_eq_true h3⟩
          · rw [if_neg o2, ex_s hm (show k < o by omega) ho, any_12 hn hw]
