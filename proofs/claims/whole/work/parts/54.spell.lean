/-! ===== a spell ===== -/
def fillN {α : Type} (A f : Nat → α) (i : Nat) : Nat → α := fun c => if c < i then A c else f c
theorem fill_0 {α : Type} (A f : Nat → α) : fillN A f 0 = f := by funext c; simp [fillN]
theorem fill_s (A f : Nat → Int32) (i : Nat) : upd (fillN A f i) i (A i) = fillN A f (i + 1) := by
  funext c
  by_cases e : c = i
  · subst e; rw [pk_us]; simp [fillN]
  · rw [pk_un e]
    have : (c < i + 1) ↔ (c < i) := by omega
    simp [fillN, this]
theorem fill_at {α : Type} (A f : Nat → α) (i : Nat) : fillN A f i i = f i := by simp [fillN]
theorem fill_lt {α : Type} (A f : Nat → α) {i c : Nat} (h : c < i) : fillN A f i c = A c := by simp [fillN, h]
theorem fill_ge {α : Type} (A f : Nat → α) {i c : Nat} (h : i ≤ c) : fillN A f i c = f c := by simp [fillN, Nat.not_lt.mpr h]
theorem buck_congr {age skill friend place mood age' skill' friend' place' mood' : Nat → Int32} {spades : Int32} {m : Nat} (h1 : ∀ k, k < m → age' k = age k) (h2 : ∀ k, k < m → skill' k = skill k) (h3 : ∀ k, k < m → friend' k = friend k) (h4 : ∀ k, k < m → place' k = place k) (h5 : ∀ k, k < m → mood' k = mood k) {k : Nat} (hk : k < m) : buckS age' skill' friend' place' mood' spades m k = buckS age skill friend place mood spades m k := by
  have e : friB friend' place' m k = friB friend place m k := anyN_congr (fun o ho => by simp only [palB, nearB]; rw [h3 k hk, h3 o ho, h4 o ho, h4 k hk])
  simp only [buckS, h4 k hk, h2 k hk, h1 k hk, h5 k hk, e]
theorem half_r {x : Int32} (h0 : 0 ≤ x) (h1 : x ≤ 100) : 0 ≤ x / 2 ∧ x / 2 ≤ 100 := by
  obtain ⟨j, hj, rfl⟩ := nI_of2 (x := x) (M := 100) (n := 100) rfl (by grind) h1
  show 0 ≤ nI j / nI 2 ∧ nI j / nI 2 ≤ 100
  rw [pk_div (by omega) (by omega) (by omega)]
  exact ⟨nI_pos' (by omega), nI_le (b := 100) (by omega) (by omega)⟩
theorem halv_r {x a b : Int32} (h0 : 0 ≤ x) (h1 : x ≤ 100) : 0 ≤ halvS x a b ∧ halvS x a b ≤ 100 := by
  unfold halvS
  split <;> split
  · exact half_r h0 h1
  · exact half_r (half_r h0 h1).1 (half_r h0 h1).2
  · exact ⟨h0, h1⟩
  · exact half_r h0 h1
theorem ld_r {x y z : Int32} (h1 : 1 ≤ x) (h2 : x ≤ 9) (hy : y = 0 ∨ y = 2) (hz : z = 0 ∨ z = 1) : 0 ≤ x + y + z ∧ x + y + z ≤ 100 := by
  rcases hy with rfl | rfl <;> rcases hz with rfl | rfl <;> constructor <;> grind
theorem buck_r {age skill friend place mood : Nat → Int32} {spades : Int32} {m k : Nat} (hs : 1 ≤ skill k ∧ skill k ≤ 9) : 0 ≤ buckS age skill friend place mood spades m k ∧ buckS age skill friend place mood spades m k ≤ 100 := by
  unfold buckS
  by_cases h : place k = -1
  · rw [if_pos h]; decide
  · rw [if_neg h]
    have hl := ld_r (y := if bitB spades k = true then 2 else 0) (z := b2i (friB friend place m k)) hs.1 hs.2 (by split <;> simp) (b2i_01 _)
    exact halv_r hl.1 hl.2
def gotS (age skill friend mood place : Nat → Int32) (spades : Int32) (m i c : Nat) : Int32 := sumN (fun k => if place k = nI c then buckS age skill friend place mood spades m k else 0) i
theorem sum_r1 {s f : Int32} {i : Nat} (hi : i < 100) (h1 : 0 ≤ s) (h2 : s ≤ 100 * nI i) (h3 : 0 ≤ f) (h4 : f ≤ 100) : 0 ≤ s + f ∧ s + f ≤ 100 * nI (i + 1) := by
  have e1 : (100 : Int32) * nI i = nI (100 * i) := pk_mul 100 i
  have e2 : (100 : Int32) * nI (i + 1) = nI (100 * i + 100) := by
    show nI 100 * nI (i + 1) = _
    rw [pk_mul]; congr 1
  rw [e1] at h2
  obtain ⟨a, ha, rfl⟩ := nI_of (x := s) (by grind)
  obtain ⟨b, hb, rfl⟩ := nI_of2 (x := f) (M := 100) (n := 100) rfl (by grind) h4
  rw [nI_leI ha (by omega)] at h2
  rw [e2, nI_add, nI_leI (by omega) (by omega)]
  exact ⟨nI_pos' (by omega), by omega⟩
theorem sum_r {f : Nat → Int32} : ∀ {n : Nat}, n ≤ 100 → (∀ k, k < n → 0 ≤ f k ∧ f k ≤ 100) → 0 ≤ sumN f n ∧ sumN f n ≤ 100 * nI n
  | 0, _, _ => by rw [sumN_0]; decide
  | n + 1, hn, h => by
    have ih := sum_r (n := n) (by omega) (fun k hk => h k (by omega))
    rw [sumN_s]
    exact sum_r1 (by omega) ih.1 ih.2 (h n (by omega)).1 (h n (by omega)).2
theorem jmin_n {a b : Nat} (ha : a < 2 ^ 31) (hb : b < 2 ^ 31) : jmin (nI a) (nI b) = nI (min a b) := by
  unfold jmin
  by_cases h : b < a
  · rw [if_pos ((nI_ltI hb ha).mpr h), Nat.min_eq_right (by omega)]
  · rw [if_neg (fun z => h ((nI_ltI hb ha).mp z)), Nat.min_eq_left (by omega)]
theorem jmax_n {a b : Nat} (ha : a < 2 ^ 31) (hb : b < 2 ^ 31) : jmax (nI a) (nI b) = nI (max a b) := by
  unfold jmax
  by_cases h : a < b
  · rw [if_pos ((nI_ltI ha hb).mpr h), Nat.max_eq_right (by omega)]
  · rw [if_neg (fun z => h ((nI_ltI ha hb).mp z)), Nat.max_eq_left (by omega)]
theorem min_min {w s f : Int32} (hw : 0 ≤ w) (hw2 : w ≤ 999) (hs : 0 ≤ s) (hs2 : s ≤ 800) (hf : 0 ≤ f) (hf2 : f ≤ 100) : jmin 999 (jmin 999 (w + s) + f) = jmin 999 (w + (s + f)) := by
  obtain ⟨a, ha, rfl⟩ := nI_of2 (x := w) (M := 999) (n := 999) rfl (by grind) hw2
  obtain ⟨b, hb, rfl⟩ := nI_of2 (x := s) (M := 800) (n := 800) rfl (by grind) hs2
  obtain ⟨c, hc, rfl⟩ := nI_of2 (x := f) (M := 100) (n := 100) rfl (by grind) hf2
  show jmin (nI 999) (jmin (nI 999) (nI a + nI b) + nI c) = jmin (nI 999) (nI a + (nI b + nI c))
  rw [nI_add, nI_add, nI_add, jmin_n (by omega) (by omega), nI_add, jmin_n (by omega) (by omega), jmin_n (by omega) (by omega)]
  congr 1
  omega
theorem min_0 {w : Int32} (hw : 0 ≤ w) (hw2 : w ≤ 999) : jmin 999 (w + 0) = w := by unfold jmin; grind
theorem min_r {w s : Int32} (hw : 0 ≤ w) (hw2 : w ≤ 999) (hs : 0 ≤ s) (hs2 : s ≤ 2000) : 0 ≤ jmin 999 (w + s) ∧ jmin 999 (w + s) ≤ 999 := by unfold jmin; grind
def clM (mood place : Nat → Int32) (k : Nat) : Int32 := if place k = -1 then mood k else jmax 0 (mood k - 1)
def clP (mood place : Nat → Int32) (k : Nat) : Int32 := if place k = -1 then place k else if jmax 0 (mood k - 1) = 0 then -1 else place k
def clW (n m : Nat) (age skill friend wall mood place : Nat → Int32) (spades : Int32) (i : Nat) : Nat → Int32 := fun c => if c < n then jmin 999 (wall c + gotS age skill friend mood place spades m i c) else wall c
theorem pl_ix {n m : Nat} {place : Nat → Int32} (hn : n ≤ 12) (hp : plOk place n m) {k : Nat} (hk : k < m) (h : ¬ place k = -1) : ∃ c, c < n ∧ place k = nI c := by
  obtain ⟨h1, h2⟩ := hp k hk
  obtain ⟨c, hc, e⟩ := nI_of (x := place k) (i_ge0 h1 h).2
  rw [e, nI_ltI (by omega) (by omega)] at h2
  exact ⟨c, h2, e⟩
theorem t_spell63 {n m : Nat} (hm : m ≤ 8) (age skill pals wall mood place : Nat → Int32) (spades : Int32) : fX9_spell_b63 spades wall mood place (nI m) age skill pals (nI n) 0 = some (wall, fillN (clM mood place) mood m, fillN (clP mood place) place m) := by
  unfold fX9_spell_b63
  refine lp_up (fun i => (fillN (clM mood place) mood i, fillN (clP mood place) place i, nI i)) m (by omega) (by rw [fill_0, fill_0]; rfl) ?_ ?_
  · intro i hi k
    have h8 : i < 8 := by omega
    have eM := fill_s (clM mood place) mood i
    have eP := fill_s (clP mood place) place i
    by_cases h1 : place i = -1
    · have z1 : clM mood place i = mood i := by simp [clM, h1]
      have z2 : clP mood place i = place i := by simp [clP, h1]
      have y1 : fillN (clM mood place) mood (i + 1) = fillN (clM mood place) mood i := by
        rw [← eM, z1]; funext c
        by_cases e : c = i
        · subst e; rw [pk_us, fill_at]
        · rw [pk_un e]
      have y2 : fillN (clP mood place) place (i + 1) = fillN (clP mood place) place i := by
        rw [← eP, z2]; funext c
        by_cases e : c = i
        · subst e; rw [pk_us, fill_at]
        · rw [pk_un e]
      simp (disch := omega) [fX9_spell_b124, fX9_spell_b118, fX9_spell_l63, fX9_spell_b61, fX9_spell_b55, fX9_spell_l2, nI_leI, nI_ltI, nI_clamp, nI_pos', nI_1, nI_eq, Nat.not_le.mpr hi, h8, fill_at, h1, y1, y2]
    · have z1 : clM mood place i = jmax 0 (mood i - 1) := by simp [clM, h1]
      rw [z1] at eM
      by_cases h2 : jmax 0 (mood i - 1) = 0
      · have z2 : clP mood place i = -1 := by simp [clP, h1, h2]
        rw [z2] at eP
        simp (disch := omega) [fX9_spell_b124, fX9_spell_b118, fX9_spell_l63, fX9_spell_b61, fX9_spell_b55, fX9_spell_l2, nI_leI, nI_ltI, nI_clamp, nI_pos', nI_1, nI_eq, Nat.not_le.mpr hi, h8, fill_at, h1, pk_us, h2, ← eM, ← eP]
      · have z2 : clP mood place i = place i := by simp [clP, h1, h2]
        have y2 : fillN (clP mood place) place (i + 1) = fillN (clP mood place) place i := by
          rw [← eP, z2]; funext c
          by_cases e : c = i
          · subst e; rw [pk_us, fill_at]
          · rw [pk_un e]
        simp (disch := omega) [fX9_spell_b124, fX9_spell_b118, fX9_spell_l63, fX9_spell_b61, fX9_spell_b55, fX9_spell_l2, nI_leI, nI_ltI, nI_clamp, nI_pos', nI_1, nI_eq, Nat.not_le.mpr hi, h8, fill_at, h1, pk_us, h2, ← eM, y2]
  · intro k
    simp (disch := omega) [fX9_spell_b124, fX9_spell_b118, fX9_spell_l63, fX9_spell_b61, fX9_spell_b55, fX9_spell_l2, nI_leI, nI_ltI, nI_clamp, nI_pos', nI_1, nI_eq]
theorem t_spell {n m : Nat} (hn : n ≤ 12) (hm : m ≤ 8) {age skill friend pals wall mood place : Nat → Int32} {spades : Int32} (hq : palsOk friend pals m) (hs : ∀ k, k < m → 1 ≤ skill k ∧ skill k ≤ 9) (hw : ∀ c, c < n → 0 ≤ wall c ∧ wall c ≤ 999) (hp : plOk place n m) : fX9_spell spades wall mood place (nI m) age skill pals (nI n) = some (clW n m age skill friend wall mood place spades m, fillN (clM mood place) mood m, fillN (clP mood place) place m) := by
  unfold fX9_spell fX9_spell_b2
  refine lp_up (fun i => (clW n m age skill friend wall mood place spades i, nI i)) m (by omega) ?_ ?_ ?_
  · have : clW n m age skill friend wall mood place spades 0 = wall := by
      funext c
      simp only [clW, gotS, sumN_0]
      split
      · exact min_0 (hw c (by assumption)).1 (hw c (by assumption)).2
      · rfl
    simp only [this]; rfl
  · intro i hi k
    have h8 : i < 8 := by omega
    have hB := buck_r (age := age) (friend := friend) (place := place) (mood := mood) (spades := spades) (m := m) (hs i hi)
    by_cases h1 : place i = -1
    · have z : clW n m age skill friend wall mood place spades (i + 1) = clW n m age skill friend wall mood place spades i := by
        funext c
        have e : ¬ place i = nI c ∨ 2 ^ 31 ≤ c := by
          rcases Nat.lt_or_ge c (2 ^ 31) with q | q
          · left; rw [h1]; intro z
            have := nI_pos' q
            rw [← z] at this
            exact absurd this (by decide)
          · right; exact q
        simp only [clW, gotS, sumN_s]
        rcases e with e | e
        · rw [if_neg e]; simp
        · have : ¬ c < n := by omega
          simp [this]
      have hd : ¬ (0 ≤ place i ∧ place i < nI n) := by rw [h1]; intro z; exact absurd z.1 (by decide)
      simp (disch := omega) [fX9_spell_b124, fX9_spell_b118, fX9_spell_l63, fX9_spell_b61, fX9_spell_b55, fX9_spell_l2, nI_leI, nI_ltI, nI_clamp, nI_pos', nI_1, nI_eq, Nat.not_le.mpr hi, h8, t_has5, hd, b2i, z]
    · obtain ⟨c0, hc0, e0⟩ := pl_ix hn hp hi h1
      have hc12 : c0 < 12 := by omega
      have z : clW n m age skill friend wall mood place spades (i + 1) = upd (clW n m age skill friend wall mood place spades i) c0 (jmin 999 (clW n m age skill friend wall mood place spades i c0 + buckS age skill friend place mood spades m i)) := by
        funext c
        have hS := sum_r (f := fun k => if place k = nI c then buckS age skill friend place mood spades m k else 0) (n := i) (by omega) (fun k hk => by
          show 0 ≤ (if place k = nI c then _ else _) ∧ (if place k = nI c then _ else _) ≤ 100
          split
          · exact buck_r (hs k (by omega))
          · decide)
        have hS2 : sumN (fun k => if place k = nI c then buckS age skill friend place mood spades m k else 0) i ≤ 800 := by
          have : (100 : Int32) * nI i ≤ 800 := by
            show nI 100 * nI i ≤ nI 800
            rw [pk_mul, nI_leI (by omega) (by omega)]; omega
          exact Int32.le_trans hS.2 this
        by_cases e : c = c0
        · subst e
          rw [pk_us]
          simp only [clW, gotS, sumN_s, if_pos hc0, e0, if_true]
          rw [min_min (hw c hc0).1 (hw c hc0).2 hS.1 hS2 hB.1 hB.2]
        · rw [pk_un e]
          simp only [clW, gotS, sumN_s]
          by_cases hcn : c < n
          · have : ¬ place i = nI c := by rw [e0, nI_eq (by omega) (by omega)]; omega
            rw [if_neg this]; simp
          · simp [hcn]
      have hd : (0 ≤ nI c0 ∧ nI c0 < nI n) := ⟨nI_pos' (by omega), nI_lt hc0 (by omega)⟩
      simp (disch := omega) [fX9_spell_b124, fX9_spell_b118, fX9_spell_l63, fX9_spell_b61, fX9_spell_b55, fX9_spell_l2, nI_leI, nI_ltI, nI_clamp, nI_pos', nI_1, nI_eq, Nat.not_le.mpr hi, h8, t_has5, e0, hd, b2i, z, hc12, t_buckets hm hq hi]
  · intro k
    simp (disch := omega) [fX9_spell_b124, fX9_spell_b118, fX9_spell_l63, fX9_spell_b61, fX9_spell_b55, fX9_spell_l2, nI_leI, nI_ltI, nI_clamp, nI_pos', nI_1, nI_eq, t_spell63 hm]
/-! the model's -/
def mdR (n m : Nat) (age skill friend r : Nat → Int32) : Nat → Int32 := fun j => if j < n then jmin 999 (r j + gotS age skill friend (moS r) (atS r) (r 41) m m j) else if 25 ≤ j ∧ j < 25 + 2 * m then (if (j - 25) % 2 = 0 then clP (moS r) (atS r) ((j - 25) / 2) else clM (moS r) (atS r) ((j - 25) / 2)) else r j
def kidR (G f : Nat → Int32) (i : Nat) : Nat → Int32 := fun j => if 25 ≤ j ∧ j < 25 + 2 * i then G j else f j
theorem kid_s (G f : Nat → Int32) (i : Nat) : upd (upd (kidR G f i) (26 + 2 * i) (G (26 + 2 * i))) (25 + 2 * i) (G (25 + 2 * i)) = kidR G f (i + 1) := by
  funext j
  by_cases e : j = 25 + 2 * i
  · subst e; rw [pk_us]; simp only [kidR]; rw [if_pos (by omega)]
  · rw [pk_un e]
    by_cases e2 : j = 26 + 2 * i
    · subst e2; rw [pk_us]; simp only [kidR]; rw [if_pos (by omega)]
    · rw [pk_un e2]
      simp only [kidR]
      have : (25 ≤ j ∧ j < 25 + 2 * (i + 1)) ↔ (25 ≤ j ∧ j < 25 + 2 * i) := by omega
      simp only [this]
theorem upd_id (f : Nat → Int32) {k : Nat} {x : Int32} (h : f k = x) : upd f k x = f := by
  funext j
  by_cases e : j = k
  · subst e; rw [pk_us, h]
  · rw [pk_un e]
def kidG (r : Nat → Int32) : Nat → Int32 := fun j => if (j - 25) % 2 = 0 then clP (moS r) (atS r) ((j - 25) / 2) else clM (moS r) (atS r) ((j - 25) / 2)
theorem kidG_p (r : Nat → Int32) (i : Nat) : kidG r (25 + 2 * i) = clP (moS r) (atS r) i := by
  have e1 : (25 + 2 * i - 25) % 2 = 0 := by omega
  have e2 : (25 + 2 * i - 25) / 2 = i := by omega
  simp only [kidG, e1, e2, if_true]
theorem kidG_m (r : Nat → Int32) (i : Nat) : kidG r (26 + 2 * i) = clM (moS r) (atS r) i := by
  have e1 : ¬ (26 + 2 * i - 25) % 2 = 0 := by omega
  have e2 : (26 + 2 * i - 25) / 2 = i := by omega
  simp only [kidG, e2, if_neg e1]
/-- who goes home -/
def homB (mood place : Nat → Int32) (k : Nat) : Bool := !decide (place k = -1) && decide (jmax 0 (mood k - 1) = 0)
theorem clP_x (r : Nat → Int32) (i : Nat) : clP (moS r) (atS r) i = if r (25 + 2 * i) = -1 then r (25 + 2 * i) else if jmax 0 (r (26 + 2 * i) - 1) = 0 then -1 else r (25 + 2 * i) := rfl
theorem clM_x (r : Nat → Int32) (i : Nat) : clM (moS r) (atS r) i = if r (25 + 2 * i) = -1 then r (26 + 2 * i) else jmax 0 (r (26 + 2 * i) - 1) := rfl
theorem t_sg103 {n m : Nat} (hm : m ≤ 8) (age skill friend gets r r0 : Nat → Int32) (wh : Int32) (hp : ∀ k, k < m → -1 ≤ r (25 + 2 * k)) (h0 : ∀ j, 25 ≤ j → r0 j = r j) : fX12_spellGoes_b103 (nI n) (nI m) wh age skill friend gets r0 0 = some (upT (fun k a => if homB (moS r) (atS r) k then a ||| jshl 1 (nI k) else a) m wh, gets, kidR (kidG r) r0 m) := by
  unfold fX12_spellGoes_b103
  refine lp_up (fun i => (upT (fun k a => if homB (moS r) (atS r) k then a ||| jshl 1 (nI k) else a) i wh, kidR (kidG r) r0 i, nI i)) m (by omega) ?_ ?_ ?_
  · have : kidR (kidG r) r0 0 = r0 := by
      funext j; simp only [kidR]; rw [if_neg (by omega)]
    simp only [this]; rfl
  · intro i hi k
    have h43 : 25 + 2 * i < 43 := by omega
    have h44 : 26 + 2 * i < 43 := by omega
    have eK := kid_s (kidG r) r0 i
    have a1 : kidR (kidG r) r0 i (25 + 2 * i) = r (25 + 2 * i) := by simp only [kidR]; rw [if_neg (by omega), h0 _ (by omega)]
    have a2 : kidR (kidG r) r0 i (26 + 2 * i) = r (26 + 2 * i) := by simp only [kidR]; rw [if_neg (by omega), h0 _ (by omega)]
    have e26 : 25 + 2 * i + 1 = 26 + 2 * i := by omega
    rw [kidG_p, kidG_m] at eK
    show _ = k (if homB (moS r) (atS r) i then _ else _, _, _)
    by_cases h1 : r (25 + 2 * i) = -1
    · have hh : homB (moS r) (atS r) i = false := by simp [homB, atS, h1]
      have y : kidR (kidG r) r0 (i + 1) = kidR (kidG r) r0 i := by
        rw [← eK, clP_x, clM_x, if_pos h1, if_pos h1, upd_id _ a2, upd_id _ a1]
      have hl : r (25 + 2 * i) < 0 := by rw [h1]; decide
      simp (disch := omega) [fX12_spellGoes_b174, fX12_spellGoes_b168, fX12_spellGoes_l103, fX12_spellGoes_b101, fX12_spellGoes_l68, fX12_spellGoes_b66, fX12_spellGoes_b60, fX12_spellGoes_l25, fX12_spellGoes_b23, fX12_spellGoes_l2, nI_leI, nI_ltI, nI_clamp, nI_pos', nI_1, nI_eq, ix_k, Nat.not_le.mpr hi, h43, a1, hl, y, hh]
    · have hl := (i_ge0 (hp i hi) h1).2
      rw [clP_x, clM_x, if_neg h1, if_neg h1] at eK
      by_cases h2 : jmax 0 (r (26 + 2 * i) - 1) = 0
      · have hh : homB (moS r) (atS r) i = true := by simp [homB, atS, moS, h1, h2]
        rw [if_pos h2] at eK
        simp (disch := omega) [fX12_spellGoes_b174, fX12_spellGoes_b168, fX12_spellGoes_l103, fX12_spellGoes_b101, fX12_spellGoes_l68, fX12_spellGoes_b66, fX12_spellGoes_b60, fX12_spellGoes_l25, fX12_spellGoes_b23, fX12_spellGoes_l2, nI_leI, nI_ltI, nI_clamp, nI_pos', nI_1, nI_eq, ix_k, e26, Nat.not_le.mpr hi, h43, h44, a1, a2, hl, pk_us, h2, hh, ← eK]
      · have hh : homB (moS r) (atS r) i = false := by simp [homB, atS, moS, h1, h2]
        rw [if_neg h2] at eK
        have e25 : upd (kidR (kidG r) r0 i) (26 + 2 * i) (jmax 0 (r (26 + 2 * i) - 1)) (25 + 2 * i) = r (25 + 2 * i) := by rw [pk_un (by omega), a1]
        rw [upd_id _ e25] at eK
        simp (disch := omega) [fX12_spellGoes_b174, fX12_spellGoes_b168, fX12_spellGoes_l103, fX12_spellGoes_b101, fX12_spellGoes_l68, fX12_spellGoes_b66, fX12_spellGoes_b60, fX12_spellGoes_l25, fX12_spellGoes_b23, fX12_spellGoes_l2, nI_leI, nI_ltI, nI_clamp, nI_pos', nI_1, nI_eq, ix_k, e26, Nat.not_le.mpr hi, h43, h44, a1, a2, hl, pk_us, h2, hh, ← eK]
  · intro k
    simp (disch := omega) [fX12_spellGoes_b174, fX12_spellGoes_b168, fX12_spellGoes_l103, fX12_spellGoes_b101, fX12_spellGoes_l68, fX12_spellGoes_b66, fX12_spellGoes_b60, fX12_spellGoes_l25, fX12_spellGoes_b23, fX12_spellGoes_l2, nI_leI, nI_ltI, nI_clamp, nI_pos', nI_1, nI_eq]
theorem t_spellM {n m : Nat} (hn : n ≤ 12) (hm : m ≤ 8) {age skill friend r : Nat → Int32} (gets : Nat → Int32) (wh : Int32) (hf : frOk friend m) (hp : plOk (atS r) n m) : ∃ gets', fX12_spellGoes (nI n) (nI m) wh age skill friend gets r = some (upT (fun k a => if homB (moS r) (atS r) k then a ||| jshl 1 (nI k) else a) m wh, gets', mdR n m age skill friend r) := by
  have e68 : ∀ g : Nat → Int32, (∀ c, c < n → g c = gotS age skill friend (moS r) (atS r) (r 41) m m c) → fX12_spellGoes_b68 (nI n) (nI m) wh age skill friend g r 0 = some (upT (fun k a => if homB (moS r) (atS r) k then a ||| jshl 1 (nI k) else a) m wh, g, mdR n m age skill friend r) := by
    intro g hg
    unfold fX12_spellGoes_b68
    refine lp_up (fun i => (fillN (fun c => jmin 999 (r c + g c)) r i, nI i)) n (by omega) (by rw [fill_0]; rfl) ?_ ?_
    · intro i hi k
      have h12 : i < 12 := by omega
      have h43 : i < 43 := by omega
      simp (disch := omega) [fX12_spellGoes_b174, fX12_spellGoes_b168, fX12_spellGoes_l103, fX12_spellGoes_b101, fX12_spellGoes_l68, fX12_spellGoes_b66, fX12_spellGoes_b60, fX12_spellGoes_l25, fX12_spellGoes_b23, fX12_spellGoes_l2, nI_leI, nI_ltI, nI_clamp, nI_pos', nI_1, nI_eq, Nat.not_le.mpr hi, h12, h43, fill_at, ← fill_s]
    · intro k
      have := t_sg103 (n := n) hm age skill friend g r (fillN (fun c => jmin 999 (r c + g c)) r n) wh (fun k hk => (hp k hk).1) (fun j hj => fill_ge _ _ (by omega))
      have e2 : kidR (kidG r) (fillN (fun c => jmin 999 (r c + g c)) r n) m = mdR n m age skill friend r := by
        funext j
        simp only [kidR, mdR, fillN]
        by_cases q : j < n
        · rw [if_neg (by omega), if_pos q, if_pos q, hg j q]
        · rw [if_neg q, if_neg q]; rfl
      rw [e2] at this
      simp (disch := omega) [fX12_spellGoes_b174, fX12_spellGoes_b168, fX12_spellGoes_l103, fX12_spellGoes_b101, fX12_spellGoes_l68, fX12_spellGoes_b66, fX12_spellGoes_b60, fX12_spellGoes_l25, fX12_spellGoes_b23, fX12_spellGoes_l2, nI_leI, nI_ltI, nI_clamp, nI_pos', nI_1, nI_eq, this]
  have e25 : ∀ g : Nat → Int32, (∀ c, c < n → g c = 0) → ∃ gets', fX12_spellGoes_b25 (nI n) (nI m) wh age skill friend g r 0 = some (upT (fun k a => if homB (moS r) (atS r) k then a ||| jshl 1 (nI k) else a) m wh, gets', mdR n m age skill friend r) := by
    intro g hg
    unfold fX12_spellGoes_b25
    refine lp_inv (fun x => ∃ gets', x = some (upT (fun k a => if homB (moS r) (atS r) k then a ||| jshl 1 (nI k) else a) m wh, gets', mdR n m age skill friend r)) (fun i s => s.2 = nI i ∧ ∀ c, c < n → s.1 c = gotS age skill friend (moS r) (atS r) (r 41) m i c) m (by omega) ⟨rfl, hg⟩ ?_
    intro i s q hi hI
    obtain ⟨g2, x⟩ := s
    obtain ⟨e, hI⟩ := hI
    simp only at e hI
    subst e
    by_cases e : i = m
    · subst e
      right
      refine ⟨g2, ?_⟩
      simp (disch := omega) [fX12_spellGoes_b174, fX12_spellGoes_b168, fX12_spellGoes_l103, fX12_spellGoes_b101, fX12_spellGoes_l68, fX12_spellGoes_b66, fX12_spellGoes_b60, fX12_spellGoes_l25, fX12_spellGoes_b23, fX12_spellGoes_l2, nI_leI, nI_ltI, nI_clamp, nI_pos', nI_1, nI_eq, e68 g2 hI]
    · have him : i < m := by omega
      left
      refine ⟨him, ?_⟩
      have ka : fX12_atOf r (nI i) = some (atS r i) := t_atOf (by omega) r
      by_cases h1 : atS r i = -1
      · refine ⟨(g2, nI (i + 1)), ⟨rfl, ?_⟩, ?_⟩
        · intro c hc
          show g2 c = gotS age skill friend (moS r) (atS r) (r 41) m (i + 1) c
          have : ¬ atS r i = nI c := by
            rw [h1]; intro z
            have := nI_pos' (n := c) (by omega)
            rw [← z] at this
            exact absurd this (by decide)
          rw [hI c hc]
          simp only [gotS, sumN_s, if_neg this]
          simp
        · have hl : atS r i < 0 := by rw [h1]; decide
          simp (disch := omega) [fX12_spellGoes_b174, fX12_spellGoes_b168, fX12_spellGoes_l103, fX12_spellGoes_b101, fX12_spellGoes_l68, fX12_spellGoes_b66, fX12_spellGoes_b60, fX12_spellGoes_l25, fX12_spellGoes_b23, fX12_spellGoes_l2, nI_leI, nI_ltI, nI_clamp, nI_pos', nI_1, nI_eq, Nat.not_le.mpr him, ka, hl]
      · obtain ⟨c0, hc0, e0⟩ := pl_ix hn hp him h1
        have hc12 : c0 < 12 := by omega
        refine ⟨(upd g2 c0 (g2 c0 + buckS age skill friend (atS r) (moS r) (r 41) m i), nI (i + 1)), ⟨rfl, ?_⟩, ?_⟩
        · intro c hc
          show upd g2 c0 _ c = gotS age skill friend (moS r) (atS r) (r 41) m (i + 1) c
          simp only [gotS, sumN_s, e0]
          by_cases e : c = c0
          · subst e; rw [pk_us, if_pos rfl, hI c hc]; rfl
          · have : ¬ nI c0 = nI c := by rw [nI_eq (by omega) (by omega)]; omega
            rw [pk_un e, if_neg this, hI c hc]; simp [gotS]
        · have hl : ¬ nI c0 < 0 := nI_pos (by omega)
          simp (disch := omega) [fX12_spellGoes_b174, fX12_spellGoes_b168, fX12_spellGoes_l103, fX12_spellGoes_b101, fX12_spellGoes_l68, fX12_spellGoes_b66, fX12_spellGoes_b60, fX12_spellGoes_l25, fX12_spellGoes_b23, fX12_spellGoes_l2, nI_leI, nI_ltI, nI_clamp, nI_pos', nI_1, nI_eq, Nat.not_le.mpr him, ka, hl, e0, hc12, t_bucketsOf hm hn hp hf him]
  obtain ⟨g', h'⟩ := e25 (fillN (fun _ => 0) gets n) (fun c hc => fill_lt _ _ hc)
  refine ⟨g', ?_⟩
  unfold fX12_spellGoes fX12_spellGoes_b2
  refine lp_up (fun i => (fillN (fun _ => 0) gets i, nI i)) n (by omega) (by rw [fill_0]; rfl) ?_ ?_
  · intro i hi k
    have h12 : i < 12 := by omega
    have := fill_s (fun _ => (0 : Int32)) gets i
    simp (disch := omega) [fX12_spellGoes_b174, fX12_spellGoes_b168, fX12_spellGoes_l103, fX12_spellGoes_b101, fX12_spellGoes_l68, fX12_spellGoes_b66, fX12_spellGoes_b60, fX12_spellGoes_l25, fX12_spellGoes_b23, fX12_spellGoes_l2, nI_leI, nI_ltI, nI_clamp, nI_pos', nI_1, nI_eq, Nat.not_le.mpr hi, h12, ← this]
  · intro k
    simp (disch := omega) [fX12_spellGoes_b174, fX12_spellGoes_b168, fX12_spellGoes_l103, fX12_spellGoes_b101, fX12_spellGoes_l68, fX12_spellGoes_b66, fX12_spellGoes_b60, fX12_spellGoes_l25, fX12_spellGoes_b23, fX12_spellGoes_l2, nI_leI, nI_ltI, nI_clamp, nI_pos', nI_1, nI_eq, h']
