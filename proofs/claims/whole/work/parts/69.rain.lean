/-! ===== rain ===== -/
theorem sumW_split (f : Nat → Nat) (a : Nat) : ∀ b, sumW f (a + b) = sumW f a + sumW (fun i => f (a + i)) b
  | 0 => by simp [sumW]
  | b + 1 => by
    show sumW f (a + b) + f (a + b) = sumW f a + (sumW (fun i => f (a + i)) b + f (a + b))
    rw [sumW_split f a b]; omega
theorem sumW_mulc (f : Nat → Nat) (c : Nat) : ∀ n, sumW (fun i => f i * c) n = sumW f n * c
  | 0 => by simp [sumW]
  | n + 1 => by
    simp only [sumW]; rw [sumW_mulc f c n, Nat.add_mul]
theorem sumW_z (n : Nat) : sumW (fun _ => 0) n = 0 := by
  induction n with
  | zero => rfl
  | succ n ih => simp only [sumW]; omega
theorem sumW_swap (g : Nat → Nat → Nat) (k : Nat) : ∀ N, sumW (fun S => sumW (fun r => g S r) k) N = sumW (fun r => sumW (fun S => g S r) N) k
  | 0 => by simp [sumW, sumW_z]
  | N + 1 => by
    simp only [sumW]
    rw [sumW_swap g k N, ← sumW_add]
theorem sumW_one {k r : Nat} (v : Nat) (h : r < k) : sumW (fun j => if r = j then v else 0) k = v := by
  induction k with
  | zero => omega
  | succ k ih =>
    simp only [sumW]
    by_cases e : r = k
    · subst e
      have : sumW (fun j => if r = j then v else 0) r = 0 := by
        rw [sumW_congr (g := fun _ => 0) (fun j hj => by rw [if_neg (by omega)]), sumW_z]
      rw [this, if_pos rfl]; omega
    · rw [ih (by omega), if_neg e]; omega
def rnS (k S : Nat) : Nat → Nat × Bool
  | 0 => (0, false)
  | d + 1 => if S.testBit d then ((rnS k S d).1 + 1, (rnS k S d).2 || decide (k ≤ (rnS k S d).1 + 1)) else (0, (rnS k S d).2)
def wtS (p q S : Nat) : Nat → Nat
  | 0 => 1
  | d + 1 => wtS p q S d * (if S.testBit d then p else q)
theorem rn_congr (k : Nat) {S U : Nat} : ∀ d, (∀ i, i < d → S.testBit i = U.testBit i) → rnS k S d = rnS k U d
  | 0, _ => rfl
  | d + 1, h => by
    simp only [rnS]
    rw [rn_congr k d (fun i hi => h i (by omega)), h d (by omega)]
theorem wt_congr (p q : Nat) {S U : Nat} : ∀ d, (∀ i, i < d → S.testBit i = U.testBit i) → wtS p q S d = wtS p q U d
  | 0, _ => rfl
  | d + 1, h => by
    simp only [wtS]
    rw [wt_congr p q d (fun i hi => h i (by omega)), h d (by omega)]
theorem rn_lt (k S : Nat) (hk : 1 ≤ k) : ∀ d, (rnS k S d).2 = false → (rnS k S d).1 < k
  | 0, _ => by simp [rnS]; omega
  | d + 1, h => by
    simp only [rnS] at h ⊢
    cases hb : S.testBit d
    · simp; omega
    · rw [hb] at h
      simp only [if_true, Bool.or_eq_false_iff, decide_eq_false_iff_not] at h ⊢
      omega
def Rn (k p q d : Nat) : Nat := sumW (fun S => if (rnS k S d).2 then wtS p q S d else 0) (2 ^ d)
def An (k p q d r : Nat) : Nat := sumW (fun S => if (rnS k S d).2 = false ∧ (rnS k S d).1 = r then wtS p q S d else 0) (2 ^ d)
theorem lo_rn {k d S : Nat} (h : S < 2 ^ d) : rnS k S (d + 1) = (0, (rnS k S d).2) := by
  simp only [rnS, tb_lt h (Nat.le_refl d)]; rfl
theorem lo_wt {p q d S : Nat} (h : S < 2 ^ d) : wtS p q S (d + 1) = wtS p q S d * q := by
  simp only [wtS, tb_lt h (Nat.le_refl d)]; rfl
theorem hi_tb {d S : Nat} (h : S < 2 ^ d) : (2 ^ d + S).testBit d = true ∧ ∀ i, i < d → (2 ^ d + S).testBit i = S.testBit i := by
  refine ⟨?_, fun i hi => Nat.testBit_two_pow_add_gt hi S⟩
  rw [Nat.testBit_two_pow_add_eq, tb_lt h (Nat.le_refl d)]; rfl
theorem hi_rn {k d S : Nat} (h : S < 2 ^ d) : rnS k (2 ^ d + S) (d + 1) = ((rnS k S d).1 + 1, (rnS k S d).2 || decide (k ≤ (rnS k S d).1 + 1)) := by
  have ⟨h1, h2⟩ := hi_tb h
  simp only [rnS, h1, if_true]
  rw [rn_congr k d h2]
theorem hi_wt {p q d S : Nat} (h : S < 2 ^ d) : wtS p q (2 ^ d + S) (d + 1) = wtS p q S d * p := by
  have ⟨h1, h2⟩ := hi_tb h
  simp only [wtS, h1, if_true]
  rw [wt_congr p q d h2]
theorem Rn_s {k p q d : Nat} (hk : 1 ≤ k) : Rn k p q (d + 1) = (p + q) * Rn k p q d + An k p q d (k - 1) * p := by
  unfold Rn An
  rw [Nat.pow_succ, Nat.mul_two, sumW_split]
  rw [sumW_congr (g := fun S => (if (rnS k S d).2 then wtS p q S d else 0) * q) (fun S hS => by
    rw [lo_rn hS, lo_wt hS]; cases (rnS k S d).2 <;> simp), sumW_mulc]
  rw [sumW_congr (f := fun i => if (rnS k (2 ^ d + i) (d + 1)).2 then wtS p q (2 ^ d + i) (d + 1) else 0) (g := fun S => ((if (rnS k S d).2 then wtS p q S d else 0) * p + (if (rnS k S d).2 = false ∧ (rnS k S d).1 = k - 1 then wtS p q S d else 0) * p)) (fun S hS => by
    rw [hi_rn hS, hi_wt hS]
    have hl := rn_lt k S hk d
    cases h : (rnS k S d).2
    · have hl := hl h
      by_cases e : (rnS k S d).1 = k - 1
      · have : k ≤ (rnS k S d).1 + 1 := by omega
        simp [e, this] at this ⊢
        omega
      · have : ¬ k ≤ (rnS k S d).1 + 1 := by omega
        simp [e, this]
    · simp), sumW_add, sumW_mulc, sumW_mulc]
  rw [Nat.add_mul, Nat.mul_comm p, Nat.mul_comm q]
  omega
theorem An_0 {k p q d : Nat} (hk : 1 ≤ k) : An k p q (d + 1) 0 = sumW (fun r => An k p q d r) k * q := by
  unfold An
  rw [Nat.pow_succ, Nat.mul_two, sumW_split]
  rw [sumW_congr (f := fun i => if (rnS k (2 ^ d + i) (d + 1)).2 = false ∧ (rnS k (2 ^ d + i) (d + 1)).1 = 0 then wtS p q (2 ^ d + i) (d + 1) else 0) (g := fun _ => 0) (fun S hS => by
    rw [hi_rn hS]; rw [if_neg (by simp)]), sumW_z]
  rw [← sumW_swap (fun S r => if (rnS k S d).2 = false ∧ (rnS k S d).1 = r then wtS p q S d else 0) k (2 ^ d), ← sumW_mulc]
  rw [sumW_congr (g := fun S => sumW (fun r => if (rnS k S d).2 = false ∧ (rnS k S d).1 = r then wtS p q S d else 0) k * q) (fun S hS => by
    rw [lo_rn hS, lo_wt hS]
    have hl := rn_lt k S hk d
    cases h : (rnS k S d).2
    · have hl := hl h
      simp only [true_and, and_true, if_true]
      rw [sumW_one _ hl]
    · simp [sumW_z])]
  omega
theorem An_s {k p q d r : Nat} (hr : r + 1 < k) : An k p q (d + 1) (r + 1) = An k p q d r * p := by
  unfold An
  rw [Nat.pow_succ, Nat.mul_two, sumW_split]
  rw [sumW_congr (g := fun _ => 0) (fun S hS => by
    rw [lo_rn hS]; rw [if_neg (by simp)]), sumW_z, ← sumW_mulc]
  rw [sumW_congr (g := fun S => (if (rnS k S d).2 = false ∧ (rnS k S d).1 = r then wtS p q S d else 0) * p) (fun S hS => by
    rw [hi_rn hS, hi_wt hS]
    cases h : (rnS k S d).2
    · by_cases e : (rnS k S d).1 = r
      · have : ¬ k ≤ r + 1 := by omega
        simp [e, this]
      · simp [e]
    · simp)]
  omega
theorem wt_all (p q : Nat) : ∀ d, sumW (fun S => wtS p q S d) (2 ^ d) = (p + q) ^ d
  | 0 => rfl
  | d + 1 => by
    rw [Nat.pow_succ, Nat.mul_two, sumW_split]
    rw [sumW_congr (g := fun S => wtS p q S d * q) (fun S hS => lo_wt hS), sumW_mulc]
    rw [sumW_congr (f := fun i => wtS p q (2 ^ d + i) (d + 1)) (g := fun S => wtS p q S d * p) (fun S hS => hi_wt hS), sumW_mulc, wt_all p q d]
    rw [← Nat.mul_add, Nat.add_comm q p, Nat.pow_succ]
theorem Rn_le (k p q d : Nat) : Rn k p q d ≤ (p + q) ^ d := by
  rw [← wt_all]
  exact sumW_le (fun S _ => by split <;> omega)
theorem An_b (k p q r : Nat) : An k p q 0 r = if r = 0 then 1 else 0 := by
  show 0 + (if false = false ∧ 0 = r then 1 else 0) = _
  by_cases e : r = 0
  · subst e; rfl
  · have : ¬ 0 = r := by omega
    simp [e, this]
/-! the class -/
theorem lc_le0 {g : Nat} (h0 : 0 < g) (hg : g < 2 ^ 63) : ¬ lg_cmp (lN g) 0 ≤ 0 := by
  have h : lN g > 0 := by
    show (0 : Int64) < lN g
    exact (pk_lLT (a := 0) (by omega) hg).mpr h0
  simp only [lg_cmp, h, if_true]
  decide
theorem lc_eq0 {g : Nat} (hg : g < 2 ^ 63) : (lg_cmp (lN g) 0 = 0) ↔ g = 0 := by
  rcases Nat.eq_zero_or_pos g with h | h
  · subst h; simp; decide
  · have : lN g > 0 := (pk_lLT (a := 0) (by omega) hg).mpr h
    simp only [lg_cmp, this, if_true]
    constructor
    · intro z; exact absurd z (by decide)
    · intro z; omega
theorem lN_0 {g : Nat} (hg : g < 2 ^ 63) : (lN g = 0) ↔ g = 0 := pk_lEQ (b := 0) hg (by omega)
theorem t_fillL {N : Nat} (hN : N < 1000) (f : Nat → Int64) (v : Int64) : ∃ f', fJ7_fill_d0a16 f N v = some f' ∧ ∀ i, i < N → f' i = v := by
  unfold fJ7_fill_d0a16 fJ7_fill_d0a16_b6
  refine lp_inv (s := (f, (0 : Int32))) (fun r => ∃ f' : Nat → Int64, r = some f' ∧ ∀ i, i < N → f' i = v) (fun i (s : (Nat → Int64) × Int32) => s.2 = nI i ∧ ∀ j, j < i → s.1 j = v) N (by omega) ⟨rfl, fun j hj => absurd hj (by omega)⟩ ?_
  intro i s k hi hI
  obtain ⟨g, x⟩ := s
  obtain ⟨e1, e2⟩ := hI
  simp only at e1 e2
  subst e1
  by_cases e : i = N
  · right
    have hle : Int32.ofNat N ≤ nI i := by
      show nI N ≤ nI i
      exact nI_le (by omega) (by omega)
    exact ⟨g, by simp only [fJ7_fill_d0a16_l6, if_pos hle, fJ7_fill_d0a16_b22], by rw [← e]; exact e2⟩
  · left
    have hi2 : i < N := by omega
    have hle : ¬ Int32.ofNat N ≤ nI i := by
      show ¬ nI N ≤ nI i
      exact nI_ge hi2 (by omega)
    refine ⟨hi2, (vp_updL g i v, nI (i + 1)), ⟨rfl, ?_⟩, ?_⟩
    · intro j hj
      show vp_updL g i v j = v
      by_cases e : j = i
      · subst e; rw [pk_uLs]
      · rw [pk_uLn e]; exact e2 j (by omega)
    · simp only [fJ7_fill_d0a16_l6, if_neg hle, if_pos (inb_n hi2 (by omega)), nI_clamp (show i < 2 ^ 31 by omega), nI_1]
theorem t_longRains {n k p : Nat} (hn : n ≤ 12) (hk1 : 1 ≤ k) (hk : k ≤ 12) (hp : p ≤ 10) (runs : Nat → Int64) : ∃ runs', fX0_longRains runs (nI n) (nI k) (nI p) = some (lN (Rn k p (10 - p) n), runs') := by
  have ep : (nI p).toInt64 = lN p := nI_l (by omega)
  have eq : ((10 : Int32) - nI p).toInt64 = lN (10 - p) := by
    rw [show (10 : Int32) - nI p = nI (10 - p) from pk_sub (a := 10) hp]; exact nI_l (by omega)
  obtain ⟨r0, e0, h0⟩ := t_fillL (show 12 < 1000 by omega) runs 0
  have i0 : inb (0 : Int32) 12 := inb_n (i := 0) (by omega) (by omega)
  have n0 : (0 : Int32).toNatClampNeg = 0 := rfl
  have main : ∃ runs', fX0_longRains_b21 (vp_updL r0 0 1) (nI n) (nI k) (nI p) 0 0 = some (lN (Rn k p (10 - p) n), runs') := by
    unfold fX0_longRains_b21
    refine lp_inv (fun r => ∃ runs', r = some (lN (Rn k p (10 - p) n), runs')) (fun d s => s.2.2 = nI d ∧ s.2.1 = lN (Rn k p (10 - p) d) ∧ ∀ r, r < k → s.1 r = lN (An k p (10 - p) d r)) n (by omega) ⟨rfl, rfl, ?_⟩ ?_
    · intro r hr
      show vp_updL r0 0 1 r = _
      rw [An_b]
      by_cases e : r = 0
      · subst e; rw [pk_uLs]; rfl
      · rw [pk_uLn e, h0 r (by omega), if_neg e]; rfl
    · intro d s k21 hd hI
      obtain ⟨ru, re, x⟩ := s
      obtain ⟨e1, e2, e3⟩ := hI
      simp only at e1 e2 e3
      subst e1 e2
      by_cases e : d = n
      · subst e
        right
        have hle : nI d ≤ nI d := nI_le (Nat.le_refl d) (by omega)
        exact ⟨ru, by simp only [fX0_longRains_l21, if_pos hle, fX0_longRains_b158]⟩
      · have hdn : d < n := by omega
        have cc : ¬ nI n ≤ nI d := nI_ge hdn (by omega)
        left
        refine ⟨hdn, ?_⟩
        show ∃ s', _ ∧ fX0_longRains_l21 (nI n) (nI k) (nI p) k21 ru (lN (Rn k p (10 - p) d)) (nI d) = k21 s'
        rw [fX0_longRains_l21, if_neg cc]
        have e33 : fX0_longRains_b33 ru (nI n) (nI k) (nI p) (lN (Rn k p (10 - p) d)) (nI d) 0 0 k21 = fX0_longRains_b64 ru (nI n) (nI k) (nI p) (lN (Rn k p (10 - p) d)) (nI d) (lN (sumW (fun r => An k p (10 - p) d r) k)) k21 := by
          unfold fX0_longRains_b33
          refine lp_up (fun j => (lN (sumW (fun r => An k p (10 - p) d r) j), nI j)) k (by omega) rfl ?_ ?_
          · intro j hj k33
            have c1 : ¬ nI k ≤ nI j := nI_ge hj (by omega)
            have c2 : ¬ (12 : Int32) ≤ nI j := nI_ge (b := 12) (by omega) (by omega)
            show fX0_longRains_l33 ru (nI n) (nI k) (nI p) (lN (Rn k p (10 - p) d)) (nI d) k21 k33 (lN (sumW (fun r => An k p (10 - p) d r) j)) (nI j) = _
            simp only [fX0_longRains_l33, if_neg c1, if_neg c2, if_pos (inb_n (show j < 12 by omega) (by omega)), nI_clamp (show j < 2 ^ 31 by omega), e3 j hj, lN_add, nI_1]
            rfl
          · intro k33
            have c1 : nI k ≤ nI k := nI_le (Nat.le_refl k) (by omega)
            simp only [fX0_longRains_l33, if_pos c1]
        rw [e33, fX0_longRains_b64]
        have ex9 : jmin (nI k) 12 - 1 = nI (k - 1) := by
          rw [show jmin (nI k) 12 = nI (min k 12) from jmin_n (b := 12) (by omega) (by omega)]
          have : min k 12 = k := by omega
          rw [this]; exact pk_sub (b := 1) hk1
        have e10 : lN (Rn k p (10 - p) d) * 10 = lN (10 * Rn k p (10 - p) d) := by
          rw [show (10 : Int64) = lN 10 from rfl, lN_mul, Nat.mul_comm]
        rw [ex9, e10]
        unfold fX0_longRains_b82
        refine lp_inv (fun r => ∃ s' : (Nat → Int64) × Int64 × Int32, (s'.2.2 = nI (d + 1) ∧ s'.2.1 = lN (Rn k p (10 - p) (d + 1)) ∧ ∀ r, r < k → s'.1 r = lN (An k p (10 - p) (d + 1) r)) ∧ r = k21 s') (fun j s => s.2.2 = (if j < k then nI (k - 1 - j) else -1) ∧ s.2.1 = lN (10 * Rn k p (10 - p) d + (if 1 ≤ j then An k p (10 - p) d (k - 1) * p else 0)) ∧ ∀ i, i < k → s.1 i = lN (if k + 1 ≤ i + j then An k p (10 - p) d (i - 1) * p else An k p (10 - p) d i)) k (by omega) ⟨by rw [if_pos (by omega)]; rfl, rfl, fun i hi => by rw [if_neg (by omega)]; exact e3 i hi⟩ ?_
        intro j s k82 hj hJ
        obtain ⟨ru2, re2, x2⟩ := s
        obtain ⟨f1, f2, f3⟩ := hJ
        simp only at f1 f2 f3
        subst f1 f2
        show (_ ∧ ∃ s', _ ∧ fX0_longRains_l82 (nI n) (nI k) (nI p) (nI d) (lN (sumW (fun r => An k p (10 - p) d r) k)) k21 k82 ru2 _ _ = k82 s') ∨ ∃ s', _ ∧ fX0_longRains_l82 (nI n) (nI k) (nI p) (nI d) (lN (sumW (fun r => An k p (10 - p) d r) k)) k21 k82 ru2 _ _ = k21 s'
        by_cases ej : j = k
        · right
          have zl : (-1 : Int32) < 0 := by decide
          refine ⟨(vp_updL ru2 0 (lN (An k p (10 - p) (d + 1) 0)), lN (Rn k p (10 - p) (d + 1)), nI (d + 1)), ⟨rfl, rfl, ?_⟩, ?_⟩
          · intro r hr
            show vp_updL ru2 0 _ r = _
            by_cases e : r = 0
            · subst e; rw [pk_uLs]
            · rw [pk_uLn e, f3 r hr, if_pos (by omega)]
              obtain ⟨r', rfl⟩ : ∃ r', r = r' + 1 := ⟨r - 1, by omega⟩
              rw [An_s hr]; rfl
          · have n1 : ¬ j < k := by omega
            have n2 : 1 ≤ j := by omega
            have er : 10 * Rn k p (10 - p) d + An k p (10 - p) d (k - 1) * p = Rn k p (10 - p) (d + 1) := by
              rw [Rn_s hk1]
              have : p + (10 - p) = 10 := by omega
              rw [this]
            simp only [if_neg n1, if_pos n2, er, fX0_longRains_l82, if_pos zl, fX0_longRains_b138, if_pos i0, n0, eq, lN_mul, nI_1]
            rw [← An_0 hk1]
        · left
          have hjk : j < k := by omega
          refine ⟨hjk, ?_⟩
          rw [if_pos hjk]
          have zl : ¬ nI (k - 1 - j) < 0 := nI_pos (by omega)
          have ek1 : nI k - 1 = nI (k - 1) := pk_sub (b := 1) hk1
          have cl : (nI (k - 1 - j)).toNatClampNeg = k - 1 - j := nI_clamp (by omega)
          have enx : nI (k - 1 - j) + (-1) = (if j + 1 < k then nI (k - 1 - (j + 1)) else -1) := by
            by_cases e : j + 1 < k
            · rw [if_pos e]
              have : k - 1 - j = (k - 1 - (j + 1)) + 1 := by omega
              rw [this, pk_m1]
            · rw [if_neg e]
              have : k - 1 - j = 0 := by omega
              rw [this]; rfl
          by_cases e0 : j = 0
          · subst e0
            have zq : nI (k - 1 - 0) = nI k - 1 := by rw [ek1]; rfl
            refine ⟨(ru2, lN (10 * Rn k p (10 - p) d + (if 1 ≤ 0 + 1 then An k p (10 - p) d (k - 1) * p else 0)), if 0 + 1 < k then nI (k - 1 - (0 + 1)) else -1), ⟨rfl, rfl, ?_⟩, ?_⟩
            · intro i hi
              show ru2 i = _
              rw [f3 i hi, if_neg (by omega), if_neg (by omega)]
            · have hv := f3 (k - 1) (by omega)
              rw [if_neg (by omega)] at hv
              have cl' : (nI (k - 1 - 0)).toNatClampNeg = k - 1 := nI_clamp (by omega)
              simp only [fX0_longRains_l82, if_neg zl, if_pos zq, if_pos (inb_n (show k - 1 - 0 < 12 by omega) (by omega)), cl', hv, ep, lN_mul, lN_add, fX0_longRains_b132, enx]
              rfl
          · have zq : ¬ nI (k - 1 - j) = nI k - 1 := by rw [ek1, nI_eq (by omega) (by omega)]; omega
            have cl2 : (nI (k - 1 - j + 1)).toNatClampNeg = k - 1 - j + 1 := nI_clamp (by omega)
            refine ⟨(vp_updL ru2 (k - 1 - j + 1) (lN (An k p (10 - p) d (k - 1 - j) * p)), lN (10 * Rn k p (10 - p) d + (if 1 ≤ j + 1 then An k p (10 - p) d (k - 1) * p else 0)), if j + 1 < k then nI (k - 1 - (j + 1)) else -1), ⟨rfl, rfl, ?_⟩, ?_⟩
            · intro i hi
              show vp_updL ru2 (k - 1 - j + 1) _ i = _
              by_cases e : i = k - 1 - j + 1
              · have e2 : k - 1 - j + 1 - 1 = k - 1 - j := by omega
                rw [e, pk_uLs, if_pos (by omega), e2]
              · rw [pk_uLn e, f3 i hi]
                have : (k + 1 ≤ i + j) ↔ (k + 1 ≤ i + (j + 1)) := by omega
                simp only [this]
            · have hv := f3 (k - 1 - j) (by omega)
              rw [if_neg (by omega)] at hv
              have e1j : 1 ≤ j := by omega
              simp only [fX0_longRains_l82, if_neg zl, if_neg zq, if_pos (inb_n (show k - 1 - j < 12 by omega) (by omega)), nI_1, if_pos (inb_n (show k - 1 - j + 1 < 12 by omega) (by omega)), cl, cl2, hv, ep, lN_mul, fX0_longRains_b132, enx, if_pos e1j]
              rfl
  obtain ⟨runs', em⟩ := main
  refine ⟨runs', ?_⟩
  simp only [fX0_longRains, e0, ob_s, if_pos i0, n0, em]
/-! Euclid -/
theorem half_mod {y z : Nat} (h0 : 0 < z) (h : z < y) : 2 * (y % z) < y := by
  have h1 := Nat.mod_lt y h0
  rcases Nat.lt_or_ge (2 * z) (y + 1) with q | q
  · omega
  · have : y % z = y - z := by
      rw [Nat.mod_eq_sub_mod (by omega), Nat.mod_eq_of_lt (by omega)]
    omega
def euN : Nat → Nat → Nat → Bool
  | 0, _, y => decide (y = 0)
  | f + 1, x, y => if y = 0 then true else euN f y (x % y)
theorem eu_ok : ∀ j x y, y < 2 ^ j → euN (2 * j) x y = true
  | 0, x, y, h => by
    have : y = 0 := by simp at h; omega
    subst this; rfl
  | j + 1, x, y, h => by
    show euN (2 * j + 1 + 1) x y = true
    simp only [euN]
    by_cases e : y = 0
    · rw [if_pos e]
    · rw [if_neg e]
      by_cases e2 : x % y = 0
      · rw [if_pos e2]
      · rw [if_neg e2]
        apply eu_ok j
        have h1 := Nat.mod_lt x (show 0 < y by omega)
        have h2 := half_mod (y := y) (z := x % y) (by omega) h1
        rw [Nat.pow_succ] at h
        omega
theorem jlrem_n {a b : Nat} (ha : a < 2 ^ 63) (h0 : 0 < b) (hb : b < 2 ^ 63) : jlrem (lN a) (lN b) = lN (a % b) := pk_lRem ha h0 hb
theorem t_divisor {x y : Nat} (hx : x < 2 ^ 63) (hy : y < 2 ^ 40) : fX11_divisor (lN x) (lN y) = some (lN (Nat.gcd y x)) := by
  unfold fX11_divisor fX11_divisor_b9
  refine lp_inv (fun r => r = some (lN (Nat.gcd y x))) (fun i s => s.2.2 = nI i ∧ ∃ a b, a < 2 ^ 63 ∧ b < 2 ^ 40 ∧ s.1 = lN a ∧ s.2.1 = lN b ∧ Nat.gcd b a = Nat.gcd y x ∧ euN (80 - i) a b = true) 80 (by omega) ⟨rfl, x, y, hx, hy, rfl, rfl, rfl, eu_ok 40 x y hy⟩ ?_
  intro i s k hi hI
  obtain ⟨u, v, z⟩ := s
  obtain ⟨e1, a, b, ha, hb, e2, e3, e4, e5⟩ := hI
  simp only at e1 e2 e3
  subst e1 e2 e3
  have c100 : ¬ (100 : Int32) ≤ nI i := nI_ge (b := 100) (by omega) (by omega)
  have hb63 : b < 2 ^ 63 := by omega
  by_cases e : b = 0
  · right
    have z0 : lg_cmp (lN b) 0 = 0 := (lc_eq0 hb63).mpr e
    subst e
    show fX11_divisor_l9 k (lN a) (lN 0) (nI i) = _
    simp only [fX11_divisor_l9, if_neg c100, if_pos z0, fX11_divisor_b44]
    rw [← e4, Nat.gcd_zero_left]
  · left
    have hi2 : i < 80 := by
      refine Classical.byContradiction fun hne => ?_
      have : 80 - i = 0 := by omega
      rw [this] at e5
      simp [euN] at e5
      exact e e5
    have z0 : ¬ lg_cmp (lN b) 0 = 0 := fun w => e ((lc_eq0 hb63).mp w)
    have z1 : ¬ lN b = 0 := fun w => e ((lN_0 hb63).mp w)
    have hm := Nat.mod_lt a (show 0 < b by omega)
    refine ⟨hi2, (lN b, lN (a % b), nI (i + 1)), ⟨rfl, b, a % b, hb63, by omega, rfl, rfl, ?_, ?_⟩, ?_⟩
    · rw [← e4, Nat.gcd_rec b a]
    · have : 80 - i = (80 - (i + 1)) + 1 := by omega
      rw [this] at e5
      simp only [euN, if_neg e] at e5
      exact e5
    · show fX11_divisor_l9 k (lN a) (lN b) (nI i) = _
      simp only [fX11_divisor_l9, if_neg c100, if_neg z0, if_pos z1, jlrem_n ha (show 0 < b by omega) hb63, nI_1]
theorem t_common : ∀ f a b, a < 2 ^ 63 → b < 2 ^ 63 → euN f a b = true → fX12_common (f + 1) (lN a) (lN b) = some (lN (Nat.gcd b a))
  | f, a, b, ha, hb, h => by
    show fX12_common_s (fX12_common f) (lN a) (lN b) = _
    by_cases e : b = 0
    · have z0 : lg_cmp (lN b) 0 = 0 := (lc_eq0 hb).mpr e
      subst e
      simp only [fX12_common_s, if_pos z0, fX12_common_b17, Nat.gcd_zero_left]
    · have z0 : ¬ lg_cmp (lN b) 0 = 0 := fun w => e ((lc_eq0 hb).mp w)
      have z1 : ¬ lN b = 0 := fun w => e ((lN_0 hb).mp w)
      have hm := Nat.mod_lt a (show 0 < b by omega)
      cases f with
      | zero => simp [euN] at h; exact absurd h e
      | succ f =>
        simp only [euN, if_neg e] at h
        have ih := t_common f b (a % b) hb (by omega) h
        simp only [fX12_common_s, if_neg z0, if_pos z1, jlrem_n ha (show 0 < b by omega) hb, ih, ob_s, fX12_common_b17]
        rw [← Nat.gcd_rec b a]
theorem eu_more : ∀ f g x y, f ≤ g → euN f x y = true → euN g x y = true
  | 0, g, x, y, _, h => by
    simp [euN] at h
    subst h
    cases g <;> simp [euN]
  | f + 1, 0, x, y, hl, _ => by omega
  | f + 1, g + 1, x, y, hl, h => by
    simp only [euN] at h ⊢
    by_cases e : y = 0
    · rw [if_pos e]
    · rw [if_neg e] at h ⊢
      exact eu_more f g y (x % y) (by omega) h
/-! the model -/
theorem t_hasRun {n k S : Nat} (hn : n ≤ 12) (hk1 : 1 ≤ k) (hk : k ≤ 12) : fX12_hasRun (nI S) (nI n) (nI k) = some (b2i (rnS k S n).2) := by
  have hr : ∀ d, (rnS k S d).1 ≤ d := by
    intro d
    induction d with
    | zero => exact Nat.le_refl _
    | succ d ih =>
      simp only [rnS]
      split
      · simp; omega
      · simp
  unfold fX12_hasRun fX12_hasRun_b8
  refine lp_up (fun d => (nI (rnS k S d).1, b2i (rnS k S d).2, nI d)) n (by omega) rfl ?_ ?_
  · intro d hd k8
    have cc : ¬ nI n ≤ nI d := nI_ge hd (by omega)
    have eb : bitB (nI S) d = S.testBit d := by rw [bitB_t _ (by omega), b_nI _ (by omega)]
    have hrd := hr d
    have z10 : ¬ (1 : Int32) = 0 := by decide
    have z0k : (0 : Int32) < nI k := nI_lt (a := 0) (by omega) (by omega)
    show fX12_hasRun_l8 (nI S) (nI n) (nI k) k8 (nI (rnS k S d).1) (b2i (rnS k S d).2) (nI d) = k8 (nI (rnS k S (d + 1)).1, b2i (rnS k S (d + 1)).2, nI (d + 1))
    cases hb : S.testBit d
    · have e1 : rnS k S (d + 1) = (0, (rnS k S d).2) := by simp only [rnS, hb]; rfl
      rw [e1]
      cases h2 : (rnS k S d).2
      · simp only [fX12_hasRun_l8, if_neg cc, t_hasM, eb, hb, b2i_f, ob_s, if_true, fX12_hasRun_b30, if_pos z0k, fX12_hasRun_b46, nI_1]
        rfl
      · simp only [fX12_hasRun_l8, if_neg cc, t_hasM, eb, hb, b2i_f, b2i_t, ob_s, if_true, fX12_hasRun_b30, if_neg z10, fX12_hasRun_b41, fX12_hasRun_b46, nI_1]
        rfl
    · have e1 : rnS k S (d + 1) = ((rnS k S d).1 + 1, (rnS k S d).2 || decide (k ≤ (rnS k S d).1 + 1)) := by simp only [rnS, hb]; rfl
      rw [e1]
      cases h2 : (rnS k S d).2
      · by_cases hc : k ≤ (rnS k S d).1 + 1
        · have zc : ¬ nI ((rnS k S d).1 + 1) < nI k := nI_nlt hc (by omega)
          simp only [fX12_hasRun_l8, if_neg cc, t_hasM, eb, hb, b2i_f, b2i_t, ob_s, if_neg z10, if_true, nI_1, fX12_hasRun_b30, if_neg zc, fX12_hasRun_b41, fX12_hasRun_b46, hc, decide_true, Bool.or_true]
        · have zc : nI ((rnS k S d).1 + 1) < nI k := nI_lt (by omega) (by omega)
          simp only [fX12_hasRun_l8, if_neg cc, t_hasM, eb, hb, b2i_f, b2i_t, ob_s, if_neg z10, if_true, nI_1, fX12_hasRun_b30, if_pos zc, fX12_hasRun_b46, hc, decide_false, Bool.or_false]
      · simp only [fX12_hasRun_l8, if_neg cc, t_hasM, eb, hb, b2i_t, ob_s, if_neg z10, nI_1, fX12_hasRun_b30, fX12_hasRun_b41, fX12_hasRun_b46, Bool.true_or]
  · intro k8
    have hle : nI n ≤ nI n := nI_le (Nat.le_refl n) (by omega)
    simp only [fX12_hasRun_l8, if_pos hle, fX12_hasRun_b54, b01, if_true]
theorem c_rain {ts tr : Int32} {tn tw : Nat → Int64} (ht : toR ts tn tr tw) (x y z : Int32) (runs : Nat → Int64) (thrown : Int32) : ∃ a runs' ts' tn' tr' tw', fX11_rain runs ts tn x y z = some (a, runs', ts', tn') ∧ fX12_rain thrown tr tw x y z = some (a, 0, tr', tw') ∧ toR ts' tn' tr' tw' := by
  have p1 := t_in x (L := 1) (H := 12) 1 12 rfl rfl
  have p2 := t_in y (L := 1) (H := 12) 1 12 rfl rfl
  have p3 := t_in z (L := 0) (H := 10) 0 10 rfl rfl
  by_cases hx : 1 ≤ x ∧ x ≤ 12
  · by_cases hy : 1 ≤ y ∧ y ≤ 12
    · by_cases hz : 0 ≤ z ∧ z ≤ 10
      · obtain ⟨n, hn1, hn, rfl⟩ := rng_n (a := 1) (b := 12) (by omega) (by omega) hx
        obtain ⟨k, hk1, hk, rfl⟩ := rng_n (a := 1) (b := 12) (by omega) (by omega) hy
        obtain ⟨p, -, hp, rfl⟩ := rng_n (a := 0) (b := 10) (by omega) (by omega) hz
        have ep : (nI p).toInt64 = lN p := nI_l (by omega)
        have eq : ((10 : Int32) - nI p).toInt64 = lN (10 - p) := by
          rw [show (10 : Int32) - nI p = nI (10 - p) from pk_sub (a := 10) hp]; exact nI_l (by omega)
        obtain ⟨runs', eL⟩ := t_longRains hn hk1 hk hp runs
        have hR := Rn_le k p (10 - p) n
        rw [show p + (10 - p) = 10 by omega] at hR
        have h10 : 10 ^ n ≤ 10 ^ 12 := Nat.pow_le_pow_right (by decide) hn
        have h10p : 0 < 10 ^ n := Nat.pow_pos (by decide)
        generalize hu : Rn k p (10 - p) n = up at *
        generalize hd : 10 ^ n = dn at *
        have hdn40 : dn < 2 ^ 40 := by omega
        have hup40 : up < 2 ^ 40 := by omega
        have hg : 0 < Nat.gcd up dn := Nat.gcd_pos_of_pos_right _ h10p
        have hgle : Nat.gcd up dn ≤ dn := Nat.gcd_le_right _ h10p
        have z1 : ¬ lN (Nat.gcd up dn) = 0 := fun w => by have := (lN_0 (by omega)).mp w; omega
        have z2 := lc_le0 hg (by omega)
        -- the class
        have e50 : fX11_rain_b50 runs' ts tn (nI n) (lN up) 1 0 = some (0, runs', nI 2, vp_updL (vp_updL tn 0 (lN up / lN (Nat.gcd up dn))) 1 (lN dn / lN (Nat.gcd up dn))) := by
          unfold fX11_rain_b50
          refine lp_up (fun i => (lN (10 ^ i), nI i)) n (by omega) rfl ?_ ?_
          · intro i hi q
            have cc : ¬ nI n ≤ nI i := nI_ge hi (by omega)
            have e10 : lN (10 ^ i) * 10 = lN (10 ^ (i + 1)) := by rw [show (10 : Int64) = lN 10 from rfl, lN_mul, Nat.pow_succ]
            simp only [fX11_rain_l50, if_neg cc, e10, nI_1]
          · intro q
            have hle : nI n ≤ nI n := nI_le (Nat.le_refl n) (by omega)
            have ed := t_divisor (x := dn) (y := up) (by omega) hup40
            simp only [fX11_rain_l50, if_pos hle, hd, fX11_rain_b70, ed, ob_s, if_neg z2, if_pos z1, fX11_rain_b100, t_tell2]
        -- the model
        have e75 : fX12_rain_b75 0 tr tw (nI n) (nI k) (nI p) 0 (lN dn) 0 = fX12_rain_b149 0 tr tw (lN up) (lN dn) := by
          have e2n : jshl 1 (nI n) = nI (2 ^ n) := (by decide +kernel : ∀ k, k < 13 → jshl 1 (nI k) = nI (2 ^ k)) n (by omega)
          have p2n : 2 ^ n ≤ 4096 := Nat.pow_le_pow_right (n := 2) (by decide) hn
          unfold fX12_rain_b75
          refine lp_up (fun S => (lN (sumW (fun S => if (rnS k S n).2 then wtS p (10 - p) S n else 0) S), nI S)) (2 ^ n) (by omega) rfl ?_ ?_
          · intro S hS k75
            have cc : ¬ nI (2 ^ n) ≤ nI S := nI_ge hS (by omega)
            have ef : (b2i (rnS k S n).2).toInt64 = lN (if (rnS k S n).2 then 1 else 0) := by cases (rnS k S n).2 <;> rfl
            show fX12_rain_l75 0 tr tw (nI n) (nI k) (nI p) (lN dn) k75 (lN (sumW (fun S => if (rnS k S n).2 then wtS p (10 - p) S n else 0) S)) (nI S) = _
            simp only [fX12_rain_l75, e2n, if_neg cc, t_hasRun hn hk1 hk, t_flag, ob_s, ef]
            unfold fX12_rain_b99
            refine lp_up (fun d => (lN ((if (rnS k S n).2 then 1 else 0) * wtS p (10 - p) S d), nI d)) n (by omega) ?_ ?_ ?_
            · simp only [wtS, Nat.mul_one]; rfl
            · intro d hd2 k99
              have cd : ¬ nI n ≤ nI d := nI_ge hd2 (by omega)
              have eb : bitB (nI S) d = S.testBit d := by rw [bitB_t _ (by omega), b_nI _ (by omega)]
              have z10 : ¬ (1 : Int32) = 0 := by decide
              have ew : ∀ c : Nat, S.testBit d = true ∧ c = p ∨ S.testBit d = false ∧ c = 10 - p → lN ((if (rnS k S n).2 then 1 else 0) * wtS p (10 - p) S d) * lN c = lN ((if (rnS k S n).2 then 1 else 0) * wtS p (10 - p) S (d + 1)) := by
                intro c hc
                rw [lN_mul, Nat.mul_assoc]
                simp only [wtS]
                rcases hc with ⟨h1, h2⟩ | ⟨h1, h2⟩
                · rw [h1, h2]; rfl
                · rw [h1, h2]; rfl
              show fX12_rain_l99 0 tr tw (nI n) (nI k) (nI p) _ (lN dn) (nI S) k75 k99 (lN ((if (rnS k S n).2 then 1 else 0) * wtS p (10 - p) S d)) (nI d) = _
              cases hb : S.testBit d
              · simp only [fX12_rain_l99, if_neg cd, t_hasM, eb, hb, b2i_f, ob_s, if_true, fX12_rain_b127, eq, ew (10 - p) (Or.inr ⟨hb, rfl⟩), nI_1]
              · simp only [fX12_rain_l99, if_neg cd, t_hasM, eb, hb, b2i_t, ob_s, if_neg z10, fX12_rain_b127, ep, ew p (Or.inl ⟨hb, rfl⟩), nI_1]
            · intro k99
              have hle : nI n ≤ nI n := nI_le (Nat.le_refl n) (by omega)
              have es : (if (rnS k S n).2 then 1 else 0) * wtS p (10 - p) S n = (if (rnS k S n).2 then wtS p (10 - p) S n else 0) := by cases (rnS k S n).2 <;> simp
              simp only [fX12_rain_l99, if_pos hle, fX12_rain_b136, es, lN_add, nI_1]
              rfl
          · intro k75
            have hle : nI (2 ^ n) ≤ nI (2 ^ n) := nI_le (Nat.le_refl _) (by omega)
            have : sumW (fun S => if (rnS k S n).2 then wtS p (10 - p) S n else 0) (2 ^ n) = up := hu
            simp only [fX12_rain_l75, e2n, if_pos hle, this]
        have e149 : fX12_rain_b149 0 tr tw (lN up) (lN dn) = some (0, 0, nI 2, vp_updL (vp_updL tw 0 (lN up / lN (Nat.gcd up dn))) 1 (lN dn / lN (Nat.gcd up dn))) := by
          have ec := t_common 99 up dn (by omega) (by omega) (eu_more 80 99 up dn (by omega) (eu_ok 40 up dn hdn40))
          rw [Nat.gcd_comm dn up] at ec
          simp only [fX12_rain_b149, ec, ob_s, if_pos z1, t_ent0, t_ent1]
        have e52 : fX12_rain_b52 0 tr tw (nI n) (nI k) (nI p) 0 1 0 = fX12_rain_b149 0 tr tw (lN up) (lN dn) := by
          unfold fX12_rain_b52
          refine lp_up (fun i => (lN (10 ^ i), nI i)) n (by omega) rfl ?_ ?_
          · intro i hi q
            have cc : ¬ nI n ≤ nI i := nI_ge hi (by omega)
            have e10 : lN (10 ^ i) * 10 = lN (10 ^ (i + 1)) := by rw [show (10 : Int64) = lN 10 from rfl, lN_mul, Nat.pow_succ]
            simp only [fX12_rain_l52, if_neg cc, e10, nI_1]
          · intro q
            have hle : nI n ≤ nI n := nI_le (Nat.le_refl n) (by omega)
            simp only [fX12_rain_l52, if_pos hle, hd, fX12_rain_b72]
            exact e75
        refine ⟨0, runs', _, _, _, _, ?_, ?_, to_2 tn tw (lN up / lN (Nat.gcd up dn)) (lN dn / lN (Nat.gcd up dn))⟩
        · simp only [fX11_rain, t_within, hx, hy, hz, decide_true, b2i_t, ob_s, eL, e50]
          rfl
        · simp only [fX12_rain, p1, p2, p3, hx, hy, hz, decide_true, b2i_t, ob_s, e52, e149]
          rfl
      · refine ⟨-1, runs, ts, tn, tr, tw, ?_, ?_, ht⟩
        · simp [fX11_rain, fX11_rain_b30, t_within, hx, hy, hz, b2i]
        · simp [fX12_rain, fX12_rain_b41, p1, p2, p3, hx, hy, hz, b2i]
    · refine ⟨-1, runs, ts, tn, tr, tw, ?_, ?_, ht⟩
      · simp [fX11_rain, fX11_rain_b30, t_within, hx, hy, b2i]
      · simp [fX12_rain, fX12_rain_b41, p1, p2, hx, hy, b2i]
  · refine ⟨-1, runs, ts, tn, tr, tw, ?_, ?_, ht⟩
    · simp [fX11_rain, fX11_rain_b30, t_within, hx, b2i]
    · simp [fX12_rain, fX12_rain_b41, p1, hx, b2i]
