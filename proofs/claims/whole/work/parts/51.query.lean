/-! ===== what is asked of a state: class and model by the same words ===== -/
def b2i (b : Bool) : Int32 := if b then 1 else 0
theorem b2i_t : b2i true = 1 := rfl
theorem b2i_f : b2i false = 0 := rfl
theorem b2i_01 (b : Bool) : b2i b = 0 ∨ b2i b = 1 := by cases b <;> simp [b2i]
theorem b2i_0 (b : Bool) : b2i b = 0 ↔ b = false := by cases b <;> simp [b2i]
theorem b2i_1 (b : Bool) : b2i b = 1 ↔ b = true := by cases b <;> simp [b2i]
theorem and1 (x : Int32) : x &&& 1 = 0 ∨ x &&& 1 = 1 := by
  obtain ⟨j, h1, h2⟩ := pk_andE x (m := 1) 1 (by decide)
  have : j = 0 ∨ j = 1 := by omega
  rcases this with e | e <;> subst e
  · exact Or.inl h2
  · exact Or.inr h2
def bitB (x : Int32) (k : Nat) : Bool := decide (jshr x (nI k) &&& 1 = 1)
theorem bitB_1 (x : Int32) (k : Nat) : (jshr x (nI k) &&& 1 = 1) ↔ bitB x k = true := by simp [bitB]
theorem bitB_0 (x : Int32) (k : Nat) : (jshr x (nI k) &&& 1 = 0) ↔ bitB x k = false := by
  rcases and1 (jshr x (nI k)) with h | h <;> simp [bitB, h]
def anyN (p : Nat → Bool) : Nat → Bool
  | 0 => false
  | n + 1 => anyN p n || p n
theorem anyN_iff (p : Nat → Bool) : ∀ n : Nat, anyN p n = true ↔ ∃ i, i < n ∧ p i = true := by
  intro n
  induction n with
  | zero => simp [anyN]
  | succ n ih =>
    simp only [anyN, Bool.or_eq_true, ih]
    constructor
    · rintro (⟨i, h1, h2⟩ | h)
      · exact ⟨i, by omega, h2⟩
      · exact ⟨n, by omega, h⟩
    · rintro ⟨i, h1, h2⟩
      by_cases e : i = n
      · subst e; exact Or.inr h2
      · exact Or.inl ⟨i, by omega, h2⟩
theorem anyN_f (p : Nat → Bool) (n : Nat) : anyN p n = false ↔ ∀ i, i < n → p i = false := by
  constructor
  · intro h i hi
    cases e : p i with
    | false => rfl
    | true => rw [(anyN_iff p n).mpr ⟨i, hi, e⟩] at h; cases h
  · intro h
    cases e : anyN p n with
    | false => rfl
    | true => obtain ⟨i, h1, h2⟩ := (anyN_iff p n).mp e; rw [h i h1] at h2; cases h2
theorem anyN_congr {p q : Nat → Bool} {n : Nat} (h : ∀ i, i < n → p i = q i) : anyN p n = anyN q n := by
  induction n with
  | zero => rfl
  | succ n ih => simp only [anyN]; rw [ih (fun i hi => h i (by omega)), h n (by omega)]
-- small words of the class
theorem t_within (x a b : Int32) : fX11_within x a b = some (b2i (decide (a ≤ x ∧ x ≤ b))) := by
  simp only [fX11_within, fX11_within_b14, fX11_within_b15]
  by_cases h1 : x < a
  · have : ¬ (a ≤ x ∧ x ≤ b) := by grind
    simp [h1, this, b2i]
  · by_cases h2 : b < x
    · have : ¬ (a ≤ x ∧ x ≤ b) := by grind
      simp [h1, h2, this, b2i]
    · have : (a ≤ x ∧ x ≤ b) := by grind
      simp [h1, h2, this, b2i]
theorem t_isDigit (x : Int32) : fX11_isDigit x = some (b2i (decide (48 ≤ x ∧ x ≤ 57))) := by
  have := t_within x 48 57
  simpa [fX11_within, fX11_within_b14, fX11_within_b15, fX11_isDigit, fX11_isDigit_b16, fX11_isDigit_b17] using this
theorem t_has5 (s x : Int32) : fX5_has s x = some (b2i (decide (0 ≤ x ∧ x < s))) := by
  simp only [fX5_has, fX5_has_b17, fX5_has_b16]
  by_cases h1 : x < 0
  · have : ¬ (0 ≤ x ∧ x < s) := by grind
    simp [h1, this, b2i]
  · by_cases h2 : s ≤ x
    · have : ¬ (0 ≤ x ∧ x < s) := by grind
      simp [h1, h2, this, b2i]
    · have : (0 ≤ x ∧ x < s) := by grind
      simp [h1, h2, this, b2i]
theorem t_has2 (s x : Int32) : fX2_has s x = some (b2i (decide (0 ≤ x ∧ x < s))) := by
  have := t_has5 s x
  simpa [fX5_has, fX5_has_b17, fX5_has_b16, fX2_has, fX2_has_b17, fX2_has_b16] using this
def washS (h b : Int32) (m : Bool) : Int32 := jmax 0 (h - 10 * b) / (if m then 8 else 4)
theorem t_wash (h b : Int32) (m : Bool) : fX11_wash h b (b2i m) = some (washS h b m) := by
  cases m <;> simp [fX11_wash, fX11_wash_b20, washS, b2i]
def halvS (load mood age : Int32) : Int32 := if age = 13 then (if 3 ≤ mood then load else load / 2) / 2 else (if 3 ≤ mood then load else load / 2)
theorem t_halved (a b c : Int32) : fX9_halved a b c = some (halvS a b c) := by
  simp only [fX9_halved, fX9_halved_b26, fX9_halved_b12, halvS]
  by_cases h1 : 3 ≤ b <;> by_cases h2 : c = 13 <;> simp [h1, h2]
theorem t_top {i : Nat} (hi : i < 12) (wall base : Nat → Int32) : fX9_top wall base (nI i) = some (topS base wall i) := by
  simp (disch := omega) [fX9_top, nI_leI, nI_ltI, nI_clamp, nI_pos', nI_1, nI_eq, topS, hi]
theorem t_below {n : Nat} (hn : n ≤ 12) (wall base : Nat → Int32) (h : Int32) : fX9_below wall (nI n) base h = some (bitsN (fun c => !decide (h ≤ topS base wall c)) n) := by
  unfold fX9_below fX9_below_b4
  refine lp_up (fun i => (bitsN (fun c => !decide (h ≤ topS base wall c)) i, nI i)) n (by omega) rfl ?_ ?_
  · intro i hi k
    by_cases hc : h ≤ topS base wall i <;> simp (disch := omega) [fX9_below_b36, fX9_below_b30, fX9_below_l4, t_top, nI_leI, nI_ltI, nI_clamp, nI_pos', nI_1, nI_eq, bitsN_s, hc, Nat.not_le.mpr hi]
  · intro k
    simp (disch := omega) [fX9_below_b36, fX9_below_b30, fX9_below_l4, nI_leI, nI_ltI, nI_clamp, nI_pos', nI_1, nI_eq]
theorem t_childrenAt {m : Nat} (hm : m ≤ 8) (place : Nat → Int32) (c : Int32) : fX9_childrenAt place (nI m) c = some (bitsN (fun k => decide (place k = c)) m) := by
  unfold fX9_childrenAt fX9_childrenAt_b4
  refine lp_up (fun i => (bitsN (fun k => decide (place k = c)) i, nI i)) m (by omega) rfl ?_ ?_
  · intro i hi k
    have h8 : i < 8 := by omega
    by_cases hc : place i = c <;> simp (disch := omega) [fX9_childrenAt_b37, fX9_childrenAt_b31, fX9_childrenAt_l4, nI_leI, nI_ltI, nI_clamp, nI_pos', nI_1, nI_eq, bitsN_s, hc, Nat.not_le.mpr hi, h8]
  · intro k
    simp (disch := omega) [fX9_childrenAt_b37, fX9_childrenAt_b31, fX9_childrenAt_l4, nI_leI, nI_ltI, nI_clamp, nI_pos', nI_1, nI_eq]
theorem t_atHome {m : Nat} (hm : m ≤ 8) (place : Nat → Int32) : fX9_atHome place (nI m) = some (bitsN (fun k => decide (place k = -1)) m) := by
  simp [fX9_atHome, t_childrenAt hm]
theorem t_wet {n : Nat} (hn : n ≤ 12) (depth : Nat → Int32) : fX9_wet depth (nI n) = some (bitsN (fun c => !decide (depth c ≤ 0)) n) := by
  unfold fX9_wet fX9_wet_b4
  refine lp_up (fun i => (bitsN (fun c => !decide (depth c ≤ 0)) i, nI i)) n (by omega) rfl ?_ ?_
  · intro i hi k
    have h8 : i < 12 := by omega
    by_cases hc : depth i ≤ 0 <;> simp (disch := omega) [fX9_wet_b36, fX9_wet_b30, fX9_wet_l4, nI_leI, nI_ltI, nI_clamp, nI_pos', nI_1, nI_eq, bitsN_s, hc, Nat.not_le.mpr hi, h8]
  · intro k
    simp (disch := omega) [fX9_wet_b36, fX9_wet_b30, fX9_wet_l4, nI_leI, nI_ltI, nI_clamp, nI_pos', nI_1, nI_eq]
theorem t_water {n : Nat} (hn : n ≤ 12) (depth : Nat → Int32) : fX9_water depth (nI n) = some (sumN depth n) := by
  unfold fX9_water fX9_water_b4
  refine lp_up (fun i => (sumN depth i, nI i)) n (by omega) rfl ?_ ?_
  · intro i hi k
    have h8 : i < 12 := by omega
    simp (disch := omega) [fX9_water_b30, fX9_water_l4, nI_leI, nI_ltI, nI_clamp, nI_pos', nI_1, nI_eq, sumN_s, Nat.not_le.mpr hi, h8]
  · intro k
    simp (disch := omega) [fX9_water_b30, fX9_water_l4, nI_leI, nI_ltI, nI_clamp, nI_pos', nI_1, nI_eq]
theorem t_sand {n : Nat} (hn : n ≤ 12) (depth : Nat → Int32) : fX9_sand depth (nI n) = some (sumN depth n) := by
  unfold fX9_sand fX9_sand_b4
  refine lp_up (fun i => (sumN depth i, nI i)) n (by omega) rfl ?_ ?_
  · intro i hi k
    have h8 : i < 12 := by omega
    simp (disch := omega) [fX9_sand_b30, fX9_sand_l4, nI_leI, nI_ltI, nI_clamp, nI_pos', nI_1, nI_eq, sumN_s, Nat.not_le.mpr hi, h8]
  · intro k
    simp (disch := omega) [fX9_sand_b30, fX9_sand_l4, nI_leI, nI_ltI, nI_clamp, nI_pos', nI_1, nI_eq]
def lowS (base wall : Nat → Int32) : Nat → Int32
  | 0 => topS base wall 0
  | n + 1 => jmin (lowS base wall n) (topS base wall (n + 1))
theorem t_lowestTop {n : Nat} (hn : n ≤ 12) (h1 : 1 ≤ n) (wall base : Nat → Int32) : fX9_lowestTop wall (nI n) base = some (lowS base wall (n - 1)) := by
  have e0 : fX9_top wall base 0 = some (topS base wall 0) := t_top (i := 0) (by omega) wall base
  rw [fX9_lowestTop, e0]
  simp only [Option.bind_some, fX9_lowestTop_b8]
  refine lp_up (fun i => (lowS base wall i, nI (i + 1))) (n - 1) (by omega) rfl ?_ ?_
  · intro i hi k
    have hc : ¬ n ≤ i + 1 := by omega
    simp (disch := omega) [fX9_lowestTop_b35, fX9_lowestTop_l8, nI_leI, nI_ltI, nI_clamp, nI_pos', nI_1, nI_eq, t_top, lowS, hc]
  · intro k
    have e : n - 1 + 1 = n := by omega
    simp (disch := omega) [fX9_lowestTop_b35, fX9_lowestTop_l8, nI_leI, nI_ltI, nI_clamp, nI_pos', nI_1, nI_eq, e]
def nearB (place : Nat → Int32) (k o : Nat) : Bool := !decide (place o = -1) && decide (jabs (place o - place k) ≤ 1)
theorem t_palNear {m : Nat} (hm : m ≤ 8) (place pals : Nat → Int32) {k : Nat} (hk : k < m) : fX9_palNear place (nI m) pals (nI k) = some (b2i (anyN (fun o => bitB (pals k) o && nearB place k o) m)) := by
  have h8 : k < 8 := by omega
  simp (disch := omega) only [fX9_palNear, nI_leI, nI_ltI, nI_clamp, nI_pos', nI_1, nI_eq, fX9_palNear_b12, if_pos (inb_n h8 (by omega))]
  refine lp_inv (fun r => r = some (b2i (anyN (fun o => bitB (pals k) o && nearB place k o) m))) (fun i s => s = nI i ∧ anyN (fun o => bitB (pals k) o && nearB place k o) i = false) m (by omega) ⟨rfl, rfl⟩ ?_
  intro i s q hi hI
  obtain ⟨rfl, hI⟩ := hI
  by_cases e : i = m
  · subst e
    right
    simp (disch := omega) [fX9_palNear_b69, fX9_palNear_b63, fX9_palNear_b61, fX9_palNear_l12, nI_leI, nI_ltI, nI_clamp, nI_pos', nI_1, nI_eq, hI, b2i]
  · have him : i < m := by omega
    have hi8 : i < 8 := by omega
    by_cases hb : bitB (pals k) i = true
    · by_cases hp : place i = -1
      · left
        refine ⟨him, nI (i + 1), ⟨rfl, ?_⟩, ?_⟩
        · have z : nearB place k i = false := by simp [nearB, hp]
          simp [anyN, hI, z]
        · simp (disch := omega) [fX9_palNear_b69, fX9_palNear_b63, fX9_palNear_b61, fX9_palNear_l12, nI_leI, nI_ltI, nI_clamp, nI_pos', nI_1, nI_eq, bitB_0, hb, hp, Nat.not_le.mpr him, hi8]
      · by_cases hj : jabs (place i - place k) ≤ 1
        · right
          have : anyN (fun o => bitB (pals k) o && nearB place k o) m = true := (anyN_iff _ m).mpr ⟨i, him, by simp [hb, nearB, hp, hj]⟩
          have hj2 : ¬ 1 < jabs (place i - place k) := by grind
          simp (disch := omega) [fX9_palNear_b69, fX9_palNear_b63, fX9_palNear_b61, fX9_palNear_l12, nI_leI, nI_ltI, nI_clamp, nI_pos', nI_1, nI_eq, bitB_0, hb, hp, Nat.not_le.mpr him, hi8, h8, hj2, this, b2i]
        · left
          refine ⟨him, nI (i + 1), ⟨rfl, ?_⟩, ?_⟩
          · have z : nearB place k i = false := by simp [nearB, hj]
            simp [anyN, hI, z]
          · have hj2 : 1 < jabs (place i - place k) := by grind
            simp (disch := omega) [fX9_palNear_b69, fX9_palNear_b63, fX9_palNear_b61, fX9_palNear_l12, nI_leI, nI_ltI, nI_clamp, nI_pos', nI_1, nI_eq, bitB_0, hb, hp, Nat.not_le.mpr him, hi8, h8, hj2]
    · left
      have hb : bitB (pals k) i = false := by simpa using hb
      refine ⟨him, nI (i + 1), ⟨rfl, ?_⟩, ?_⟩
      · simp [anyN, hI, hb]
      · simp (disch := omega) [fX9_palNear_b69, fX9_palNear_b63, fX9_palNear_b61, fX9_palNear_l12, nI_leI, nI_ltI, nI_clamp, nI_pos', nI_1, nI_eq, bitB_0, hb, Nat.not_le.mpr him]
