/-! ===== texts, and what reads them ===== -/
def txB (k : Nat) (b : Nat → Nat) (signs tape : Nat → Int32) : Prop := k ≤ 80 ∧ (∀ i, b i < 256) ∧ ∀ i, i < k → signs i = nI (b i) ∧ tape i = nI (b i)
theorem tx_B {len taped : Int32} {signs tape : Nat → Int32} (hx : txR len signs taped tape) : ∃ k b, len = nI k ∧ taped = nI k ∧ txB k b signs tape := by
  obtain ⟨k, hk, h1, h2, h3⟩ := hx
  refine ⟨k, fun i => if i < k then (tape i).toNatClampNeg else 0, h1, h2, hk, ?_, ?_⟩
  · intro i
    by_cases hi : i < k
    · obtain ⟨-, c, hc, e⟩ := h3 i hi
      simp only [if_pos hi, e]
      rw [nI_clamp (by omega)]; exact hc
    · simp only [if_neg hi]; omega
  · intro i hi
    obtain ⟨e1, c, hc, e⟩ := h3 i hi
    simp only [if_pos hi, e1, e, nI_clamp (show c < 2 ^ 31 by omega), and_self]
theorem tx_0' {signs tape : Nat → Int32} : txR 0 signs 0 tape := ⟨0, by omega, rfl, rfl, fun i hi => absurd hi (by omega)⟩
def dg (c : Nat) : Bool := decide (48 ≤ c) && decide (c ≤ 57)
theorem dg_I {c : Nat} (h : c < 256) : (48 ≤ nI c ∧ nI c ≤ 57) ↔ dg c = true := by
  have a : (48 : Int32) ≤ nI c ↔ 48 ≤ c := nI_leI (a := 48) (by omega) (by omega)
  have b : nI c ≤ (57 : Int32) ↔ c ≤ 57 := nI_leI (b := 57) (by omega) (by omega)
  rw [a, b]; simp [dg]
theorem dg_r {c : Nat} (h : dg c = true) : 48 ≤ c ∧ c ≤ 57 := by simpa [dg] using h
theorem dg_v {c : Nat} (h : dg c = true) : nI c - 48 = nI (c - 48) := pk_sub (b := 48) (dg_r h).1
theorem t_dg {c : Nat} (h : c < 256) : fX11_isDigit (nI c) = some (b2i (dg c)) := by
  rw [t_isDigit]
  congr 2
  rw [Bool.eq_iff_iff]; simpa using dg_I h
theorem m_isDigit {k : Nat} {b : Nat → Nat} {signs tape : Nat → Int32} (hx : txB k b signs tape) {p to : Nat} (ht : to ≤ k) (hp : p ≤ to) : fX12_isDigit (nI p) (nI to) tape = some (b2i (decide (p < to) && dg (b p))) := by
  obtain ⟨h1, h2, h3⟩ := hx
  by_cases h : p < to
  · have z : ¬ nI to ≤ nI p := nI_ge h (by omega)
    have i8 : inb (nI p) 80 := inb_n (by omega) (by omega)
    have q := t_in (nI (b p)) (L := 48) (H := 57) 48 57 rfl rfl
    have e : decide (48 ≤ nI (b p) ∧ nI (b p) ≤ 57) = dg (b p) := by
      rw [Bool.eq_iff_iff]; simpa using dg_I (h2 p)
    rw [e] at q
    simp only [fX12_isDigit, if_neg z, if_pos i8, nI_clamp (show p < 2 ^ 31 by omega), (h3 p (by omega)).2, q, ob_s, h, decide_true, Bool.true_and]
    cases dg (b p) <;> rfl
  · have z : nI to ≤ nI p := nI_le (by omega) (by omega)
    simp only [fX12_isDigit, if_pos z, fX12_isDigit_b37, fX12_isDigit_b38, h, decide_false, Bool.false_and]
    rfl
theorem m_takes {k : Nat} {b : Nat → Nat} {signs tape : Nat → Int32} (hx : txB k b signs tape) {p to : Nat} (ht : to ≤ k) (hp : p ≤ to) (x : Nat) (hxx : x < 256 := by omega) : fX12_takes (nI p) (nI to) tape (nI x) = some (if p < to ∧ b p = x then (1, nI (p + 1)) else (0, nI p)) := by
  obtain ⟨h1, h2, h3⟩ := hx
  by_cases h : p < to
  · have z : ¬ nI to ≤ nI p := nI_ge h (by omega)
    have i8 : inb (nI p) 80 := inb_n (by omega) (by omega)
    by_cases e : b p = x
    · rw [fX12_takes, if_neg z, if_pos i8, nI_clamp (show p < 2 ^ 31 by omega), (h3 p (by omega)).2]
      simp [e, h, fX12_takes_b29, fX12_flag, fX12_flag_b9, nI_1]
    · have e2 : ¬ nI (b p) = nI x := fun q => e ((nI_eq (by have := h2 p; omega) (by omega)).mp q)
      rw [fX12_takes, if_neg z, if_pos i8, nI_clamp (show p < 2 ^ 31 by omega), (h3 p (by omega)).2]
      simp [e, e2, fX12_takes_b28, fX12_takes_b29, fX12_flag, fX12_flag_b9]
  · have z : nI to ≤ nI p := nI_le (by omega) (by omega)
    simp [fX12_takes, if_pos z, h, fX12_takes_b28, fX12_takes_b29, fX12_flag, fX12_flag_b9]
/-- the digits of a number: its value and where it ends -/
def nmS (b : Nat → Nat) (to : Nat) : Nat → Nat → Nat → Nat × Nat
  | 0, p, v => (v, p)
  | w + 1, p, v => if p < to ∧ dg (b p) = true then nmS b to w (p + 1) (10 * v + (b p - 48)) else (v, p)
theorem nmS_v {b : Nat → Nat} {to : Nat} : ∀ {w p v : Nat}, (nmS b to w p v).1 < (v + 1) * 10 ^ w
  | 0, p, v => by simp [nmS]
  | w + 1, p, v => by
    unfold nmS
    by_cases h : p < to ∧ dg (b p) = true
    · rw [if_pos h]
      have r := dg_r h.2
      have q : (nmS b to w (p + 1) (10 * v + (b p - 48))).1 < (10 * v + (b p - 48) + 1) * 10 ^ w := nmS_v
      have q2 : (10 * v + (b p - 48) + 1) * 10 ^ w ≤ (10 * (v + 1)) * 10 ^ w := Nat.mul_le_mul_right _ (by omega)
      have q3 : (v + 1) * 10 ^ (w + 1) = (10 * (v + 1)) * 10 ^ w := by rw [Nat.pow_succ, Nat.mul_comm 10, Nat.mul_assoc, Nat.mul_comm 10]
      omega
    · rw [if_neg h]
      have q2 : (v + 1) * 1 ≤ (v + 1) * 10 ^ (w + 1) := Nat.mul_le_mul_left _ (Nat.one_le_pow _ _ (by omega))
      show v < _
      omega
theorem nmS_p {b : Nat → Nat} {to : Nat} : ∀ {w p v : Nat}, p ≤ to → p ≤ (nmS b to w p v).2 ∧ (nmS b to w p v).2 ≤ to
  | 0, p, v => fun h => ⟨Nat.le_refl _, h⟩
  | w + 1, p, v => fun h => by
    unfold nmS
    by_cases c : p < to ∧ dg (b p) = true
    · rw [if_pos c]
      have := @nmS_p b to w (p + 1) (10 * v + (b p - 48)) (by omega)
      omega
    · rw [if_neg c]; exact ⟨Nat.le_refl _, h⟩
theorem m_num {k : Nat} {b : Nat → Nat} {signs tape : Nat → Int32} (hx : txB k b signs tape) {to : Nat} (ht : to ≤ k) {w : Nat} (hw : w ≤ 8) : ∀ r i p v f, i + r = w → p ≤ to → r < f → v < 10 ^ i → loopN (fun (s : Int32 × Int32 × Int32) k13 => fX12_number_l13 (nI to) tape (nI w) k13 s.1 s.2.1 s.2.2) f (nI p, nI v, nI i) = some (nI (nmS b to r p v).1, nI (nmS b to r p v).2) := by
  intro r
  induction r with
  | zero =>
    intro i p v f hi hp hf hv
    obtain ⟨f, rfl⟩ : ∃ g, f = g + 1 := ⟨f - 1, by omega⟩
    show fX12_number_l13 (nI to) tape (nI w) _ (nI p) (nI v) (nI i) = _
    rw [fX12_number_l13, if_pos (nI_le (by omega) (by omega))]; rfl
  | succ r ih =>
    intro i p v f hi hp hf hv
    obtain ⟨f, rfl⟩ : ∃ g, f = g + 1 := ⟨f - 1, by omega⟩
    show fX12_number_l13 (nI to) tape (nI w) (loopN (fun (s : Int32 × Int32 × Int32) k13 => fX12_number_l13 (nI to) tape (nI w) k13 s.1 s.2.1 s.2.2) f) (nI p) (nI v) (nI i) = _
    have h1 := hx.1
    rw [fX12_number_l13, if_neg (nI_ge (by omega) (by omega)), m_isDigit hx ht hp, ob_s]
    unfold nmS
    by_cases c : p < to ∧ dg (b p) = true
    · rw [if_pos c]
      have z : ¬ b2i (decide (p < to) && dg (b p)) = 0 := by simp [c.1, c.2, b2i]
      have r := dg_r c.2
      have e : (10 : Int32) * nI v + tape p - 48 = nI (10 * v + (b p - 48)) := by
        rw [(hx.2.2 p (by omega)).2, show (10 : Int32) * nI v = nI (10 * v) from pk_mul 10 v, nI_add, show (48 : Int32) = nI 48 from rfl, pk_sub (by omega)]
        congr 1; omega
      rw [if_neg z, if_pos (inb_n (by omega) (by omega)), nI_clamp (by omega), e, nI_1, nI_1]
      exact ih (i + 1) (p + 1) _ f (by omega) (by omega) (by omega) (by rw [Nat.pow_succ]; omega)
    · rw [if_neg c]
      have z : b2i (decide (p < to) && dg (b p)) = 0 := by
        by_cases h : p < to
        · simp [show dg (b p) = false by simpa [h] using c, b2i]
        · simp [h, b2i]
      rw [if_pos z]; rfl
theorem m_number {k : Nat} {b : Nat → Nat} {signs tape : Nat → Int32} (hx : txB k b signs tape) {p to : Nat} (ht : to ≤ k) (hp : p ≤ to) {w : Nat} (hw : w ≤ 8) : fX12_number (nI p) (nI to) tape (nI w) = some (if p < to ∧ dg (b p) = true then (nI (nmS b to w p 0).1, nI (nmS b to w p 0).2) else (-1, nI p)) := by
  have h1 := hx.1
  have e := m_num hx ht hw w 0 p 0 FUEL (by omega) hp (lt_F (by omega)) (by simp)
  by_cases c : p < to ∧ dg (b p) = true
  · have z : ¬ b2i (decide (p < to) && dg (b p)) = 0 := by simp [c.1, c.2, b2i]
    rw [fX12_number, m_isDigit hx ht hp, ob_s, if_neg z, if_pos c, fX12_number_b13]
    exact e
  · have z : b2i (decide (p < to) && dg (b p)) = 0 := by
      by_cases h : p < to
      · simp [show dg (b p) = false by simpa [h] using c, b2i]
      · simp [h, b2i]
    rw [fX12_number, m_isDigit hx ht hp, ob_s, if_pos z, if_neg c]
theorem m_num1 {k : Nat} {b : Nat → Nat} {signs tape : Nat → Int32} (hx : txB k b signs tape) {p to : Nat} (ht : to ≤ k) (hp : p ≤ to) : fX12_number (nI p) (nI to) tape 1 = some (if p < to ∧ dg (b p) = true then (nI (b p - 48), nI (p + 1)) else (-1, nI p)) := by
  have q := m_number hx ht hp (w := 1) (by omega)
  refine Eq.trans q ?_
  by_cases c : p < to ∧ dg (b p) = true
  · simp [nmS, c]
  · rw [if_neg c, if_neg c]
