/-! ===== a summer's text is read ===== -/
def actAt (b : Nat → Nat) (p p' : Nat) (s o w : Int32) : Prop :=
  (b p = 103 ∧ p' = p + 3 ∧ (97 ≤ b (p + 1) ∧ b (p + 1) ≤ 104) ∧ (97 ≤ b (p + 2) ∧ b (p + 2) ≤ 108) ∧ s = 0 ∧ o = nI (b (p + 1) - 97) ∧ w = nI (b (p + 2) - 97)) ∨
  (b p = 104 ∧ p' = p + 2 ∧ (97 ≤ b (p + 1) ∧ b (p + 1) ≤ 104) ∧ s = 1 ∧ o = nI (b (p + 1) - 97)) ∨
  (b p = 115 ∧ p' = p + 2 ∧ (97 ≤ b (p + 1) ∧ b (p + 1) ≤ 104) ∧ s = 2 ∧ o = nI (b (p + 1) - 97)) ∨
  (b p = 116 ∧ p' = p + 2 ∧ (97 ≤ b (p + 1) ∧ b (p + 1) ≤ 104) ∧ s = 3 ∧ o = nI (b (p + 1) - 97)) ∨
  (b p = 109 ∧ p' = p + 2 ∧ (97 ≤ b (p + 1) ∧ b (p + 1) ≤ 108) ∧ s = 4 ∧ o = nI (b (p + 1) - 97)) ∨
  (b p = 98 ∧ p' = p + 2 ∧ dg (b (p + 1)) = true ∧ s = 5 ∧ o = nI (b (p + 1) - 48)) ∨
  (b p = 119 ∧ p' = p + 1 ∧ s = 6)
def wdS (c : Nat) : Int32 := if c = 103 then 2 else if c = 104 ∨ c = 115 ∨ c = 116 ∨ c = 109 ∨ c = 98 then 1 else if c = 119 then 0 else -1
theorem t_wordsOf : ∀ c, c < 256 → fX11_wordsOf (nI c) = some (wdS c) := by decide +kernel
def fitB (c w x : Nat) : Bool := if c = 98 then dg x else if c = 109 ∨ w = 1 then (decide (97 ≤ x) && decide (x ≤ 108)) else (decide (97 ≤ x) && decide (x ≤ 104))
theorem t_wi {x : Nat} (hx : x < 256) {L H : Nat} (hL : L < 256) (hH : H < 256) : fX11_wordFits_b42 (nI x) (nI L) (nI H) = some (b2i (decide (L ≤ x) && decide (x ≤ H))) := by
  have e : decide (nI L ≤ nI x ∧ nI x ≤ nI H) = (decide (L ≤ x) && decide (x ≤ H)) := by
    rw [Bool.eq_iff_iff]
    simp only [decide_eq_true_eq, Bool.and_eq_true, nI_leI (show L < 2 ^ 31 by omega) (show x < 2 ^ 31 by omega), nI_leI (show x < 2 ^ 31 by omega) (show H < 2 ^ 31 by omega)]
  rw [fX11_wordFits_b42, t_within, ob_s, e]
  cases (decide (L ≤ x) && decide (x ≤ H)) <;> rfl
theorem t_wordFits {c w x : Nat} (hc : c < 256) (hw : w < 2) (hx : x < 256) : fX11_wordFits (nI c) (nI w) (nI x) = some (b2i (fitB c w x)) := by
  have e98 : nI c = 98 ↔ c = 98 := nI_eq (b := 98) (by omega) (by omega)
  have e109 : nI c = 109 ↔ c = 109 := nI_eq (b := 109) (by omega) (by omega)
  have e1 : nI w = 1 ↔ w = 1 := nI_eq (b := 1) (by omega) (by omega)
  unfold fitB fX11_wordFits fX11_wordFits_b22 fX11_wordFits_b27
  by_cases h : c = 98
  · rw [if_pos h, if_pos (e98.mpr h), t_dg hx, ob_s]
    cases dg x <;> rfl
  · rw [if_neg h, if_neg (fun q => h (e98.mp q)), if_neg (show ¬ (1 : Int32) = 0 by decide), if_pos (show (0 : Int32) = 0 from rfl)]
    by_cases h2 : c = 109
    · rw [if_pos (e109.mpr h2), if_pos (Or.inl h2)]
      exact t_wi hx (L := 97) (H := 108) (by omega) (by omega)
    · rw [if_neg (fun q => h2 (e109.mp q))]
      by_cases h3 : w = 1
      · rw [if_pos (e1.mpr h3), if_pos (Or.inr h3)]
        exact t_wi hx (L := 97) (H := 108) (by omega) (by omega)
      · rw [if_neg (fun q => h3 (e1.mp q)), if_neg (fun q => q.elim h2 h3)]
        exact t_wi hx (L := 97) (H := 104) (by omega) (by omega)
theorem w_s {k : Nat} {b : Nat → Nat} {signs tape : Nat → Int32} (hx : txB k b signs tape) {to q c w W : Nat} (ht : to ≤ k) (hq : q ≤ to) (hc : c < 256) (hw : w < W) (hW : W ≤ 2) (K : Int32 → Option Int32) (f : Nat) : loopN (fun (s : Int32 × Int32) k49 => fX11_faultOfTale_l49 (nI k) signs (nI to) (nI c) (nI W) K k49 s.1 s.2) (f + 1) (nI q, nI w) = if q < to ∧ fitB c w (b q) = true then loopN (fun (s : Int32 × Int32) k49 => fX11_faultOfTale_l49 (nI k) signs (nI to) (nI c) (nI W) K k49 s.1 s.2) f (nI (q + 1), nI (w + 1)) else some (nI q) := by
  have hk := hx.1
  refine (loopN_s _ _ _).trans ?_
  show fX11_faultOfTale_l49 (nI k) signs (nI to) (nI c) (nI W) K _ (nI q) (nI w) = _
  rw [fX11_faultOfTale_l49, if_neg (nI_ge hw (by omega))]
  by_cases h : q < to
  · rw [if_neg (nI_ge h (by omega)), if_pos (inb_n (show q < 80 by omega) (by omega)), nI_clamp (by omega), (hx.2.2 q (by omega)).1, t_wordFits hc (by omega) (hx.2.1 q), ob_s, nI_1, nI_1]
    cases e : fitB c w (b q) with
    | false => rw [if_pos (show b2i false = 0 from rfl), if_neg (fun z => absurd z.2 (by decide)), fX11_faultOfTale_b79]
    | true => rw [if_neg (show ¬ b2i true = 0 by decide), if_pos ⟨h, rfl⟩]
  · rw [if_pos (nI_le (by omega) (by omega)), if_neg (fun z => h z.1), fX11_faultOfTale_b79]
theorem w_e {k to q c W : Nat} (signs : Nat → Int32) (K : Int32 → Option Int32) (f : Nat) : loopN (fun (s : Int32 × Int32) k49 => fX11_faultOfTale_l49 (nI k) signs (nI to) (nI c) (nI W) K k49 s.1 s.2) (f + 1) (nI q, nI W) = K (nI q) := by
  refine (loopN_s _ _ _).trans ?_
  show fX11_faultOfTale_l49 (nI k) signs (nI to) (nI c) (nI W) K _ (nI q) (nI W) = _
  rw [fX11_faultOfTale_l49, if_pos (Int32.le_refl _), fX11_faultOfTale_b90]
theorem fu3 : ∃ g, FUEL = g + 3 := ⟨FUEL - 3, by have := lt_F (n := 5) (by omega); omega⟩
theorem w_1 {k : Nat} {b : Nat → Nat} {signs tape : Nat → Int32} (hx : txB k b signs tape) {to p c : Nat} (ht : to ≤ k) (hp : p < to) (hc : c < 256) (K : Int32 → Option Int32) : fX11_faultOfTale_b49 (nI k) signs (nI to) (nI (p + 1)) (nI c) (nI 1) 0 K = if p + 1 < to ∧ fitB c 0 (b (p + 1)) = true then K (nI (p + 2)) else some (nI (p + 1)) := by
  obtain ⟨g, hg⟩ := fu3
  rw [fX11_faultOfTale_b49, hg]
  refine Eq.trans (w_s hx (q := p + 1) (w := 0) (W := 1) ht (by omega) hc (by omega) (by omega) K (g + 2)) ?_
  rw [w_e]
theorem w_2 {k : Nat} {b : Nat → Nat} {signs tape : Nat → Int32} (hx : txB k b signs tape) {to p c : Nat} (ht : to ≤ k) (hp : p < to) (hc : c < 256) (K : Int32 → Option Int32) : fX11_faultOfTale_b49 (nI k) signs (nI to) (nI (p + 1)) (nI c) (nI 2) 0 K = if p + 1 < to ∧ fitB c 0 (b (p + 1)) = true then (if p + 2 < to ∧ fitB c 1 (b (p + 2)) = true then K (nI (p + 3)) else some (nI (p + 2))) else some (nI (p + 1)) := by
  obtain ⟨g, hg⟩ := fu3
  rw [fX11_faultOfTale_b49, hg]
  refine Eq.trans (w_s hx (q := p + 1) (w := 0) (W := 2) ht (by omega) hc (by omega) (by omega) K (g + 2)) ?_
  by_cases h : p + 1 < to ∧ fitB c 0 (b (p + 1)) = true
  · rw [if_pos h, if_pos h]
    refine Eq.trans (w_s hx (q := p + 1 + 1) (w := 0 + 1) (W := 2) ht (by omega) hc (by omega) (by omega) K (g + 1)) ?_
    rw [w_e]
  · rw [if_neg h, if_neg h]
theorem ix4 : ∀ c, c < 256 → ixS 4 c = if c = 103 then 0 else if c = 104 then 1 else if c = 115 then 2 else if c = 116 then 3 else if c = 109 then 4 else if c = 98 then 5 else if c = 119 then 6 else -1 := by decide +kernel
theorem ix5 : ∀ c, c < 256 → ixS 5 c = if 97 ≤ c ∧ c ≤ 104 then nI (c - 97) else -1 := by decide +kernel
theorem ix6 : ∀ c, c < 256 → ixS 6 c = if 97 ≤ c ∧ c ≤ 108 then nI (c - 97) else -1 := by decide +kernel
section Rd
variable {i : Nat} (at_ to acts : Int32) (tape S O W : Nat → Int32)
theorem m_113n (hi : i < 60) {s2 : Int32} (h : s2 < 0) : fX12_readsAct_b113 at_ to acts tape S O W (nI i) (nI i) s2 = some (0, at_, acts, S, upd O i s2, W) := by
  rw [fX12_readsAct_b113, if_pos (inb_n hi (by omega)), if_pos (inb_n hi (by omega)), nI_clamp (by omega), pk_us, if_pos h, fX12_readsAct_b132, if_pos (inb_n hi (by omega)), nI_clamp (by omega), pk_us, if_pos h, fX12_readsAct_b146, if_pos (Or.inl rfl)]
theorem m_113y (hi : i < 60) {s2 : Int32} (h : ¬ s2 < 0) (hS : ¬ S i = 0) : fX12_readsAct_b113 at_ to acts tape S O W (nI i) (nI i) s2 = some (1, at_, acts, S, upd O i s2, W) := by
  rw [fX12_readsAct_b113, if_pos (inb_n hi (by omega)), if_pos (inb_n hi (by omega)), nI_clamp (by omega), pk_us, if_neg h, if_neg hS, fX12_readsAct_b132, if_pos (inb_n hi (by omega)), nI_clamp (by omega), pk_us, if_neg h, fX12_readsAct_b146, if_pos (Or.inr rfl)]
theorem m_113g (hi : i < 60) {s2 : Int32} (h : ¬ s2 < 0) (hS : S i = 0) {r : Int32 × Int32} (hr : fX12_takesOf at_ to tape 6 = some r) : fX12_readsAct_b113 at_ to acts tape S O W (nI i) (nI i) s2 = some (if r.1 < 0 then 0 else 1, r.2, acts, S, upd O i s2, upd W i r.1) := by
  rw [fX12_readsAct_b113, if_pos (inb_n hi (by omega)), if_pos (inb_n hi (by omega)), nI_clamp (by omega), pk_us, if_neg h, if_pos hS, hr, ob_s, pk_us]
  by_cases h2 : r.1 < 0
  · rw [if_pos h2, if_pos h2, fX12_readsAct_b174, if_pos (Or.inl rfl)]
  · rw [if_neg h2, if_neg h2, fX12_readsAct_b174, if_pos (Or.inr rfl)]
end Rd
theorem m_lt {k : Nat} {b : Nat → Nat} {signs tape : Nat → Int32} (hx : txB k b signs tape) {to q s H : Nat} (hs7 : s < 7) (hH : ∀ c, c < 256 → ixS s c = if 97 ≤ c ∧ c ≤ H then nI (c - 97) else -1) (ht : to ≤ k) (hq : q ≤ to) : fX12_takesOf (nI q) (nI to) tape s = some (if q < to ∧ (97 ≤ b q ∧ b q ≤ H) then (nI (b q - 97), nI (q + 1)) else (-1, nI q)) := by
  have hb := hx.2.1 q
  rw [m_takesOf hx ht hq hs7, hH _ hb]
  by_cases h : 97 ≤ b q ∧ b q ≤ H
  · have z : ¬ nI (b q - 97) = -1 := n_ne1 (by omega)
    simp only [if_pos h]
    by_cases h2 : q < to
    · rw [if_pos ⟨h2, z⟩, if_pos ⟨h2, h⟩]
    · rw [if_neg (fun w => h2 w.1), if_neg (fun w => h2 w.1)]
  · simp only [if_neg h]
    by_cases h2 : q < to
    · simp [h2, h]
    · simp [h2]
def actQ (k : Nat) (b : Nat → Nat) (signs : Nat → Int32) (to p i : Nat) (S O W : Nat → Int32) (R : Option (Int32 × Int32 × Int32 × (Nat → Int32) × (Nat → Int32) × (Nat → Int32))) : Prop :=
  (∃ q i' S' O' W', p ≤ q ∧ q ≤ to ∧ (∀ K, fX11_faultOfTale_l15 (nI k) signs (nI to) K (nI p) = some (nI q)) ∧ R = some (0, nI q, i', S', O', W')) ∨
  (∃ p' S' O' W', p < p' ∧ p' ≤ to ∧ (∀ j, j < i → S' j = S j ∧ O' j = O j ∧ W' j = W j) ∧ actAt b p p' (S' i) (O' i) (W' i) ∧ (∀ K, fX11_faultOfTale_l15 (nI k) signs (nI to) K (nI p) = K (nI p')) ∧ R = some (1, nI p', nI (i + 1), S', O', W'))
theorem j_act1 {k : Nat} {b : Nat → Nat} {signs tape : Nat → Int32} (hx : txB k b signs tape) {to p i : Nat} (ht : to ≤ k) (hp : p < to) (hi : i < 60) (S O W : Nat → Int32) (j c : Nat) (hj : 1 ≤ j) (hj6 : j < 6) (hbp : b p = c) (hw1 : wdS c = 1) (v q' : Nat) (ok : Prop) [Decidable ok] (hfit : ok ↔ (p + 1 < to ∧ fitB c 0 (b (p + 1)) = true)) (hA : ok → ∀ w, actAt b p (p + 2) (nI j) (nI v) w) (hv : v < 256) (hR : fX12_readsAct (nI p) (nI to) (nI i) tape S O W = fX12_readsAct_b113 (nI (if ok then p + 2 else p + 1)) (nI to) (nI (i + 1)) tape (upd S i (nI j)) O W (nI i) (nI i) (if ok then nI v else -1)) : actQ k b signs to p i S O W (fX12_readsAct (nI p) (nI to) (nI i) tape S O W) := by
  have hk := hx.1
  have hc : c < 256 := hbp ▸ hx.2.1 p
  have cl : ∀ K, fX11_faultOfTale_l15 (nI k) signs (nI to) K (nI p) = if p + 1 < to ∧ fitB c 0 (b (p + 1)) = true then K (nI (p + 2)) else some (nI (p + 1)) := by
    intro K
    rw [fX11_faultOfTale_l15, if_neg (nI_ge hp (by omega)), if_pos (inb_n (show p < 80 by omega) (by omega)), nI_clamp (by omega), (hx.2.2 p (by omega)).1, hbp, t_wordsOf c hc, ob_s, hw1, if_pos (show (0 : Int32) ≤ 1 by decide), nI_1]
    exact w_1 hx ht hp hc K
  rw [hR]
  by_cases h : ok
  · right
    have h2 := hfit.mp h
    rw [if_pos h, if_pos h, m_113y _ _ _ _ _ _ _ hi (nI_pos (by omega)) (by rw [pk_us]; exact nI_ne0 (by omega) (by omega))]
    refine ⟨p + 2, upd S i (nI j), upd O i (nI v), W, by omega, by omega, fun t ht' => ⟨pk_un (by omega), pk_un (by omega), rfl⟩, by rw [pk_us, pk_us]; exact hA h (W i), fun K => by rw [cl K, if_pos h2], rfl⟩
  · left
    rw [if_neg h, if_neg h, m_113n _ _ _ _ _ _ _ hi (show (-1 : Int32) < 0 by decide)]
    exact ⟨p + 1, nI (i + 1), upd S i (nI j), upd O i (-1), W, by omega, by omega, fun K => by rw [cl K, if_neg (fun z => h (hfit.mpr z))], rfl⟩
theorem j_actP {k : Nat} {b : Nat → Nat} {signs tape : Nat → Int32} (hx : txB k b signs tape) {to p i : Nat} (ht : to ≤ k) (hp : p < to) (hi : i < 60) (S O W : Nat → Int32) : actQ k b signs to p i S O W (fX12_readsAct (nI p) (nI to) (nI i) tape S O W) := by
  have hk := hx.1
  have hb := hx.2.1
  have tk := m_takesOf hx ht (Nat.le_of_lt hp) (s := 4) (by omega)
  have i4 := ix4 (b p) (hb p)
  have l5 := m_lt hx (s := 5) (H := 104) (q := p + 1) (by omega) ix5 ht (by omega)
  have l6 := m_lt hx (s := 6) (H := 108) (q := p + 1) (by omega) ix6 ht (by omega)
  have n1 := m_num1 hx ht (p := p + 1) (by omega)
  -- an act with one word
  have one : ∀ j : Nat, j < 7 → ixS 4 (b p) = nI j → fX12_readsAct (nI p) (nI to) (nI i) tape S O W = if nI j = 6 then fX12_readsAct_b48 (nI (p + 1)) (nI to) (nI (i + 1)) tape (upd S i (nI j)) O W (nI i) else (if (4 : Int32) ≤ nI j then (if nI j = 4 then ((fX12_takesOf (nI (p + 1)) (nI to) tape 6).bind (fun r21 => fX12_readsAct_b113 r21.2 (nI to) (nI (i + 1)) tape (upd S i (nI j)) O W (nI i) (nI i) r21.1)) else ((fX12_number (nI (p + 1)) (nI to) tape (1 : Int32)).bind (fun r20 => fX12_readsAct_b113 r20.2 (nI to) (nI (i + 1)) tape (upd S i (nI j)) O W (nI i) (nI i) r20.1))) else ((fX12_takesOf (nI (p + 1)) (nI to) tape 5).bind (fun r22 => fX12_readsAct_b113 r22.2 (nI to) (nI (i + 1)) tape (upd S i (nI j)) O W (nI i) (nI i) r22.1))) := by
    intro j hj e
    rw [fX12_readsAct, tk, e, if_pos ⟨hp, n_ne1 (by omega)⟩, ob_s, if_pos (inb_n hi (by omega)), nI_clamp (by omega), pk_us, if_neg (nI_pos (by omega)), nI_1]
  by_cases c0 : b p = 103
  · rw [if_pos c0] at i4
    have e := one 0 (by omega) i4
    rw [if_neg (show ¬ nI 0 = 6 by decide), if_neg (show ¬ (4 : Int32) ≤ nI 0 by decide), l5, ob_s] at e
    have cl : ∀ K, fX11_faultOfTale_l15 (nI k) signs (nI to) K (nI p) = if p + 1 < to ∧ fitB 103 0 (b (p + 1)) = true then (if p + 2 < to ∧ fitB 103 1 (b (p + 2)) = true then K (nI (p + 3)) else some (nI (p + 2))) else some (nI (p + 1)) := by
      intro K
      rw [fX11_faultOfTale_l15, if_neg (nI_ge hp (by omega)), if_pos (inb_n (show p < 80 by omega) (by omega)), nI_clamp (by omega), (hx.2.2 p (by omega)).1, c0, t_wordsOf 103 (by omega), ob_s, if_pos (show (0 : Int32) ≤ wdS 103 by decide), nI_1]
      exact w_2 hx ht hp (by omega) K
    have f0 : fitB 103 0 (b (p + 1)) = true ↔ 97 ≤ b (p + 1) ∧ b (p + 1) ≤ 104 := by simp [fitB]
    have f1 : fitB 103 1 (b (p + 2)) = true ↔ 97 ≤ b (p + 2) ∧ b (p + 2) ≤ 108 := by simp [fitB]
    by_cases h1 : p + 1 < to ∧ (97 ≤ b (p + 1) ∧ b (p + 1) ≤ 104)
    · have h1' : p + 1 < to ∧ fitB 103 0 (b (p + 1)) = true := ⟨h1.1, f0.mpr h1.2⟩
      have l6' := m_lt hx (s := 6) (H := 108) (q := p + 2) (by omega) ix6 ht (by omega)
      rw [if_pos h1, m_113g _ _ _ _ _ _ _ hi (nI_pos (by have := hb (p + 1); omega)) (by rw [pk_us]; rfl) l6'] at e
      by_cases h2 : p + 2 < to ∧ (97 ≤ b (p + 2) ∧ b (p + 2) ≤ 108)
      · right
        rw [if_pos h2, if_neg (nI_pos (by have := hb (p + 2); omega))] at e
        refine ⟨p + 3, _, _, _, by omega, by omega, fun t ht' => ⟨pk_un (by omega), pk_un (by omega), pk_un (by omega)⟩, ?_, fun K => by rw [cl K, if_pos h1', if_pos ⟨h2.1, f1.mpr h2.2⟩], e⟩
        left
        rw [pk_us, pk_us, pk_us]
        exact ⟨c0, rfl, h1.2, h2.2, rfl, rfl, rfl⟩
      · left
        rw [if_neg h2, if_pos (show (-1 : Int32) < 0 by decide)] at e
        exact ⟨p + 2, _, _, _, _, by omega, by omega, fun K => by rw [cl K, if_pos h1', if_neg (fun z => h2 ⟨z.1, f1.mp z.2⟩)], e⟩
    · left
      rw [if_neg h1, m_113n _ _ _ _ _ _ _ hi (show (-1 : Int32) < 0 by decide)] at e
      exact ⟨p + 1, _, _, _, _, by omega, by omega, fun K => by rw [cl K, if_neg (fun z => h1 ⟨z.1, f0.mp z.2⟩)], e⟩
  · rw [if_neg c0] at i4
    have letter : ∀ (j c : Nat), 1 ≤ j → j < 4 → b p = c → (c = 104 ∧ j = 1 ∨ c = 115 ∧ j = 2 ∨ c = 116 ∧ j = 3) → ixS 4 (b p) = nI j → actQ k b signs to p i S O W (fX12_readsAct (nI p) (nI to) (nI i) tape S O W) := by
      intro j c hj1 hj4 hbp hcj e4
      have e := one j (by omega) e4
      rw [if_neg (show ¬ nI j = 6 from fun w => by have := (nI_eq (b := 6) (show j < 2 ^ 31 by omega) (by omega)).mp w; omega), if_neg (show ¬ (4 : Int32) ≤ nI j from nI_ge (b := 4) (by omega) (by omega)), l5, ob_s] at e
      refine j_act1 hx ht hp hi S O W j c hj1 (by omega) hbp (by rcases hcj with ⟨rfl, -⟩ | ⟨rfl, -⟩ | ⟨rfl, -⟩ <;> decide) (b (p + 1) - 97) 0 (p + 1 < to ∧ (97 ≤ b (p + 1) ∧ b (p + 1) ≤ 104)) ?_ ?_ (by have := hb (p + 1); omega) ?_
      · rcases hcj with ⟨rfl, -⟩ | ⟨rfl, -⟩ | ⟨rfl, -⟩ <;> simp [fitB]
      · intro h w
        rcases hcj with ⟨rfl, rfl⟩ | ⟨rfl, rfl⟩ | ⟨rfl, rfl⟩
        · exact Or.inr (Or.inl ⟨hbp, rfl, h.2, rfl, rfl⟩)
        · exact Or.inr (Or.inr (Or.inl ⟨hbp, rfl, h.2, rfl, rfl⟩))
        · exact Or.inr (Or.inr (Or.inr (Or.inl ⟨hbp, rfl, h.2, rfl, rfl⟩)))
      · rw [e]
        by_cases h : p + 1 < to ∧ (97 ≤ b (p + 1) ∧ b (p + 1) ≤ 104)
        · rw [if_pos h, if_pos h, if_pos h]
        · rw [if_neg h, if_neg h, if_neg h]
    by_cases c1 : b p = 104
    · rw [if_pos c1] at i4; exact letter 1 104 (by omega) (by omega) c1 (Or.inl ⟨rfl, rfl⟩) i4
    rw [if_neg c1] at i4
    by_cases c2 : b p = 115
    · rw [if_pos c2] at i4; exact letter 2 115 (by omega) (by omega) c2 (Or.inr (Or.inl ⟨rfl, rfl⟩)) i4
    rw [if_neg c2] at i4
    by_cases c3 : b p = 116
    · rw [if_pos c3] at i4; exact letter 3 116 (by omega) (by omega) c3 (Or.inr (Or.inr ⟨rfl, rfl⟩)) i4
    rw [if_neg c3] at i4
    by_cases c4 : b p = 109
    · rw [if_pos c4] at i4
      have e := one 4 (by omega) i4
      rw [if_neg (show ¬ nI 4 = 6 by decide), if_pos (show (4 : Int32) ≤ nI 4 by decide), if_pos (show nI 4 = 4 from rfl), l6, ob_s] at e
      refine j_act1 hx ht hp hi S O W 4 109 (by omega) (by omega) c4 (by decide) (b (p + 1) - 97) 0 (p + 1 < to ∧ (97 ≤ b (p + 1) ∧ b (p + 1) ≤ 108)) (by simp [fitB]) (fun h w => Or.inr (Or.inr (Or.inr (Or.inr (Or.inl ⟨c4, rfl, h.2, rfl, rfl⟩))))) (by have := hb (p + 1); omega) ?_
      rw [e]
      by_cases h : p + 1 < to ∧ (97 ≤ b (p + 1) ∧ b (p + 1) ≤ 108)
      · rw [if_pos h, if_pos h, if_pos h]
      · rw [if_neg h, if_neg h, if_neg h]
    rw [if_neg c4] at i4
    by_cases c5 : b p = 98
    · rw [if_pos c5] at i4
      have e := one 5 (by omega) i4
      rw [if_neg (show ¬ nI 5 = 6 by decide), if_pos (show (4 : Int32) ≤ nI 5 by decide), if_neg (show ¬ nI 5 = 4 by decide), n1, ob_s] at e
      refine j_act1 hx ht hp hi S O W 5 98 (by omega) (by omega) c5 (by decide) (b (p + 1) - 48) 0 (p + 1 < to ∧ dg (b (p + 1)) = true) (by simp [fitB]) (fun h w => Or.inr (Or.inr (Or.inr (Or.inr (Or.inr (Or.inl ⟨c5, rfl, h.2, rfl, rfl⟩)))))) (by have := hb (p + 1); omega) ?_
      rw [e]
      by_cases h : p + 1 < to ∧ dg (b (p + 1)) = true
      · rw [if_pos h, if_pos h, if_pos h]
      · rw [if_neg h, if_neg h, if_neg h]
    rw [if_neg c5] at i4
    by_cases c6 : b p = 119
    · rw [if_pos c6] at i4
      have e := one 6 (by omega) i4
      rw [if_pos (show nI 6 = 6 from rfl), fX12_readsAct_b48, if_pos (inb_n hi (by omega)), nI_clamp (by omega), pk_us, if_neg (show ¬ nI 6 < 0 by decide), fX12_readsAct_b62, if_pos (Or.inr rfl)] at e
      right
      refine ⟨p + 1, _, O, W, by omega, by omega, fun t ht' => ⟨pk_un (by omega), rfl, rfl⟩, ?_, ?_, e⟩
      · rw [pk_us]
        exact Or.inr (Or.inr (Or.inr (Or.inr (Or.inr (Or.inr ⟨c6, rfl, rfl⟩)))))
      · intro K
        rw [fX11_faultOfTale_l15, if_neg (nI_ge hp (by omega)), if_pos (inb_n (show p < 80 by omega) (by omega)), nI_clamp (by omega), (hx.2.2 p (by omega)).1, c6, t_wordsOf 119 (by omega), ob_s, if_pos (show (0 : Int32) ≤ wdS 119 by decide), nI_1]
        obtain ⟨g, hg⟩ := fu3
        rw [fX11_faultOfTale_b49, hg]
        exact w_e (W := 0) signs K (g + 2)
    · rw [if_neg c6] at i4
      left
      refine ⟨p, nI (i + 1), upd S i (-1), O, W, by omega, by omega, ?_, ?_⟩
      · intro K
        have wd : wdS (b p) = -1 := by
          unfold wdS
          rw [if_neg c0, if_neg (fun z => by omega), if_neg c6]
        rw [fX11_faultOfTale_l15, if_neg (nI_ge hp (by omega)), if_pos (inb_n (show p < 80 by omega) (by omega)), nI_clamp (by omega), (hx.2.2 p (by omega)).1, t_wordsOf _ (hb p), ob_s, wd, if_neg (show ¬ (0 : Int32) ≤ -1 by decide), fX11_faultOfTale_b41]
      · rw [fX12_readsAct, tk, i4, if_neg (fun z => z.2 rfl), ob_s, if_pos (inb_n hi (by omega)), nI_clamp (by omega), pk_us, if_pos (show (-1 : Int32) < 0 by decide), fX12_readsAct_b48, if_pos (inb_n hi (by omega)), nI_clamp (by omega), pk_us, if_pos (show (-1 : Int32) < 0 by decide), fX12_readsAct_b62, if_pos (Or.inl rfl), nI_1]
/-! the whole text -/
def posOk (b : Nat → Nat) (A k : Nat) (pos : Nat → Nat) (S O W : Nat → Int32) : Prop :=
  pos 0 = 0 ∧ ∀ j, j < A → pos j < pos (j + 1) ∧ pos (j + 1) ≤ k ∧ actAt b (pos j) (pos (j + 1)) (S j) (O j) (W j)
