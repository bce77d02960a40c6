/-! ===== signs of a few, and codes that are run on a stack ===== -/
def natM : List (List Nat) := [[110, 119, 99, 109], [60, 62, 61], [43, 45], [42, 47], [103, 104, 115, 116, 109, 98, 119], [97, 98, 99, 100, 101, 102, 103, 104], [97, 98, 99, 100, 101, 102, 103, 104, 105, 106, 107, 108]]
def chN (s j : Nat) : Nat := (natM.getD s []).getD j 0
def ixF (s c len : Nat) : Nat → Int32
  | 0 => -1
  | n + 1 => if chN s (len - (n + 1)) = c then nI (len - (n + 1)) else ixF s c len n
def ixS (s c : Nat) : Int32 := ixF s c (lenM.getD s 0) (lenM.getD s 0)
theorem ch_I : ∀ s, s < 7 → ∀ i, i < 12 → i < lenM.getD s 0 → sCh s (nI i) = nI (chN s i) ∧ chN s i < 256 := by decide +kernel
theorem len_I : ∀ s, s < 7 → sLen s = nI (lenM.getD s 0) ∧ lenM.getD s 0 ≤ 12 := by decide +kernel
theorem m_among {k : Nat} {b : Nat → Nat} {signs tape : Nat → Int32} (hx : txB k b signs tape) {p to s : Nat} (ht : to ≤ k) (hp : p ≤ to) (hs : s < 7) : fX12_among (nI p) (nI to) tape s = some (if p < to then ixS s (b p) else -1) := by
  obtain ⟨el, hl⟩ := len_I s hs
  have h1 := hx.1
  have hb := hx.2.1
  unfold fX12_among fX12_among_b2
  refine lp_inv (s := (0 : Int32)) (fun r => r = some (if p < to then ixS s (b p) else -1)) (fun i (x : Int32) => x = nI i ∧ ixS s (b p) = ixF s (b p) (lenM.getD s 0) (lenM.getD s 0 - i)) (lenM.getD s 0) (by omega) ⟨rfl, rfl⟩ ?_
  rintro i x K hi ⟨rfl, e⟩
  show (i < lenM.getD s 0 ∧ ∃ s', _ ∧ fX12_among_l2 (nI p) (nI to) tape s K (nI i) = K s') ∨ fX12_among_l2 (nI p) (nI to) tape s K (nI i) = _
  rw [fX12_among_l2, if_pos hs, el]
  by_cases c : i < lenM.getD s 0
  · rw [if_neg (nI_ge c (by omega))]
    by_cases c2 : p < to
    · obtain ⟨q1, q2⟩ := ch_I s hs i (by omega) c
      rw [if_neg (nI_ge c2 (by omega)), if_pos (inb_n c (by omega)), if_pos (inb_n (show p < 80 by omega) (by omega)), nI_clamp (by omega), q1, (hx.2.2 p (by omega)).2]
      have e2 : ixF s (b p) (lenM.getD s 0) (lenM.getD s 0 - i) = if chN s i = b p then nI i else ixF s (b p) (lenM.getD s 0) (lenM.getD s 0 - (i + 1)) := by
        rw [show lenM.getD s 0 - i = (lenM.getD s 0 - (i + 1)) + 1 by omega, ixF, show lenM.getD s 0 - (lenM.getD s 0 - (i + 1) + 1) = i by omega]
      by_cases c3 : chN s i = b p
      · right
        rw [if_pos (by rw [c3]), if_pos c2, e, e2, if_pos c3]; rfl
      · left
        have c4 : ¬ nI (chN s i) = nI (b p) := fun w => c3 ((nI_eq (by omega) (by have := hb p; omega)).mp w)
        refine ⟨c, nI (i + 1), ⟨rfl, ?_⟩, ?_⟩
        · rw [e, e2, if_neg c3]
        · rw [if_neg c4, nI_1]
    · right
      rw [if_pos (nI_le (by omega) (by omega)), if_neg c2]; rfl
  · right
    have : i = lenM.getD s 0 := by omega
    rw [if_pos (nI_le (by omega) (by omega))]
    rw [e, this, Nat.sub_self]
    by_cases c2 : p < to
    · rw [if_pos c2]; rfl
    · rw [if_neg c2]; rfl
theorem ix_r : ∀ s, s < 7 → ∀ c, c < 256 → ixS s c = -1 ∨ ∃ j, j < lenM.getD s 0 ∧ ixS s c = nI j := by
  have h : ∀ s, s < 7 → ∀ c, c < 256 → ixS s c = -1 ∨ ∃ j, j < 12 ∧ (j < lenM.getD s 0 ∧ ixS s c = nI j) := by decide +kernel
  intro s hs c hc
  rcases h s hs c hc with q | ⟨j, -, q1, q2⟩
  · exact Or.inl q
  · exact Or.inr ⟨j, q1, q2⟩
theorem m_takesOf {k : Nat} {b : Nat → Nat} {signs tape : Nat → Int32} (hx : txB k b signs tape) {p to s : Nat} (ht : to ≤ k) (hp : p ≤ to) (hs : s < 7) : fX12_takesOf (nI p) (nI to) tape s = some (if p < to ∧ ¬ ixS s (b p) = -1 then (ixS s (b p), nI (p + 1)) else (-1, nI p)) := by
  have h1 := hx.1
  rw [fX12_takesOf, m_among hx ht hp hs, ob_s]
  by_cases c : p < to
  · rw [if_pos c]
    rcases ix_r s hs (b p) (hx.2.1 p) with q | ⟨j, hj, q⟩
    · rw [q, if_pos (by decide), if_neg (fun w => w.2 rfl), fX12_takesOf_b20]
      simp only [fX12_flag, if_true, fX12_flag_b9, ob_s]
      rw [show nI p + 0 = nI p from nI_add p 0]
    · obtain ⟨-, hl⟩ := len_I s hs
      have z : ¬ nI j = -1 := fun w => absurd (w ▸ nI_pos' (show j < 2 ^ 31 by omega)) (by decide)
      rw [q, if_neg (nI_pos (by omega)), if_pos ⟨c, z⟩, fX12_takesOf_b20]
      simp only [fX12_flag, if_neg (show ¬ (1 : Int32) = 0 by decide), fX12_flag_b9, ob_s, nI_1]
  · rw [if_neg c, if_pos (by decide), if_neg (fun w => c w.1), fX12_takesOf_b20]
    simp only [fX12_flag, if_true, fX12_flag_b9, ob_s]
    rw [show nI p + 0 = nI p from nI_add p 0]
/-! the stack -/
abbrev StK := (Nat → Int32) × Nat
def rkN (step : Int32 → StK → Option StK) (c : Nat → Int32) (L : Nat) : Nat → StK → Option StK
  | 0, s => some s
  | n + 1, s => (rkN step c L n s).bind (step (c (L + n)))
theorem rk_add (step : Int32 → StK → Option StK) (c : Nat → Int32) (L a : Nat) (s : StK) : ∀ n, rkN step c L (a + n) s = (rkN step c L a s).bind (rkN step c (L + a) n)
  | 0 => by
    show rkN step c L a s = _
    cases rkN step c L a s <;> rfl
  | n + 1 => by
    show (rkN step c L (a + n) s).bind (step (c (L + (a + n)))) = _
    rw [rk_add step c L a s n, ← Nat.add_assoc]
    cases rkN step c L a s <;> rfl
theorem rk_congr {step : Int32 → StK → Option StK} {c c' : Nat → Int32} {L : Nat} {s : StK} : ∀ {n : Nat}, (∀ i, i < n → c (L + i) = c' (L + i)) → rkN step c L n s = rkN step c' L n s
  | 0 => fun _ => rfl
  | n + 1 => fun h => by
    show (rkN step c L n s).bind (step (c (L + n))) = (rkN step c' L n s).bind (step (c' (L + n)))
    rw [rk_congr (fun i hi => h i (by omega)), h n (by omega)]
def Cmp (step : Int32 → StK → Option StK) (cap : Nat) (c : Nat → Int32) (L L' : Nat) (f : Int32) : Prop :=
  L ≤ L' ∧ ∀ (st : Nat → Int32) (t : Nat), t + (L' - L) ≤ cap → ∃ st', rkN step c L (L' - L) (st, t) = some (st', t + 1) ∧ (∀ j, j < t → st' j = st j) ∧ st' t = f
theorem cmp_congr {step : Int32 → StK → Option StK} {cap : Nat} {c c' : Nat → Int32} {L L' : Nat} {f : Int32} (h : Cmp step cap c L L' f) (e : ∀ i, L ≤ i → i < L' → c' i = c i) : Cmp step cap c' L L' f := by
  refine ⟨h.1, fun st t ht => ?_⟩
  obtain ⟨st', e1, e2⟩ := h.2 st t ht
  refine ⟨st', ?_, e2⟩
  rw [← e1]
  exact rk_congr (fun i hi => e (L + i) (by omega) (by have := h.1; omega))
theorem cmp_push {step : Int32 → StK → Option StK} {cap : Nat} {c : Nat → Int32} {L : Nat} {v : Int32} (h : ∀ st t, t < cap → step (c L) (st, t) = some (upd st t v, t + 1)) : Cmp step cap c L (L + 1) v := by
  refine ⟨by omega, fun st t ht => ⟨upd st t v, ?_, fun j hj => pk_un (by omega), pk_us⟩⟩
  rw [show L + 1 - L = 0 + 1 by omega]
  show (some (st, t)).bind (step (c (L + 0))) = _
  exact h st t (by omega)
theorem cmp_un {step : Int32 → StK → Option StK} {cap : Nat} {c : Nat → Int32} {L L' : Nat} {f : Int32} (hf : Cmp step cap c L L' f) (h : ∀ st t, step (c L') (st, t + 1) = some (upd st t (-(st t)), t + 1)) : Cmp step cap c L (L' + 1) (-f) := by
  refine ⟨by have := hf.1; omega, fun st t ht => ?_⟩
  obtain ⟨st', e1, e2, e3⟩ := hf.2 st t (by omega)
  refine ⟨upd st' t (-(st' t)), ?_, fun j hj => (pk_un (by omega)).trans (e2 j hj), by rw [pk_us, e3]⟩
  rw [show L' + 1 - L = (L' - L) + 1 by have := hf.1; omega]
  show (rkN step c L (L' - L) (st, t)).bind (step (c (L + (L' - L)))) = _
  rw [e1, show L + (L' - L) = L' by have := hf.1; omega]
  exact h st' t
theorem cmp_bin {step : Int32 → StK → Option StK} {cap : Nat} {c : Nat → Int32} {L L1 L2 : Nat} {f g r : Int32} (hf : Cmp step cap c L L1 f) (hg : Cmp step cap c L1 L2 g) (h : ∀ st t, st t = f → st (t + 1) = g → step (c L2) (st, t + 2) = some (upd st t r, t + 1)) : Cmp step cap c L (L2 + 1) r := by
  obtain ⟨a1, a2⟩ := hf
  obtain ⟨b1, b2⟩ := hg
  refine ⟨by omega, fun st t ht => ?_⟩
  obtain ⟨s1, e1, e2, e3⟩ := a2 st t (by omega)
  obtain ⟨s2, d1, d2, d3⟩ := b2 s1 (t + 1) (by omega)
  refine ⟨upd s2 t r, ?_, fun j hj => (pk_un (by omega)).trans ((d2 j (by omega)).trans (e2 j hj)), pk_us⟩
  rw [show L2 + 1 - L = (L1 - L) + ((L2 - L1) + 1) by omega, rk_add, e1]
  show (rkN step c (L + (L1 - L)) (L2 - L1) (s1, t + 1)).bind (step (c (L + (L1 - L) + (L2 - L1)))) = _
  rw [show L + (L1 - L) = L1 by omega, d1, show L1 + (L2 - L1) = L2 by omega]
  exact h s2 t ((d2 t (by omega)).trans e3) d3
/-! the class's step and the model's -/
def jnS (x a b : Int32) : Int32 := if x = -6 then (if a ≤ b then 0 else 1) else if x = -5 then (if b ≤ a then 0 else 1) else if x = -4 then (if b = 0 then 0 else a / b) else if x = -3 then a * b else if x = -2 then a - b else if x = -1 then a + b else (if a = b then 1 else 0)
def varS (x a b c d : Int32) : Int32 := if x = 1000 then a else if x = 1001 then b else if x = 1002 then c else if x = 1003 then d else x
theorem t_joined (x a b : Int32) : fX6_joined x a b = some (jnS x a b) := by
  unfold fX6_joined jnS fX6_joined_b96 fX6_joined_b63 fX6_joined_b74 fX6_joined_b85
  repeat' split
  all_goals first | rfl | (exfalso; simp_all)
theorem t_operand (x a b c d : Int32) : fX6_operand x a b c d = some (varS x a b c d) := by
  unfold fX6_operand varS
  repeat' split
  all_goals rfl
def cst (a b c d : Int32) (x : Int32) (s : StK) : Option StK :=
  if 0 ≤ x ∧ s.2 < 40 then some (upd s.1 s.2 (varS x a b c d), s.2 + 1)
  else if x = -8 ∧ 0 < s.2 then some (upd s.1 (s.2 - 1) (-(s.1 (s.2 - 1))), s.2)
  else if 1 < s.2 then some (upd s.1 (s.2 - 2) (jnS x (s.1 (s.2 - 2)) (s.1 (s.2 - 1))), s.2 - 1)
  else some s
def wkS (x a b : Int32) : Int32 := if x = 0 then (if b ≤ a then 0 else 1) else if x = 1 then (if a ≤ b then 0 else 1) else if x = 2 then (if a = b then 1 else 0) else if x = 3 then a + b else if x = 4 then a - b else if x = 5 then a * b else (if b = 0 then 0 else a / b)
theorem t_worked (x a b : Int32) : fX12_worked x a b = some (wkS x a b) := by
  unfold fX12_worked wkS fX12_worked_b50 fX12_worked_b64 fX12_worked_b78 fX12_worked_b105
  have f0 : fX12_flag 0 = some 0 := by simp [fX12_flag, fX12_flag_b9]
  have f1 : fX12_flag 1 = some 1 := by simp [fX12_flag, fX12_flag_b9]
  rw [f0, f1]
  repeat' split
  all_goals first | rfl | (exfalso; simp_all)
def mst (a b c d : Int32) (x : Int32) (s : StK) : Option StK :=
  if x = 3000 then (if 0 < s.2 ∧ s.2 ≤ 80 then some (upd s.1 (s.2 - 1) (-(s.1 (s.2 - 1))), s.2) else none)
  else if x < 2000 then (if 0 ≤ x ∧ s.2 < 80 ∧ x < 1004 then some (upd s.1 s.2 (varS x a b c d), s.2 + 1) else none)
  else (if 1 < s.2 ∧ s.2 ≤ 80 then some (upd s.1 (s.2 - 2) (wkS (x - 2000) (s.1 (s.2 - 2)) (s.1 (s.2 - 1))), s.2 - 1) else none)
theorem st_up {x : Int32} {t : Nat} (h : x = nI (t + 2)) : x + (-1) = nI (t + 1) := by rw [h]; exact pk_m1 (t + 1)
theorem t_value {L : Nat} (hL : L ≤ 40) (codes st : Nat → Int32) (a b c d : Int32) : ∃ st' t', rkN (cst a b c d) codes 0 L (st, 0) = some (st', t') ∧ fX6_value (nI L) codes st a b c d = some (jmax 0 (jmin 999 (st' 0)), st') := by
  unfold fX6_value fX6_value_b6
  refine lp_inv (s := (st, (0 : Int32), (0 : Int32))) (fun r => ∃ st' t', rkN (cst a b c d) codes 0 L (st, 0) = some (st', t') ∧ r = some (jmax 0 (jmin 999 (st' 0)), st')) (fun i (s : (Nat → Int32) × Int32 × Int32) => s.2.2 = nI i ∧ ∃ t, t ≤ i ∧ s.2.1 = nI t ∧ rkN (cst a b c d) codes 0 i (st, 0) = some (s.1, t)) L (by omega) ⟨rfl, 0, Nat.le_refl _, rfl, rfl⟩ ?_
  rintro i ⟨S, x5, x6⟩ K hi ⟨e6, t, ht, e5, hr⟩
  dsimp only at e6 e5 hr
  subst e6 e5
  show (i < L ∧ ∃ s', _ ∧ fX6_value_l6 (nI L) codes a b c d K S (nI t) (nI i) = K s') ∨ ∃ st' t', _ ∧ fX6_value_l6 (nI L) codes a b c d K S (nI t) (nI i) = _
  by_cases h : i < L
  · left
    refine ⟨h, ?_⟩
    have hs : rkN (cst a b c d) codes 0 (i + 1) (st, 0) = cst a b c d (codes i) (S, t) := by
      show (rkN (cst a b c d) codes 0 i (st, 0)).bind (cst a b c d (codes (0 + i))) = _
      rw [hr, Nat.zero_add]; rfl
    rw [fX6_value_l6, if_neg (nI_ge h (by omega)), if_pos (inb_n (show i < 40 by omega) (by omega)), nI_clamp (by omega)]
    have b93 : ¬ (0 ≤ codes i ∧ t < 40) → ¬ (codes i = -8 ∧ 0 < t) → ∃ s', (s'.2.2 = nI (i + 1) ∧ ∃ t_1, t_1 ≤ i + 1 ∧ s'.2.1 = nI t_1 ∧ rkN (cst a b c d) codes 0 (i + 1) (st, 0) = some (s'.1, t_1)) ∧ fX6_value_b93 (nI L) codes S a b c d (nI t) (nI i) (codes i) K = K s' := by
      intro n1 n2
      by_cases h3 : 1 < t
      · obtain ⟨u, rfl⟩ : ∃ u, t = u + 2 := ⟨t - 2, by omega⟩
        have z : ¬ nI (u + 2) ≤ 1 := nI_ge (a := 1) (by omega) (by omega)
        have e1 : nI (u + 2) + (-1) = nI (u + 1) := pk_m1 (u + 1)
        have e2 : nI (u + 1) - 1 = nI u := nI_pred u
        refine ⟨(upd S u (jnS (codes i) (S u) (S (u + 1))), nI (u + 1), nI (i + 1)), ⟨rfl, u + 1, by omega, rfl, ?_⟩, ?_⟩
        · rw [hs, cst, if_neg n1, if_neg n2, if_pos h3]; rfl
        · rw [fX6_value_b93, if_neg z, e1, e2, if_pos (inb_n (show u < 40 by omega) (by omega)), if_pos (inb_n (show u + 1 < 40 by omega) (by omega)), nI_clamp (by omega), nI_clamp (by omega), t_joined, ob_s, fX6_value_b132, nI_1]
      · have z : nI t ≤ 1 := nI_le (b := 1) (by omega) (by omega)
        refine ⟨(S, nI t, nI (i + 1)), ⟨rfl, t, by omega, rfl, ?_⟩, ?_⟩
        · rw [hs, cst, if_neg n1, if_neg n2, if_neg h3]
        · rw [fX6_value_b93, if_pos z, fX6_value_b132, nI_1]
    have b59 : ¬ (0 ≤ codes i ∧ t < 40) → ∃ s', (s'.2.2 = nI (i + 1) ∧ ∃ t_1, t_1 ≤ i + 1 ∧ s'.2.1 = nI t_1 ∧ rkN (cst a b c d) codes 0 (i + 1) (st, 0) = some (s'.1, t_1)) ∧ fX6_value_b59 (nI L) codes S a b c d (nI t) (nI i) (codes i) K = K s' := by
      intro n1
      rw [fX6_value_b59]
      by_cases h8 : codes i = -8
      · rw [if_pos h8]
        by_cases h0 : 0 < t
        · obtain ⟨u, rfl⟩ : ∃ u, t = u + 1 := ⟨t - 1, by omega⟩
          have e2 : nI (u + 1) - 1 = nI u := nI_pred u
          refine ⟨(upd S u (-(S u)), nI (u + 1), nI (i + 1)), ⟨rfl, u + 1, by omega, rfl, ?_⟩, ?_⟩
          · rw [hs, cst, if_neg n1, if_pos ⟨h8, h0⟩]; rfl
          · rw [if_neg (nI_nle (by omega) (by omega)), e2, if_pos (inb_n (show u < 40 by omega) (by omega)), nI_clamp (by omega), fX6_value_b132, nI_1]
        · rw [if_pos (show nI t ≤ 0 from nI_le (b := 0) (by omega) (by omega))]
          exact b93 n1 (fun w => h0 w.2)
      · rw [if_neg h8]
        exact b93 n1 (fun w => h8 w.1)
    by_cases h0 : codes i < 0
    · rw [if_pos h0]
      exact b59 (fun w => absurd h0 (Int32.not_lt.mpr w.1))
    · rw [if_neg h0]
      have h0' : 0 ≤ codes i := Int32.not_lt.mp h0
      have h40 : ¬ (40 : Int32) ≤ nI t := nI_ge (b := 40) (by omega) (by omega)
      rw [if_neg h40, t_operand, ob_s, if_pos (inb_n (show t < 40 by omega) (by omega)), nI_clamp (by omega), fX6_value_b132, nI_1, nI_1]
      refine ⟨_, ⟨rfl, t + 1, by omega, rfl, ?_⟩, rfl⟩
      rw [hs, cst, if_pos ⟨h0', by show t < 40; omega⟩]
  · right
    have : i = L := by omega
    subst this
    refine ⟨S, t, hr, ?_⟩
    rw [fX6_value_l6, if_pos (Int32.le_refl _), fX6_value_b138, if_pos (show inb 0 40 by decide)]
    rw [fX11_clamp, ob_s]
    rfl
theorem rk_pre {step : Int32 → StK → Option StK} {c : Nat → Int32} {L : Nat} {s s' : StK} {a : Nat} : ∀ {n : Nat}, a ≤ n → rkN step c L n s = some s' → ∃ s1, rkN step c L a s = some s1 := by
  intro n h e
  obtain ⟨m, rfl⟩ : ∃ m, n = a + m := ⟨n - a, by omega⟩
  rw [rk_add] at e
  cases q : rkN step c L a s with
  | none => rw [q] at e; exact absurd e (by simp)
  | some s1 => exact ⟨s1, rfl⟩
theorem t_ruled {L : Nat} (h1 : 1 ≤ L) (hL : L ≤ 80) {codes st st' as : Nat → Int32} {t' : Nat} (hr : rkN (mst (as 0) (as 1) (as 2) (as 3)) codes 0 L (st, 0) = some (st', t')) : fX12_ruled (nI L) codes st as = some (st' 0, st') := by
  unfold fX12_ruled fX12_ruled_b4
  refine lp_inv (s := (st, (0 : Int32), (0 : Int32))) (fun r => r = some (st' 0, st')) (fun i (s : (Nat → Int32) × Int32 × Int32) => s.2.2 = nI i ∧ ∃ t, t ≤ i ∧ s.2.1 = nI t ∧ rkN (mst (as 0) (as 1) (as 2) (as 3)) codes 0 i (st, 0) = some (s.1, t)) L (by omega) ⟨rfl, 0, Nat.le_refl _, rfl, rfl⟩ ?_
  rintro i ⟨S, x5, x6⟩ K hi ⟨e6, t, ht, e5, hq⟩
  dsimp only at e6 e5 hq
  subst e6 e5
  show (i < L ∧ ∃ s', _ ∧ fX12_ruled_l4 (nI L) codes as K S (nI t) (nI i) = K s') ∨ fX12_ruled_l4 (nI L) codes as K S (nI t) (nI i) = _
  by_cases h : i < L
  · left
    refine ⟨h, ?_⟩
    have hs : rkN (mst (as 0) (as 1) (as 2) (as 3)) codes 0 (i + 1) (st, 0) = mst (as 0) (as 1) (as 2) (as 3) (codes i) (S, t) := by
      show (rkN (mst (as 0) (as 1) (as 2) (as 3)) codes 0 i (st, 0)).bind (mst (as 0) (as 1) (as 2) (as 3) (codes (0 + i))) = _
      rw [hq, Nat.zero_add]; rfl
    obtain ⟨⟨S1, t1⟩, e1⟩ := rk_pre (show i + 1 ≤ L by omega) hr
    have e1' := e1
    rw [hs] at e1
    rw [fX12_ruled_l4, if_neg (nI_ge h (by omega)), if_pos (inb_n (show i < 80 by omega) (by omega)), nI_clamp (by omega)]
    unfold mst at e1
    dsimp only at e1
    by_cases h3 : codes i = 3000
    · rw [if_pos h3] at e1 ⊢
      by_cases h0 : 0 < t ∧ t ≤ 80
      · rw [if_pos h0] at e1
        obtain ⟨u, rfl⟩ : ∃ u, t = u + 1 := ⟨t - 1, by omega⟩
        have e2 : nI (u + 1) - 1 = nI u := nI_pred u
        simp only [Option.some.injEq, Prod.mk.injEq] at e1
        refine ⟨(S1, nI t1, nI (i + 1)), ⟨rfl, t1, by omega, rfl, e1'⟩, ?_⟩
        rw [e2, if_pos (inb_n (show u < 80 by omega) (by omega)), nI_clamp (by omega), fX12_ruled_b119, nI_1, ← e1.1, ← e1.2]
        rfl
      · rw [if_neg h0] at e1; exact absurd e1 (by simp)
    · rw [if_neg h3] at e1 ⊢
      by_cases h2 : codes i < 2000
      · rw [if_pos h2] at e1 ⊢
        by_cases h0 : 0 ≤ codes i ∧ t < 80 ∧ codes i < 1004
        · rw [if_pos h0] at e1
          simp only [Option.some.injEq, Prod.mk.injEq] at e1
          refine ⟨(S1, nI t1, nI (i + 1)), ⟨rfl, t1, by omega, rfl, e1'⟩, ?_⟩
          have b115 : ∀ v, v = varS (codes i) (as 0) (as 1) (as 2) (as 3) → fX12_ruled_b115 (nI L) codes S as (nI t) (nI i) (nI t) v K = K (S1, nI t1, nI (i + 1)) := by
            intro v hv
            rw [fX12_ruled_b115, if_pos (inb_n (show t < 80 by omega) (by omega)), nI_clamp (by omega), fX12_ruled_b119, nI_1, nI_1, ← e1.1, ← e1.2, hv]
          by_cases h10 : codes i < 1000
          · rw [if_pos h10]
            apply b115
            have : ∀ n : Int32, ¬ n < 1000 → ¬ codes i = n := fun n hn w => hn (w ▸ h10)
            rw [varS, if_neg (this 1000 (by decide)), if_neg (this 1001 (by decide)), if_neg (this 1002 (by decide)), if_neg (this 1003 (by decide))]
          · rw [if_neg h10]
            obtain ⟨j, hj1, hj2, ej⟩ := rng_n (x := codes i) (a := 1000) (b := 1003) (by omega) (by omega) ⟨Int32.not_lt.mp h10, by
              have := h0.2.2
              revert this
              generalize codes i = x
              intro this
              show x ≤ 1003
              grind⟩
            have ej2 : codes i - 1000 = nI (j - 1000) := by rw [ej]; exact pk_sub (b := 1000) hj1
            rw [ej2, if_pos (inb_n (show j - 1000 < 4 by omega) (by omega)), nI_clamp (by omega)]
            apply b115
            rw [ej]
            rcases (show j = 1000 ∨ j = 1001 ∨ j = 1002 ∨ j = 1003 by omega) with rfl | rfl | rfl | rfl <;> rfl
        · rw [if_neg h0] at e1; exact absurd e1 (by simp)
      · rw [if_neg h2] at e1 ⊢
        by_cases h0 : 1 < t ∧ t ≤ 80
        · rw [if_pos h0] at e1
          obtain ⟨u, rfl⟩ : ∃ u, t = u + 2 := ⟨t - 2, by omega⟩
          have e2 : nI (u + 2) + (-1) = nI (u + 1) := pk_m1 (u + 1)
          have e3 : nI (u + 1) - 1 = nI u := nI_pred u
          simp only [Option.some.injEq, Prod.mk.injEq] at e1
          refine ⟨(S1, nI t1, nI (i + 1)), ⟨rfl, t1, by omega, rfl, e1'⟩, ?_⟩
          rw [e2, e3, if_pos (inb_n (show u < 80 by omega) (by omega)), if_pos (inb_n (show u + 1 < 80 by omega) (by omega)), nI_clamp (by omega), nI_clamp (by omega), t_worked, ob_s, fX12_ruled_b119, nI_1, ← e1.1, ← e1.2]
          rfl
        · rw [if_neg h0] at e1; exact absurd e1 (by simp)
  · right
    have : i = L := by omega
    subst this
    rw [hq] at hr
    simp only [Option.some.injEq, Prod.mk.injEq] at hr
    rw [fX12_ruled_l4, if_pos (Int32.le_refl _), fX12_ruled_b125, if_neg (nI_ne0 (by omega) (by omega)), if_pos (show inb 0 80 by decide), ← hr.1]
    rfl
theorem laC_of {F : Int32 → Int32 → Int32 → Int32 → Int32} {L : Nat} (hL : L ≤ 40) {codes : Nat → Int32} (h : ∀ a b c d, Cmp (cst a b c d) 40 codes 0 L (F a b c d)) : laC F (nI L) codes := by
  intro st a b c d
  obtain ⟨st', t', e1, e2⟩ := t_value hL codes st a b c d
  obtain ⟨s2, d1, d2, d3⟩ := (h a b c d).2 st 0 (by omega)
  rw [Nat.sub_zero, e1] at d1
  simp only [Option.some.injEq, Prod.mk.injEq] at d1
  refine ⟨st', ?_⟩
  rw [e2, d1.1, d3]
theorem laM_of {F : Int32 → Int32 → Int32 → Int32 → Int32} {L : Nat} (h1 : 1 ≤ L) (hL : L ≤ 80) {codes : Nat → Int32} (h : ∀ a b c d, Cmp (mst a b c d) 80 codes 0 L (F a b c d)) : laM F (nI L) codes := by
  intro st as
  obtain ⟨s2, d1, d2, d3⟩ := (h (as 0) (as 1) (as 2) (as 3)).2 st 0 (by omega)
  rw [Nat.sub_zero] at d1
  exact ⟨s2, by rw [t_ruled h1 hL d1, d3]⟩
def plF (a b c d : Int32) : Int32 := 30 + 10 * b + 5 * a
theorem laM_0 (code : Nat → Int32) : laM plF 0 code := by
  intro st as
  refine ⟨st, ?_⟩
  unfold fX12_ruled fX12_ruled_b4
  refine lp_up (fun _ => (st, (0 : Int32), (0 : Int32))) 0 (by omega) rfl (fun i hi => absurd hi (by omega)) ?_
  intro K
  show fX12_ruled_l4 0 code as K st 0 0 = _
  rw [fX12_ruled_l4, if_pos (Int32.le_refl _), fX12_ruled_b125, if_pos rfl, if_pos (show inb 1 4 by decide), if_pos (show inb 0 4 by decide)]
  rfl
/-- the plain law's codes -/
theorem laC_pl {codes : Nat → Int32} (h : ∀ i, i < 9 → codes i = plainF i) : laC plF 9 codes := by
  have pu : ∀ (a b c d : Int32) (L : Nat) (v : Int32), 0 ≤ codes L → varS (codes L) a b c d = v → Cmp (cst a b c d) 40 codes L (L + 1) v := by
    intro a b c d L v h0 hv
    apply cmp_push
    intro st t ht
    rw [cst, if_pos ⟨h0, ht⟩, hv]
  have bi : ∀ (a b c d : Int32) (L L1 L2 : Nat) (f g : Int32), codes L2 < 0 → ¬ codes L2 = -8 → Cmp (cst a b c d) 40 codes L L1 f → Cmp (cst a b c d) 40 codes L1 L2 g → Cmp (cst a b c d) 40 codes L (L2 + 1) (jnS (codes L2) f g) := by
    intro a b c d L L1 L2 f g h0 h8 hf hg
    refine cmp_bin hf hg ?_
    intro st t e1 e2
    rw [cst, if_neg (fun w => absurd h0 (Int32.not_lt.mpr w.1)), if_neg (fun w => h8 w.1), if_pos (show 1 < t + 2 by omega)]
    show some (upd st t (jnS (codes L2) (st t) (st (t + 1))), t + 1) = _
    rw [e1, e2]
  refine laC_of (L := 9) (by omega) ?_
  intro a b c d
  have e0 := h 0 (by omega); have e1 := h 1 (by omega); have e2 := h 2 (by omega); have e3 := h 3 (by omega); have e4 := h 4 (by omega); have e5 := h 5 (by omega); have e6 := h 6 (by omega); have e7 := h 7 (by omega); have e8 := h 8 (by omega)
  have p0 := pu a b c d 0 30 (by rw [e0]; decide) (by rw [e0]; rfl)
  have p1 := pu a b c d 1 b (by rw [e1]; decide) (by rw [e1]; rfl)
  have p2 := pu a b c d 2 10 (by rw [e2]; decide) (by rw [e2]; rfl)
  have p5 := pu a b c d 5 a (by rw [e5]; decide) (by rw [e5]; rfl)
  have p6 := pu a b c d 6 5 (by rw [e6]; decide) (by rw [e6]; rfl)
  have q3 := bi a b c d 1 2 3 b 10 (by rw [e3]; decide) (by rw [e3]; decide) p1 p2
  have q4 := bi a b c d 0 1 4 30 _ (by rw [e4]; decide) (by rw [e4]; decide) p0 q3
  have q7 := bi a b c d 5 6 7 a 5 (by rw [e7]; decide) (by rw [e7]; decide) p5 p6
  have q8 := bi a b c d 0 5 8 _ _ (by rw [e8]; decide) (by rw [e8]; decide) q4 q7
  rw [e3, e4, e7, e8] at q8
  have : jnS (plainF 8) (jnS (plainF 4) 30 (jnS (plainF 3) b 10)) (jnS (plainF 7) a 5) = plF a b c d := by
    show 30 + b * 10 + a * 5 = 30 + 10 * b + 5 * a
    rw [Int32.mul_comm b, Int32.mul_comm a]
  rw [this] at q8
  exact q8
