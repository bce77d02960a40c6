/-! ===== a rule is read ===== -/
abbrev RdT := Option (Int32 × Int32 × Int32 × Int32 × (Nat → Int32))
def Out (b : Nat → Nat) (to p L M z : Nat) (neg : Bool) (codes rc : Nat → Int32) (r1 r2 : RdT) : Prop :=
  (∃ (p' L' M' : Nat) (c' rc' : Nat → Int32) (F : Int32 → Int32 → Int32 → Int32 → Int32), p < p' ∧ p' ≤ to ∧ L' + p ≤ L + p' + (if neg = true then 1 else 0) ∧ M' + p ≤ M + p' ∧ (∀ i, i < L → c' i = codes i) ∧ (∀ i, i < M → rc' i = rc i) ∧
    (∀ x y u v, Cmp (cst x y u v) 40 c' L L' (if neg = true then -(F x y u v) else F x y u v) ∧ Cmp (mst x y u v) 80 rc' M M' (F x y u v)) ∧
    r1 = some (nI L', nI p', sg b to p', -1, c') ∧ r2 = some (1, nI p', nI z, nI M', rc')) ∨
  (∃ (q L' M' : Nat) (at' ne' : Int32) (c' rc' : Nat → Int32), p ≤ q ∧ q ≤ to ∧ L' ≤ 40 ∧ M' + p ≤ M + q ∧ r1 = some (nI L', at', -1, nI q, c') ∧ r2 = some (0, nI q, ne', nI M', rc'))
def SubH (k : Nat) (b : Nat → Nat) (to z : Nat) (signs tape : Nat → Int32) (A : Int32 → Int32 → Int32 → Int32 → (Nat → Int32) → Int32 → (Nat → Int32) → Int32 → RdT) (B : Nat → Int32 → Int32 → Int32 → Int32 → (Nat → Int32) → (Nat → Int32) → RdT) (nd : Nat) : Prop :=
  ∀ p L M codes rc d, p ≤ to → L ≤ p → M ≤ p → 1 + 5 * (4 - z) + (to - p) + nd ≤ d → Out b to p L M z false codes rc (A (nI L) (nI p) (sg b to p) (-1) codes (nI k) signs (nI z)) (B d (nI p) (nI to) (nI z) (nI M) tape rc)
theorem t_step {k : Nat} {b : Nat → Nat} {signs tape : Nat → Int32} (hx : txB k b signs tape) {to : Nat} (ht : to = min k 40) {p : Nat} (hp : p < 900) (s : Int32) : fX6_step (nI p) s (nI k) signs = some (nI (p + 1), sg b to (p + 1)) := by
  rw [fX6_step, nI_1, show (40 : Int32) = nI 40 from rfl, t_signAt hx (p + 1) 40 (by omega) (by omega), ob_s, ← ht]
theorem t_put {L : Nat} (hL : L < 40) (codes : Nat → Int32) (x : Int32) : fX6_put (nI L) codes x = some (nI (L + 1), upd codes L x) := by
  rw [fX6_put, if_neg (show ¬ (40 : Int32) ≤ nI L from nI_ge (b := 40) hL (by omega)), if_pos (inb_n hL (by omega)), nI_clamp (by omega), nI_1]; rfl
theorem t_put' {L : Nat} (hL : L ≤ 40) (codes : Nat → Int32) (x : Int32) : ∃ L' c', L' ≤ 40 ∧ fX6_put (nI L) codes x = some (nI L', c') := by
  by_cases h : L < 40
  · exact ⟨L + 1, _, by omega, t_put h codes x⟩
  · refine ⟨L, codes, hL, ?_⟩
    rw [fX6_put, if_pos (show (40 : Int32) ≤ nI L from nI_le (a := 40) (by omega) (by omega))]; rfl
theorem t_codes {M : Nat} (hM : M < 80) (rc : Nat → Int32) (x : Int32) : fX12_codes (nI M) rc x = some (nI (M + 1), upd rc M x) := by
  rw [fX12_codes, if_pos (inb_n hM (by omega)), nI_clamp (by omega), nI_1]
theorem n_ne1 {q : Nat} (h : q < 2 ^ 31) : ¬ nI q = -1 := fun w => absurd (w ▸ nI_pos' h) (by decide)
theorem f_fail0 (a s : Int32) : fX6_fail a s (-1) = some (-1, a) := by rw [fX6_fail, if_pos rfl]; rfl
theorem f_failq {q : Nat} (h : q < 2 ^ 31) (a s : Int32) : fX6_fail a s (nI q) = some (-1, nI q) := by rw [fX6_fail, if_neg (n_ne1 h)]; rfl
theorem c_pu {c : Nat → Int32} {L : Nat} {x y u v : Int32} (h0 : 0 ≤ c L) : Cmp (cst x y u v) 40 c L (L + 1) (varS (c L) x y u v) := by
  apply cmp_push
  intro st t ht
  rw [cst, if_pos ⟨h0, ht⟩]
theorem m_pu {c : Nat → Int32} {L : Nat} {x y u v : Int32} (h0 : 0 ≤ c L) (h1 : c L < 1004) : Cmp (mst x y u v) 80 c L (L + 1) (varS (c L) x y u v) := by
  apply cmp_push
  intro st t ht
  have z : ¬ c L = 3000 := fun w => absurd (w ▸ h1) (by decide)
  have z2 : c L < 2000 := Int32.lt_of_lt_of_le h1 (by decide)
  rw [mst, if_neg z, if_pos z2, if_pos ⟨h0, ht, h1⟩]
theorem c_ng {c : Nat → Int32} {L L' : Nat} {x y u v f : Int32} (h : c L' = -8) (hf : Cmp (cst x y u v) 40 c L L' f) : Cmp (cst x y u v) 40 c L (L' + 1) (-f) := by
  refine cmp_un hf ?_
  intro st t
  rw [cst, h, if_neg (fun w => absurd w.1 (by decide)), if_pos ⟨rfl, show 0 < t + 1 by omega⟩]; rfl
/-- the model's room is 80, and a stack of its never has more than its codes -/
theorem m_ng {c : Nat → Int32} {L L' : Nat} {x y u v f : Int32} (h : c L' = 3000) (hf : Cmp (mst x y u v) 80 c L L' f) (hL : L < L') : Cmp (mst x y u v) 80 c L (L' + 1) (-f) := by
  refine ⟨by omega, fun st t ht => ?_⟩
  obtain ⟨st', e1, e2, e3⟩ := hf.2 st t (by omega)
  refine ⟨upd st' t (-(st' t)), ?_, fun j hj => (pk_un (by omega)).trans (e2 j hj), by rw [pk_us, e3]⟩
  rw [show L' + 1 - L = (L' - L) + 1 by omega]
  show (rkN _ c L (L' - L) (st, t)).bind (mst x y u v (c (L + (L' - L)))) = _
  rw [e1, show L + (L' - L) = L' by omega, h]
  show mst x y u v 3000 (st', t + 1) = _
  rw [mst, if_pos rfl, if_pos ⟨show 0 < t + 1 by omega, show t + 1 ≤ 80 by omega⟩]; rfl
theorem m_bi {c : Nat → Int32} {L L1 L2 : Nat} {x y u v f g w : Int32} (h : c L2 = 2000 + w) (hw : 0 ≤ w ∧ w ≤ 6) (hf : Cmp (mst x y u v) 80 c L L1 f) (hg : Cmp (mst x y u v) 80 c L1 L2 g) (h1 : L < L1) (h2 : L1 < L2) : Cmp (mst x y u v) 80 c L (L2 + 1) (wkS w f g) := by
  obtain ⟨a1, a2⟩ := hf
  obtain ⟨b1, b2⟩ := hg
  refine ⟨by omega, fun st t ht => ?_⟩
  obtain ⟨s1, e1, e2, e3⟩ := a2 st t (by omega)
  obtain ⟨s2, d1, d2, d3⟩ := b2 s1 (t + 1) (by omega)
  refine ⟨upd s2 t (wkS w f g), ?_, fun j hj => (pk_un (by omega)).trans ((d2 j (by omega)).trans (e2 j hj)), pk_us⟩
  rw [show L2 + 1 - L = (L1 - L) + ((L2 - L1) + 1) by omega, rk_add, e1]
  show (rkN _ c (L + (L1 - L)) (L2 - L1) (s1, t + 1)).bind (mst x y u v (c (L + (L1 - L) + (L2 - L1)))) = _
  rw [show L + (L1 - L) = L1 by omega, d1, show L1 + (L2 - L1) = L2 by omega, h]
  show mst x y u v (2000 + w) (s2, t + 2) = _
  have z1 : ¬ 2000 + w = 3000 := by grind
  have z2 : ¬ 2000 + w < 2000 := by grind
  have z3 : 2000 + w - 2000 = w := by grind
  rw [mst, if_neg z1, if_neg z2, if_pos ⟨show 1 < t + 2 by omega, show t + 2 ≤ 80 by omega⟩, z3]
  show some (upd s2 t (wkS w (s2 t) (s2 (t + 1))), t + 1) = _
  rw [d3, d2 t (by omega), e3]
theorem c_bi {c : Nat → Int32} {L L1 L2 : Nat} {x y u v f g : Int32} (h0 : c L2 < 0) (h8 : ¬ c L2 = -8) (hf : Cmp (cst x y u v) 40 c L L1 f) (hg : Cmp (cst x y u v) 40 c L1 L2 g) : Cmp (cst x y u v) 40 c L (L2 + 1) (jnS (c L2) f g) := by
  refine cmp_bin hf hg ?_
  intro st t e1 e2
  rw [cst, if_neg (fun w => absurd h0 (Int32.not_lt.mpr w.1)), if_neg (fun w => h8 w.1), if_pos (show 1 < t + 2 by omega)]
  show some (upd st t (jnS (c L2) (st t) (st (t + 1))), t + 1) = _
  rw [e1, e2]
theorem cmp_lt {x y u v : Int32} {c : Nat → Int32} {L L' : Nat} {f : Int32} (h : Cmp (mst x y u v) 80 c L L' f) : L < L' := by
  rcases Nat.lt_or_ge L L' with q | q
  · exact q
  · exfalso
    obtain ⟨st', e, -⟩ := h.2 (fun _ => 0) 0 (by omega)
    rw [show L' - L = 0 by omega] at e
    simp [rkN] at e
/-! the end of a thing: its sign -/
theorem e_ok (rec : Int32 → Int32 → Int32 → Int32 → (Nat → Int32) → Int32 → (Nat → Int32) → Int32 → RdT) {L L1 : Nat} (neg : Bool) (hL : L1 + (if neg = true then 1 else 0) ≤ 40) (a s bd kk : Int32) (c1 sn : Nat → Int32) (F : Int32 → Int32 → Int32 → Int32 → Int32) (hF : ∀ x y u v, Cmp (cst x y u v) 40 c1 L L1 (F x y u v)) : ∃ c', (∀ i, i < L1 → c' i = c1 i) ∧ (∀ x y u v, Cmp (cst x y u v) 40 c' L (L1 + (if neg = true then 1 else 0)) (if neg = true then -(F x y u v) else F x y u v)) ∧ fX6_readThing_b146 rec (nI L1) a s bd c1 kk sn (b2i neg) = some (nI (L1 + (if neg = true then 1 else 0)), a, s, bd, c') := by
  cases neg with
  | false =>
    refine ⟨c1, fun _ _ => rfl, ?_, ?_⟩
    · intro x y u v
      exact hF x y u v
    · rw [fX6_readThing_b146, if_pos (show b2i false = 0 from rfl)]; rfl
  | true =>
    refine ⟨upd c1 L1 (-8), fun i hi => pk_un (by omega), ?_, ?_⟩
    · intro x y u v
      exact c_ng pk_us (cmp_congr (hF x y u v) (fun i _ hi => pk_un (by omega)))
    · rw [fX6_readThing_b146, if_neg (show ¬ b2i true = 0 by decide), t_put (by simp at hL; omega), ob_s]; rfl
theorem e_no (rec : Int32 → Int32 → Int32 → Int32 → (Nat → Int32) → Int32 → (Nat → Int32) → Int32 → RdT) {L1 : Nat} (hL : L1 ≤ 40) (a s bd kk : Int32) (c1 sn : Nat → Int32) (neg : Bool) : ∃ L' c', L' ≤ 40 ∧ fX6_readThing_b146 rec (nI L1) a s bd c1 kk sn (b2i neg) = some (nI L', a, s, bd, c') := by
  cases neg with
  | false => exact ⟨L1, c1, hL, by rw [fX6_readThing_b146, if_pos (show b2i false = 0 from rfl)]; rfl⟩
  | true =>
    obtain ⟨L', c', h1, h2⟩ := t_put' hL c1 (-8)
    exact ⟨L', c', h1, by rw [fX6_readThing_b146, if_neg (show ¬ b2i true = 0 by decide), h2, ob_s]; rfl⟩
/-! a number -/
theorem c_num {k : Nat} {b : Nat → Nat} {signs tape : Nat → Int32} (hx : txB k b signs tape) {to : Nat} (ht : to = min k 40) (codes : Nat → Int32) {L : Nat} (hL : L < 40) : ∀ r i p v f, i + r = 3 → p ≤ to → r < f → v < 10 ^ i → loopN (fun (s : Int32 × Int32 × Int32 × Int32) k4 => fX6_readNumber_l4 (nI L) codes (nI k) signs k4 s.1 s.2.1 s.2.2.1 s.2.2.2) f (nI p, sg b to p, nI v, nI i) = some (nI (L + 1), nI (nmS b to r p v).2, sg b to (nmS b to r p v).2, upd codes L (nI (nmS b to r p v).1)) := by
  have h1 := hx.1
  intro r
  induction r with
  | zero =>
    intro i p v f hi hp hf hv
    obtain ⟨f, rfl⟩ : ∃ g, f = g + 1 := ⟨f - 1, by omega⟩
    show fX6_readNumber_l4 (nI L) codes (nI k) signs _ (nI p) (sg b to p) (nI v) (nI i) = _
    rw [fX6_readNumber_l4, if_pos (show (3 : Int32) ≤ nI i from nI_le (a := 3) (by omega) (by omega)), fX6_readNumber_b43, t_put hL, ob_s]; rfl
  | succ r ih =>
    intro i p v f hi hp hf hv
    obtain ⟨f, rfl⟩ : ∃ g, f = g + 1 := ⟨f - 1, by omega⟩
    show fX6_readNumber_l4 (nI L) codes (nI k) signs (loopN (fun (s : Int32 × Int32 × Int32 × Int32) k4 => fX6_readNumber_l4 (nI L) codes (nI k) signs k4 s.1 s.2.1 s.2.2.1 s.2.2.2) f) (nI p) (sg b to p) (nI v) (nI i) = _
    rw [fX6_readNumber_l4, if_neg (show ¬ (3 : Int32) ≤ nI i from nI_ge (b := 3) (by omega) (by omega)), sg_dg hx.2.1, ob_s]
    unfold nmS
    by_cases c : p < to ∧ dg (b p) = true
    · rw [if_pos c, if_neg (by simp [c.1, c.2, b2i]), t_step hx ht (by omega), ob_s]
      have r := dg_r c.2
      have e : (10 : Int32) * nI v + sg b to p - 48 = nI (10 * v + (b p - 48)) := by
        unfold sg
        rw [if_pos c.1, show (10 : Int32) * nI v = nI (10 * v) from pk_mul 10 v, nI_add, show (48 : Int32) = nI 48 from rfl, pk_sub (by omega)]
        congr 1; omega
      rw [e, nI_1]
      exact ih (i + 1) (p + 1) _ f (by omega) (by omega) (by omega) (by rw [Nat.pow_succ]; omega)
    · have z : b2i (decide (p < to) && dg (b p)) = 0 := by
        by_cases h : p < to
        · simp [show dg (b p) = false by simpa [h] using c, b2i]
        · simp [h, b2i]
      rw [if_neg c, if_pos z, fX6_readNumber_b43, t_put hL, ob_s]
theorem var_ix : ∀ c, c < 256 → fX6_variable (nI c) = some (if ixS 0 c = -1 then -9 else 1000 + ixS 0 c) := by decide +kernel
theorem var_m1 : fX6_variable (-1) = some (-9) := by decide
