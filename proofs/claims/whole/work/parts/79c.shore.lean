/-! ===== shore ===== -/
theorem sc_end (k : Nat) (signs : Nat → Int32) (cells : Int32) (base dyke nb nd : Nat → Int32) (K : _ → Option _) (x2 x3 : Int32) : fX5_read_l7 cells base dyke (nI k) signs K nb nd x2 x3 (nI k) = fX5_read_b127 cells base dyke nb nd (nI k) signs x2 x3 := by
  rw [fX5_read_l7, if_pos (Int32.le_refl _)]
theorem sc_bar {k : Nat} {b : Nat → Nat} {signs tape : Nat → Int32} (hx : txB k b signs tape) {p n : Nat} (hp : p < k) (hn : n < 12) (hb : b p = 124) (cells : Int32) (base dyke nb nd : Nat → Int32) (K : _ → Option _) : fX5_read_l7 cells base dyke (nI k) signs K nb nd 1 (nI n) (nI p) = K (nb, nd, 2, nI n, nI (p + 1)) := by
  obtain ⟨h1, h2, h3⟩ := hx
  rw [fX5_read_l7, if_neg (nI_ge hp (by omega)), if_pos (inb_n (show p < 80 by omega) (by omega)), if_pos rfl, nI_clamp (by omega), (h3 p hp).1, hb, if_pos (show nI 124 = 124 from rfl), if_neg (show ¬ (12 : Int32) ≤ nI n from nI_ge (b := 12) hn (by omega)), fX5_read_b121, nI_1]
/-- a sign that is no bar where one may stand goes the way of b48 -/
theorem sc_48 {k : Nat} {b : Nat → Nat} {signs tape : Nat → Int32} (hx : txB k b signs tape) {p n : Nat} (hp : p < k) {x2 : Int32} (hb : ¬ (x2 = 1 ∧ b p = 124 ∧ n < 12)) (hn : n ≤ 12) (cells : Int32) (base dyke nb nd : Nat → Int32) (K : _ → Option _) : fX5_read_l7 cells base dyke (nI k) signs K nb nd x2 (nI n) (nI p) = fX5_read_b48 cells base dyke nb nd (nI k) signs x2 (nI n) (nI p) (nI (b p)) K := by
  obtain ⟨h1, h2, h3⟩ := hx
  rw [fX5_read_l7, if_neg (nI_ge hp (by omega)), if_pos (inb_n (show p < 80 by omega) (by omega)), nI_clamp (by omega), (h3 p hp).1]
  by_cases e1 : x2 = 1
  · rw [if_pos e1]
    by_cases e2 : nI (b p) = 124
    · have e3 : b p = 124 := (nI_eq (b := 124) (by have := h2 p; omega) (by omega)).mp e2
      have e4 : n = 12 := by
        have : ¬ n < 12 := fun q => hb ⟨e1, e3, q⟩
        omega
      subst e4
      rw [if_pos e2, if_pos (show (12 : Int32) ≤ nI 12 by decide)]
    · rw [if_neg e2]
  · rw [if_neg e1]
theorem sc_bad {k : Nat} {b : Nat → Nat} {signs tape : Nat → Int32} (hx : txB k b signs tape) {p n : Nat} (hp : p < k) {x2 : Int32} (hb : ¬ (x2 = 1 ∧ b p = 124 ∧ n < 12)) (hn : n ≤ 12) (hd : ¬ dg (b p) = true) (cells : Int32) (base dyke nb nd : Nat → Int32) (K : _ → Option _) : fX5_read_l7 cells base dyke (nI k) signs K nb nd x2 (nI n) (nI p) = some (nI p, cells, base, dyke, nb, nd) := by
  rw [sc_48 hx hp hb hn, fX5_read_b48, t_dg (hx.2.1 p), ob_s, if_pos (by simpa [b2i] using hd), fX5_read_b56]
theorem sc_full {k : Nat} {b : Nat → Nat} {signs tape : Nat → Int32} (hx : txB k b signs tape) {p : Nat} (hp : p < k) {x2 : Int32} (h2 : x2 = 1 ∨ x2 = 0) (hd : dg (b p) = true) (cells : Int32) (base dyke nb nd : Nat → Int32) (K : _ → Option _) : fX5_read_l7 cells base dyke (nI k) signs K nb nd x2 (nI 12) (nI p) = some (nI p, cells, base, dyke, nb, nd) := by
  have z : ¬ x2 = 2 := by rcases h2 with rfl | rfl <;> decide
  have r := dg_r hd
  rw [sc_48 hx hp (by omega) (by omega), fX5_read_b48, t_dg (hx.2.1 p), ob_s, if_neg (by simp [b2i, hd]), if_neg z, fX5_read_b86, if_pos (show (12 : Int32) ≤ nI 12 by decide), fX5_read_b118]
theorem sc_cell {k : Nat} {b : Nat → Nat} {signs tape : Nat → Int32} (hx : txB k b signs tape) {p n : Nat} (hp : p < k) {x2 : Int32} (h2 : x2 = 1 ∨ x2 = 0) (hn : n < 12) (hd : dg (b p) = true) (cells : Int32) (base dyke nb nd : Nat → Int32) (K : _ → Option _) : fX5_read_l7 cells base dyke (nI k) signs K nb nd x2 (nI n) (nI p) = K (upd nb n (nI (b p - 48)), upd nd n 0, 1, nI (n + 1), nI (p + 1)) := by
  have z : ¬ x2 = 2 := by rcases h2 with rfl | rfl <;> decide
  have r := dg_r hd
  have h1 := hx.1
  rw [sc_48 hx hp (by omega) (by omega), fX5_read_b48, t_dg (hx.2.1 p), ob_s, if_neg (by simp [b2i, hd]), if_neg z, fX5_read_b86, if_neg (show ¬ (12 : Int32) ≤ nI n from nI_ge (b := 12) hn (by omega)), if_pos (inb_n hn (by omega)), fX5_read_b121, nI_clamp (by omega), dg_v hd, nI_1, nI_1]
theorem sc_dyke {k : Nat} {b : Nat → Nat} {signs tape : Nat → Int32} (hx : txB k b signs tape) {p n : Nat} (hp : p < k) (h0 : 1 ≤ n) (hn : n ≤ 12) (hd : dg (b p) = true) (cells : Int32) (base dyke nb nd : Nat → Int32) (K : _ → Option _) : fX5_read_l7 cells base dyke (nI k) signs K nb nd 2 (nI n) (nI p) = K (nb, upd nd (n - 1) (nI (b p - 48)), 0, nI n, nI (p + 1)) := by
  have r := dg_r hd
  have h1 := hx.1
  rw [sc_48 hx hp (by intro q; exact absurd q.1 (by decide)) (by omega), fX5_read_b48, t_dg (hx.2.1 p), ob_s, if_neg (by simp [b2i, hd]), if_pos rfl, if_neg (nI_nle (by omega) (by omega)), show nI n - 1 = nI (n - 1) from pk_sub (b := 1) h0, if_pos (inb_n (show n - 1 < 12 by omega) (by omega)), fX5_read_b121, nI_clamp (by omega), dg_v hd, nI_1]
/-! the model's step -/
theorem ms_num {k : Nat} {b : Nat → Nat} {signs tape : Nat → Int32} (hx : txB k b signs tape) {p : Nat} (hp : p ≤ k) {n : Nat} (hn : n < 12) (th cells ch chg tp ne un si : Int32) (base dyke now rd : Nat → Int32) (K : _ → Option _) : ∃ rd', fX12_shore_b118 th cells ch chg tp (nI p) (nI k) ne un si base dyke now tape rd (nI n) 1 K = (if p < k ∧ dg (b p) = true then K (nI (p + 1), upd rd (2 * n) (nI (b p - 48)), nI (n + 1), 1) else K (nI p, rd', nI n, 0)) := by
  have e2 : (2 : Int32) * nI n = nI (2 * n) := pk_mul 2 n
  have h1 := hx.1
  refine ⟨upd rd (2 * n) (-1), ?_⟩
  rw [fX12_shore_b118, if_neg (by decide), m_num1 hx (Nat.le_refl _) hp, ob_s, e2, if_pos (inb_n (show 2 * n < 36 by omega) (by omega)), nI_clamp (by omega), pk_us]
  by_cases c : p < k ∧ dg (b p) = true
  · rw [if_pos c, if_pos c]
    have r := dg_r c.2
    rw [if_neg (nI_pos (by omega)), fX12_shore_b151]
    simp only [fX12_flag, if_neg (show ¬ (1 : Int32) = 0 by decide), fX12_flag_b9, ob_s, nI_1]
  · rw [if_neg c, if_neg c, if_pos (show (-1 : Int32) < 0 by decide), fX12_shore_b151]
    simp only [fX12_flag, if_true, fX12_flag_b9, ob_s]
    rw [show nI n + 0 = nI n from nI_add n 0]
def shI (n : Nat) (nb nd rd : Nat → Int32) : Prop := n ≤ 12 ∧ (∀ c, c < n → rd (2 * c) = nb c ∧ 0 ≤ nb c ∧ nb c ≤ 9) ∧ (∀ c, c < n → rd (2 * c + 1) = nd c ∧ 0 ≤ nd c ∧ nd c ≤ 9) ∧ (1 ≤ n → nd (n - 1) = 0)
theorem nI_9 {c : Nat} (h : c ≤ 9) : 0 ≤ nI c ∧ nI c ≤ 9 := ⟨nI_pos' (by omega), nI_le (b := 9) h (by omega)⟩
/-- what both loops come to -/
def shQ (k : Nat) (signs tape : Nat → Int32) (cells : Int32) (base dyke : Nat → Int32) (th cells' ch chg tp ne un si : Int32) (base' dyke' now : Nat → Int32) (r1 : Option (Int32 × Int32 × (Nat → Int32) × (Nat → Int32) × (Nat → Int32) × (Nat → Int32))) (r2 : Option (Int32 × Int32 × Int32 × Int32 × Int32 × Int32 × Int32 × Int32 × Int32 × Int32 × (Nat → Int32) × (Nat → Int32) × (Nat → Int32) × (Nat → Int32))) : Prop :=
  (∃ q nb nd rd x1, q ≤ k ∧ r1 = some (nI q, cells, base, dyke, nb, nd) ∧ r2 = fX12_shore_b162 th cells' ch chg tp (nI q) (nI k) ne un si base' dyke' now tape rd x1 0) ∨
  (∃ n nb nd rd, 1 ≤ n ∧ shI n nb nd rd ∧ r1 = fX5_read_b127 cells base dyke nb nd (nI k) signs 1 (nI n) ∧ r2 = fX12_shore_b162 th cells' ch chg tp (nI k) (nI k) ne un si base' dyke' now tape rd (nI n) 1)
theorem sh_loop {k : Nat} {b : Nat → Nat} {signs tape : Nat → Int32} (hx : txB k b signs tape) (cells : Int32) (base dyke : Nat → Int32) (th cells' ch chg tp ne un si : Int32) (base' dyke' now : Nat → Int32) : ∀ d p n nb nd rd f1 f2, k - p < d → p ≤ k → (n = 0 → p = 0) → 3 * d + 3 ≤ f1 → d + 3 ≤ f2 → shI n nb nd rd →
    shQ k signs tape cells base dyke th cells' ch chg tp ne un si base' dyke' now
      (loopN (fun (s : (Nat → Int32) × (Nat → Int32) × Int32 × Int32 × Int32) k7 => fX5_read_l7 cells base dyke (nI k) signs k7 s.1 s.2.1 s.2.2.1 s.2.2.2.1 s.2.2.2.2) f1 (nb, nd, if n = 0 then 0 else 1, nI n, nI p))
      (loopN (fun (s : Int32 × (Nat → Int32) × Int32 × Int32) k16 => fX12_shore_l16 th cells' ch chg tp (nI k) ne un si base' dyke' now tape k16 s.1 s.2.1 s.2.2.1 s.2.2.2) f2 (nI p, rd, nI n, 1)) := by
  have hk := hx.1
  intro d
  induction d with
  | zero => intro p n nb nd rd f1 f2 h; omega
  | succ d ih =>
    intro p n nb nd rd f1 f2 h hp h0 hf1 hf2 hI
    obtain ⟨f1, rfl⟩ : ∃ g, f1 = g + 3 := ⟨f1 - 3, by omega⟩
    obtain ⟨f2, rfl⟩ : ∃ g, f2 = g + 2 := ⟨f2 - 2, by omega⟩
    have hn := hI.1
    -- a fault of the model: one more step tells it
    have fail : ∀ q rd' n', (loopN (fun (s : Int32 × (Nat → Int32) × Int32 × Int32) k16 => fX12_shore_l16 th cells' ch chg tp (nI k) ne un si base' dyke' now tape k16 s.1 s.2.1 s.2.2.1 s.2.2.2) (f2 + 1) (q, rd', n', 0)) = fX12_shore_b162 th cells' ch chg tp q (nI k) ne un si base' dyke' now tape rd' n' 0 := by
      intro q rd' n'
      show fX12_shore_l16 th cells' ch chg tp (nI k) ne un si base' dyke' now tape _ q rd' n' 0 = _
      rw [fX12_shore_l16, if_pos rfl]
    by_cases hend : 1 ≤ n ∧ p = k
    · obtain ⟨e1, e2⟩ := hend
      subst e2
      right
      refine ⟨n, nb, nd, rd, e1, hI, ?_, ?_⟩
      · show fX5_read_l7 cells base dyke (nI p) signs _ nb nd (if n = 0 then 0 else 1) (nI n) (nI p) = _
        rw [sc_end, if_neg (by omega)]
      · show fX12_shore_l16 th cells' ch chg tp (nI p) ne un si base' dyke' now tape _ (nI p) rd (nI n) 1 = _
        rw [fX12_shore_l16, if_neg (by decide), if_neg (nI_ne0 (by omega) (by omega)), if_pos (Int32.le_refl _)]
    · have hlt : n = 0 ∨ p < k := by omega
      -- the model comes to b35
      have m35 : ∀ K, fX12_shore_l16 th cells' ch chg tp (nI k) ne un si base' dyke' now tape K (nI p) rd (nI n) 1 = fX12_shore_b35 th cells' ch chg tp (nI p) (nI k) ne un si base' dyke' now tape rd (nI n) K := by
        intro K
        rw [fX12_shore_l16, if_neg (by decide)]
        by_cases e : n = 0
        · subst e; rw [if_pos (show nI 0 = 0 from rfl)]
        · rw [if_neg (nI_ne0 (by omega) (by omega)), if_neg (nI_ge (by omega) (by omega))]
      have e2 : (2 : Int32) * nI n = nI (2 * n) := pk_mul 2 n
      have m66 : ∀ K, fX12_shore_b35 th cells' ch chg tp (nI p) (nI k) ne un si base' dyke' now tape rd (nI n) K = fX12_shore_b66 th cells' ch chg tp (nI p) (nI k) ne un si base' dyke' now tape (upd (upd rd (2 * n + 1) 0) (2 * n) (-1)) (nI n) (if n = 12 then 0 else 1) K := by
        intro K
        rw [fX12_shore_b35, e2, nI_1, if_pos (inb_n (show 2 * n + 1 < 36 by omega) (by omega)), if_pos (inb_n (show 2 * n < 36 by omega) (by omega)), nI_clamp (by omega), nI_clamp (by omega)]
        by_cases e : n = 12
        · subst e; rw [if_pos (show (12 : Int32) ≤ nI 12 by decide), if_pos rfl]
        · rw [if_neg (show ¬ (12 : Int32) ≤ nI n from nI_ge (b := 12) (by omega) (by omega)), if_neg e]
      show shQ k signs tape cells base dyke th cells' ch chg tp ne un si base' dyke' now _ (fX12_shore_l16 th cells' ch chg tp (nI k) ne un si base' dyke' now tape _ (nI p) rd (nI n) 1)
      rw [m35, m66]
      generalize hrd : upd (upd rd (2 * n + 1) 0) (2 * n) (-1) = rd1
      by_cases h12 : n = 12
      · -- full
        subst h12
        left
        refine ⟨p, nb, nd, rd1, nI 12, hp, ?_, ?_⟩
        · show fX5_read_l7 cells base dyke (nI k) signs _ nb nd 1 (nI 12) (nI p) = _
          by_cases hd : dg (b p) = true
          · exact sc_full hx (by omega) (Or.inl rfl) hd ..
          · exact sc_bad hx (by omega) (by omega) (by omega) hd ..
        · rw [if_pos rfl, fX12_shore_b66, if_pos rfl, fX12_shore_b118, if_pos rfl]
          exact fail _ _ _
      · rw [if_neg h12]
        have hx2 : (if n = 0 then (0 : Int32) else 1) = 1 ∨ (if n = 0 then (0 : Int32) else 1) = 0 := by
          by_cases e : n = 0
          · simp [e]
          · simp [e]
        by_cases hbar : 1 ≤ n ∧ p < k ∧ b p = 124
        · obtain ⟨c1, c2, c3⟩ := hbar
          have tk := m_takes hx (Nat.le_refl _) hp 124
          rw [if_pos ⟨c2, c3⟩] at tk
          have tk' : fX12_takes (nI p) (nI k) tape 124 = some (1, nI (p + 1)) := tk
          have i1 : (2 : Int32) * nI n - 1 = nI (2 * n - 1) := by rw [e2]; exact pk_sub (b := 1) (by omega)
          have c : (loopN (fun (s : (Nat → Int32) × (Nat → Int32) × Int32 × Int32 × Int32) k7 => fX5_read_l7 cells base dyke (nI k) signs k7 s.1 s.2.1 s.2.2.1 s.2.2.2.1 s.2.2.2.2) (f1 + 3) (nb, nd, if n = 0 then 0 else 1, nI n, nI p)) = loopN (fun (s : (Nat → Int32) × (Nat → Int32) × Int32 × Int32 × Int32) k7 => fX5_read_l7 cells base dyke (nI k) signs k7 s.1 s.2.1 s.2.2.1 s.2.2.2.1 s.2.2.2.2) (f1 + 2) (nb, nd, 2, nI n, nI (p + 1)) := by
            rw [if_neg (by omega)]
            exact sc_bar hx c2 (by omega) c3 ..
          rw [c]
          rw [fX12_shore_b66, if_neg (by decide), if_neg (nI_nle (by omega) (by omega)), tk', ob_s, if_neg (show ¬ (1 : Int32) = 0 by decide), m_num1 hx (Nat.le_refl _) (by omega), ob_s, i1, if_pos (inb_n (show 2 * n - 1 < 36 by omega) (by omega)), nI_clamp (by omega), pk_us]
          by_cases d1 : p + 1 < k ∧ dg (b (p + 1)) = true
          · have r := dg_r d1.2
            rw [if_pos d1, if_neg (nI_pos (by omega)), fX12_shore_b117]
            have c : (loopN (fun (s : (Nat → Int32) × (Nat → Int32) × Int32 × Int32 × Int32) k7 => fX5_read_l7 cells base dyke (nI k) signs k7 s.1 s.2.1 s.2.2.1 s.2.2.2.1 s.2.2.2.2) (f1 + 2) (nb, nd, 2, nI n, nI (p + 1))) = loopN (fun (s : (Nat → Int32) × (Nat → Int32) × Int32 × Int32 × Int32) k7 => fX5_read_l7 cells base dyke (nI k) signs k7 s.1 s.2.1 s.2.2.1 s.2.2.2.1 s.2.2.2.2) (f1 + 1) (nb, upd nd (n - 1) (nI (b (p + 1) - 48)), 0, nI n, nI (p + 1 + 1)) := sc_dyke hx d1.1 c1 (by omega) d1.2 ..
            rw [c]
            obtain ⟨rd', e⟩ := ms_num hx (p := p + 1 + 1) (by omega) (n := n) (by omega) th cells' ch chg tp ne un si base' dyke' now (upd rd1 (2 * n - 1) (nI (b (p + 1) - 48))) (loopN (fun (s : Int32 × (Nat → Int32) × Int32 × Int32) k16 => fX12_shore_l16 th cells' ch chg tp (nI k) ne un si base' dyke' now tape k16 s.1 s.2.1 s.2.2.1 s.2.2.2) (f2 + 1))
            rw [e]
            by_cases d2 : p + 1 + 1 < k ∧ dg (b (p + 1 + 1)) = true
            · have r2 := dg_r d2.2
              rw [if_pos d2]
              have c : (loopN (fun (s : (Nat → Int32) × (Nat → Int32) × Int32 × Int32 × Int32) k7 => fX5_read_l7 cells base dyke (nI k) signs k7 s.1 s.2.1 s.2.2.1 s.2.2.2.1 s.2.2.2.2) (f1 + 1) (nb, upd nd (n - 1) (nI (b (p + 1) - 48)), 0, nI n, nI (p + 1 + 1))) = loopN (fun (s : (Nat → Int32) × (Nat → Int32) × Int32 × Int32 × Int32) k7 => fX5_read_l7 cells base dyke (nI k) signs k7 s.1 s.2.1 s.2.2.1 s.2.2.2.1 s.2.2.2.2) f1 (upd nb n (nI (b (p + 1 + 1) - 48)), upd (upd nd (n - 1) (nI (b (p + 1) - 48))) n 0, 1, nI (n + 1), nI (p + 1 + 1 + 1)) := sc_cell hx d2.1 (Or.inr rfl) (by omega) d2.2 ..
              rw [c]
              have := ih (p + 1 + 1 + 1) (n + 1) (upd nb n (nI (b (p + 1 + 1) - 48))) (upd (upd nd (n - 1) (nI (b (p + 1) - 48))) n 0) (upd (upd rd1 (2 * n - 1) (nI (b (p + 1) - 48))) (2 * n) (nI (b (p + 1 + 1) - 48))) f1 (f2 + 1) (by omega) (by omega) (by omega) (by omega) (by omega) ?_
              · rw [if_neg (by omega)] at this
                exact this
              · obtain ⟨-, q1, q2, q3⟩ := hI
                refine ⟨by omega, ?_, ?_, ?_⟩
                · intro c hc
                  by_cases e : c = n
                  · subst e; rw [pk_us, pk_us]; exact ⟨rfl, nI_9 (by omega)⟩
                  · rw [pk_un (by omega), pk_un (by omega), pk_un e, ← hrd, pk_un (by omega), pk_un (by omega)]
                    exact q1 c (by omega)
                · intro c hc
                  rw [pk_un (by omega)]
                  by_cases en : c = n
                  · subst en; rw [pk_un (by omega), pk_us, ← hrd, pk_un (by omega), pk_us]; exact ⟨rfl, by decide, by decide⟩
                  rw [pk_un en]
                  by_cases e : c = n - 1
                  · subst e; rw [show 2 * (n - 1) + 1 = 2 * n - 1 by omega, pk_us, pk_us]; exact ⟨rfl, nI_9 (by omega)⟩
                  · rw [pk_un (by omega), pk_un e, ← hrd, pk_un (by omega), pk_un (by omega)]
                    exact q2 c (by omega)
                · intro _; exact pk_us
            · rw [if_neg d2]
              left
              refine ⟨p + 1 + 1, nb, upd nd (n - 1) (nI (b (p + 1) - 48)), rd', nI n, by omega, ?_, fail _ _ _⟩
              show fX5_read_l7 cells base dyke (nI k) signs _ nb _ 0 (nI n) (nI (p + 1 + 1)) = _
              by_cases e : p + 1 + 1 = k
              · rw [e, sc_end, fX5_read_b127, if_neg (by decide)]
              · exact sc_bad hx (by omega) (by intro q; exact absurd q.1 (by decide)) (by omega) (fun q => d2 ⟨by omega, q⟩) ..
          · rw [if_neg d1, if_pos (show (-1 : Int32) < 0 by decide), fX12_shore_b117, fX12_shore_b118, if_pos rfl]
            left
            refine ⟨p + 1, nb, nd, _, nI n, by omega, ?_, fail _ _ _⟩
            show fX5_read_l7 cells base dyke (nI k) signs _ nb _ 2 (nI n) (nI (p + 1)) = _
            by_cases e : p + 1 = k
            · rw [e, sc_end, fX5_read_b127, if_neg (by decide)]
            · exact sc_bad hx (by omega) (by intro q; exact absurd q.1 (by decide)) (by omega) (fun q => d1 ⟨by omega, q⟩) ..
        · have m118 : fX12_shore_b66 th cells' ch chg tp (nI p) (nI k) ne un si base' dyke' now tape rd1 (nI n) 1 (loopN (fun (s : Int32 × (Nat → Int32) × Int32 × Int32) k16 => fX12_shore_l16 th cells' ch chg tp (nI k) ne un si base' dyke' now tape k16 s.1 s.2.1 s.2.2.1 s.2.2.2) (f2 + 1)) = fX12_shore_b118 th cells' ch chg tp (nI p) (nI k) ne un si base' dyke' now tape rd1 (nI n) 1 (loopN (fun (s : Int32 × (Nat → Int32) × Int32 × Int32) k16 => fX12_shore_l16 th cells' ch chg tp (nI k) ne un si base' dyke' now tape k16 s.1 s.2.1 s.2.2.1 s.2.2.2) (f2 + 1)) := by
            rw [fX12_shore_b66, if_neg (by decide)]
            by_cases e : n = 0
            · subst e; rw [if_pos (show nI 0 ≤ 0 by decide)]
            · have tk := m_takes hx (Nat.le_refl _) hp 124
              rw [if_neg (fun q => hbar ⟨by omega, q⟩)] at tk
              have tk' : fX12_takes (nI p) (nI k) tape 124 = some (0, nI p) := tk
              rw [if_neg (nI_nle (by omega) (by omega)), tk', ob_s, if_pos rfl]
          rw [m118]
          obtain ⟨rd', e⟩ := ms_num hx (p := p) hp (n := n) (by omega) th cells' ch chg tp ne un si base' dyke' now rd1 (loopN (fun (s : Int32 × (Nat → Int32) × Int32 × Int32) k16 => fX12_shore_l16 th cells' ch chg tp (nI k) ne un si base' dyke' now tape k16 s.1 s.2.1 s.2.2.1 s.2.2.2) (f2 + 1))
          rw [e]
          have nobar : ¬ ((if n = 0 then (0 : Int32) else 1) = 1 ∧ b p = 124 ∧ n < 12) ∨ ¬ p < k := by
            by_cases e : p < k
            · left
              rintro ⟨a1, a2, -⟩
              by_cases e0 : n = 0
              · rw [if_pos e0] at a1; exact absurd a1 (by decide)
              · exact hbar ⟨by omega, e, a2⟩
            · exact Or.inr e
          by_cases d2 : p < k ∧ dg (b p) = true
          · have r2 := dg_r d2.2
            rw [if_pos d2]
            have c : (loopN (fun (s : (Nat → Int32) × (Nat → Int32) × Int32 × Int32 × Int32) k7 => fX5_read_l7 cells base dyke (nI k) signs k7 s.1 s.2.1 s.2.2.1 s.2.2.2.1 s.2.2.2.2) (f1 + 3) (nb, nd, if n = 0 then 0 else 1, nI n, nI p)) = loopN (fun (s : (Nat → Int32) × (Nat → Int32) × Int32 × Int32 × Int32) k7 => fX5_read_l7 cells base dyke (nI k) signs k7 s.1 s.2.1 s.2.2.1 s.2.2.2.1 s.2.2.2.2) (f1 + 2) (upd nb n (nI (b p - 48)), upd nd n 0, 1, nI (n + 1), nI (p + 1)) := sc_cell hx d2.1 hx2 (by omega) d2.2 ..
            rw [c]
            have := ih (p + 1) (n + 1) (upd nb n (nI (b p - 48))) (upd nd n 0) (upd rd1 (2 * n) (nI (b p - 48))) (f1 + 2) (f2 + 1) (by omega) (by omega) (by omega) (by omega) (by omega) ?_
            · rw [if_neg (by omega)] at this
              exact this
            · obtain ⟨-, q1, q2, q3⟩ := hI
              refine ⟨by omega, ?_, ?_, ?_⟩
              · intro c hc
                by_cases e : c = n
                · subst e; rw [pk_us, pk_us]; exact ⟨rfl, nI_9 (by omega)⟩
                · rw [pk_un (by omega), pk_un e, ← hrd, pk_un (by omega), pk_un (by omega)]
                  exact q1 c (by omega)
              · intro c hc
                rw [pk_un (by omega), ← hrd, pk_un (by omega)]
                by_cases e : c = n
                · subst e; rw [pk_us, pk_us]; exact ⟨rfl, by decide, by decide⟩
                · rw [pk_un e, pk_un (by omega)]
                  exact q2 c (by omega)
              · intro _; exact pk_us
          · rw [if_neg d2]
            left
            refine ⟨p, nb, nd, rd', nI n, hp, ?_, fail _ _ _⟩
            show fX5_read_l7 cells base dyke (nI k) signs _ nb nd (if n = 0 then 0 else 1) (nI n) (nI p) = _
            by_cases e : p = k
            · have e0 : n = 0 := by omega
              rw [e, sc_end, fX5_read_b127, if_neg (by simp [e0])]
            · exact sc_bad hx (by omega) (nobar.resolve_right (by omega)) (by omega) (fun q => d2 ⟨by omega, q⟩) ..
/-! the model's end -/
theorem ms_277 {m : Nat} (hm : m ≤ 8) (th cells chg tp at_ to ne un si : Int32) (base dyke now tape rd : Nat → Int32) : fX12_shore_b277 th cells (nI m) chg tp at_ to ne un si base dyke now tape rd 0 = some (cells, th, cells, chg + 1, tp, at_, to, ne, 0, 0, base, dyke, (fun j => if 25 ≤ j ∧ j < 25 + 2 * m ∧ (j - 25) % 2 = 0 then -1 else now j), rd) := by
  unfold fX12_shore_b277
  refine lp_up (fun i => ((fun j => if 25 ≤ j ∧ j < 25 + 2 * i ∧ (j - 25) % 2 = 0 then -1 else now j), nI i)) m (by omega) ?_ ?_ ?_
  · refine Prod.ext ?_ rfl
    funext j
    show _ = if 25 ≤ j ∧ j < 25 + 2 * 0 ∧ (j - 25) % 2 = 0 then _ else _
    rw [if_neg (by omega)]
  · intro i hi K
    have e : (25 : Int32) + 2 * nI i + 0 = nI (25 + 2 * i) := by
      rw [show (2 : Int32) * nI i = nI (2 * i) from pk_mul 2 i, show (25 : Int32) + nI (2 * i) = nI (25 + 2 * i) from nI_add 25 _]; exact nI_add _ 0
    have fn : upd (fun j => if 25 ≤ j ∧ j < 25 + 2 * i ∧ (j - 25) % 2 = 0 then (-1 : Int32) else now j) (25 + 2 * i) (-1) = (fun j => if 25 ≤ j ∧ j < 25 + 2 * (i + 1) ∧ (j - 25) % 2 = 0 then -1 else now j) := by
      funext q
      by_cases e : q = 25 + 2 * i
      · subst e; rw [pk_us, if_pos (by omega)]
      · rw [pk_un e]
        have : (25 ≤ q ∧ q < 25 + 2 * (i + 1) ∧ (q - 25) % 2 = 0) ↔ (25 ≤ q ∧ q < 25 + 2 * i ∧ (q - 25) % 2 = 0) := by omega
        simp only [this]
    show fX12_shore_l277 th cells (nI m) chg tp at_ to ne un si base dyke tape rd K _ (nI i) = _
    rw [fX12_shore_l277, if_neg (nI_ge hi (by omega)), e, if_pos (inb_n (show 25 + 2 * i < 43 by omega) (by omega)), nI_clamp (by omega), fn, nI_1]
  · intro K
    show fX12_shore_l277 th cells (nI m) chg tp at_ to ne un si base dyke tape rd K _ (nI m) = _
    rw [fX12_shore_l277, if_pos (Int32.le_refl _), fX12_shore_b305]
theorem ms_180 {n : Nat} (h1 : 1 ≤ n) (hn : n ≤ 12) (th cells ch chg tp at_ to ne un si : Int32) (base dyke now tape rd : Nat → Int32) : fX12_shore_b180 th cells ch chg tp at_ to ne un si base dyke now tape rd (nI n) 0 = fX12_shore_b259 th cells ch chg tp at_ to ne un si (fillN (fun c => if c < n then rd (2 * c) else 0) base 12) (fillN (fun c => if c + 1 < n then rd (2 * c + 1) else 0) dyke 12) (fun j => if j < 12 ∨ 13 ≤ j ∧ j < 13 + 12 then 0 else now j) tape rd := by
  unfold fX12_shore_b180
  refine lp_up (fun i => (fillN (fun c => if c < n then rd (2 * c) else 0) base i, fillN (fun c => if c + 1 < n then rd (2 * c + 1) else 0) dyke i, (fun j => if j < i ∨ 13 ≤ j ∧ j < 13 + i then 0 else now j), nI i)) 12 (by omega) ?_ ?_ ?_
  · refine Prod.ext (by symm; exact fill_0 (fun c => if c < n then rd (2 * c) else 0) base) (Prod.ext (by symm; exact fill_0 (fun c => if c + 1 < n then rd (2 * c + 1) else 0) dyke) (Prod.ext ?_ rfl))
    funext j
    show _ = if j < 0 ∨ 13 ≤ j ∧ j < 13 + 0 then _ else _
    rw [if_neg (by omega)]
  · intro i hi K
    have e2 : (2 : Int32) * nI i = nI (2 * i) := pk_mul 2 i
    have e13 : (13 : Int32) + nI i = nI (13 + i) := nI_add 13 i
    have en : nI n - 1 = nI (n - 1) := pk_sub (b := 1) h1
    have fn : upd (upd (fun j => if j < i ∨ 13 ≤ j ∧ j < 13 + i then (0 : Int32) else now j) i 0) (13 + i) 0 = (fun j => if j < i + 1 ∨ 13 ≤ j ∧ j < 13 + (i + 1) then 0 else now j) := by
      funext q
      by_cases e : q = 13 + i
      · subst e; rw [pk_us, if_pos (by omega)]
      · rw [pk_un e]
        by_cases e' : q = i
        · subst e'; rw [pk_us, if_pos (by omega)]
        · rw [pk_un e']
          have : (q < i + 1 ∨ 13 ≤ q ∧ q < 13 + (i + 1)) ↔ (q < i ∨ 13 ≤ q ∧ q < 13 + i) := by omega
          simp only [this]
    have fB := fill_s (fun c => if c < n then rd (2 * c) else 0) base i
    have fD := fill_s (fun c => if c + 1 < n then rd (2 * c + 1) else 0) dyke i
    show fX12_shore_l180 th cells ch chg tp at_ to ne un si tape rd (nI n) K (fillN _ base i) (fillN _ dyke i) _ (nI i) = K (fillN _ base (i + 1), fillN _ dyke (i + 1), _, nI (i + 1))
    rw [fX12_shore_l180, if_neg (show ¬ (12 : Int32) ≤ nI i from nI_ge (b := 12) hi (by omega)), ← fn, ← fB, ← fD]
    have i12 : inb (nI i) 12 := inb_n hi (by omega)
    have i43 : inb (nI i) 43 := inb_n (by omega) (by omega)
    have j43 : inb (nI (13 + i)) 43 := inb_n (by omega) (by omega)
    by_cases c : i < n
    · have w : ¬ nI n ≤ nI i := nI_ge c (by omega)
      rw [if_neg w, e2, if_pos (inb_n (show 2 * i < 36 by omega) (by omega)), fX12_shore_b208, if_pos i12, en]
      by_cases d : i + 1 < n
      · have w2 : ¬ nI (n - 1) ≤ nI i := nI_ge (by omega) (by omega)
        rw [if_neg w2, e2, nI_1, if_pos (inb_n (show 2 * i + 1 < 36 by omega) (by omega)), fX12_shore_b235, if_pos i12, if_pos i43, e13, if_pos j43, nI_clamp (by omega), nI_clamp (by omega), nI_clamp (by omega), nI_clamp (by omega), nI_1]
        simp only [if_pos c, if_pos d]
      · have w2 : nI (n - 1) ≤ nI i := nI_le (by omega) (by omega)
        rw [if_pos w2, fX12_shore_b235, if_pos i12, if_pos i43, e13, if_pos j43, nI_clamp (by omega), nI_clamp (by omega), nI_clamp (by omega), nI_1]
        simp only [if_pos c, if_neg d]
    · have w : nI n ≤ nI i := nI_le (by omega) (by omega)
      have d : ¬ i + 1 < n := by omega
      have w2 : nI (n - 1) ≤ nI i := nI_le (by omega) (by omega)
      rw [if_pos w, fX12_shore_b208, if_pos i12, en, if_pos w2, fX12_shore_b235, if_pos i12, if_pos i43, e13, if_pos j43, nI_clamp (by omega), nI_clamp (by omega), nI_1]
      simp only [if_neg c, if_neg d]
  · intro K
    show fX12_shore_l180 th cells ch chg tp at_ to ne un si tape rd (nI n) K _ _ _ (nI 12) = _
    rw [fX12_shore_l180, if_pos (show (12 : Int32) ≤ nI 12 by decide)]
theorem c_kept (kc : Nat → Int32) (a1 : Int32) (a2 a3 a4 a5 : Nat → Int32) (a6 a7 a8 a9 : Int32) (a10 a11 a12 : Nat → Int32) (a13 : Int32) (a14 : Nat → Int32) : fX11_shore_b52 kc a1 a2 a3 a4 a5 a6 a7 a8 a9 a10 a11 a12 a13 a14 0 = some (a1, fillN (fun _ => -1) kc 3, a1, a2, a3, a4, a5, a6, a7, a8, a9, a10, a11, a12, a13) := by
  unfold fX11_shore_b52
  refine lp_up (fun i => (fillN (fun _ => -1) kc i, nI i)) 3 (by omega) (Prod.ext (by symm; exact fill_0 (fun _ => -1) kc) rfl) ?_ ?_
  · intro i hi K
    show fX11_shore_l52 a1 a2 a3 a4 a5 a6 a7 a8 a9 a10 a11 a12 a13 a14 K (fillN _ kc i) (nI i) = K (fillN _ kc (i + 1), nI (i + 1))
    rw [fX11_shore_l52, if_neg (show ¬ (3 : Int32) ≤ nI i from nI_ge (b := 3) hi (by omega)), if_pos (inb_n hi (by omega)), nI_clamp (by omega), nI_1, ← fill_s]
  · intro K
    show fX11_shore_l52 a1 a2 a3 a4 a5 a6 a7 a8 a9 a10 a11 a12 a13 a14 K _ (nI 3) = _
    rw [fX11_shore_l52, if_pos (show (3 : Int32) ≤ nI 3 by decide), fX11_shore_b70]
theorem c_shore {n m T : Nat} {base dyke base' dyke' wall depth mood place now : Nat → Int32} {moats spades tides : Int32} (hn : n ≤ 12) (hm : m ≤ 8) (hl : laR n base dyke base' dyke') (hs : SS n m T wall depth mood place moats spades tides now) (h1 : 1 ≤ n) {ln tp : Int32} {signs tape : Nat → Int32} (hx0 : txR ln signs tp tape) {gc gs : Int32} {ga gf : Nat → Int32} (hg : guR n gc ga gs gf) {ch : Nat} {kc km ks kt : Nat → Int32} {kw kd ko kp : Nat → Nat → Int32} {isK kch kept : Nat → Int32} (hk : kpR n m T ch kc km ks kt kw kd ko kp isK kch kept) {next size undos : Int32} {rm rs rt undone : Nat → Int32} {rw rd ro rp : Nat → Nat → Int32} (hh : hR n m T next size rm rs rt rw rd ro rp undos undone) (nb nd rdd : Nat → Int32) (thrown at_ to ne : Int32) :
    ∃ a n' ch' kc' bs' dk' nb' nd' gc' size' mo' ti' wa' de' pl' at2 to2 ne2 un' gs' bs2 dk2 now' rdd', fX11_shore kc (nI n) base dyke nb nd gc size moats tides wall depth place ln signs = some (a, kc', nI n', bs', dk', nb', nd', gc', size', mo', ti', wa', de', pl', 0) ∧
      fX12_shore thrown (nI n) (nI m) (nI ch) tp at_ to ne undos gs base' dyke' now tape rdd = some (a, 0, nI n', nI ch', 0, at2, to2, ne2, un', gs', bs2, dk2, now', rdd') ∧
      1 ≤ n' ∧ n' ≤ 12 ∧ ch' ≤ ch + 1 ∧ laR n' bs' dk' bs2 dk2 ∧ SS n' m T wa' de' mood pl' mo' spades ti' now' ∧ guR n' gc' ga gs' gf ∧ hR n' m T next size' rm rs rt rw rd ro rp un' undone ∧ kpR n' m T ch' kc' km ks kt kw kd ko kp isK kch kept := by
  obtain ⟨k, b, rfl, rfl, hx⟩ := tx_B hx0
  have hk8 := hx.1
  have ejm : jmin (nI k) 80 = nI k := by
    have : ¬ (80 : Int32) < nI k := nI_nlt (a := 80) hk8 (by omega)
    unfold jmin; simp [this]
  have q := sh_loop hx (nI n) base dyke 0 (nI n) (nI m) (nI ch) 0 0 undos gs base' dyke' now (k + 1) 0 0 nb nd rdd FUEL FUEL (by omega) (by omega) (by omega) (Nat.le_of_lt (lt_F (by omega))) (Nat.le_of_lt (lt_F (by omega))) ⟨by omega, fun c hc => absurd hc (by omega), fun c hc => absurd hc (by omega), fun h => absurd h (by omega)⟩
  have c0 : fX5_read (nI n) base dyke nb nd (nI k) signs = loopN (fun (s : (Nat → Int32) × (Nat → Int32) × Int32 × Int32 × Int32) k7 => fX5_read_l7 (nI n) base dyke (nI k) signs k7 s.1 s.2.1 s.2.2.1 s.2.2.2.1 s.2.2.2.2) FUEL (nb, nd, if 0 = 0 then 0 else 1, nI 0, nI 0) := rfl
  have m0 : fX12_shore thrown (nI n) (nI m) (nI ch) (nI k) at_ to ne undos gs base' dyke' now tape rdd = loopN (fun (s : Int32 × (Nat → Int32) × Int32 × Int32) k16 => fX12_shore_l16 0 (nI n) (nI m) (nI ch) 0 (nI k) 0 undos gs base' dyke' now tape k16 s.1 s.2.1 s.2.2.1 s.2.2.2) FUEL (nI 0, rdd, nI 0, 1) := by
    rw [fX12_shore, fX12_begins, ob_s, ejm]; rfl
  rw [m0]
  rw [← c0] at q
  rcases q with ⟨p, nb', nd', rd', x1, hp, e1, e2⟩ | ⟨n', nb', nd', rd', hn1, hI, e1, e2⟩
  · refine ⟨-1 - nI p, n, ch, kc, base, dyke, nb', nd', gc, size, moats, tides, wall, depth, place, nI p, nI k, 0, undos, gs, base', dyke', now, rd', ?_, ?_, h1, hn, by omega, hl, hs, hg, hh, hk⟩
    · have z : ¬ nI p = -1 := fun q => absurd (q ▸ nI_pos' (show p < 2 ^ 31 by omega)) (by decide)
      rw [fX11_shore, e1, ob_s, if_neg z]
    · rw [e2, fX12_shore_b162, if_pos rfl]
  · obtain ⟨hI1, hI2, hI3, hI4⟩ := hI
    obtain ⟨⟨o1, o2, o3, o4, o5, o6, t, o7, o8⟩, s1, s2, s3, s4, s5, s6, s7⟩ := hs
    refine ⟨nI n', n', ch + 1, fillN (fun _ => -1) kc 3, va_cpy nb' base 0 0 12, va_cpy nd' dyke 0 0 12, nb', nd', 0, 0, 0, 0, fillN (fun _ => 0) wall 12, fillN (fun _ => 0) depth 12, fillN (fun _ => -1) place 8, nI k, nI k, 0, 0, 0, fillN (fun c => if c < n' then rd' (2 * c) else 0) base' 12, fillN (fun c => if c + 1 < n' then rd' (2 * c + 1) else 0) dyke' 12, (fun j => if 25 ≤ j ∧ j < 25 + 2 * m ∧ (j - 25) % 2 = 0 then -1 else upd (upd (fun j => if j < 12 ∨ 13 ≤ j ∧ j < 13 + 12 then 0 else now j) 12 0) 42 0 j), rd', ?_, ?_, hn1, hI1, by omega, ?_, ?_, ?_, ?_, ?_⟩
    · rw [fX11_shore, e1, fX5_read_b127, if_pos rfl, ob_s, if_pos rfl, fX9_startAnew, t_fill (by omega), t_fill (by omega), t_fill (by omega)]
      simp only [ob_s, fX3_clear, fX4_clear, c_kept]
      rfl
    · rw [e2, fX12_shore_b162, if_neg (by decide), ms_180 hn1 hI1, fX12_shore_b259, if_pos (show inb 12 43 by decide), if_pos (show inb 42 43 by decide), ms_277 hm, nI_1]
      rfl
    · refine ⟨?_, ?_, ?_⟩
      · intro c hc
        rw [cpy_lt (by omega), cpy_lt (by omega), fill_lt _ _ (by omega), fill_lt _ _ (by omega), if_pos hc]
        refine ⟨(hI2 c hc).1, ?_⟩
        by_cases e : c + 1 < n'
        · rw [if_pos e]; exact (hI3 c hc).1
        · rw [if_neg e, show c = n' - 1 by omega]; exact (hI4 hn1).symm
      · intro c hc
        rw [cpy_lt (by omega)]; exact (hI2 c hc).2
      · intro c hc
        rw [cpy_lt (by omega)]; exact (hI3 c hc).2
    · have z9 : (0 : Int32) ≤ 0 ∧ (0 : Int32) ≤ 999 := by decide
      refine ⟨⟨?_, ?_, o3, ?_, isW_0 _, o6, 0, by omega, rfl⟩, ?_, ?_, ?_, ?_, ?_, ?_, ?_⟩
      · intro c hc; rw [fill_lt _ _ (by omega)]; exact z9
      · intro c hc; rw [fill_lt _ _ (by omega)]; exact z9
      · intro c hc; rw [fill_lt _ _ (by omega)]
        exact ⟨by decide, Int32.lt_of_lt_of_le (by decide) (nI_pos' (by omega))⟩
      · intro c hc
        dsimp only; rw [if_neg (by omega), pk_un (by omega), pk_un (by omega), if_pos (by omega), fill_lt _ _ (by omega)]
      · intro c hc
        dsimp only; rw [if_neg (by omega), pk_un (by omega), pk_un (by omega), if_pos (by omega), fill_lt _ _ (by omega)]
      · intro c hc
        dsimp only; rw [if_neg (by omega), pk_un (by omega), pk_un (by omega), if_neg (by omega)]; exact s3 c hc
      · intro c hc
        dsimp only; rw [if_pos (by omega), fill_lt _ _ (by omega)]
      · dsimp only; rw [if_neg (by omega), pk_un (by omega), pk_us]
      · dsimp only; rw [if_neg (by omega), pk_un (by omega), pk_un (by omega), if_neg (by omega)]; exact s6
      · dsimp only; rw [if_neg (by omega), pk_us]
    · exact gu_0 n' ga gf hI1
    · obtain ⟨nx, u, h1, h2, e1, e2, e3, h3⟩ := hh
      exact ⟨nx, 0, h1, by omega, e1, rfl, rfl, fun j hj => absurd hj (by omega)⟩
    · intro i hi
      right
      refine ⟨Or.inl (fill_lt _ _ hi), ?_⟩
      rcases hk i hi with ⟨a, b, c, d⟩ | ⟨-, q | ⟨q, j, hj, e⟩⟩
      · exact Or.inr ⟨b, ch, by omega, c⟩
      · exact Or.inl q
      · exact Or.inr ⟨q, j, by omega, e⟩
