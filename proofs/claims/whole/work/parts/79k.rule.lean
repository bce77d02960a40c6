/-! ===== a comparison, a rule, the law of the tides ===== -/
theorem j_cmp {k : Nat} {b : Nat → Nat} {signs tape : Nat → Int32} (hx : txB k b signs tape) {to z : Nat} (ht : to = min k 40) (rec : Int32 → Int32 → Int32 → Int32 → (Nat → Int32) → Int32 → (Nat → Int32) → Int32 → RdT) (H : SubH k b to z signs tape (fX6_readSum rec) (fun d a t n M tp rc => fX12_readsRank d a t n M tp rc 1) 3) : SubH k b to z signs tape (fX6_readComparison_s rec) (fun d a t n M tp rc => fX12_readsRank d a t n M tp rc 0) 4 := by
  have hk := hx.1
  have hb := hx.2.1
  have htk : to ≤ k := by omega
  have h40 : to ≤ 40 := by omega
  intro p L M codes rc d hp hL hM hd
  obtain ⟨d, rfl⟩ : ∃ g, d = g + 1 := ⟨d - 1, by omega⟩
  show Out b to p L M z false codes rc _ (fX12_readsRank_s (fX12_readsThing d) (fX12_readsRank d) (nI p) (nI to) (nI z) (nI M) tape rc 0)
  have O := H p L M codes rc d hp hL hM (by omega)
  dsimp only at O
  rw [fX12_readsRank_s, if_neg (show ¬ (0 : Int32) = 3 by decide), show (0 : Int32) + 1 = 1 from rfl, fX6_readComparison_s]
  rcases O with ⟨p1, L1, M1, c1, rc1, F, hp01, hp1, hL1', hM1, hc, hr, hF', a8, a9⟩ | ⟨q, L2, M2, at2, ne2, c2, rc2, a1, a2, a3, a4, a5, a6⟩
  · have hL1 : L1 + p ≤ L + p1 := by simpa using hL1'
    have hF : ∀ x y u v, Cmp (cst x y u v) 40 c1 L L1 (F x y u v) ∧ Cmp (mst x y u v) 80 rc1 M M1 (F x y u v) := fun x y u v => by simpa using hF' x y u v
    rw [a8, a9, ob_s, ob_s, if_neg (show ¬ (1 : Int32) = 0 by decide), fX12_readsRank_b24]
    obtain ⟨g, hg⟩ : ∃ g, FUEL = g + 2 := ⟨FUEL - 2, by have := lt_F (n := 5) (by omega); omega⟩
    rw [hg]
    dsimp only
    rw [loopN_s]
    show Out b to p L M z false codes rc _ (fX12_readsRank_l24 (fX12_readsThing d) (fX12_readsRank d) (nI to) tape 0 (loopN (fun (s : Int32 × Int32 × Int32 × (Nat → Int32) × Int32) k24 => fX12_readsRank_l24 (fX12_readsThing d) (fX12_readsRank d) (nI to) tape 0 k24 s.1 s.2.1 s.2.2.1 s.2.2.2.1 s.2.2.2.2) (g + 1)) (nI p1) (nI z) (nI M1) rc1 1)
    have iv : ixS 1 (b p1) = if b p1 = 60 then 0 else if b p1 = 62 then 1 else if b p1 = 61 then 2 else -1 := ix_1 (b p1) (hb p1)
    rw [fX12_readsRank_l24, if_neg (show ¬ (1 : Int32) = 0 by decide), if_pos (show (0 : Int32) = 0 from rfl)]
    have stp : ∀ (oc : Int32) (j : Nat) (r1 : RdT), oc < 0 → ¬ oc = -8 → j < 3 → (∀ f g, wkS (nI j + 0) f g = jnS oc f g) → p1 < to → ixS 1 (b p1) = nI j → r1 = (fX6_readSum rec (nI L1) (nI (p1 + 1)) (sg b to (p1 + 1)) (-1) c1 (nI k) signs (nI z)).bind (fun r3 => fX6_readComparison_b65 rec r3.1 r3.2.1 r3.2.2.1 r3.2.2.2.1 r3.2.2.2.2 (nI k) signs oc) → Out b to p L M z false codes rc r1 (fX12_readsRank_b50 (fX12_readsThing d) (fX12_readsRank d) (nI p1) (nI to) (nI z) (nI M1) tape rc1 0 1 (loopN (fun (s : Int32 × Int32 × Int32 × (Nat → Int32) × Int32) k24 => fX12_readsRank_l24 (fX12_readsThing d) (fX12_readsRank d) (nI to) tape 0 k24 s.1 s.2.1 s.2.2.1 s.2.2.2.1 s.2.2.2.2) (g + 1))) := by
      intro oc j r1 hoc h8 hj hw hpt hix hr1
      rw [hr1, fX12_readsRank_b50, m_takesOf hx htk hp1 (s := 1) (by omega), ob_s, hix, if_pos (show p1 < to ∧ ¬ nI j = -1 from ⟨hpt, n_ne1 (by omega)⟩), if_pos (nI_pos' (show j < 2 ^ 31 by omega))]
      have O := H (p1 + 1) L1 M1 c1 rc1 d (by omega) (by omega) (by omega) (by omega)
      dsimp only at O ⊢
      rw [show (0 : Int32) + 1 = 1 from rfl]
      rcases O with ⟨p2, L2, M2, c2, rc2, G, a1, a2, a3, a4, a5, a6, a7, a8, a9⟩ | ⟨q, L2, M2, at2, ne2, c2, rc2, a1, a2, a3, a4, a5, a6⟩
      · have a3' : L2 + (p1 + 1) ≤ L1 + p2 := by simpa using a3
        rw [a8, a9, ob_s, ob_s, if_neg (show ¬ (1 : Int32) = 0 by decide), fX6_readComparison_b65, t_put (show L2 < 40 by omega), ob_s, fX6_readComparison_b68, if_pos (show (0 : Int32) = 0 from rfl), fX12_readsRank_b96, t_codes (show M2 < 80 by omega), ob_s, if_pos (Int32.le_refl _), fX12_readsRank_b109]
        have k1 := (a7 0 0 0 0).1.1
        have k2 := (a7 0 0 0 0).2.1
        have k3 := (hF 0 0 0 0).1.1
        have k4 := (hF 0 0 0 0).2.1
        left
        refine ⟨p2, L2 + 1, M2 + 1, upd c2 L2 oc, upd rc2 M2 (2000 + nI j + 0), fun x y u v => jnS oc (F x y u v) (G x y u v), by omega, a2, ?_, by omega, fun t ht => (pk_un (by omega)).trans ((a5 t (by omega)).trans (hc t ht)), fun t ht => (pk_un (by omega)).trans ((a6 t (by omega)).trans (hr t ht)), ?_, rfl, ?_⟩
        · show L2 + 1 + p ≤ L + p2 + 0
          omega
        · intro x y u v
          have g1 := (a7 x y u v).1
          rw [if_neg (show ¬ false = true by decide)] at g1
          rw [if_neg (show ¬ false = true by decide)]
          constructor
          · have w := c_bi (c := upd c2 L2 oc) (L := L) (L1 := L1) (L2 := L2) (x := x) (y := y) (u := u) (v := v) (by rw [pk_us]; exact hoc) (by rw [pk_us]; exact h8) (cmp_congr (hF x y u v).1 (fun t _ ht => (pk_un (by omega)).trans (a5 t (by omega)))) (cmp_congr g1 (fun t _ ht => pk_un (by omega)))
            rw [pk_us] at w; exact w
          · have w := m_bi (c := upd rc2 M2 (2000 + nI j + 0)) (L := M) (L1 := M1) (L2 := M2) (x := x) (y := y) (u := u) (v := v) (w := nI j + 0) (by rw [pk_us, Int32.add_assoc]) (by rcases (show j = 0 ∨ j = 1 ∨ j = 2 by omega) with rfl | rfl | rfl <;> decide) (cmp_congr (hF x y u v).2 (fun t _ ht => (pk_un (by omega)).trans (a6 t (by omega)))) (cmp_congr (a7 x y u v).2 (fun t _ ht => pk_un (by omega))) (cmp_lt (hF x y u v).2) (cmp_lt (a7 x y u v).2)
            rw [hw] at w; exact w
        · refine (loopN_s _ _ _).trans ?_
          show fX12_readsRank_l24 (fX12_readsThing d) (fX12_readsRank d) (nI to) tape 0 _ (nI p2) (nI z) (nI (M2 + 1)) (upd rc2 M2 (2000 + nI j + 0)) 0 = _
          rw [fX12_readsRank_l24, if_pos rfl, fX12_readsRank_b113]
      · rw [a5, a6, ob_s, ob_s, if_pos rfl, fX6_readComparison_b65]
        obtain ⟨L3, c3, z1, z2⟩ := t_put' a3 c2 oc
        rw [z2, ob_s, fX12_readsRank_b70]
        right
        exact ⟨q, L3, M2, at2, ne2, c3, rc2, by omega, a2, z1, by omega, rfl, rfl⟩
    have s60 := sg_eq hb to p1 (x := 60) (by omega)
    have s62 := sg_eq hb to p1 (x := 62) (by omega)
    have s61 := sg_eq hb to p1 (x := 61) (by omega)
    have t60 : sg b to p1 = 60 ↔ p1 < to ∧ b p1 = 60 := s60
    have t62 : sg b to p1 = 62 ↔ p1 < to ∧ b p1 = 62 := s62
    have t61 : sg b to p1 = 61 ↔ p1 < to ∧ b p1 = 61 := s61
    by_cases q0 : p1 < to ∧ b p1 = 60
    · have s1 := t60.mpr q0
      rw [if_pos s1, fX6_readComparison_b29, t_step hx ht (by omega), ob_s]
      exact stp (-5) 0 _ (by decide) (by decide) (by omega) (fun f g => wj_00 f g) q0.1 (by rw [iv, if_pos q0.2]; rfl) (by simp only [if_pos s1])
    · have n0 := fun w => q0 (t60.mp w)
      rw [if_neg n0]
      by_cases q1 : p1 < to ∧ b p1 = 62
      · have s1 := t62.mpr q1
        rw [if_pos s1, fX6_readComparison_b29, t_step hx ht (by omega), ob_s]
        exact stp (-6) 1 _ (by decide) (by decide) (by omega) (fun f g => wj_10 f g) q1.1 (by rw [iv, if_neg (fun w => q0 ⟨q1.1, w⟩), if_pos q1.2]; rfl) (by simp only [if_neg n0, if_pos s1])
      · have n1 := fun w => q1 (t62.mp w)
        rw [if_neg n1]
        by_cases q2 : p1 < to ∧ b p1 = 61
        · have s1 := t61.mpr q2
          rw [if_pos s1, fX6_readComparison_b29, t_step hx ht (by omega), ob_s]
          exact stp (-7) 2 _ (by decide) (by decide) (by omega) (fun f g => wj_20 f g) q2.1 (by rw [iv, if_neg (fun w => q0 ⟨q2.1, w⟩), if_neg (fun w => q1 ⟨q2.1, w⟩), if_pos q2.2]; rfl) (by simp only [if_neg n0, if_neg n1])
        · have n2 := fun w => q2 (t61.mp w)
          have nt : ¬ (p1 < to ∧ ¬ ixS 1 (b p1) = -1) := by
            rintro ⟨h1, h2⟩
            apply h2
            rw [iv, if_neg (fun w => q0 ⟨h1, w⟩), if_neg (fun w => q1 ⟨h1, w⟩), if_neg (fun w => q2 ⟨h1, w⟩)]
          rw [if_neg n2, fX6_readComparison_b68, fX12_readsRank_b50, m_takesOf hx htk hp1 (s := 1) (by omega), ob_s, if_neg nt, if_neg (show ¬ (0 : Int32) ≤ -1 by decide), fX12_readsRank_b58]
          left
          exact ⟨p1, L1, M1, c1, rc1, F, hp01, hp1, hL1', hM1, hc, hr, hF', rfl, rfl⟩
  · rw [a5, a6, ob_s, ob_s, if_pos rfl]
    right
    exact ⟨q, L2, M2, at2, ne2, c2, rc2, a1, a2, a3, a4, by dsimp only; rw [if_neg (show ¬ (-1 : Int32) = 60 by decide), if_neg (show ¬ (-1 : Int32) = 62 by decide), if_neg (show ¬ (-1 : Int32) = 61 by decide), fX6_readComparison_b68], rfl⟩
theorem j_allR {k : Nat} {b : Nat → Nat} {signs tape : Nat → Int32} (hx : txB k b signs tape) {to : Nat} (ht : to = min k 40) : ∀ e z, z ≤ 4 → 4 - z < e → SubH k b to z signs tape (fX6_readComparison e) (fun d a t n M tp rc => fX12_readsRank d a t n M tp rc 0) 4
  | 0, z, _, h => absurd h (by omega)
  | e + 1, z, hz, h => j_cmp hx ht _ (j_sum hx ht _ (j_prod hx ht _ (j_rank3 (j_thing hx ht hz _ (fun h4 => j_allR hx ht e (z + 1) (by omega) (by omega))))))
/-! where a text is at fault -/
theorem fltL_0 {k to q W : Nat} (hW : W ≤ 100) (hk : k ≤ 80) (ht : to = min k W) (hq : q ≤ to) : fX12_faultOf (nI q) (nI to) (nI k) (nI W) 0 = some (-1 - nI q) := by
  rw [fX12_faultOf, if_pos rfl, fX12_faultOf_b19, fX12_faultOf_b20]
  by_cases h : k ≤ W
  · rw [if_pos (nI_le h (by omega)), fX12_faultOf_b44, if_pos rfl]; rfl
  · rw [if_neg (nI_ge (by omega) (by omega)), if_pos rfl]
    by_cases h2 : q < W
    · rw [if_pos (nI_lt h2 (by omega)), fX12_faultOf_b44, if_pos rfl]; rfl
    · have : q = W := by omega
      subst this
      rw [if_neg (show ¬ nI q < nI q by simp)]; rfl
theorem fltL_1 {k to q W : Nat} (hW : W ≤ 100) (hk : k ≤ 80) (ht : to = min k W) (hq : q ≤ to) : fX12_faultOf (nI q) (nI to) (nI k) (nI W) 1 = some (if q = k then 0 else -1 - nI q) := by
  have he : nI q = nI to ↔ q = to := nI_eq (by omega) (by omega)
  rw [fX12_faultOf, if_neg (by decide)]
  by_cases e : q = to
  · rw [if_pos (he.mpr e), fX12_faultOf_b20]
    by_cases h : k ≤ W
    · rw [if_pos (nI_le h (by omega)), fX12_faultOf_b44, if_neg (by decide), if_pos (by omega)]; rfl
    · have : q = W := by omega
      subst this
      rw [if_neg (nI_ge (by omega) (by omega)), if_neg (by decide), if_neg (by omega)]; rfl
  · rw [if_neg (fun w => e (he.mp w)), if_neg (by omega)]
    have q := fltL_0 hW hk ht hq
    rw [fX12_faultOf, if_pos rfl] at q
    exact q
/-! a rule that is read -/
theorem j_read {k : Nat} {b : Nat → Nat} {signs tape : Nat → Int32} (hx : txB k b signs tape) (len at_ sn bad : Int32) (codes : Nat → Int32) (at2 to2 ne2 rl : Int32) (rc : Nat → Int32) :
    (∃ F L' a' s' b' c' M rc' at2' to2' ne2', M ≤ 80 ∧ laC F L' c' ∧ laM F (nI M) rc' ∧ fX6_read len at_ sn bad codes (nI k) signs = some (-1, L', a', s', b', c') ∧ fX12_readsRule (nI k) at2 to2 ne2 rl tape rc = some (0, 0, at2', to2', ne2', nI M, rc')) ∨
    (∃ q L' a' s' b' c' rl' rc' at2' to2' ne2', q ≤ 80 ∧ fX6_read len at_ sn bad codes (nI k) signs = some (nI q, L', a', s', b', c') ∧ fX12_readsRule (nI k) at2 to2 ne2 rl tape rc = some (-1 - nI q, 0, at2', to2', ne2', rl', rc')) := by
  have hk := hx.1
  have ejm : jmin (nI k) 40 = nI (min k 40) := jmin_n (b := 40) (by omega) (by omega)
  by_cases k0 : k = 0
  · subst k0
    left
    refine ⟨plF, 9, at_, sn, bad, va_cpy plainF codes 0 0 9, 0, rc, 0, nI 0, 0, by omega, laC_pl (fun i hi => cpy_lt hi), laM_0 rc, ?_, ?_⟩
    · rw [fX6_read, if_pos (show nI 0 = 0 from rfl), fX6_usePlain, ob_s]; rfl
    · have fl : fX12_faultOf 0 (nI 0) (nI 0) 40 1 = some 0 := fltL_1 (k := 0) (to := 0) (q := 0) (W := 40) (by omega) (by omega) rfl (by omega)
      rw [fX12_readsRule, fX12_begins, ob_s, if_pos (show nI 0 = 0 from rfl), fX12_readsRule_b24, fX12_readsRule_b29]
      dsimp only
      rw [ejm]
      show (fX12_faultOf 0 (nI 0) (nI 0) 40 1).bind _ = _
      rw [fl, ob_s]; rfl
  · have O := j_allR hx (to := min k 40) rfl 8 0 (by omega) (by omega) 0 0 0 codes rc 120 (by omega) (by omega) (by omega) (by omega)
    dsimp only at O
    have st : fX6_step (-1) sn (nI k) signs = some (nI 0, sg b (min k 40) 0) := by
      rw [fX6_step, show (-1 : Int32) + 1 = nI 0 from rfl, show (40 : Int32) = nI 40 from rfl, t_signAt hx 0 40 (by omega) (by omega), ob_s]
    have cl : fX6_read len at_ sn bad codes (nI k) signs = (fX6_readComparison 8 (nI 0) (nI 0) (sg b (min k 40) 0) (-1) codes (nI k) signs (nI 0)).bind (fun r3 => if r3.2.2.2.1 = (-1 : Int32) then (if nI k ≤ r3.2.1 then (fX6_read_b66 r3.1 r3.2.1 r3.2.2.1 r3.2.2.2.1 r3.2.2.2.2 (nI k) signs) else (fX6_read_b66 r3.1 r3.2.1 r3.2.2.1 r3.2.1 r3.2.2.2.2 (nI k) signs)) else (fX6_read_b66 r3.1 r3.2.1 r3.2.2.1 r3.2.2.2.1 r3.2.2.2.2 (nI k) signs)) := by
      rw [fX6_read, if_neg (nI_ne0 (by omega) (by omega)), st, ob_s]; rfl
    have ml : fX12_readsRule (nI k) at2 to2 ne2 rl tape rc = (fX12_readsRank 120 (nI 0) (nI (min k 40)) (nI 0) (nI 0) tape rc 0).bind (fun r4 => if r4.1 = (0 : Int32) then (fX12_readsRule_b29 0 r4.2.1 (nI (min k 40)) r4.2.2.1 r4.2.2.2.1 tape r4.2.2.2.2 (nI k) (0 : Int32)) else (fX12_readsRule_b24 0 r4.2.1 (nI (min k 40)) r4.2.2.1 r4.2.2.2.1 tape r4.2.2.2.2 (nI k))) := by
      rw [fX12_readsRule, fX12_begins, ob_s, if_neg (nI_ne0 (by omega) (by omega)), ejm]; rfl
    rcases O with ⟨p1, L1, M1, c1, rc1, F, hp01, hp1, hL1, hM1, hc, hr, hF', a8, a9⟩ | ⟨q, L2, M2, at2, ne2, c2, rc2, a1, a2, a3, a4, a5, a6⟩
    · have fl : fX12_faultOf (nI p1) (nI (min k 40)) (nI k) 40 1 = some (if p1 = k then 0 else -1 - nI p1) := fltL_1 (W := 40) (by omega) (by omega) rfl hp1
      rw [a8, ob_s, if_pos rfl] at cl
      rw [a9, ob_s, if_neg (show ¬ (1 : Int32) = 0 by decide), fX12_readsRule_b24, fX12_readsRule_b29, fl, ob_s] at ml
      have hL1' : L1 + 0 ≤ 0 + p1 := by simpa using hL1
      by_cases e : p1 = k
      · left
        rw [if_pos (nI_le (by omega) (by omega)), fX6_read_b66] at cl
        rw [if_pos e] at ml
        refine ⟨F, nI L1, nI p1, sg b (min k 40) p1, -1, c1, M1, rc1, nI p1, nI (min k 40), nI 0, by omega, laC_of (by omega) (fun x y u v => by simpa using (hF' x y u v).1), laM_of (cmp_lt (hF' 0 0 0 0).2) (by omega) (fun x y u v => (hF' x y u v).2), cl, ml⟩
      · right
        rw [if_neg (nI_ge (by omega) (by omega)), fX6_read_b66] at cl
        rw [if_neg e] at ml
        exact ⟨p1, nI L1, nI p1, sg b (min k 40) p1, nI p1, c1, nI M1, rc1, nI p1, nI (min k 40), nI 0, by omega, cl, ml⟩
    · have fl : fX12_faultOf (nI q) (nI (min k 40)) (nI k) 40 0 = some (-1 - nI q) := fltL_0 (W := 40) (by omega) (by omega) rfl a2
      rw [a5, ob_s, if_neg (n_ne1 (by omega)), fX6_read_b66] at cl
      rw [a6, ob_s, if_pos rfl, fX12_readsRule_b29, fl, ob_s] at ml
      right
      exact ⟨q, nI L2, at2, -1, nI q, c2, nI M2, rc2, nI q, nI (min k 40), ne2, by omega, cl, ml⟩
theorem t_laysCode {M : Nat} (hM : M ≤ 80) (long : Int32) (code p : Nat → Int32) : fX12_laysCode long code p (nI M) = some (nI M, fillN p code M) := by
  unfold fX12_laysCode fX12_laysCode_b7
  refine lp_up (fun i => (fillN p code i, nI i)) M (by omega) (by rw [fill_0]; rfl) ?_ ?_
  · intro i hi K
    show fX12_laysCode_l7 (nI M) p (nI M) K (fillN p code i) (nI i) = _
    rw [fX12_laysCode_l7, if_neg (nI_ge hi (by omega)), if_pos (inb_n (show i < 80 by omega) (by omega)), nI_clamp (by omega), fill_s, nI_1]
  · intro K
    show fX12_laysCode_l7 (nI M) p (nI M) K (fillN p code M) (nI M) = _
    rw [fX12_laysCode_l7, if_pos (Int32.le_refl _)]; rfl
theorem ru_cg {K i : Nat} (hK : K ≤ 80) {code code' as : Nat → Int32} (h : ∀ i, i < K → code' i = code i) (K1 K2 : (Nat → Int32) × Int32 × Int32 → Option (Int32 × (Nat → Int32))) (hk : ∀ S t, i < K → K1 (S, t, nI (i + 1)) = K2 (S, t, nI (i + 1))) (S : Nat → Int32) (t : Int32) (hi : i ≤ K) : fX12_ruled_l4 (nI K) code' as K1 S t (nI i) = fX12_ruled_l4 (nI K) code as K2 S t (nI i) := by
  by_cases hi2 : i < K
  · simp only [fX12_ruled_l4, fX12_ruled_b115, fX12_ruled_b119, nI_clamp (show i < 2 ^ 31 by omega), h i hi2, nI_1, fun S t => hk S t hi2, if_neg (nI_ge hi2 (show K < 2 ^ 31 by omega))]
  · rw [fX12_ruled_l4, fX12_ruled_l4, if_pos (nI_le (by omega) (by omega)), if_pos (nI_le (by omega) (by omega))]; rfl
abbrev ruB (K : Int32) (code as : Nat → Int32) : (Nat → Int32) × Int32 × Int32 → ((Nat → Int32) × Int32 × Int32 → Option (Int32 × (Nat → Int32))) → Option (Int32 × (Nat → Int32)) := fun s k4 => fX12_ruled_l4 K code as k4 s.1 s.2.1 s.2.2
theorem lp_cg {σ R : Type} (B1 B2 : σ → (σ → Option R) → Option R) (I : σ → Prop) (step : ∀ s K1 K2, I s → (∀ s', I s' → K1 s' = K2 s') → B1 s K1 = B2 s K2) : ∀ f s, I s → loopN B1 f s = loopN B2 f s
  | 0, _, _ => rfl
  | f + 1, s, h => step s _ _ h (fun s' h' => lp_cg B1 B2 I step f s' h')
theorem ru_lp {K : Nat} (hK : K ≤ 80) {code code' as : Nat → Int32} (h : ∀ i, i < K → code' i = code i) (st : Nat → Int32) : loopN (ruB (nI K) code' as) FUEL (st, 0, 0) = loopN (ruB (nI K) code as) FUEL (st, 0, 0) := by
  refine lp_cg _ _ (fun s => ∃ i, i ≤ K ∧ s.2.2 = nI i) ?_ FUEL (st, 0, 0) ⟨0, by omega, rfl⟩
  rintro ⟨S, t, x⟩ K1 K2 ⟨i, hi, rfl⟩ hk
  exact ru_cg hK h K1 K2 (fun S t hi2 => hk _ ⟨i + 1, hi2, rfl⟩) S t hi
theorem laM_cg {F : Int32 → Int32 → Int32 → Int32 → Int32} {K : Nat} (hK : K ≤ 80) {code code' : Nat → Int32} (h : ∀ i, i < K → code' i = code i) (H : laM F (nI K) code) : laM F (nI K) code' := by
  intro st as
  obtain ⟨st', e⟩ := H st as
  refine ⟨st', ?_⟩
  have q := ru_lp hK h (as := as) st
  rw [fX12_ruled, fX12_ruled_b4]
  refine q.trans ?_
  rw [fX12_ruled, fX12_ruled_b4] at e
  exact e
theorem c_rule {F : Int32 → Int32 → Int32 → Int32 → Int32} {len long : Int32} {codes code : Nat → Int32} (hC : laC F len codes) (hM : laM F long code) {ln tp : Int32} {signs tape : Nat → Int32} (hx0 : txR ln signs tp tape) {K : Nat} (hK : K ≤ 80) (hlong : long = nI K) (at1 sg1 bd1 : Int32) (sk1 : Nat → Int32) (len2 at2 sg2 bd2 : Int32) (codes2 sk2 : Nat → Int32) (thrown at_ to ne rl : Int32) (rc : Nat → Int32) :
    ∃ a F' len' at1' sg1' bd1' codes' sk1' len2' at2' sg2' bd2' codes2' sk2' am tm nm K' rl' code' rc', fX11_rule len at1 sg1 bd1 codes sk1 len2 at2 sg2 bd2 codes2 sk2 ln signs = some (a, len', at1', sg1', bd1', codes', sk1', len2', at2', sg2', bd2', codes2', sk2', 0) ∧
      fX12_rule thrown tp at_ to ne long rl tape code rc = some (a, 0, 0, am, tm, nm, nI K', rl', code', rc') ∧ K' ≤ 80 ∧ laC F' len' codes' ∧ laM F' (nI K') code' := by
  subst hlong
  obtain ⟨k, b, rfl, rfl, hx⟩ := tx_B hx0
  rcases j_read hx len2 at2 sg2 bd2 codes2 at_ to ne rl rc with ⟨F', L', a', s', b', c', M, rc', x1, x2, x3, h1, h2, h3, e1, e2⟩ | ⟨q, L', a', s', b', c', rl', rc', x1, x2, x3, h1, e1, e2⟩
  · refine ⟨0, F', L', a', s', b', c', sk2, len, at1, sg1, bd1, codes, sk1, x1, x2, x3, M, nI M, fillN rc' code M, rc', ?_, ?_, h1, h2, laM_cg h1 (fun i hi => fill_lt _ _ hi) h3⟩
    · rw [fX11_rule, e1, ob_s, if_pos rfl]
    · rw [fX12_rule, e2, ob_s, if_pos rfl, t_laysCode h1, ob_s]; rfl
  · have z : ¬ (-1 : Int32) - nI q = 0 := (by decide +kernel : ∀ q, q ≤ 80 → ¬ (-1 : Int32) - nI q = 0) q h1
    refine ⟨-1 - nI q, F, len, at1, sg1, bd1, codes, sk1, L', a', s', b', c', sk2, x1, x2, x3, K, rl', code, rc', ?_, ?_, hK, hC, hM⟩
    · rw [fX11_rule, e1, ob_s, if_neg (n_ne1 (by omega))]
    · rw [fX12_rule, e2, ob_s, if_neg z]; rfl
theorem t_saves {K : Nat} (hK : K ≤ 80) (thrown rows cells taped at_ to ne rl lvl : Int32) (row : Nat → Int64) (base dyke fixed now th tape code rc st as was : Nat → Int32) (x2 : Int32) : fX12_law_b37 thrown rows cells taped at_ to ne (nI K) rl lvl row base dyke fixed now th tape code rc st as was x2 (nI K) 0 = fX12_law_b66 thrown rows cells taped at_ to ne (nI K) rl lvl row base dyke fixed now th tape code rc st as (fillN code was K) x2 (nI K) := by
  unfold fX12_law_b37
  refine lp_up (fun i => (fillN code was i, nI i)) K (by omega) (by rw [fill_0]; rfl) ?_ ?_
  · intro i hi k
    show fX12_law_l37 thrown rows cells taped at_ to ne (nI K) rl lvl row base dyke fixed now th tape code rc st as x2 (nI K) k (fillN code was i) (nI i) = _
    rw [fX12_law_l37, if_neg (nI_ge hi (by omega)), if_pos (inb_n (show i < 80 by omega) (by omega)), nI_clamp (by omega), fill_s, nI_1]
  · intro k
    show fX12_law_l37 thrown rows cells taped at_ to ne (nI K) rl lvl row base dyke fixed now th tape code rc st as x2 (nI K) k (fillN code was K) (nI K) = _
    rw [fX12_law_l37, if_pos (Int32.le_refl _)]
theorem c_law {n m T : Nat} {F : Int32 → Int32 → Int32 → Int32 → Int32} {len long moats spades tides ts tr : Int32} {codes code base dyke base' dyke' wall depth mood place now fixed : Nat → Int32} {tn tw : Nat → Int64} (hn : n ≤ 12) (h1 : 1 ≤ n) (hm : m ≤ 8) (hC : laC F len codes) (hM : laM F long code) (hl : laR n base dyke base' dyke') (hs : SS n m T wall depth mood place moats spades tides now) (ht : toR ts tn tr tw) {ln tp : Int32} {signs tape : Nat → Int32} (hx0 : txR ln signs tp tape) {K : Nat} (hK : K ≤ 80) (hlong : long = nI K) (stack : Nat → Int32) (len2 at2 sg2 bd2 : Int32) (codes2 sk2 : Nat → Int32) (q1 q2 q3 : Int32) (q4 q5 q6 q7 : Nat → Int32) (thrown at_ to ne rl lvl : Int32) (th rc st as was : Nat → Int32) :
    ∃ a st1 len2' at2' sg2' bd2' codes2' sk2' ts' tn' p1 p2 p3 p4 p5 p6 p7 tr' am tm nm rl' lvl' tw' th' code' rc' st' as' was', fX11_law (fixed 0) (nI n) base dyke len codes stack moats spades tides wall depth mood place len2 at2 sg2 bd2 codes2 sk2 ln signs ts tn q1 q2 q3 q4 q5 q6 q7 = some (a, st1, len2', at2', sg2', bd2', codes2', sk2', 0, ts', tn', p1, p2, p3, p4, p5, p6, p7) ∧
      fX12_law thrown tr (nI n) tp at_ to ne long rl lvl tw base' dyke' fixed now th tape code rc st as was = some (a, 0, tr', 0, am, tm, nm, long, rl', lvl', tw', th', code', rc', st', as', was') ∧ laM F long code' ∧ toR ts' tn' tr' tw' := by
  subst hlong
  obtain ⟨k, b, rfl, rfl, hx⟩ := tx_B hx0
  rcases j_read hx len2 at2 sg2 bd2 codes2 at_ to ne rl rc with ⟨F', L', a', s', b', c', M, rc', x1, x2, x3, g1, g2, g3, e1, e2⟩ | ⟨q, L', a', s', b', c', rl', rc', x1, x2, x3, g1, e1, e2⟩
  · have g4 : laM F' (nI M) (fillN rc' code M) := laM_cg g1 (fun i hi => fill_lt _ _ hi) g3
    obtain ⟨a0, st10, mo0, ti0, wa0, de0, -, -, -, -, d1, -⟩ := j_breaks (fixed := fixed) hn h1 hm g2 g4 hl hs (N := 20) (by omega) sk2 q1 q2 q3 q4 q5 q6 q7 lvl th st as
    obtain ⟨a3, st13, mo3, ti3, wa3, de3, lvl3, th3, st3, as3, d3, d4, -⟩ := j_breaks (fixed := fixed) hn h1 hm hC hM hl hs (N := 20) (by omega) stack mo0 spades ti0 wa0 de0 (va_cpy mood q6 0 0 8) (va_cpy place q7 0 0 8) lvl th st as
    obtain ⟨a5, st15, mo5, ti5, wa5, de5, lvl5, th5, st5, as5, d5, d6, -⟩ := j_breaks (fixed := fixed) hn h1 hm g2 g4 hl hs (N := 20) (by omega) sk2 q1 q2 q3 q4 q5 q6 q7 lvl3 th3 st3 as3
    have d7 := d1.symm.trans d5
    simp only [Option.some.injEq, Prod.mk.injEq] at d7
    obtain ⟨d7, -⟩ := d7
    subst d7
    have d1' : fX11_breaksOf (fixed 0) L' c' sk2 (nI n) base dyke moats spades tides wall depth mood place q1 q2 q3 q4 q5 q6 q7 20 = _ := d1
    have d3' : fX11_breaksOf (fixed 0) len codes stack (nI n) base dyke moats spades tides wall depth mood place mo0 spades ti0 wa0 de0 (va_cpy mood q6 0 0 8) (va_cpy place q7 0 0 8) 20 = _ := d3
    have d4' : fX12_breakMany (nI n) (nI K) lvl base' dyke' fixed now th code st as 20 = _ := d4
    have d6' : fX12_breakMany (nI n) (nI M) lvl3 base' dyke' fixed now th3 (fillN rc' code M) st3 as3 20 = _ := d6
    refine ⟨a0 - a3, st13, L', a', s', b', c', st10, nI 2, vp_updL (vp_updL tn 0 a0.toInt64) 1 a3.toInt64, mo3, spades, ti3, wa3, de3, va_cpy mood (va_cpy mood q6 0 0 8) 0 0 8, va_cpy place (va_cpy place q7 0 0 8) 0 0 8, nI 2, x1, x2, x3, nI M, lvl5, vp_updL (vp_updL tw 0 a0.toInt64) 1 a3.toInt64, th5, fillN (fillN code was K) (fillN rc' code M) K, rc', st5, as5, fillN code was K, ?_, ?_, laM_cg hK (fun i hi => (fill_lt _ _ hi).trans (fill_lt _ _ hi)) hM, to_2 _ _ _ _⟩
    · rw [fX11_law, e1, ob_s, if_pos rfl]
      dsimp only
      rw [d1', ob_s]
      dsimp only
      rw [d3', ob_s, t_tell2, ob_s]
    · rw [fX12_law, e2, ob_s, if_pos (Int32.le_refl _), d4', ob_s, t_saves hK, fX12_law_b66, t_laysCode g1, ob_s]
      dsimp only
      rw [d6', ob_s, t_laysCode hK, ob_s, t_ent0, ob_s, t_ent1, ob_s]
  · have z : ¬ (0 : Int32) ≤ -1 - nI q := (by decide +kernel : ∀ q, q ≤ 80 → ¬ (0 : Int32) ≤ -1 - nI q) q g1
    have z2 : (-1 : Int32) - nI q + 1 - 10000 = -10000 - nI q := (by decide +kernel : ∀ q, q ≤ 80 → (-1 : Int32) - nI q + 1 - 10000 = -10000 - nI q) q g1
    refine ⟨-10000 - nI q, stack, L', a', s', b', c', sk2, ts, tn, q1, q2, q3, q4, q5, q6, q7, tr, x1, x2, x3, rl', lvl, tw, th, code, rc', st, as, was, ?_, ?_, hM, ht⟩
    · rw [fX11_law, e1, ob_s, if_neg (n_ne1 (by omega))]
    · rw [fX12_law, e2, ob_s, if_neg z, z2]
