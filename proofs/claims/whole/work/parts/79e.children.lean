/-! ===== children: both loops ===== -/
theorem flt_0 {k to q : Nat} (hk : k ≤ 80) (ht : to = min k 47) (hq : q ≤ to) : fX12_faultOf (nI q) (nI to) (nI k) 47 0 = some (-1 - nI q) := by
  rw [fX12_faultOf, if_pos rfl, fX12_faultOf_b19, fX12_faultOf_b20]
  by_cases h : k ≤ 47
  · rw [if_pos (show nI k ≤ 47 from nI_le (b := 47) h (by omega)), fX12_faultOf_b44, if_pos rfl]; rfl
  · rw [if_neg (show ¬ nI k ≤ 47 from nI_ge (a := 47) (by omega) (by omega)), if_pos rfl]
    by_cases h2 : q < 47
    · rw [if_pos (show nI q < 47 from nI_lt (b := 47) h2 (by omega)), fX12_faultOf_b44, if_pos rfl]; rfl
    · have : q = 47 := by omega
      subst this
      rw [if_neg (show ¬ nI 47 < 47 by decide)]; rfl
theorem flt_1 {k to q : Nat} (hk : k ≤ 80) (ht : to = min k 47) (hq : q ≤ to) : fX12_faultOf (nI q) (nI to) (nI k) 47 1 = some (if q = k then 0 else -1 - nI q) := by
  have he : nI q = nI to ↔ q = to := nI_eq (by omega) (by omega)
  rw [fX12_faultOf, if_neg (by decide)]
  by_cases e : q = to
  · rw [if_pos (he.mpr e), fX12_faultOf_b20]
    by_cases h : k ≤ 47
    · rw [if_pos (show nI k ≤ 47 from nI_le (b := 47) h (by omega)), fX12_faultOf_b44, if_neg (by decide), if_pos (by omega)]; rfl
    · have : q = 47 := by omega
      subst this
      rw [if_neg (show ¬ nI k ≤ 47 from nI_ge (a := 47) (by omega) (by omega)), if_neg (by decide), if_neg (by omega)]; rfl
  · rw [if_neg (fun w => e (he.mp w)), if_neg (by omega)]
    have q := flt_0 hk ht hq
    rw [fX12_faultOf, if_pos rfl] at q
    exact q
def chS (m r : Nat) (age skill friend age0 skill0 friend0 rd : Nat → Int32) : Prop :=
  (∀ j, j < m → age j = age0 j ∧ skill j = skill0 j ∧ friend j = friend0 j) ∧
  (∀ c, c < r → rd (3 * c) = age (m + c) ∧ rd (3 * c + 1) = skill (m + c) ∧ rd (3 * c + 2) = friend (m + c)) ∧
  (∀ c, c < r → 4 ≤ age (m + c) ∧ age (m + c) ≤ 13 ∧ 1 ≤ skill (m + c) ∧ skill (m + c) ≤ 9 ∧ (friend (m + c) = -1 ∨ ∃ j, j < m + c ∧ friend (m + c) = nI j))
def chQ (k m : Nat) (age0 skill0 friend0 pals : Nat → Int32) (chg un : Int32) (age2 skill2 friend2 now tape : Nat → Int32) (to : Int32) (r1 : Option (Int32 × Int32 × (Nat → Int32) × (Nat → Int32) × (Nat → Int32) × (Nat → Int32))) (r2 : Option (Int32 × Int32 × Int32 × Int32 × Int32 × Int32 × Int32 × Int32 × Int32 × Int32 × (Nat → Int32) × (Nat → Int32) × (Nat → Int32) × (Nat → Int32) × (Nat → Int32))) : Prop :=
  (∃ q age skill friend at2 rm rd, q ≤ k ∧ (∀ j, j < m → age j = age0 j ∧ skill j = skill0 j ∧ friend j = friend0 j) ∧ r1 = some (-1 - nI q, nI m, age, skill, friend, pals) ∧ r2 = some (-1 - nI q, 0, nI m, chg, 0, at2, to, 0, rm, un, age2, skill2, friend2, now, rd)) ∨
  (∃ r age skill friend at2 rd, 1 ≤ r ∧ m + r ≤ 8 ∧ chS m r age skill friend age0 skill0 friend0 rd ∧ r1 = (fX2_befriend friend pals (nI m) (nI (m + r))).bind (fun r3 => some (nI (m + r) - nI m, nI (m + r), age, skill, friend, r3)) ∧ r2 = fX12_children_b81 0 (nI m) chg 0 at2 to 0 (nI r) un age2 skill2 friend2 now tape rd 0)
theorem ch_loop {k : Nat} {b : Nat → Nat} {signs tape : Nat → Int32} (hx : txB k b signs tape) {to m : Nat} (ht : to = min k 47) (age0 skill0 friend0 pals : Nat → Int32) (chg un : Int32) (age2 skill2 friend2 now : Nat → Int32) : ∀ d r p age skill friend rd (x2 : Int32) f1 f2, 8 - (m + r) < d → m + r ≤ 8 → p ≤ to → d + 2 ≤ f1 → d + 2 ≤ f2 → chS m r age skill friend age0 skill0 friend0 rd →
    chQ k m age0 skill0 friend0 pals chg un age2 skill2 friend2 now tape (nI to)
      (loopN (fun (s : (Nat → Int32) × (Nat → Int32) × (Nat → Int32) × Int32 × Int32 × Int32) k19 => fX2_read_l19 (nI m) pals (nI k) signs k19 s.1 s.2.1 s.2.2.1 s.2.2.2.1 s.2.2.2.2.1 s.2.2.2.2.2) f1 (age, skill, friend, nI (m + r), nI p, 1))
      (loopN (fun (s : Int32 × Int32 × (Nat → Int32) × Int32 × Int32) k29 => fX12_children_l29 0 (nI m) chg 0 (nI to) 0 un age2 skill2 friend2 now tape (nI k) k29 s.1 s.2.1 s.2.2.1 s.2.2.2.1 s.2.2.2.2) f2 (nI p, nI r, rd, x2, 1)) := by
  have hk := hx.1
  have hb := hx.2.1
  intro d
  induction d with
  | zero => intro r p age skill friend rd x2 f1 f2 h; omega
  | succ d ih =>
    intro r p age skill friend rd x2 f1 f2 h hr hp hf1 hf2 hS
    obtain ⟨f1, rfl⟩ : ∃ g, f1 = g + 2 := ⟨f1 - 2, by omega⟩
    obtain ⟨f2, rfl⟩ : ∃ g, f2 = g + 2 := ⟨f2 - 2, by omega⟩
    have mend : ∀ q rm rd' x2, loopN (fun (s : Int32 × Int32 × (Nat → Int32) × Int32 × Int32) k29 => fX12_children_l29 0 (nI m) chg 0 (nI to) 0 un age2 skill2 friend2 now tape (nI k) k29 s.1 s.2.1 s.2.2.1 s.2.2.2.1 s.2.2.2.2) (f2 + 1) (q, rm, rd', x2, 0) = fX12_children_b60 0 (nI m) chg 0 q (nI to) 0 rm un age2 skill2 friend2 now tape rd' (nI k) x2 := by
      intro q rm rd' x2
      show fX12_children_l29 0 (nI m) chg 0 (nI to) 0 un age2 skill2 friend2 now tape (nI k) _ q rm rd' x2 0 = _
      rw [fX12_children_l29, if_pos rfl]
    have neg : ∀ q, q ≤ 80 → ¬ (0 : Int32) ≤ -1 - nI q := fun q hq => (by decide +kernel : ∀ q, q ≤ 80 → ¬ (0 : Int32) ≤ -1 - nI q) q hq
    have mfail : ∀ q rm rd', q ≤ to → fX12_children_b60 0 (nI m) chg 0 (nI q) (nI to) 0 rm un age2 skill2 friend2 now tape rd' (nI k) 0 = some (-1 - nI q, 0, nI m, chg, 0, nI q, nI to, 0, rm, un, age2, skill2, friend2, now, rd') := by
      intro q rm rd' hq
      rw [fX12_children_b60, flt_0 hk ht hq, ob_s, if_neg (neg q (by omega))]
    show chQ k m age0 skill0 friend0 pals chg un age2 skill2 friend2 now tape (nI to) (fX2_read_l19 (nI m) pals (nI k) signs (loopN _ (f1 + 1)) age skill friend (nI (m + r)) (nI p) 1) (fX12_children_l29 0 (nI m) chg 0 (nI to) 0 un age2 skill2 friend2 now tape (nI k) (loopN _ (f2 + 1)) (nI p) (nI r) rd x2 1)
    rw [fX2_read_l19, fX12_children_l29, if_neg (show ¬ (1 : Int32) = 0 by decide), if_neg (show ¬ (1 : Int32) = 0 by decide)]
    by_cases h8 : m + r = 8
    · rw [if_pos (show (8 : Int32) ≤ nI (m + r) from nI_le (a := 8) (by omega) (by omega)), fX12_readsChild, if_pos (by rw [nI_add, h8]; rfl), ob_s, if_pos rfl, fX12_children_b55, fX12_children_b56, mend, mfail _ _ _ hp, fX2_read_b77, if_neg (by decide), fX2_read_b90]
      left
      exact ⟨p, age, skill, friend, nI p, nI r, rd, by omega, hS.1, rfl, rfl⟩
    · rw [if_neg (show ¬ (8 : Int32) ≤ nI (m + r) from nI_ge (b := 8) (by omega) (by omega))]
      rcases j_line hx ht hp (i := m + r) (m := m) (r := r) rfl (by omega) age skill friend rd with ⟨q, age', skill', rm', rd', hq, hj, e1, e2⟩ | ⟨q, a, s, f, hq1, hq2, ha1, ha2, hs1, hs2, hf, e1, e2⟩
      · rw [e1, e2, ob_s, ob_s, if_neg (neg q (by omega)), if_pos rfl, fX12_children_b55, fX12_children_b56, mend, mfail _ _ _ hq, fX2_read_b42]
        left
        exact ⟨q, age', skill', friend, nI q, rm', rd', by omega, fun j hj' => ⟨(hj j (by omega)).1.trans (hS.1 j hj').1, (hj j (by omega)).2.trans (hS.1 j hj').2.1, (hS.1 j hj').2.2⟩, rfl, rfl⟩
      · have hS' : chS m (r + 1) (upd age (m + r) (nI a)) (upd skill (m + r) (nI s)) (upd friend (m + r) f) age0 skill0 friend0 (upd (upd (upd rd (3 * r) (nI a)) (3 * r + 1) (nI s)) (3 * r + 2) f) := by
          obtain ⟨s1, s2, s3⟩ := hS
          refine ⟨?_, ?_, ?_⟩
          · intro j hj
            rw [pk_un (by omega), pk_un (by omega), pk_un (by omega)]; exact s1 j hj
          · intro c hc
            by_cases e : c = r
            · subst e
              rw [pk_us, pk_us, pk_us, pk_us, pk_un (by omega), pk_un (by omega), pk_us, pk_un (by omega), pk_us]
              exact ⟨rfl, rfl, rfl⟩
            · rw [pk_un (by omega), pk_un (by omega), pk_un (by omega), pk_un (by omega), pk_un (by omega), pk_un (by omega), pk_un (by omega), pk_un (by omega), pk_un (by omega), pk_un (by omega), pk_un (by omega), pk_un (by omega)]
              exact s2 c (by omega)
          · intro c hc
            by_cases e : c = r
            · subst e
              rw [pk_us, pk_us, pk_us]
              exact ⟨nI_le (a := 4) ha1 (by omega), nI_le (b := 13) ha2 (by omega), nI_le (a := 1) hs1 (by omega), nI_le (b := 9) hs2 (by omega), hf⟩
            · rw [pk_un (by omega), pk_un (by omega), pk_un (by omega)]
              exact s3 c (by omega)
        have sA : fX10_signAt (nI k) signs (nI q) 47 = some (sg b to q) := by
          rw [show (47 : Int32) = nI 47 from rfl, t_signAt hx q 47 (by omega) (by omega), ← ht]
        have tk := m_takes hx (show to ≤ k by omega) hq2 59
        have tk' : fX12_takes (nI q) (nI to) tape 59 = _ := tk
        rw [e1, e2, ob_s, ob_s, if_pos (nI_pos' (show q < 2 ^ 31 by omega)), if_neg (show ¬ (1 : Int32) = 0 by decide), sA, ob_s, tk', ob_s, nI_1, Nat.add_assoc]
        by_cases c : q < to ∧ b q = 59
        · have z1 : sg b to q = 59 := (sg_eq hb to q (x := 59) (by omega)).mpr c
          rw [if_pos z1, if_pos c, if_neg (show ¬ (1 : Int32) = 0 by decide), fX12_children_b56, fX2_read_b64, if_neg (by decide), nI_1]
          exact ih (r + 1) (q + 1) _ _ _ _ 1 (f1 + 1) (f2 + 1) (by omega) (by omega) (by omega) (by omega) (by omega) hS'
        · have z1 : ¬ sg b to q = 59 := fun w => c ((sg_eq hb to q (x := 59) (by omega)).mp w)
          have cend : ∀ (age skill friend : Nat → Int32) x2 x3, loopN (fun (s : (Nat → Int32) × (Nat → Int32) × (Nat → Int32) × Int32 × Int32 × Int32) k19 => fX2_read_l19 (nI m) pals (nI k) signs k19 s.1 s.2.1 s.2.2.1 s.2.2.2.1 s.2.2.2.2.1 s.2.2.2.2.2) (f1 + 1) (age, skill, friend, x2, x3, 0) = fX2_read_b77 (nI m) age skill friend pals (nI k) signs x2 x3 0 := by
            intro age skill friend x2 x3
            show fX2_read_l19 (nI m) pals (nI k) signs _ age skill friend x2 x3 0 = _
            rw [fX2_read_l19, if_pos rfl]
          rw [if_neg z1, if_neg c, if_pos rfl, fX12_children_b55, fX12_children_b56, mend, fX12_children_b60, flt_1 hk ht hq2, ob_s, fX2_read_b64, if_pos rfl, cend, fX2_read_b77, if_pos rfl]
          by_cases e : q = k
          · right
            refine ⟨r + 1, _, _, _, nI q, _, by omega, by omega, hS', ?_, ?_⟩
            · rw [if_pos (nI_le (by omega) (by omega))]
            · rw [if_pos e, if_pos (Int32.le_refl _)]
          · left
            refine ⟨q, _, _, _, nI q, nI (r + 1), upd (upd (upd rd (3 * r) (nI a)) (3 * r + 1) (nI s)) (3 * r + 2) f, by omega, hS'.1, ?_, ?_⟩
            · rw [if_neg (nI_ge (by omega) (by omega))]; rfl
            · rw [if_neg e, if_neg (neg q (by omega))]
/-! who is whose friend -/
def plZ (m : Nat) (pals : Nat → Int32) : Prop := ∀ k o, k < m → m ≤ o → o < 8 → bitB (pals k) o = false
theorem pal_f {friend : Nat → Int32} {m : Nat} (hf : frOk friend m) (hm : m ≤ 8) {o x : Nat} (ho : o < m) (hox : o ≤ x) (hx : x < 32) : ¬ friend o = nI x := by
  intro e
  rcases hf o ho with q | ⟨j, hj, q⟩
  · rw [q] at e; exact absurd (e ▸ nI_pos' (show x < 2 ^ 31 by omega)) (by decide)
  · rw [q, nI_eq (by omega) (by omega)] at e; omega
theorem t_befriend {m m' : Nat} (h8 : m' ≤ 8) (hmm : m ≤ m') {friend pals : Nat → Int32} (hf : frOk friend m') (hp : palsOk friend pals m) (hz : plZ m pals) : ∃ pals', fX2_befriend friend pals (nI m) (nI m') = some pals' ∧ palsOk friend pals' m' ∧ plZ m' pals' := by
  unfold fX2_befriend fX2_befriend_b2
  refine lp_inv (s := (pals, nI m)) (fun r => ∃ pals', r = some pals' ∧ palsOk friend pals' m' ∧ plZ m' pals') (fun i (s : (Nat → Int32) × Int32) => s.2 = nI (m + i) ∧ palsOk friend s.1 (m + i) ∧ plZ (m + i) s.1) (m' - m) (by omega) ⟨rfl, hp, hz⟩ ?_
  rintro i ⟨P, x⟩ K hi ⟨e, hP, hZ⟩
  dsimp only at e hP hZ
  subst e
  show (i < m' - m ∧ ∃ s', _ ∧ fX2_befriend_l2 friend (nI m') K P (nI (m + i)) = K s') ∨ (∃ pals', fX2_befriend_l2 friend (nI m') K P (nI (m + i)) = some pals' ∧ _)
  by_cases c : i < m' - m
  · left
    refine ⟨c, ?_⟩
    have hfx := hf (m + i) (by omega)
    have b0 : ∀ o, o < 32 → bitB 0 o = false := fun o ho => bitB_z rfl o ho
    rw [fX2_befriend_l2, if_neg (nI_ge (by omega) (by omega)), if_neg (show ¬ (8 : Int32) ≤ nI (m + i) from nI_ge (b := 8) (by omega) (by omega)), if_pos (inb_n (show m + i < 8 by omega) (by omega)), nI_clamp (by omega)]
    have bx : ∀ o, o ≤ m + i → ¬ friend o = nI (m + i) := fun o ho => pal_f hf h8 (show o < m' by omega) ho (by omega)
    rcases hfx with e | ⟨j, hj, e⟩
    · refine ⟨(upd P (m + i) 0, nI (m + i + 1)), ⟨rfl, ?_, ?_⟩, ?_⟩
      · intro k o hk ho
        dsimp only
        unfold palB
        have nx : ∀ o, o < 32 → ¬ friend (m + i) = nI o := fun o ho q => by
          rw [e] at q; exact absurd (q ▸ nI_pos' (show o < 2 ^ 31 by omega)) (by decide)
        by_cases ek : k = m + i
        · subst ek; rw [pk_us, b0 o (by omega)]
          simp [nx o (by omega), bx o (by omega)]
        · rw [pk_un ek]
          by_cases eo : o = m + i
          · subst eo; rw [hZ k (m + i) (by omega) (by omega) (by omega)]
            simp [nx k (by omega), bx k (by omega)]
          · exact hP k o (by omega) (by omega)
      · intro k o hk ho ho8
        dsimp only
        by_cases ek : k = m + i
        · subst ek; rw [pk_us, b0 o (by omega)]
        · rw [pk_un ek]; exact hZ k o (by omega) (by omega) ho8
      · rw [if_pos (by rw [e]; decide), fX2_befriend_b65, nI_1]
    · have jx : j ≠ m + i := by omega
      refine ⟨(upd (upd (upd P (m + i) 0) (m + i) ((upd P (m + i) 0) (m + i) ||| jshl 1 (nI j))) j ((upd (upd P (m + i) 0) (m + i) ((upd P (m + i) 0) (m + i) ||| jshl 1 (nI j))) j ||| jshl 1 (nI (m + i))), nI (m + i + 1)), ⟨rfl, ?_, ?_⟩, ?_⟩
      · intro k o hk ho
        dsimp only
        unfold palB
        by_cases ek : k = m + i
        · subst ek; rw [pk_un (Ne.symm jx), pk_us, pk_us, bitB_or1 _ (by omega) (by omega), b0 o (by omega), e]
          have : nI j = nI o ↔ o = j := by rw [nI_eq (by omega) (by omega)]; exact eq_comm
          simp [this, bx o (by omega)]
        · by_cases ekj : k = j
          · subst ekj
            rw [pk_us, pk_un jx, pk_un jx, bitB_or1 _ (by omega) (by omega)]
            by_cases eo : o = m + i
            · subst eo; simp [e]
            · rw [hP k o (by omega) (by omega)]; simp [eo, palB]
          · rw [pk_un ekj, pk_un ek, pk_un ek]
            by_cases eo : o = m + i
            · subst eo; rw [hZ k (m + i) (by omega) (by omega) (by omega), e]
              have : nI j = nI k ↔ j = k := nI_eq (by omega) (by omega)
              simp [this, bx k (by omega), Ne.symm ekj]
            · exact hP k o (by omega) (by omega)
      · intro k o hk ho ho8
        dsimp only
        by_cases ek : k = m + i
        · subst ek; rw [pk_un (Ne.symm jx), pk_us, pk_us, bitB_or1 _ (by omega) (by omega), b0 o (by omega)]
          simp; omega
        · by_cases ekj : k = j
          · subst ekj
            rw [pk_us, pk_un jx, pk_un jx, bitB_or1 _ (by omega) (by omega), hZ k o (by omega) (by omega) ho8]
            simp; omega
          · rw [pk_un ekj, pk_un ek, pk_un ek]; exact hZ k o (by omega) (by omega) ho8
      · rw [e, if_neg (nI_pos (by omega)), if_neg (nI_ge (by omega) (by omega)), if_pos (inb_n (show j < 8 by omega) (by omega)), nI_clamp (show j < 2 ^ 31 by omega), fX2_befriend_b65, nI_1]
  · right
    have : i = m' - m := by omega
    subst this
    rw [show m + (m' - m) = m' by omega] at hP hZ ⊢
    exact ⟨P, by rw [fX2_befriend_l2, if_pos (Int32.le_refl _)]; rfl, hP, hZ⟩
def spn {α : Type} (m r : Nat) (A f : Nat → α) : Nat → α := fun j => if m ≤ j ∧ j < m + r then A (j - m) else f j
theorem spn_s (m i : Nat) (A f : Nat → Int32) : upd (spn m i A f) (m + i) (A i) = spn m (i + 1) A f := by
  funext q
  unfold spn
  by_cases e : q = m + i
  · subst e; rw [pk_us, if_pos (by omega), show m + i - m = i by omega]
  · rw [pk_un e]
    have : (m ≤ q ∧ q < m + (i + 1)) ↔ (m ≤ q ∧ q < m + i) := by omega
    simp only [this]
theorem spn_0 (m : Nat) (A f : Nat → Int32) : spn m 0 A f = f := by
  funext q; unfold spn; rw [if_neg (by omega)]
theorem spn_lt {m r : Nat} {A f : Nat → Int32} {j : Nat} (h : j < m) : spn m r A f j = f j := by unfold spn; rw [if_neg (by omega)]
theorem spn_in {m r : Nat} {A f : Nat → Int32} {j : Nat} (h : j < r) : spn m r A f (m + j) = A j := by unfold spn; rw [if_pos (by omega), show m + j - m = j by omega]
theorem t_welcome {m r : Nat} (h8 : m + r ≤ 8) (mood place : Nat → Int32) : fX9_welcome mood place (nI (m + r)) (nI m) = some (spn m r (fun _ => 5) mood, spn m r (fun _ => -1) place) := by
  unfold fX9_welcome fX9_welcome_b2
  refine lp_up (fun i => (spn m i (fun _ => 5) mood, spn m i (fun _ => -1) place, nI (m + i))) r (by omega) ?_ ?_ ?_
  · rw [spn_0, spn_0]; rfl
  · intro i hi K
    show fX9_welcome_l2 (nI (m + r)) K (spn m i (fun _ => 5) mood) (spn m i (fun _ => -1) place) (nI (m + i)) = K (spn m (i + 1) (fun _ => 5) mood, spn m (i + 1) (fun _ => -1) place, nI (m + (i + 1)))
    rw [fX9_welcome_l2, if_neg (nI_ge (by omega) (by omega)), if_pos (inb_n (show m + i < 8 by omega) (by omega)), nI_clamp (by omega), nI_1, ← spn_s, ← spn_s]; rfl
  · intro K
    show fX9_welcome_l2 (nI (m + r)) K (spn m r (fun _ => 5) mood) (spn m r (fun _ => -1) place) (nI (m + r)) = _
    rw [fX9_welcome_l2, if_pos (Int32.le_refl _)]; rfl
def nwC (m r : Nat) (now : Nat → Int32) : Nat → Int32 := fun j => if 25 + 2 * m ≤ j ∧ j < 25 + 2 * (m + r) then (if (j - 25) % 2 = 0 then -1 else 5) else now j
theorem nwC_s (m i : Nat) (now : Nat → Int32) : upd (upd (nwC m i now) (25 + 2 * (m + i)) (-1)) (25 + 2 * (m + i) + 1) 5 = nwC m (i + 1) now := by
  funext q
  unfold nwC
  by_cases e : q = 25 + 2 * (m + i) + 1
  · subst e; rw [pk_us, if_pos (by omega), if_neg (by omega)]
  · rw [pk_un e]
    by_cases e2 : q = 25 + 2 * (m + i)
    · subst e2; rw [pk_us, if_pos (by omega), if_pos (by omega)]
    · rw [pk_un e2]
      have : (25 + 2 * m ≤ q ∧ q < 25 + 2 * (m + (i + 1))) ↔ (25 + 2 * m ≤ q ∧ q < 25 + 2 * (m + i)) := by omega
      simp only [this]
theorem ch_81 {m r : Nat} (h8 : m + r ≤ 8) (chg tp at_ to ne un : Int32) (age skill friend now tape rd : Nat → Int32) : fX12_children_b81 0 (nI m) chg tp at_ to ne (nI r) un age skill friend now tape rd 0 = fX12_children_b198 0 (nI (m + r)) chg tp at_ to ne (nI r) un (spn m r (fun c => rd (3 * c)) age) (spn m r (fun c => rd (3 * c + 1)) skill) (spn m r (fun c => rd (3 * c + 2)) friend) (nwC m r now) tape rd := by
  unfold fX12_children_b81
  refine lp_up (fun i => (nI (m + i), spn m i (fun c => rd (3 * c)) age, spn m i (fun c => rd (3 * c + 1)) skill, spn m i (fun c => rd (3 * c + 2)) friend, nwC m i now, nI i)) r (by omega) ?_ ?_ ?_
  · rw [spn_0, spn_0, spn_0]
    have : nwC m 0 now = now := by funext q; unfold nwC; rw [if_neg (by omega)]
    rw [this]; rfl
  · intro i hi K
    have e3 : (3 : Int32) * nI i = nI (3 * i) := pk_mul 3 i
    have e25 : (25 : Int32) + 2 * nI (m + i) = nI (25 + 2 * (m + i)) := by
      rw [show (2 : Int32) * nI (m + i) = nI (2 * (m + i)) from pk_mul 2 _]; exact nI_add 25 _
    have e0 : nI (25 + 2 * (m + i)) + 0 = nI (25 + 2 * (m + i)) := nI_add _ 0
    have e2 : nI (3 * i) + 2 = nI (3 * i + 2) := nI_add _ 2
    show fX12_children_l81 0 chg tp at_ to ne (nI r) un tape rd K (nI (m + i)) (spn m i (fun c => rd (3 * c)) age) (spn m i (fun c => rd (3 * c + 1)) skill) (spn m i (fun c => rd (3 * c + 2)) friend) (nwC m i now) (nI i) = K (nI (m + (i + 1)), spn m (i + 1) (fun c => rd (3 * c)) age, spn m (i + 1) (fun c => rd (3 * c + 1)) skill, spn m (i + 1) (fun c => rd (3 * c + 2)) friend, nwC m (i + 1) now, nI (i + 1))
    rw [fX12_children_l81, if_neg (nI_ge hi (by omega)), e3, if_pos (inb_n (show 3 * i < 36 by omega) (by omega)), if_pos (inb_n (show m + i < 8 by omega) (by omega)), nI_1 (3 * i), if_pos (inb_n (show 3 * i + 1 < 36 by omega) (by omega)), e2, if_pos (inb_n (show 3 * i + 2 < 36 by omega) (by omega)), e25, e0, nI_1 (25 + 2 * (m + i)), if_pos (inb_n (show 25 + 2 * (m + i) < 43 by omega) (by omega)), if_pos (inb_n (show 25 + 2 * (m + i) + 1 < 43 by omega) (by omega)), nI_clamp (show 3 * i < 2 ^ 31 by omega), nI_clamp (show 3 * i + 1 < 2 ^ 31 by omega), nI_clamp (show 3 * i + 2 < 2 ^ 31 by omega), nI_clamp (show m + i < 2 ^ 31 by omega), nI_clamp (show 25 + 2 * (m + i) < 2 ^ 31 by omega), nI_clamp (show 25 + 2 * (m + i) + 1 < 2 ^ 31 by omega), nI_1, nI_1, ← spn_s, ← spn_s, ← spn_s, ← nwC_s]
    rfl
  · intro K
    show fX12_children_l81 0 chg tp at_ to ne (nI r) un tape rd K (nI (m + r)) (spn m r (fun c => rd (3 * c)) age) (spn m r (fun c => rd (3 * c + 1)) skill) (spn m r (fun c => rd (3 * c + 2)) friend) (nwC m r now) (nI r) = _
    rw [fX12_children_l81, if_pos (Int32.le_refl _)]
