/-! ===== children ===== -/
def sg (b : Nat → Nat) (to p : Nat) : Int32 := if p < to then nI (b p) else -1
theorem t_signAt {k : Nat} {b : Nat → Nat} {signs tape : Nat → Int32} (hx : txB k b signs tape) (p L : Nat) (hp : p < 1000) (hL : L < 1000) : fX10_signAt (nI k) signs (nI p) (nI L) = some (sg b (min k L) p) := by
  have h1 := hx.1
  rw [fX10_signAt, if_neg (nI_pos (by omega))]
  unfold sg
  by_cases c : p < k
  · rw [if_neg (nI_ge c (by omega))]
    by_cases d : p < L
    · rw [if_neg (nI_ge d (by omega)), if_pos (inb_n (show p < 80 by omega) (by omega)), nI_clamp (by omega), (hx.2.2 p c).1, if_pos (by omega)]; rfl
    · rw [if_pos (nI_le (by omega) (by omega)), if_neg (by omega)]; rfl
  · rw [if_pos (nI_le (by omega) (by omega)), if_neg (by omega)]; rfl
theorem sg_dg {b : Nat → Nat} (hb : ∀ i, b i < 256) (to p : Nat) : fX11_isDigit (sg b to p) = some (b2i (decide (p < to) && dg (b p))) := by
  unfold sg
  by_cases c : p < to
  · rw [if_pos c, t_dg (hb p)]; simp [c]
  · rw [if_neg c, t_isDigit]; simp [c]
theorem sg_eq {b : Nat → Nat} (hb : ∀ i, b i < 256) (to p : Nat) {x : Nat} (hx : x < 256) : (sg b to p = nI x) ↔ (p < to ∧ b p = x) := by
  unfold sg
  by_cases c : p < to
  · rw [if_pos c, nI_eq (by have := hb p; omega) (by omega)]; simp [c]
  · rw [if_neg c]
    constructor
    · intro q; exact absurd (q.symm ▸ nI_pos' (show x < 2 ^ 31 by omega)) (by decide)
    · intro q; exact absurd q.1 c
theorem m_signIn {k : Nat} {b : Nat → Nat} {signs tape : Nat → Int32} (hx : txB k b signs tape) {p to : Nat} (ht : to ≤ k) (hp : p ≤ to) (s a e : Int32) : fX12_signIn (nI p) (nI to) tape s a e = some (if p < to ∧ a ≤ nI (b p) - s ∧ nI (b p) - s ≤ e then (nI (b p) - s, nI (p + 1)) else (-1, nI p)) := by
  have h1 := hx.1
  rw [fX12_signIn]
  by_cases c : p < to
  · rw [if_neg (nI_ge c (by omega)), if_pos (inb_n (show p < 80 by omega) (by omega)), nI_clamp (by omega), (hx.2.2 p (by omega)).2, t_in (nI (b p) - s) a e rfl rfl, ob_s]
    by_cases d : a ≤ nI (b p) - s ∧ nI (b p) - s ≤ e
    · rw [if_neg (by simp [d, b2i]), nI_1, show nI (p + 1) - 1 = nI p from nI_pred p, if_pos (inb_n (show p < 80 by omega) (by omega)), nI_clamp (by omega), (hx.2.2 p (by omega)).2, if_pos ⟨c, d⟩]
    · rw [if_pos (by simpa [b2i] using d), if_neg (fun q => d q.2)]; rfl
  · rw [if_pos (nI_le (by omega) (by omega)), if_neg (fun q => c q.1)]; rfl
theorem m_numIn {k : Nat} {b : Nat → Nat} {signs tape : Nat → Int32} (hx : txB k b signs tape) {p to : Nat} (ht : to ≤ k) (hp : p ≤ to) {w : Nat} (hw : w ≤ 8) (lo hi : Nat) (hl : lo < 1000) (hh : hi < 1000) : fX12_numberIn (nI p) (nI to) tape (nI w) (nI lo) (nI hi) = some (if p < to ∧ dg (b p) = true then (if lo ≤ (nmS b to w p 0).1 ∧ (nmS b to w p 0).1 ≤ hi then (nI (nmS b to w p 0).1, nI (nmS b to w p 0).2) else (-1, nI (nmS b to w p 0).2 - 1)) else (-1, nI p)) := by
  rw [fX12_numberIn, m_number hx ht hp hw, ob_s]
  have v := nmS_v (b := b) (to := to) (w := w) (p := p) (v := 0)
  have w2 : 10 ^ w ≤ 10 ^ 8 := Nat.pow_le_pow_right (by omega) hw
  by_cases c : p < to ∧ dg (b p) = true
  · rw [if_pos c, if_pos c, if_neg (nI_pos (by omega)), t_in (nI (nmS b to w p 0).1) (nI lo) (nI hi) rfl rfl, ob_s]
    simp only [nI_leI (show lo < 2 ^ 31 by omega) (show (nmS b to w p 0).1 < 2 ^ 31 by omega), nI_leI (show (nmS b to w p 0).1 < 2 ^ 31 by omega) (show hi < 2 ^ 31 by omega)]
    by_cases d : lo ≤ (nmS b to w p 0).1 ∧ (nmS b to w p 0).1 ≤ hi
    · rw [if_neg (by simp [d, b2i]), if_pos d]; rfl
    · rw [if_pos (by simpa [b2i] using d), if_neg d]
  · rw [if_neg c, if_neg c, if_pos (show (-1 : Int32) < 0 by decide)]; rfl
theorem age_v {c : Nat} (h : dg c = true) : nI c - 48 = nI (c - 48) := dg_v h
theorem skill_c {c : Nat} (h : c < 256) : (49 ≤ nI c ∧ nI c ≤ 57) ↔ (1 ≤ nI c - 48 ∧ nI c - 48 ≤ 9) := (by decide +kernel : ∀ c, c < 256 → ((49 ≤ nI c ∧ nI c ≤ 57) ↔ (1 ≤ nI c - 48 ∧ nI c - 48 ≤ 9))) c h
/-- both read one child's line -/
theorem j_line {k : Nat} {b : Nat → Nat} {signs tape : Nat → Int32} (hx : txB k b signs tape) {to : Nat} (ht : to = min k 47) {p i m r : Nat} (hp : p ≤ to) (hi : i = m + r) (h8 : i < 8) (age skill friend rd : Nat → Int32) :
    (∃ q age' skill' rm' rd', q ≤ to ∧ (∀ j, j ≠ i → age' j = age j ∧ skill' j = skill j) ∧ fX2_readLine age skill friend (nI k) signs (nI p) (nI i) = some (-1 - nI q, age', skill', friend) ∧ fX12_readsChild (nI m) (nI p) (nI to) (nI r) tape rd = some (0, nI q, rm', rd')) ∨
    (∃ q a s f, p < q ∧ q ≤ to ∧ 4 ≤ a ∧ a ≤ 13 ∧ 1 ≤ s ∧ s ≤ 9 ∧ (f = -1 ∨ ∃ j, j < i ∧ f = nI j) ∧ fX2_readLine age skill friend (nI k) signs (nI p) (nI i) = some (nI q, upd age i (nI a), upd skill i (nI s), upd friend i f) ∧ fX12_readsChild (nI m) (nI p) (nI to) (nI r) tape rd = some (1, nI q, nI (r + 1), upd (upd (upd rd (3 * r) (nI a)) (3 * r + 1) (nI s)) (3 * r + 2) f)) := by
  have h80 := hx.1
  have hb := hx.2.1
  have htk : to ≤ k := by omega
  have ht47 : to ≤ 47 := by omega
  have c47 : (47 : Int32) = nI 47 := rfl
  have sA : ∀ p, p < 1000 → fX10_signAt (nI k) signs (nI p) 47 = some (sg b to p) := fun p hp => by
    rw [c47, t_signAt hx p 47 hp (by omega), ← ht]
  have n8 : ¬ nI m + nI r = 8 := by
    rw [nI_add, show (8 : Int32) = nI 8 from rfl, nI_eq (by omega) (by omega)]; omega
  have lt8 : nI i < 8 := nI_lt (b := 8) h8 (by omega)
  have e3 : (3 : Int32) * nI r = nI (3 * r) := pk_mul 3 r
  have nu := m_numIn hx htk hp (w := 2) (by omega) 4 13 (by omega) (by omega)
  have nu' : fX12_numberIn (nI p) (nI to) tape 2 4 13 = _ := nu
  have i36 : inb (nI (3 * r)) 36 := inb_n (by omega) (by omega)
  have i37 : inb (nI (3 * r + 1)) 36 := inb_n (by omega) (by omega)
  have i38 : inb (nI (3 * r + 2)) 36 := inb_n (by omega) (by omega)
  have cl0 : (nI (3 * r)).toNatClampNeg = 3 * r := nI_clamp (by omega)
  have cl1 : (nI (3 * r + 1)).toNatClampNeg = 3 * r + 1 := nI_clamp (by omega)
  have cl2 : (nI (3 * r + 2)).toNatClampNeg = 3 * r + 2 := nI_clamp (by omega)
  have a1 : nI (3 * r) + 1 = nI (3 * r + 1) := nI_1 _
  have a2 : nI (3 * r) + 2 = nI (3 * r + 2) := nI_add _ 2
  rw [fX12_readsChild, if_neg n8, nu', ob_s, e3, if_pos i36, cl0, pk_us]
  rw [fX2_readLine, sA p (by omega), ob_s, sg_dg hb, ob_s]
  by_cases d1 : p < to ∧ dg (b p) = true
  · have r1 := dg_r d1.2
    rw [if_neg (by simp [d1, b2i]), if_pos lt8, if_pos d1, nI_1, sA (p + 1) (by omega), ob_s, sg_dg hb, ob_s]
    -- the age and where it ends
    obtain ⟨v, q, hv, hvq, hq1, hq2, hcl⟩ : ∃ v q, v < 100 ∧ nmS b to 2 p 0 = (v, q) ∧ p < q ∧ q ≤ to ∧ (if b2i (decide (p + 1 < to) && dg (b (p + 1))) = 0 then fX2_readLine_b76 age skill friend (nI k) signs (nI i) (nI (p + 1)) (sg b to p - 48) else fX2_readLine_b76 age skill friend (nI k) signs (nI i) (nI (p + 1) + 1) (10 * (sg b to p - 48) + sg b to (p + 1) - 48)) = fX2_readLine_b76 age skill friend (nI k) signs (nI i) (nI q) (nI v) := by
      have es : sg b to p - 48 = nI (b p - 48) := by unfold sg; rw [if_pos d1.1]; exact dg_v d1.2
      by_cases d2 : p + 1 < to ∧ dg (b (p + 1)) = true
      · have r2 := dg_r d2.2
        refine ⟨10 * (b p - 48) + (b (p + 1) - 48), p + 2, by omega, ?_, by omega, by omega, ?_⟩
        · simp [nmS, d1, d2]
        · rw [if_neg (by simp [d2, b2i]), es, nI_1]
          congr 1
          unfold sg
          rw [if_pos d2.1, show (10 : Int32) * nI (b p - 48) = nI (10 * (b p - 48)) from pk_mul 10 _, nI_add, show (48 : Int32) = nI 48 from rfl, pk_sub (by omega)]
          congr 1; omega
      · refine ⟨b p - 48, p + 1, by omega, ?_, by omega, by omega, ?_⟩
        · simp [nmS, d1]
          intro h1; simpa [h1] using d2
        · have z : b2i (decide (p + 1 < to) && dg (b (p + 1))) = 0 := by
            by_cases h : p + 1 < to
            · simp [show dg (b (p + 1)) = false by simpa [h] using d2, b2i]
            · simp [h, b2i]
          rw [if_pos z, es]
    rw [hcl, hvq]
    have hwt : fX11_within (nI v) 4 13 = some (b2i (decide (4 ≤ v ∧ v ≤ 13))) := by
      rw [t_within]
      congr 2
      have x1 : (4 : Int32) ≤ nI v ↔ 4 ≤ v := nI_leI (a := 4) (by omega) (by omega)
      have x2 : nI v ≤ (13 : Int32) ↔ v ≤ 13 := nI_leI (b := 13) (by omega) (by omega)
      simp only [x1, x2]
    rw [fX2_readLine_b76, hwt, ob_s]
    by_cases d3 : 4 ≤ v ∧ v ≤ 13
    · rw [if_neg (by simp [d3, b2i]), if_pos d3, if_neg (nI_pos (by omega)), sA q (by omega), ob_s]
      have tk := m_takes hx htk hq2 44
      have tk' : fX12_takes (nI q) (nI to) tape 44 = _ := tk
      rw [tk', ob_s]
      by_cases d4 : q < to ∧ b q = 44
      · have z1 : sg b to q = 44 := (sg_eq hb to q (x := 44) (by omega)).mpr d4
        rw [if_pos z1, if_pos d4, if_neg (show ¬ (1 : Int32) = 0 by decide), nI_1, sA (q + 1) (by omega), ob_s, m_signIn hx htk (by omega), ob_s, a1, if_pos i37, cl1, pk_us, t_within, ob_s]
        by_cases d5 : q + 1 < to ∧ 1 ≤ nI (b (q + 1)) - 48 ∧ nI (b (q + 1)) - 48 ≤ 9
        · have y := (skill_c (hb (q + 1))).mpr d5.2
          have y1 : 49 ≤ b (q + 1) := (nI_leI (a := 49) (by omega) (by have := hb (q + 1); omega)).mp y.1
          have y2 : b (q + 1) ≤ 57 := (nI_leI (b := 57) (by have := hb (q + 1); omega) (by omega)).mp y.2
          have es : sg b to (q + 1) = nI (b (q + 1)) := by unfold sg; rw [if_pos d5.1]
          have ev : nI (b (q + 1)) - 48 = nI (b (q + 1) - 48) := pk_sub (b := 48) (by omega)
          rw [if_pos d5, es, if_neg (by simp [y, b2i]), if_pos (inb_n h8 (by omega)), nI_1, sA (q + 1 + 1) (by omega), ob_s, ev, if_pos (nI_pos' (by omega)), nI_clamp (by omega)]
          have tk := m_takes hx htk (p := q + 1 + 1) (by omega) 45
          have tk' : fX12_takes (nI (q + 1 + 1)) (nI to) tape 45 = _ := tk
          rw [tk', ob_s]
          by_cases d6 : q + 1 + 1 < to ∧ b (q + 1 + 1) = 45
          · have z1 : sg b to (q + 1 + 1) = 45 := (sg_eq hb to (q + 1 + 1) (x := 45) (by omega)).mpr d6
            right
            refine ⟨q + 1 + 1 + 1, v, b (q + 1) - 48, -1, by omega, by omega, d3.1, d3.2, by omega, by omega, Or.inl rfl, ?_, ?_⟩
            · rw [if_pos z1, fX2_readLine_b198, if_pos z1, fX2_readLine_b219, if_pos (inb_n h8 (by omega)), nI_1, nI_clamp (by omega)]
            · rw [if_pos d6, if_neg (show ¬ (1 : Int32) = 0 by decide), a2, fX12_readsChild_b127, if_pos i38, if_neg (show ¬ (1 : Int32) = 0 by decide), fX12_readsChild_b153, fX12_readsChild_b158, if_pos (Or.inr rfl), cl2, nI_1]
          · have z1 : ¬ sg b to (q + 1 + 1) = 45 := fun w => d6 ((sg_eq hb to (q + 1 + 1) (x := 45) (by omega)).mp w)
            rw [if_neg z1, if_neg d6, if_pos rfl, m_signIn hx htk (by omega), ob_s, t_within, ob_s, nI_add, ← hi]
            by_cases d7 : q + 1 + 1 < to ∧ 0 ≤ nI (b (q + 1 + 1)) - 97 ∧ nI (b (q + 1 + 1)) - 97 ≤ nI i - 1
            · have es : sg b to (q + 1 + 1) = nI (b (q + 1 + 1)) := by unfold sg; rw [if_pos d7.1]
              have hi0 : 1 ≤ i := by
                rcases Nat.eq_zero_or_pos i with e | e
                · exfalso
                  have := d7.2
                  rw [e] at this
                  exact absurd (Int32.le_trans this.1 this.2) (by decide)
                · exact e
              rw [show nI i - 1 = nI (i - 1) from pk_sub (b := 1) hi0] at d7 ⊢
              obtain ⟨j, -, hj, ej⟩ := rng_n (a := 0) (b := i - 1) (by omega) (by omega) d7.2
              right
              refine ⟨q + 1 + 1 + 1, v, b (q + 1) - 48, nI j, by omega, by omega, d3.1, d3.2, by omega, by omega, Or.inr ⟨j, by omega, rfl⟩, ?_, ?_⟩
              · rw [es, if_neg (by simp [d7.2, b2i]), fX2_readLine_b198, if_neg (es ▸ z1), fX2_readLine_b219, if_pos (inb_n h8 (by omega)), nI_1, nI_clamp (by omega), ej]
              · rw [if_pos d7, ej, a2, fX12_readsChild_b127, if_pos i38, if_pos rfl, a2, if_pos i38, cl2, pk_us, if_neg (nI_pos (by omega)), fX12_readsChild_b153, fX12_readsChild_b158, if_pos (Or.inr rfl), nI_1]
            · left
              refine ⟨q + 1 + 1, upd age i (nI v), upd skill i (nI (b (q + 1) - 48)), nI r + 1, upd (upd (upd rd (3 * r) (nI v)) (3 * r + 1) (nI (b (q + 1) - 48))) (3 * r + 2) (-1), by omega, fun j hj => ⟨pk_un hj, pk_un hj⟩, ?_, ?_⟩
              · have z2 : ¬ (0 ≤ sg b to (q + 1 + 1) - 97 ∧ sg b to (q + 1 + 1) - 97 ≤ nI i - 1) := by
                  unfold sg
                  by_cases w : q + 1 + 1 < to
                  · rw [if_pos w]; exact fun u => d7 ⟨w, u⟩
                  · rw [if_neg w]; exact fun u => absurd u.1 (by decide)
                rw [if_pos (by simpa [b2i] using z2)]
              · rw [if_neg d7, a2, fX12_readsChild_b127, if_pos i38, if_pos rfl, a2, if_pos i38, cl2, pk_us, if_pos (show (-1 : Int32) < 0 by decide), fX12_readsChild_b158, if_pos (Or.inl rfl)]
        · left
          have z2 : ¬ (49 ≤ sg b to (q + 1) ∧ sg b to (q + 1) ≤ 57) := by
            unfold sg
            by_cases w : q + 1 < to
            · rw [if_pos w]; exact fun u => d5 ⟨w, (skill_c (hb (q + 1))).mp u⟩
            · rw [if_neg w]; exact fun u => absurd u.1 (by decide)
          refine ⟨q + 1, age, skill, nI r, upd (upd rd (3 * r) (nI v)) (3 * r + 1) (-1), by omega, fun j hj => ⟨rfl, rfl⟩, ?_, ?_⟩
          · rw [if_pos (by simpa [b2i] using z2)]
          · rw [if_neg d5, if_neg (show ¬ (0 : Int32) ≤ -1 by decide)]
      · have z1 : ¬ sg b to q = 44 := fun w => d4 ((sg_eq hb to q (x := 44) (by omega)).mp w)
        left
        refine ⟨q, age, skill, nI r, upd rd (3 * r) (nI v), by omega, fun j hj => ⟨rfl, rfl⟩, ?_, ?_⟩
        · rw [if_neg z1]
        · rw [if_neg d4, if_pos rfl, fX12_readsChild_b55]
    · left
      refine ⟨q - 1, age, skill, nI r, upd rd (3 * r) (-1), by omega, fun j hj => ⟨rfl, rfl⟩, ?_, ?_⟩
      · rw [if_pos (by simpa [b2i] using d3), show nI (q - 1) = nI q - 1 from (pk_sub (b := 1) (by omega)).symm]
        have : - nI q = -1 - (nI q - 1) := by grind
        rw [this]
      · rw [if_neg d3, if_pos (show (-1 : Int32) < 0 by decide), fX12_readsChild_b55, show nI q - 1 = nI (q - 1) from pk_sub (b := 1) (by omega)]
  · left
    have z : b2i (decide (p < to) && dg (b p)) = 0 := by
      by_cases h : p < to
      · simp [show dg (b p) = false by simpa [h] using d1, b2i]
      · simp [h, b2i]
    refine ⟨p, age, skill, nI r, upd rd (3 * r) (-1), hp, fun j hj => ⟨rfl, rfl⟩, ?_, ?_⟩
    · rw [if_pos z, fX2_readLine_b27]
    · rw [if_neg d1, if_pos (show (-1 : Int32) < 0 by decide), fX12_readsChild_b55]
