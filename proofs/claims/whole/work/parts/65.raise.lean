/-! ===== raise ===== -/
theorem ctN_sub {p q : Nat → Bool} : ∀ {n : Nat}, (∀ i, i < n → p i = true → q i = true) → ctN p n ≤ ctN q n
  | 0, _ => Nat.le_refl _
  | n + 1, h => by
    have h1 := ctN_sub (n := n) (p := p) (q := q) (fun i hi => h i (by omega))
    have h2 := h n (by omega)
    simp only [ctN]
    cases hp : p n <;> cases hq : q n <;> simp_all <;> omega
theorem ctN_sub_eq {p q : Nat → Bool} : ∀ {n : Nat}, (∀ i, i < n → p i = true → q i = true) → ctN q n ≤ ctN p n → ∀ i, i < n → p i = q i
  | 0, _, _, i, hi => by omega
  | n + 1, h, hc, i, hi => by
    have h1 := ctN_sub (n := n) (p := p) (q := q) (fun i hi => h i (by omega))
    have h2 := h n (by omega)
    simp only [ctN] at hc
    have hn : p n = q n := by
      cases hp : p n <;> cases hq : q n <;> simp_all <;> omega
    by_cases e : i = n
    · subst e; exact hn
    · rw [hn] at hc
      exact ctN_sub_eq (fun i hi => h i (by omega)) (Nat.le_of_add_le_add_right hc) i (by omega)
theorem sh_bits {n c : Nat} (hn : n ≤ 32) (hc : c < n) : jshl 1 (nI c) = bitsN (fun j => decide (j = c)) n := by
  apply b_ext
  intro i hi
  rw [b_sh1 c (by omega) hi, b_bits _ n hn i hi]
  by_cases e : i = c
  · subst e; simp [hc]
  · simp [e]
def wkB (n c : Nat) (v : Int32) (d : Nat → Int32) (j : Nat) : Bool := decide (j + 1 < n) && (decide (j + 1 = c) || decide (j = c)) && !decide (v ≤ d j + 1)
def dkS (n S : Nat) (d : Nat → Int32) (k : Nat) : Int32 := if k + 1 < n then (if S.testBit k then 9 else d k) else d k
theorem wr1 {v x y dy : Int32} (h1 : 1 ≤ v) (h2 : v ≤ 999) (h3 : 0 ≤ dy) (h4 : dy ≤ 9) (hx : v ≤ x) (hx2 : x ≤ 999) (hy : x - dy - 1 ≤ y) (h : ¬ v ≤ dy + 1) : ¬ y ≤ 0 := by grind
theorem wr2 {v dy : Int32} (h1 : 1 ≤ v) (h2 : v ≤ 999) (h3 : 0 ≤ dy) (h4 : dy ≤ 9) (h : v ≤ dy + 1) : v - dy - 1 ≤ 0 ∧ 0 - dy - 1 ≤ v := by grind
theorem wr3 {dy : Int32} (h3 : 0 ≤ dy) (h4 : dy ≤ 9) : (0 : Int32) - dy - 1 ≤ 0 := by grind
theorem wr4 {v : Int32} (h : ¬ v ≤ 9 + 1) : ¬ v ≤ 10 := by grind
theorem wr5 {v dy : Int32} (h3 : 0 ≤ dy) (h4 : dy ≤ 9) (h : v ≤ dy + 1) : v ≤ 10 := by grind
theorem fl_good {n : Nat} (hn : n ≤ 12) {c : Nat} (hc : c < n) {v : Int32} (hv : 1 ≤ v ∧ v ≤ 999) {d K : Nat → Int32} (hy : dyOk n d) (S : Nat) (hK : leastK n (dkS n S d) (flD c v) K) : (bitsN (fun j => !decide (K j ≤ 0)) n = jshl 1 (nI c)) ↔ ∀ j, j < n → wkB n c v d j = true → S.testBit j = true ∧ v ≤ 10 := by
  obtain ⟨k1, k2, k3, k4⟩ := hK
  have hS : ∀ j, j < n → 0 ≤ dkS n S d j ∧ dkS n S d j ≤ 9 := fun j hj => by
    unfold dkS
    split
    · split
      · decide
      · exact hy j hj
    · exact hy j hj
  have rD : rng n (flD c v) := fun j hj => by
    unfold flD
    split
    · exact ⟨by have := hv.1; grind, hv.2⟩
    · decide
  rw [sh_bits (by omega) hc]
  constructor
  · intro h j hj hw
    simp only [wkB, Bool.and_eq_true, Bool.or_eq_true, decide_eq_true_eq, Bool.not_eq_true', decide_eq_false_iff_not] at hw
    obtain ⟨⟨w1, w2⟩, w3⟩ := hw
    have zero : ∀ i, i < n → i ≠ c → K i ≤ 0 := fun i hi hne => by
      have := bits_eq (by omega) h hi
      simpa [hne] using this
    have kc : v ≤ K c := by
      have := k2 c hc
      unfold flD at this
      rw [if_pos rfl] at this; exact this
    have dj : dkS n S d j = if S.testBit j then 9 else d j := by unfold dkS; rw [if_pos w1]
    have st := k3 j w1
    have hle : v ≤ dkS n S d j + 1 := by
      refine Classical.byContradiction fun hne => ?_
      rcases w2 with w2 | w2
      · have z := zero j hj (by omega)
        rw [w2] at st
        exact wr1 hv.1 hv.2 (hS j hj).1 (hS j hj).2 kc (k1 c hc).2 st.2 hne z
      · have z := zero (j + 1) w1 (by omega)
        rw [w2] at st hne z
        exact wr1 hv.1 hv.2 (hS c hc).1 (hS c hc).2 kc (k1 c hc).2 st.1 hne z
    rw [dj] at hle
    cases hb : S.testBit j
    · rw [hb] at hle; exact absurd hle w3
    · rw [hb] at hle; exact ⟨rfl, hle⟩
  · intro h
    have hd : ∀ j, j + 1 < n → (j + 1 = c ∨ j = c) → v ≤ dkS n S d j + 1 := by
      intro j hj hc2
      have dj : dkS n S d j = if S.testBit j then 9 else d j := by unfold dkS; rw [if_pos hj]
      rw [dj]
      by_cases hw : v ≤ d j + 1
      · cases hb : S.testBit j
        · exact hw
        · exact wr5 (hy j (by omega)).1 (hy j (by omega)).2 hw
      · have := h j (by omega) (by
          simp only [wkB, Bool.and_eq_true, Bool.or_eq_true, decide_eq_true_eq, Bool.not_eq_true', decide_eq_false_iff_not]
          exact ⟨⟨hj, hc2⟩, hw⟩)
        rw [this.1]; exact this.2
    have st : stab n (dkS n S d) (flD c v) := by
      intro j hj
      have hs := hS j (by omega)
      unfold flD
      by_cases e1 : j = c
      · have e2 : ¬ j + 1 = c := by omega
        rw [if_pos e1, if_neg e2]
        exact wr2 hv.1 hv.2 hs.1 hs.2 (hd j hj (Or.inr e1))
      · by_cases e2 : j + 1 = c
        · rw [if_neg e1, if_pos e2]
          have := wr2 hv.1 hv.2 hs.1 hs.2 (hd j hj (Or.inl e2))
          exact ⟨this.2, this.1⟩
        · rw [if_neg e1, if_neg e2]
          have := wr3 hs.1 hs.2
          exact ⟨this, this⟩
    have hle := k4 (flD c v) rD (fun _ _ => Int32.le_refl _) st
    apply bitsN_congr
    intro j hj
    have l1 := hle j hj
    have l2 := k2 j hj
    unfold flD at l1 l2
    by_cases e : j = c
    · rw [if_pos e] at l2
      have : ¬ K j ≤ 0 := by have := hv.1; grind
      simp [e] at this ⊢
      exact this
    · rw [if_neg e] at l1
      simp [e, l1]
theorem dk_fill {n S : Nat} (hS : S < 2 ^ 11) {was cur : Nat → Int32} {j : Nat} (hj : j < 12) : fillN (dkS n S was) cur j = fillN (dkS n S was) cur j := rfl
def raG (n c : Nat) (v : Int32) (d : Nat → Int32) (S : Nat) : Prop := ∀ j, j < n → wkB n c v d j = true → S.testBit j = true ∧ v ≤ 10
theorem c_raise {n : Nat} {base dyke base' dyke' : Nat → Int32} {ts tr : Int32} {tn tw : Nat → Int64} (hn : n ≤ 12) (h1 : 1 ≤ n) (hl : laR n base dyke base' dyke') (ht : toR ts tn tr tw) (x y : Int32) (th wd : Nat → Int32) (thrown : Int32) : ∃ a ts' tn' tr' tw' dk th' wd', fX11_raise (nI n) dyke ts tn x y = some (a, ts', tn') ∧ fX12_raise thrown tr (nI n) tw dyke' th wd x y = some (a, 0, tr', tw', dk, th', wd') ∧ toR ts' tn' tr' tw' ∧ ∀ c, c < 12 → dk c = dyke' c := by
  obtain ⟨l1, l2, l3⟩ := hl
  by_cases hx : 0 ≤ x ∧ x < nI n
  · by_cases hy : 1 ≤ y ∧ y ≤ 999
    · obtain ⟨c, hc, rfl⟩ := ix_of (by omega) hx
      have hdy' : dyOk n dyke' := fun j hj => by rw [(l1 j hj).2]; exact l3 j hj
      -- the class
      have eC : fX11_raise (nI n) dyke ts tn (nI c) y = fX11_raise_b89 (nI n) dyke ts tn y (bitsN (wkB n c y dyke) n) := by
        have hw2 : bitsN (wkB n c y dyke) n = (if 0 < c ∧ ¬ y ≤ dyke (c - 1) + 1 then jshl 1 (nI (c - 1)) else 0) ||| (if c + 1 < n ∧ ¬ y ≤ dyke c + 1 then jshl 1 (nI c) else 0) := by
          apply b_ext
          intro i hi
          rw [b_bits _ n (by omega) i hi, b_or]
          have a1 : bt (if 0 < c ∧ ¬ y ≤ dyke (c - 1) + 1 then jshl 1 (nI (c - 1)) else 0) i = (decide (0 < c ∧ ¬ y ≤ dyke (c - 1) + 1) && decide (i = c - 1)) := by
            by_cases g : 0 < c ∧ ¬ y ≤ dyke (c - 1) + 1
            · rw [if_pos g, b_sh1 (c - 1) (by omega) hi, decide_eq_true g, Bool.true_and]
            · rw [if_neg g, b_0, decide_eq_false g, Bool.false_and]
          have a2 : bt (if c + 1 < n ∧ ¬ y ≤ dyke c + 1 then jshl 1 (nI c) else 0) i = (decide (c + 1 < n ∧ ¬ y ≤ dyke c + 1) && decide (i = c)) := by
            by_cases g : c + 1 < n ∧ ¬ y ≤ dyke c + 1
            · rw [if_pos g, b_sh1 c (by omega) hi, decide_eq_true g, Bool.true_and]
            · rw [if_neg g, b_0, decide_eq_false g, Bool.false_and]
          rw [a1, a2, Bool.eq_iff_iff]
          simp only [wkB, Bool.and_eq_true, Bool.or_eq_true, decide_eq_true_eq, Bool.not_eq_true', decide_eq_false_iff_not]
          constructor
          · rintro ⟨q1, ⟨q2, q3 | q3⟩, q4⟩
            · left
              have : i = c - 1 := by omega
              subst this
              exact ⟨⟨by omega, q4⟩, rfl⟩
            · right
              subst q3
              exact ⟨⟨q2, q4⟩, rfl⟩
          · rintro (⟨⟨q1, q2⟩, q3⟩ | ⟨⟨q1, q2⟩, q3⟩)
            · subst q3
              exact ⟨by omega, ⟨by omega, Or.inl (by omega)⟩, q2⟩
            · subst q3
              exact ⟨by omega, ⟨q1, Or.inr rfl⟩, q2⟩
        have e55 : ∀ w : Int32, fX11_raise_b55 (nI n) dyke ts tn (nI c) y w = fX11_raise_b89 (nI n) dyke ts tn y (w ||| (if c + 1 < n ∧ ¬ y ≤ dyke c + 1 then jshl 1 (nI c) else 0)) := by
          intro w
          have w0 : w ||| 0 = w := by
            apply b_ext; intro i _; rw [b_or, b_0]; simp
          by_cases g1 : c + 1 < n
          · have g2 : ¬ nI n ≤ nI (c + 1) := nI_ge g1 (by omega)
            have cl : (nI c).toNatClampNeg = c := nI_clamp (by omega)
            by_cases g3 : y ≤ dyke c + 1
            · simp only [fX11_raise_b55, nI_1, if_neg g2, if_pos (inb_n (show c < 12 by omega) (by omega)), cl, if_pos g3]
              rw [if_neg (fun z => z.2 g3), w0]
            · simp only [fX11_raise_b55, nI_1, if_neg g2, if_pos (inb_n (show c < 12 by omega) (by omega)), cl, if_neg g3]
              rw [if_pos ⟨g1, g3⟩]
          · have g2 : nI n ≤ nI (c + 1) := nI_le (by omega) (by omega)
            simp only [fX11_raise_b55, nI_1, if_pos g2]
            rw [if_neg (fun z => g1 z.1), w0]
        rw [hw2]
        rcases Nat.eq_zero_or_pos c with g0 | g0
        · subst g0
          have z : nI 0 ≤ 0 := by decide
          rw [show (if 0 < 0 ∧ ¬ y ≤ dyke (0 - 1) + 1 then jshl 1 (nI (0 - 1)) else (0 : Int32)) = 0 from if_neg (fun w => absurd w.1 (by omega))]
          simp only [fX11_raise, t_has5, hx, decide_true, b2i_t, ob_s, t_within, hy, if_pos z, e55]
          rfl
        · have z : ¬ nI c ≤ 0 := nI_nle g0 (by omega)
          have ep : nI c - 1 = nI (c - 1) := pk_sub (b := 1) g0
          have cl : (nI (c - 1)).toNatClampNeg = c - 1 := nI_clamp (by omega)
          have w0 : ∀ w : Int32, 0 ||| w = w := fun w => by
            apply b_ext; intro i _; rw [b_or, b_0]; simp
          by_cases g3 : y ≤ dyke (c - 1) + 1
          · rw [show (if 0 < c ∧ ¬ y ≤ dyke (c - 1) + 1 then jshl 1 (nI (c - 1)) else (0 : Int32)) = 0 from if_neg (fun w => w.2 g3)]
            simp only [fX11_raise, t_has5, hx, decide_true, b2i_t, ob_s, t_within, hy, if_neg z, ep, if_pos (inb_n (show c - 1 < 12 by omega) (by omega)), cl, if_pos g3, e55]
            rfl
          · rw [show (if 0 < c ∧ ¬ y ≤ dyke (c - 1) + 1 then jshl 1 (nI (c - 1)) else (0 : Int32)) = jshl 1 (nI (c - 1)) from if_pos ⟨g0, g3⟩]
            simp only [fX11_raise, t_has5, hx, decide_true, b2i_t, ob_s, t_within, hy, if_neg z, ep, if_pos (inb_n (show c - 1 < 12 by omega) (by omega)), cl, if_neg g3, e55, w0]
            rfl
      rw [eC]
      have ewk : bitsN (wkB n c y dyke') n = bitsN (wkB n c y dyke) n := bitsN_congr (fun j hj => by simp only [wkB, (l1 j hj).2])
      rw [← ewk]
      -- the model
      have hn1 : n - 1 < 12 := by omega
      have e2n : jshl 1 (nI n - 1) = nI (2 ^ (n - 1)) := by
        rw [show nI n - 1 = nI (n - 1) from pk_sub (b := 1) h1]
        exact (by decide +kernel : ∀ k, k < 12 → jshl 1 (nI k) = nI (2 ^ k)) (n - 1) hn1
      have p2 : 2 ^ (n - 1) ≤ 2048 := Nat.pow_le_pow_right (n := 2) (by decide) (show n - 1 ≤ 11 by omega)
      let was := fillN dyke' wd 12
      have hwas : ∀ k, k < 12 → was k = dyke' k := fun k hk => fill_lt _ _ hk
      have hG : ∀ S, raG n c y was S ↔ raG n c y dyke' S := fun S => by
        unfold raG
        constructor <;> intro h j hj hw
        · exact h j hj (by simp only [wkB, hwas j (by omega)]; exact hw)
        · exact h j hj (by simp only [wkB, hwas j (by omega)] at hw; exact hw)
      have main : ∃ (th' : (Nat → Int32) × (Nat → Int32)) (best : Int32), fX12_raise_b47 0 tr (nI n) tw dyke' th was (nI c) y (-1) 0 = fX12_raise_b158 0 tr (nI n) tw th'.1 th'.2 was best ∧ ((best = -1 ∧ ∀ S, S < 2 ^ (n - 1) → ¬ raG n c y dyke' S) ∨ ∃ B, B < 2 ^ (n - 1) ∧ best = nI B ∧ raG n c y dyke' B ∧ ∀ S, S < 2 ^ (n - 1) → raG n c y dyke' S → ctN (fun i => B.testBit i) 12 ≤ ctN (fun i => S.testBit i) 12) := by
        unfold fX12_raise_b47
        refine lp_inv (fun u => ∃ (th' : (Nat → Int32) × (Nat → Int32)) (best : Int32), u = fX12_raise_b158 0 tr (nI n) tw th'.1 th'.2 was best ∧ ((best = -1 ∧ ∀ S, S < 2 ^ (n - 1) → ¬ raG n c y dyke' S) ∨ ∃ B, B < 2 ^ (n - 1) ∧ best = nI B ∧ raG n c y dyke' B ∧ ∀ S, S < 2 ^ (n - 1) → raG n c y dyke' S → ctN (fun i => B.testBit i) 12 ≤ ctN (fun i => S.testBit i) 12)) (fun i s => s.2.2.2 = nI i ∧ (∀ k, n ≤ k + 1 → s.1 k = dyke' k) ∧ ((s.2.2.1 = -1 ∧ ∀ S, S < i → ¬ raG n c y dyke' S) ∨ ∃ B, B < i ∧ s.2.2.1 = nI B ∧ raG n c y dyke' B ∧ ∀ S, S < i → raG n c y dyke' S → ctN (fun i => B.testBit i) 12 ≤ ctN (fun i => S.testBit i) 12)) (2 ^ (n - 1)) (by omega) ⟨rfl, fun _ _ => rfl, Or.inl ⟨rfl, fun S hS => absurd hS (by omega)⟩⟩ ?_
        intro i s k hi hI
        obtain ⟨dc, t2, bs, z⟩ := s
        obtain ⟨f1, f2, f3⟩ := hI
        simp only at f1 f2 f3
        subst f1
        by_cases e : i = 2 ^ (n - 1)
        · right
          have hle : nI (2 ^ (n - 1)) ≤ nI i := nI_le (by omega) (by omega)
          refine ⟨(dc, t2), bs, ?_, ?_⟩
          · simp only [fX12_raise_l47, e2n, if_pos hle]
          · rw [← e]; exact f3
        · have hi2 : i < 2 ^ (n - 1) := by omega
          have c47 : ¬ nI (2 ^ (n - 1)) ≤ nI i := nI_ge hi2 (by omega)
          left
          refine ⟨hi2, ?_⟩
          -- a trial of the set i
          have try_ : ∃ dc' t2', (∀ k, n ≤ k + 1 → dc' k = dyke' k) ∧ fX12_raise_b76 0 tr (nI n) tw dc t2 was (nI c) y bs (nI i) k = k (dc', t2', if bitsN (fun j => !decide (spreadS n (flD c y) (dkS n i dyke') j ≤ 0)) n = jshl 1 (nI c) then nI i else bs, nI (i + 1)) := by
            refine ⟨fillN (dkS n i was) dc (n - 1), dpR n (spreadS n (flD c y) (dkS n i dyke')) t2 n, fun k hk => by rw [fill_ge _ _ (by omega)]; exact f2 k hk, ?_⟩
            unfold fX12_raise_b76 fX12_raise_b79
            refine lp_up (fun j => (fillN (dkS n i was) dc j, nI j)) (n - 1) (by omega) (by rw [fill_0]; rfl) ?_ ?_
            · intro j hj k79
              have cc : ¬ nI n - 1 ≤ nI j := by
                rw [show nI n - 1 = nI (n - 1) from pk_sub (b := 1) h1]; exact nI_ge hj (by omega)
              have j12 : j < 12 := by omega
              have cl : (nI j).toNatClampNeg = j := nI_clamp (by omega)
              have eb : bitB (nI i) j = i.testBit j := by rw [bitB_t _ (by omega), b_nI _ (by omega)]
              have fs := fill_s (dkS n i was) dc j
              have dv : dkS n i was j = if i.testBit j then 9 else was j := by unfold dkS; rw [if_pos (by omega)]
              rw [← fs, dv]
              show fX12_raise_l79 0 tr (nI n) tw t2 was (nI c) y bs (nI i) k k79 (fillN (dkS n i was) dc j) (nI j) = _
              have z10 : ¬ (1 : Int32) = 0 := by decide
              cases hb : i.testBit j
              · simp only [fX12_raise_l79, if_neg cc, t_hasM, eb, hb, b2i_f, ob_s, if_true, if_pos (inb_n j12 (by omega)), cl, fX12_raise_b118, nI_1]
                rfl
              · simp only [fX12_raise_l79, if_neg cc, t_hasM, eb, hb, b2i_t, ob_s, if_neg z10, if_pos (inb_n j12 (by omega)), cl, fX12_raise_b118, nI_1]
                rfl
            · intro k79
              have cc : nI n - 1 ≤ nI (n - 1) := by
                rw [show nI n - 1 = nI (n - 1) from pk_sub (b := 1) h1]; exact nI_le (Nat.le_refl _) (by omega)
              have dq : ∀ k, k < n → fillN (dkS n i was) dc (n - 1) k = dkS n i dyke' k := fun k hk => by
                by_cases e : k < n - 1
                · rw [fill_lt _ _ e]; simp only [dkS, hwas k (by omega)]
                · rw [fill_ge _ _ (by omega), f2 k (by omega)]; unfold dkS; rw [if_neg (by omega)]
              have dko : dyOk n (dkS n i dyke') := fun j hj => by
                unfold dkS
                split
                · split
                  · decide
                  · exact hdy' j hj
                · exact hdy' j hj
              have rD : rng n (flD c y) := fun j hj => by
                unfold flD
                split
                · exact ⟨by have := hy.1; grind, hy.2⟩
                · decide
              have hK := leastK_congr dq (fun _ _ => rfl) (sp_least rD dko)
              have em := t_floodsFrom hn h1 (th := t2) hc hy (fun j hj => by rw [dq j (by omega)]; exact dko j (by omega)) hK
              have hx2 : ∀ j, j < n → dpR n (spreadS n (flD c y) (dkS n i dyke')) t2 n (13 + j) = spreadS n (flD c y) (dkS n i dyke') j := fun j hj => by
                have e : 13 + j - 13 = j := by omega
                simp only [dpR]; rw [if_pos (by omega), e]
              have ew := wet_congr hx2
              show fX12_raise_l79 0 tr (nI n) tw t2 was (nI c) y bs (nI i) k k79 (fillN (dkS n i was) dc (n - 1)) (nI (n - 1)) = _
              simp only [fX12_raise_l79, if_pos cc, fX12_raise_b125, em, ob_s, t_wetM hn, ew]
              by_cases g : bitsN (fun j => !decide (spreadS n (flD c y) (dkS n i dyke') j ≤ 0)) n = jshl 1 (nI c)
              · rw [if_pos g, if_pos g, fX12_raise_b151, fX12_raise_b152, nI_1]
              · rw [if_neg g, if_neg g, fX12_raise_b151, fX12_raise_b152, nI_1]
          have dko : dyOk n (dkS n i dyke') := fun j hj => by
            unfold dkS
            split
            · split
              · decide
              · exact hdy' j hj
            · exact hdy' j hj
          have rD : rng n (flD c y) := fun j hj => by
            unfold flD
            split
            · exact ⟨by have := hy.1; grind, hy.2⟩
            · decide
          have gd : (bitsN (fun j => !decide (spreadS n (flD c y) (dkS n i dyke') j ≤ 0)) n = jshl 1 (nI c)) ↔ raG n c y dyke' i := fl_good hn hc hy hdy' i (sp_least rD dko)
          obtain ⟨dc', t2', hd', et⟩ := try_
          have ec : bcS (nI i) = nI (ctN (fun j => i.testBit j) 12) := t_cnt (by omega)
          have cle := ctN_le (fun j => i.testBit j) 12
          rcases f3 with ⟨rfl, f3⟩ | ⟨B, hB, rfl, gB, f3⟩
          · have zl : (-1 : Int32) < 0 := by decide
            refine ⟨(dc', t2', if bitsN (fun j => !decide (spreadS n (flD c y) (dkS n i dyke') j ≤ 0)) n = jshl 1 (nI c) then nI i else -1, nI (i + 1)), ⟨rfl, hd', ?_⟩, ?_⟩
            · show ((if bitsN (fun j => !decide (spreadS n (flD c y) (dkS n i dyke') j ≤ 0)) n = jshl 1 (nI c) then nI i else -1) = -1 ∧ _) ∨ ∃ B, B < i + 1 ∧ (if bitsN (fun j => !decide (spreadS n (flD c y) (dkS n i dyke') j ≤ 0)) n = jshl 1 (nI c) then nI i else -1) = nI B ∧ _
              by_cases g : bitsN (fun j => !decide (spreadS n (flD c y) (dkS n i dyke') j ≤ 0)) n = jshl 1 (nI c)
              · rw [if_pos g]
                right
                refine ⟨i, by omega, rfl, gd.mp g, ?_⟩
                intro S hS gS
                by_cases e : S = i
                · subst e; exact Nat.le_refl _
                · exact absurd gS (f3 S (by omega))
              · rw [if_neg g]
                left
                refine ⟨rfl, ?_⟩
                intro S hS
                by_cases e : S = i
                · subst e; exact fun w => g (gd.mpr w)
                · exact f3 S (by omega)
            · show fX12_raise_l47 0 tr (nI n) tw was (nI c) y k dc t2 (-1) (nI i) = _
              simp only [fX12_raise_l47, e2n, if_neg c47, if_pos zl, et]
          · have zl : ¬ nI B < 0 := nI_pos (by omega)
            have eB : bcS (nI B) = nI (ctN (fun j => B.testBit j) 12) := t_cnt (by omega)
            have cleB := ctN_le (fun j => B.testBit j) 12
            by_cases hcmp : ctN (fun j => B.testBit j) 12 ≤ ctN (fun j => i.testBit j) 12
            · have zc : bcS (nI B) ≤ bcS (nI i) := by rw [eB, ec]; exact nI_le hcmp (by omega)
              refine ⟨(dc, t2, nI B, nI (i + 1)), ⟨rfl, f2, Or.inr ⟨B, by omega, rfl, gB, ?_⟩⟩, ?_⟩
              · intro S hS gS
                by_cases e : S = i
                · subst e; exact hcmp
                · exact f3 S (by omega) gS
              · show fX12_raise_l47 0 tr (nI n) tw was (nI c) y k dc t2 (nI B) (nI i) = _
                simp only [fX12_raise_l47, e2n, if_neg c47, if_neg zl, t_bc, ob_s, if_pos zc, fX12_raise_b152, nI_1]
            · have zc : ¬ bcS (nI B) ≤ bcS (nI i) := by rw [eB, ec]; exact nI_ge (by omega) (by omega)
              refine ⟨(dc', t2', if bitsN (fun j => !decide (spreadS n (flD c y) (dkS n i dyke') j ≤ 0)) n = jshl 1 (nI c) then nI i else nI B, nI (i + 1)), ⟨rfl, hd', ?_⟩, ?_⟩
              · right
                by_cases g : bitsN (fun j => !decide (spreadS n (flD c y) (dkS n i dyke') j ≤ 0)) n = jshl 1 (nI c)
                · refine ⟨i, by omega, if_pos g, gd.mp g, ?_⟩
                  intro S hS gS
                  by_cases e : S = i
                  · subst e; exact Nat.le_refl _
                  · have := f3 S (by omega) gS
                    omega
                · refine ⟨B, by omega, if_neg g, gB, ?_⟩
                  intro S hS gS
                  by_cases e : S = i
                  · subst e; exact absurd (gd.mpr gS) g
                  · exact f3 S (by omega) gS
              · show fX12_raise_l47 0 tr (nI n) tw was (nI c) y k dc t2 (nI B) (nI i) = _
                simp only [fX12_raise_l47, e2n, if_neg c47, if_neg zl, t_bc, ob_s, if_neg zc, et]
      obtain ⟨⟨dF, t2⟩, best, eM, hbest⟩ := main
      -- putting the dykes back
      have e161 : fX12_raise_b158 0 tr (nI n) tw dF t2 was best = fX12_raise_b188 0 tr (nI n) tw (fillN was dF 12) t2 was best := by
        unfold fX12_raise_b158 fX12_raise_b161
        refine lp_up (fun j => (fillN was dF j, nI j)) 12 (by omega) (by rw [fill_0]; rfl) ?_ ?_
        · intro j hj k
          have cc : ¬ (12 : Int32) ≤ nI j := nI_ge (b := 12) hj (by omega)
          have fs := fill_s was dF j
          rw [← fs]
          show fX12_raise_l161 0 tr (nI n) tw t2 was best k (fillN was dF j) (nI j) = _
          simp only [fX12_raise_l161, if_neg cc, if_pos (inb_n hj (by omega)), nI_clamp (show j < 2 ^ 31 by omega), nI_1]
        · intro k
          have cc : (12 : Int32) ≤ nI 12 := by decide
          show fX12_raise_l161 0 tr (nI n) tw t2 was best k (fillN was dF 12) (nI 12) = _
          simp only [fX12_raise_l161, if_pos cc]
      have e18 : fX12_raise thrown tr (nI n) tw dyke' th wd (nI c) y = fX12_raise_b188 0 tr (nI n) tw (fillN was dF 12) t2 was best := by
        have : fX12_raise_b18 0 tr (nI n) tw dyke' th wd (nI c) y 0 = fX12_raise_b188 0 tr (nI n) tw (fillN was dF 12) t2 was best := by
          unfold fX12_raise_b18
          refine lp_up (fun j => (fillN dyke' wd j, nI j)) 12 (by omega) (by rw [fill_0]; rfl) ?_ ?_
          · intro j hj k
            have cc : ¬ (12 : Int32) ≤ nI j := nI_ge (b := 12) hj (by omega)
            have fs := fill_s dyke' wd j
            rw [← fs]
            show fX12_raise_l18 0 tr (nI n) tw dyke' th (nI c) y k (fillN dyke' wd j) (nI j) = _
            simp only [fX12_raise_l18, if_neg cc, if_pos (inb_n hj (by omega)), nI_clamp (show j < 2 ^ 31 by omega), nI_1]
          · intro k
            have cc : (12 : Int32) ≤ nI 12 := by decide
            show fX12_raise_l18 0 tr (nI n) tw dyke' th (nI c) y k (fillN dyke' wd 12) (nI 12) = _
            simp only [fX12_raise_l18, if_pos cc, fX12_raise_b42]
            exact eM.trans e161
        simp only [fX12_raise, t_canFlood hn, hx, hy, decide_true, Bool.and_self, b2i_t, ob_s, this]
        rfl
      rw [e18]
      have hdk : ∀ c, c < 12 → fillN was dF 12 c = dyke' c := fun c hc => by rw [fill_lt _ _ hc, hwas c hc]
      have wlt := bW_lt (wkB n c y dyke') (n - 1)
      have ewW : bitsN (wkB n c y dyke') n = nI (bW (wkB n c y dyke') (n - 1)) := by
        have : bitsN (wkB n c y dyke') n = bitsN (wkB n c y dyke') (n - 1) := by
          obtain ⟨k, rfl⟩ : ∃ k, n = k + 1 := ⟨n - 1, by omega⟩
          rw [bitsN_s]
          have : wkB (k + 1) c y dyke' k = false := by simp [wkB]
          rw [this]; rfl
        rw [this, bits_W _ (by omega)]
      have wtb : ∀ j, (bW (wkB n c y dyke') (n - 1)).testBit j = (decide (j < n - 1) && wkB n c y dyke' j) := bW_tb _ _
      rw [ewW]
      generalize hW : bW (wkB n c y dyke') (n - 1) = W at *
      by_cases hgood : raG n c y dyke' W
      · -- the weak dykes can be raised
        have hB : ∃ B, B < 2 ^ (n - 1) ∧ best = nI B ∧ raG n c y dyke' B ∧ ∀ S, S < 2 ^ (n - 1) → raG n c y dyke' S → ctN (fun i => B.testBit i) 12 ≤ ctN (fun i => S.testBit i) 12 := by
          rcases hbest with ⟨-, h⟩ | h
          · exact absurd hgood (h W wlt)
          · exact h
        obtain ⟨B, hB1, rfl, hB2, hB3⟩ := hB
        have hcnt := hB3 W wlt hgood
        have hsub : ∀ i, i < 12 → W.testBit i = true → B.testBit i = true := fun i _ hw => by
          rw [wtb] at hw
          simp only [Bool.and_eq_true, decide_eq_true_eq] at hw
          exact (hB2 i (by omega) hw.2).1
        have hBW : B = W := by
          apply Nat.eq_of_testBit_eq
          intro i
          by_cases hi : i < 12
          · exact (ctN_sub_eq hsub hcnt i hi).symm
          · rw [tb_lt hB1 (by omega), tb_lt wlt (by omega)]
        subst hBW
        have zp : (0 : Int32) ≤ nI B := nI_pos' (by omega)
        have e89 : fX11_raise_b89 (nI n) dyke ts tn y (nI B) = fX11_raise_b102 (nI n) dyke ts tn (nI B) := by
          by_cases z : nI B = 0
          · simp only [fX11_raise_b89, if_pos z]
          · have hne : B ≠ 0 := fun w => z (by rw [w]; rfl)
            obtain ⟨j, hj⟩ := Nat.exists_testBit_of_ne_zero hne
            rw [wtb] at hj
            simp only [Bool.and_eq_true, decide_eq_true_eq] at hj
            have := (hgood j (by omega) hj.2).2
            simp only [fX11_raise_b89, if_neg z, if_pos this]
        rw [e89]
        repeat apply Exists.intro
        refine ⟨?_, ?_, to_1 tn tw (nI B).toInt64, hdk⟩
        · simp only [fX11_raise_b102, t_tell, t_bc, ob_s]
          rfl
        · simp only [fX12_raise_b188, if_pos zp, t_ent0, t_bc, ob_s]
          rfl
      · have hno : ∀ S, ¬ raG n c y dyke' S := fun S hS => by
          apply hgood
          intro j hj hw
          refine ⟨?_, (hS j hj hw).2⟩
          rw [wtb, hw]
          simp only [wkB, Bool.and_eq_true, decide_eq_true_eq] at hw
          have : j < n - 1 := by omega
          simp [this]
        have hb1 : best = -1 := by
          rcases hbest with ⟨h, -⟩ | ⟨B, -, -, h, -⟩
          · exact h
          · exact absurd h (hno B)
        subst hb1
        have zp : ¬ (0 : Int32) ≤ -1 := by decide
        have hW0 : ¬ nI W = 0 := fun z => by
          apply hgood
          have : W = 0 := (nI_eq (by omega) (by omega)).mp z
          intro j hj hw
          have := wtb j
          rw [hw] at this
          simp only [wkB, Bool.and_eq_true, decide_eq_true_eq] at hw
          have hj1 : j < n - 1 := by omega
          simp [hj1] at this
          subst_vars
          simp_all
        have hy10 : ¬ y ≤ 10 := fun z => by
          apply hgood
          intro j hj hw
          refine ⟨?_, z⟩
          rw [wtb, hw]
          simp only [wkB, Bool.and_eq_true, decide_eq_true_eq] at hw
          have : j < n - 1 := by omega
          simp [this]
        repeat apply Exists.intro
        refine ⟨?_, ?_, ht, hdk⟩
        · simp only [fX11_raise_b89, if_neg hW0, if_neg hy10]
          rfl
        · simp only [fX12_raise_b188, if_neg zp]
          rfl
    · refine ⟨-1, ts, tn, tr, tw, dyke', th, wd, ?_, ?_, ht, fun _ _ => rfl⟩
      · simp [fX11_raise, fX11_raise_b22, t_has5, hx, b2i, t_within, hy]
      · simp [fX12_raise, t_canFlood hn, hx, hy, b2i]
  · refine ⟨-1, ts, tn, tr, tw, dyke', th, wd, ?_, ?_, ht, fun _ _ => rfl⟩
    · simp [fX11_raise, fX11_raise_b22, t_has5, hx, b2i]
    · simp [fX12_raise, t_canFlood hn, hx, b2i]
