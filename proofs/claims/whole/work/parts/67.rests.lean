/-! ===== spades at rest ===== -/
def shS (x y v c : Int32) : Int32 := if x + y = 0 then 0 else v * x / (x + y) - c * x
theorem t_share {x y : Nat} (hx : x < 100) (hy : y < 100) (v c : Int32) : fX0_share (nI x) (nI y) v c = some (shS (nI x) (nI y) v c) := by
  unfold fX0_share fX0_share_b24 shS
  by_cases e : x + y = 0
  · have z : nI x + nI y ≤ 0 := by rw [nI_add, e]; decide
    have z2 : nI x + nI y = 0 := by rw [nI_add, e]; rfl
    rw [if_pos z, if_pos z2]
  · have z : ¬ nI x + nI y ≤ 0 := by rw [nI_add]; exact nI_nle (by omega) (by omega)
    have z2 : ¬ nI x + nI y = 0 := by rw [nI_add]; exact nI_ne0 (by omega) (by omega)
    rw [if_neg z, if_pos z2, if_neg z2]
theorem t_earns (x y v c : Int32) : fX12_earns x y v c = some (shS x y v c) := by
  unfold fX12_earns fX12_earns_b21 shS
  by_cases e : x + y = 0
  · rw [if_pos e, if_pos e]
  · rw [if_neg e, if_pos e, if_neg e]
def mxS (f : Nat → Int32) : Nat → Int32
  | 0 => f 0
  | n + 1 => jmax (mxS f n) (f (n + 1))
theorem mx_ge (f : Nat → Int32) : ∀ n k, k ≤ n → f k ≤ mxS f n
  | 0, k, h => by have : k = 0 := by omega
                  subst this; exact Int32.le_refl _
  | n + 1, k, h => by
    have ih := mx_ge f n
    simp only [mxS, jmax]
    by_cases e : k = n + 1
    · subst e
      split
      · exact Int32.le_refl _
      · grind
    · have := ih k (by omega)
      split
      · grind
      · exact this
theorem mx_eq (f : Nat → Int32) : ∀ n, ∃ k, k ≤ n ∧ mxS f n = f k
  | 0 => ⟨0, by omega, rfl⟩
  | n + 1 => by
    obtain ⟨k, hk, e⟩ := mx_eq f n
    simp only [mxS, jmax]
    split
    · exact ⟨n + 1, by omega, rfl⟩
    · exact ⟨k, by omega, e⟩
theorem mx_iff (f : Nat → Int32) (n x : Nat) (hx : x ≤ n) : f x = mxS f n ↔ ∀ k, k ≤ n → f k ≤ f x := by
  constructor
  · intro h k hk; rw [h]; exact mx_ge f n k hk
  · intro h
    obtain ⟨k, hk, e⟩ := mx_eq f n
    rw [e]
    have h1 := h k hk
    have h2 := mx_ge f n x hx
    rw [e] at h2
    exact Int32.le_antisymm h2 h1
theorem upd_upd (f : Nat → Int32) (k : Nat) (a b : Int32) : upd (upd f k a) k b = upd f k b := by
  funext j
  by_cases e : j = k
  · subst e; rw [pk_us, pk_us]
  · rw [pk_un e, pk_un e, pk_un e]
def weS (v c : Int32) (o : Nat) : Int32 := mxS (fun own => shS (nI own) (nI o) v c) 9
theorem t_weigh (best : Nat → Int32) (v c : Int32) : fX0_weigh best v c = some (fillN (weS v c) best 10) := by
  unfold fX0_weigh fX0_weigh_b2
  refine lp_up (fun i => (fillN (weS v c) best i, nI i)) 10 (by omega) (by rw [fill_0]; rfl) ?_ ?_
  · intro i hi k
    have z : ¬ (9 : Int32) < nI i := nI_nlt (a := 9) (by omega) (by omega)
    have cl : (nI i).toNatClampNeg = i := nI_clamp (by omega)
    have sh0 := t_share (x := 0) (y := i) (by omega) (by omega) v c
    have z0 : nI 0 = 0 := rfl
    rw [z0] at sh0
    show fX0_weigh_l2 v c k (fillN (weS v c) best i) (nI i) = _
    simp only [fX0_weigh_l2, if_neg z, sh0, ob_s, if_pos (inb_n hi (by omega)), cl]
    unfold fX0_weigh_b24
    refine lp_up (fun j => (upd (fillN (weS v c) best i) i (mxS (fun own => shS (nI own) (nI i) v c) j), nI (j + 1))) 9 (by omega) rfl ?_ ?_
    · intro j hj k24
      have z1 : ¬ (9 : Int32) < nI (j + 1) := nI_nlt (a := 9) (by omega) (by omega)
      show fX0_weigh_l24 v c (nI i) k k24 (upd (fillN (weS v c) best i) i (mxS (fun own => shS (nI own) (nI i) v c) j)) (nI (j + 1)) = _
      simp only [fX0_weigh_l24, if_neg z1, if_pos (inb_n hi (by omega)), t_share (show j + 1 < 100 by omega) (show i < 100 by omega), ob_s, cl, pk_us, upd_upd, nI_1]
      rfl
    · intro k24
      have z1 : (9 : Int32) < nI (9 + 1) := by decide
      have fs := fill_s (weS v c) best i
      show fX0_weigh_l24 v c (nI i) k k24 (upd (fillN (weS v c) best i) i (mxS (fun own => shS (nI own) (nI i) v c) 9)) (nI (9 + 1)) = _
      simp only [fX0_weigh_l24, if_pos z1, fX0_weigh_b60, nI_1, ← fs]
      rfl
  · intro k
    have z : (9 : Int32) < nI 10 := by decide
    show fX0_weigh_l2 v c k (fillN (weS v c) best 10) (nI 10) = _
    simp only [fX0_weigh_l2, if_pos z, fX0_weigh_b66]
def reN (v c : Int32) (x y i : Nat) : Bool := !anyN (fun k => !decide (shS (nI k) (nI y) v c ≤ shS (nI x) (nI y) v c)) i
theorem reN_iff (v c : Int32) (x y i : Nat) : reN v c x y i = true ↔ ∀ k, k < i → shS (nI k) (nI y) v c ≤ shS (nI x) (nI y) v c := by
  unfold reN
  rw [Bool.not_eq_true', anyN_f]
  constructor
  · intro h k hk
    have := h k hk
    simpa using this
  · intro h k hk
    have := h k hk
    simpa using this
theorem reN_f {v c : Int32} {x y i : Nat} (h : ¬ ∀ k, k < i → shS (nI k) (nI y) v c ≤ shS (nI x) (nI y) v c) : reN v c x y i = false := by
  cases e : reN v c x y i
  · rfl
  · exact absurd ((reN_iff v c x y i).mp e) h
def reB (v c : Int32) (x y : Nat) : Bool := reN v c x y 10
theorem t_isRest {x y : Nat} (v c : Int32) : fX12_isRest (nI x) (nI y) v c = some (b2i (reB v c x y)) := by
  unfold fX12_isRest fX12_isRest_b6
  refine lp_up (fun i => (b2i (reN v c x y i), nI i)) 10 (by omega) ?_ ?_ ?_
  · rfl
  · intro i hi k
    have z : ¬ (9 : Int32) < nI i := nI_nlt (a := 9) (by omega) (by omega)
    show fX12_isRest_l6 (nI x) (nI y) v c k (b2i (reN v c x y i)) (nI i) = k (b2i (reN v c x y (i + 1)), nI (i + 1))
    by_cases h : ∀ k, k < i → shS (nI k) (nI y) v c ≤ shS (nI x) (nI y) v c
    · have z10 : ¬ (1 : Int32) = 0 := by decide
      rw [(reN_iff v c x y i).mpr h]
      by_cases h2 : shS (nI x) (nI y) v c < shS (nI i) (nI y) v c
      · have h3 : ¬ ∀ k, k < i + 1 → shS (nI k) (nI y) v c ≤ shS (nI x) (nI y) v c := fun w => i_nle h2 (w i (by omega))
        rw [reN_f h3]
        simp only [fX12_isRest_l6, if_neg z, b2i_t, if_neg z10, t_earns, ob_s, if_pos h2, fX12_isRest_b40, fX12_isRest_b41, nI_1, b2i_f]
      · have h3 : ∀ k, k < i + 1 → shS (nI k) (nI y) v c ≤ shS (nI x) (nI y) v c := fun k hk => by
          by_cases e : k = i
          · subst e; exact i_nlt h2
          · exact h k (by omega)
        rw [(reN_iff v c x y (i + 1)).mpr h3]
        simp only [fX12_isRest_l6, if_neg z, b2i_t, if_neg z10, t_earns, ob_s, if_neg h2, fX12_isRest_b41, nI_1]
    · have h3 : ¬ ∀ k, k < i + 1 → shS (nI k) (nI y) v c ≤ shS (nI x) (nI y) v c := fun w => h (fun k hk => w k (by omega))
      rw [reN_f h, reN_f h3]
      simp only [fX12_isRest_l6, if_neg z, b2i_f, if_true, fX12_isRest_b40, fX12_isRest_b41, nI_1]
  · intro k
    have z : (9 : Int32) < nI 10 := by decide
    show fX12_isRest_l6 (nI x) (nI y) v c k (b2i (reN v c x y 10)) (nI 10) = _
    simp only [fX12_isRest_l6, if_pos z, fX12_isRest_b49, b01, if_true]
    rfl
theorem t_atRest {x y : Nat} (hx : x < 10) (hy : y < 10) {best : Nat → Int32} (v c : Int32) (hb : ∀ o, o < 10 → best o = weS v c o) : fX0_atRest best (nI x) (nI y) v c = some (b2i (reB v c x y && reB v c y x)) := by
  have k1 : ∀ a b, a < 10 → b < 10 → ((shS (nI a) (nI b) v c = best b) ↔ reB v c a b = true) := by
    intro a b ha hb'
    rw [hb b hb', reB, reN_iff]
    have := mx_iff (fun own => shS (nI own) (nI b) v c) 9 a (by omega)
    unfold weS
    rw [this]
    exact ⟨fun h k hk => h k (by omega), fun h k hk => h k (by omega)⟩
  have cx : (nI x).toNatClampNeg = x := nI_clamp (by omega)
  have cy : (nI y).toNatClampNeg = y := nI_clamp (by omega)
  have q1 := k1 x y hx hy
  have q2 := k1 y x hy hx
  simp only [fX0_atRest, t_share (show x < 100 by omega) (show y < 100 by omega), t_share (show y < 100 by omega) (show x < 100 by omega), ob_s, if_pos (inb_n hx (by omega)), if_pos (inb_n hy (by omega)), cx, cy]
  cases h1 : reB v c x y
  · rw [if_neg (fun z => by rw [q1.mp z] at h1; cases h1)]
    simp [fX0_atRest_b38, fX0_atRest_b39, b2i]
  · rw [if_pos (q1.mpr h1)]
    cases h2 : reB v c y x
    · rw [if_neg (fun z => by rw [q2.mp z] at h2; cases h2)]
      simp [fX0_atRest_b38, fX0_atRest_b39, b2i]
    · rw [if_pos (q2.mpr h2)]
      simp [fX0_atRest_b39, b2i]
theorem c_rests {ts tr : Int32} {tn tw : Nat → Int64} (ht : toR ts tn tr tw) (x y : Int32) (best : Nat → Int32) (thrown : Int32) : ∃ a best' ts' tn' tr' tw', fX11_rests best ts tn x y = some (a, best', ts', tn') ∧ fX12_rests thrown tr tw x y = some (a, 0, tr', tw') ∧ toR ts' tn' tr' tw' := by
  have p1 := t_in x (L := 1) (H := 99) 1 99 rfl rfl
  have p2 := t_in y (L := 0) (H := 9) 0 9 rfl rfl
  by_cases hx : 1 ≤ x ∧ x ≤ 99
  · by_cases hy : 0 ≤ y ∧ y ≤ 9
    · have hb : ∀ o, o < 10 → fillN (weS x y) best 10 o = weS x y o := fun o ho => fill_lt _ _ ho
      have hw := t_weigh best x y
      generalize fillN (weS x y) best 10 = be at hb hw
      have key : ∃ a ts' tn' tr' tw', fX11_rests_b43 be 0 tn x y 0 0 = some (a, be, ts', tn') ∧ fX12_rests_b41 0 0 tw x y 0 0 = some (a, 0, tr', tw') ∧ toR ts' tn' tr' tw' := by
        unfold fX11_rests_b43 fX12_rests_b41
        refine lq2 (fun r u => ∃ a ts' tn' tr' tw', r = some (a, be, ts', tn') ∧ u = some (a, 0, tr', tw') ∧ toR ts' tn' tr' tw') (fun i s t => s.2.2.2 = nI i ∧ t.2.2.2 = nI i ∧ toR s.1 s.2.1 t.1 t.2.1 ∧ ∃ q, q ≤ 10 * i ∧ s.2.2.1 = nI q ∧ t.2.2.1 = nI q ∧ (q = 0 → t.1 = 0)) 10 (by omega) ⟨rfl, rfl, ⟨0, by omega, rfl, rfl, fun i hi => absurd hi (by omega)⟩, 0, by omega, rfl, rfl, fun _ => rfl⟩ ?_
        intro i s t k1 k2 hi hI
        obtain ⟨a1, a2, a3, a4⟩ := s
        obtain ⟨b1, b2, b3, b4⟩ := t
        obtain ⟨f1, f2, f3, q, f4, f5, f6, f7⟩ := hI
        simp only at f1 f2 f3 f5 f6 f7
        subst f1 f2 f5 f6
        by_cases e : i = 10
        · subst e
          right
          have z : (9 : Int32) < nI 10 := by decide
          refine ⟨nI q, a1, a2, b1, b2, ?_, ?_, f3⟩
          · simp only [fX11_rests_l43, if_pos z, fX11_rests_b108]
          · simp only [fX12_rests_l41, if_pos z, fX12_rests_b115]
        · have z : ¬ (9 : Int32) < nI i := nI_nlt (a := 9) (by omega) (by omega)
          left
          refine ⟨by omega, ?_⟩
          show ∃ s' t', _ ∧ fX11_rests_l43 be x y k1 a1 a2 (nI q) (nI i) = k1 s' ∧ fX12_rests_l41 0 x y k2 b1 b2 (nI q) (nI i) = k2 t'
          simp only [fX11_rests_l43, if_neg z, fX12_rests_l41]
          unfold fX11_rests_b53 fX12_rests_b51
          refine lq2 (fun r u => ∃ (s' : Int32 × (Nat → Int64) × Int32 × Int32) (t' : Int32 × (Nat → Int64) × Int32 × Int32), (s'.2.2.2 = nI (i + 1) ∧ t'.2.2.2 = nI (i + 1) ∧ toR s'.1 s'.2.1 t'.1 t'.2.1 ∧ ∃ q, q ≤ 10 * (i + 1) ∧ s'.2.2.1 = nI q ∧ t'.2.2.1 = nI q ∧ (q = 0 → t'.1 = 0)) ∧ r = k1 s' ∧ u = k2 t') (fun j s t => s.2.2.2 = nI j ∧ t.2.2.2 = nI j ∧ toR s.1 s.2.1 t.1 t.2.1 ∧ ∃ q, q ≤ 10 * i + j ∧ s.2.2.1 = nI q ∧ t.2.2.1 = nI q ∧ (q = 0 → t.1 = 0)) 10 (by omega) ⟨rfl, rfl, f3, q, by omega, rfl, rfl, f7⟩ ?_
          intro j s t k3 k4 hj hJ
          obtain ⟨c1, c2, c3, c4⟩ := s
          obtain ⟨d1, d2, d3, d4⟩ := t
          obtain ⟨g1, g2, g3, q', g4, g5, g6, g7⟩ := hJ
          simp only at g1 g2 g3 g5 g6 g7
          subst g1 g2 g5 g6
          by_cases e2 : j = 10
          · subst e2
            right
            have z2 : (9 : Int32) < nI 10 := by decide
            refine ⟨(c1, c2, nI q', nI (i + 1)), (d1, d2, nI q', nI (i + 1)), ⟨rfl, rfl, g3, q', by omega, rfl, rfl, g7⟩, ?_, ?_⟩
            · simp only [fX11_rests_l53, if_pos z2, fX11_rests_b102, nI_1]
            · simp only [fX12_rests_l51, if_pos z2, fX12_rests_b109, nI_1]
          · have z2 : ¬ (9 : Int32) < nI j := nI_nlt (a := 9) (by omega) (by omega)
            have hi10 : i < 10 := by omega
            have hj10 : j < 10 := by omega
            have z10 : ¬ (1 : Int32) = 0 := by decide
            left
            refine ⟨by omega, ?_⟩
            show ∃ s' t', _ ∧ fX11_rests_l53 be x y (nI i) k1 k3 c1 c2 (nI q') (nI j) = k3 s' ∧ fX12_rests_l51 0 x y (nI i) k2 k4 d1 d2 (nI q') (nI j) = k4 t'
            simp only [fX11_rests_l53, if_neg z2, fX12_rests_l51, t_atRest hi10 hj10 x y hb, t_isRest, ob_s]
            cases h1 : reB x y i j
            · refine ⟨(c1, c2, nI q', nI (j + 1)), (d1, d2, nI q', nI (j + 1)), ⟨rfl, rfl, g3, q', by omega, rfl, rfl, g7⟩, ?_, ?_⟩
              · simp only [Bool.false_and, b2i_f, if_true, fX11_rests_b96, nI_1]
              · simp only [b2i_f, if_true, fX12_rests_b103, nI_1]
            · cases h2 : reB x y j i
              · refine ⟨(c1, c2, nI q', nI (j + 1)), (d1, d2, nI q', nI (j + 1)), ⟨rfl, rfl, g3, q', by omega, rfl, rfl, g7⟩, ?_, ?_⟩
                · simp only [Bool.and_false, b2i_f, if_true, fX11_rests_b96, nI_1]
                · simp only [b2i_t, if_neg z10, b2i_f, if_true, fX12_rests_b103, nI_1]
              · rcases Nat.eq_zero_or_pos q' with hq | hq
                · have hq0 : nI q' = 0 := by rw [hq]; rfl
                  have hd1 := g7 hq
                  subst hd1
                  refine ⟨(nI 2, vp_updL (vp_updL c2 0 (nI i).toInt64) 1 (nI j).toInt64, nI (q' + 1), nI (j + 1)), (nI 2, vp_updL (vp_updL d2 0 (nI i).toInt64) 1 (nI j).toInt64, nI (q' + 1), nI (j + 1)), ⟨rfl, rfl, to_2 _ _ _ _, q' + 1, by omega, rfl, rfl, fun w => by omega⟩, ?_, ?_⟩
                  · simp only [Bool.and_self, b2i_t, if_neg z10, if_pos hq0, t_tell2, ob_s, fX11_rests_b93, fX11_rests_b96, nI_1]
                  · simp only [b2i_t, if_neg z10, if_pos hq0, t_ent0, t_ent1, ob_s, fX12_rests_b100, fX12_rests_b103, nI_1]
                · have hq0 : ¬ nI q' = 0 := nI_ne0 hq (by omega)
                  refine ⟨(c1, c2, nI (q' + 1), nI (j + 1)), (d1, d2, nI (q' + 1), nI (j + 1)), ⟨rfl, rfl, g3, q' + 1, by omega, rfl, rfl, fun w => by omega⟩, ?_, ?_⟩
                  · simp only [Bool.and_self, b2i_t, if_neg z10, if_neg hq0, fX11_rests_b93, fX11_rests_b96, nI_1]
                  · simp only [b2i_t, if_neg z10, if_neg hq0, fX12_rests_b100, fX12_rests_b103, nI_1]
      obtain ⟨a, ts', tn', tr', tw', e1, e2, hT⟩ := key
      refine ⟨a, be, ts', tn', tr', tw', ?_, ?_, hT⟩
      · simp only [fX11_rests, t_within, hx, hy, decide_true, b2i_t, ob_s, hw, fX8_clear, e1]
        rfl
      · simp only [fX12_rests, p1, p2, hx, hy, decide_true, b2i_t, ob_s, e2]
        rfl
    · refine ⟨-1, best, ts, tn, tr, tw, ?_, ?_, ht⟩
      · simp [fX11_rests, fX11_rests_b20, t_within, hx, hy, b2i]
      · simp [fX12_rests, fX12_rests_b29, p1, p2, hx, hy, b2i]
  · refine ⟨-1, best, ts, tn, tr, tw, ?_, ?_, ht⟩
    · simp [fX11_rests, fX11_rests_b20, t_within, hx, b2i]
    · simp [fX12_rests, fX12_rests_b29, p1, hx, b2i]
