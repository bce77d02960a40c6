/-! ===== who should have the spades ===== -/
theorem sumW_eq {f g : Nat → Nat} {n : Nat} (h : ∀ c, c < n → f c ≤ g c) (he : sumW g n ≤ sumW f n) : ∀ c, c < n → f c = g c := by
  intro c hc
  refine Classical.byContradiction fun hne => ?_
  have := sumW_lt h hc (show f c < g c by have := h c hc; omega)
  omega
theorem sumW_congr {f g : Nat → Nat} : ∀ {n : Nat}, (∀ c, c < n → f c = g c) → sumW f n = sumW g n
  | 0, _ => rfl
  | n + 1, h => by
    simp only [sumW]; rw [sumW_congr (fun c hc => h c (by omega)), h n (by omega)]
theorem sumW_lin (a b : Nat → Nat) (T : Nat) : ∀ n, sumW (fun k => 2 * a k + T * b k) n = 2 * sumW a n + T * sumW b n
  | 0 => by simp [sumW]
  | n + 1 => by
    simp only [sumW]; rw [sumW_lin a b T n, Nat.mul_add, Nat.mul_add]; omega
theorem sumW_add (a b : Nat → Nat) : ∀ n, sumW (fun k => a k + b k) n = sumW a n + sumW b n
  | 0 => by simp [sumW]
  | n + 1 => by
    simp only [sumW]; rw [sumW_add a b n]; omega
def crd (S m : Nat) : Nat := ctN (fun i => S.testBit i) m
def gnS (g : Nat → Nat) (S m : Nat) : Nat := sumW (fun k => if S.testBit k then g k else 0) m
theorem crd_W (S m : Nat) : crd S m = sumW (fun k => if S.testBit k then 1 else 0) m := by
  unfold crd
  induction m with
  | zero => rfl
  | succ m ih => simp only [ctN, sumW]; rw [ih]
/-- the exchange: a threshold between those in G and those out of it -/
theorem gr_le {g : Nat → Nat} {m G T : Nat} (h1 : ∀ k, k < m → G.testBit k = true → T ≤ 2 * g k) (h2 : ∀ k, k < m → G.testBit k = false → 2 * g k ≤ T) (S : Nat) : 2 * gnS g S m + T * crd G m ≤ 2 * gnS g G m + T * crd S m ∧ (2 * gnS g G m + T * crd S m ≤ 2 * gnS g S m + T * crd G m → ∀ k, k < m → S.testBit k ≠ G.testBit k → 2 * g k = T) := by
  have a1 : 2 * gnS g S m + T * crd G m = sumW (fun k => 2 * (if S.testBit k then g k else 0) + T * (if G.testBit k then 1 else 0)) m := by rw [sumW_lin, crd_W]; rfl
  have a2 : 2 * gnS g G m + T * crd S m = sumW (fun k => 2 * (if G.testBit k then g k else 0) + T * (if S.testBit k then 1 else 0)) m := by rw [sumW_lin, crd_W]; rfl
  have term : ∀ k, k < m → 2 * (if S.testBit k then g k else 0) + T * (if G.testBit k then 1 else 0) ≤ 2 * (if G.testBit k then g k else 0) + T * (if S.testBit k then 1 else 0) := by
    intro k hk
    have p1 := h1 k hk
    have p2 := h2 k hk
    cases hS : S.testBit k <;> cases hG : G.testBit k <;> simp_all
  rw [a1, a2]
  refine ⟨sumW_le term, fun he k hk hne => ?_⟩
  have := sumW_eq term he k hk
  cases hS : S.testBit k <;> cases hG : G.testBit k <;> simp_all
/-- what the greedy choice is -/
def grP (g : Nat → Nat) (m L G : Nat) : Prop := G < 2 ^ m ∧ (∀ k, k < m → G.testBit k = true → 0 < g k) ∧ (∀ k j, k < m → j < m → G.testBit k = true → G.testBit j = false → 0 < g j → g j < g k ∨ (g j = g k ∧ k < j)) ∧ crd G m ≤ L ∧ (crd G m = L ∨ ∀ j, j < m → 0 < g j → G.testBit j = true)
theorem minT {g : Nat → Nat} {G : Nat} : ∀ {m : Nat}, (∃ k, k < m ∧ G.testBit k = true) → ∃ k, k < m ∧ G.testBit k = true ∧ ∀ j, j < m → G.testBit j = true → g k ≤ g j
  | 0, ⟨k, h, _⟩ => by omega
  | m + 1, ⟨k, hk, hb⟩ => by
    by_cases e : ∃ k, k < m ∧ G.testBit k = true
    · obtain ⟨k0, h1, h2, h3⟩ := minT (g := g) e
      cases hm : G.testBit m
      · refine ⟨k0, by omega, h2, fun j hj hb => ?_⟩
        by_cases e : j = m
        · subst e; rw [hm] at hb; cases hb
        · exact h3 j (by omega) hb
      · rcases Nat.lt_or_ge (g m) (g k0) with q | q
        · refine ⟨m, by omega, hm, fun j hj hb => ?_⟩
          by_cases e : j = m
          · subst e; exact Nat.le_refl _
          · have := h3 j (by omega) hb
            omega
        · refine ⟨k0, by omega, h2, fun j hj hb => ?_⟩
          by_cases e : j = m
          · subst e; exact q
          · exact h3 j (by omega) hb
    · have : k = m := by
        refine Classical.byContradiction fun hne => e ⟨k, by omega, hb⟩
      subst this
      refine ⟨k, hk, hb, fun j hj hb2 => ?_⟩
      by_cases e2 : j = k
      · subst e2; exact Nat.le_refl _
      · exact absurd ⟨j, by omega, hb2⟩ e
theorem crd_0 {G : Nat} : ∀ {m : Nat}, (¬ ∃ k, k < m ∧ G.testBit k = true) → crd G m = 0
  | 0, _ => rfl
  | m + 1, h => by
    have h1 := crd_0 (G := G) (m := m) (fun ⟨k, a, b⟩ => h ⟨k, by omega, b⟩)
    have h2 : G.testBit m = false := by
      cases e : G.testBit m
      · rfl
      · exact absurd ⟨m, by omega, e⟩ h
    unfold crd at h1 ⊢
    simp [ctN, h1, h2]
theorem top_diff {S G m : Nat} (hS : S < 2 ^ m) (hG : G < 2 ^ m) (hne : S ≠ G) : ∃ h, h < m ∧ S.testBit h ≠ G.testBit h ∧ ∀ j, h < j → S.testBit j = G.testBit j := by
  have : ∀ n, n ≤ m → (∀ j, n ≤ j → S.testBit j = G.testBit j) → ∃ h, h < m ∧ S.testBit h ≠ G.testBit h ∧ ∀ j, h < j → S.testBit j = G.testBit j := by
    intro n
    induction n with
    | zero => intro _ h; exact absurd (Nat.eq_of_testBit_eq (fun j => h j (by omega))) hne
    | succ n ih =>
      intro hn h
      by_cases e : S.testBit n = G.testBit n
      · exact ih (by omega) (fun j hj => by
          by_cases q : j = n
          · subst q; exact e
          · exact h j (by omega))
      · exact ⟨n, by omega, e, fun j hj => h j (by omega)⟩
  exact this m (Nat.le_refl _) (fun j hj => by rw [tb_lt hS hj, tb_lt hG hj])
theorem tb_less {a b h : Nat} (ha : a.testBit h = false) (hb : b.testBit h = true) (hup : ∀ j, h < j → a.testBit j = b.testBit j) : a < b := by
  have hq : a / 2 ^ (h + 1) = b / 2 ^ (h + 1) := by
    apply Nat.eq_of_testBit_eq
    intro i
    rw [Nat.testBit_div_two_pow, Nat.testBit_div_two_pow]
    exact hup _ (by omega)
  have h1 : a % 2 ^ (h + 1) < 2 ^ h := by
    apply Nat.lt_pow_two_of_testBit
    intro i hi
    rw [Nat.testBit_mod_two_pow]
    by_cases e : i = h
    · subst e; simp [ha]
    · have : ¬ i < h + 1 := by omega
      simp [this]
  have h2 : 2 ^ h ≤ b % 2 ^ (h + 1) := by
    apply Nat.ge_two_pow_of_testBit
    rw [Nat.testBit_mod_two_pow]
    simp [hb]
  have e1 := Nat.div_add_mod a (2 ^ (h + 1))
  have e2 := Nat.div_add_mod b (2 ^ (h + 1))
  rw [hq] at e1
  omega
theorem gr_best {g : Nat → Nat} {m L G : Nat} (hG : grP g m L G) {S : Nat} (hS : S < 2 ^ m) (hc : crd S m ≤ L) : gnS g S m ≤ gnS g G m ∧ (gnS g S m = gnS g G m → crd G m ≤ crd S m ∧ (crd S m = crd G m → G ≤ S)) := by
  obtain ⟨g0, g1, g2, g3, g4⟩ := hG
  by_cases hall : ∀ j, j < m → 0 < g j → G.testBit j = true
  · -- all who gain have one
    have hz : ∀ k, k < m → G.testBit k = false → g k = 0 := fun k hk hb => by
      refine Classical.byContradiction fun hne => ?_
      have := hall k hk (by omega)
      rw [hb] at this; cases this
    have t0 := (gr_le (g := g) (m := m) (G := G) (T := 0) (fun _ _ _ => Nat.zero_le _) (fun k hk hb => by rw [hz k hk hb]; omega) S).1
    have t1 := gr_le (g := g) (m := m) (G := G) (T := 1) (fun k hk hb => by have := g1 k hk hb; omega) (fun k hk hb => by rw [hz k hk hb]; omega) S
    refine ⟨by omega, fun he => ⟨by omega, fun hce => ?_⟩⟩
    have heq : G = S := by
      apply Nat.eq_of_testBit_eq
      intro i
      by_cases hi : i < m
      · refine Classical.byContradiction fun hne => ?_
        have := t1.2 (by omega) i hi (fun z => hne z.symm)
        omega
      · rw [tb_lt g0 (by omega), tb_lt hS (by omega)]
    omega
  · -- the limit is reached
    have hcL : crd G m = L := by
      rcases g4 with h | h
      · exact h
      · exact absurd h hall
    by_cases hex : ∃ k, k < m ∧ G.testBit k = true
    · obtain ⟨k0, hk0, hb0, hmin⟩ := minT (g := g) hex
      have hp := g1 k0 hk0 hb0
      have t1 := gr_le (g := g) (m := m) (G := G) (T := 2 * g k0) (fun k hk hb => by have := hmin k hk hb; omega) (fun k hk hb => by
        rcases Nat.eq_zero_or_pos (g k) with z | z
        · omega
        · have := g2 k0 k hk0 hk hb0 hb z
          omega) S
      have q1 : 2 * g k0 * crd S m ≤ 2 * g k0 * crd G m := Nat.mul_le_mul_left _ (by omega)
      refine ⟨by omega, fun he => ⟨?_, fun hce => ?_⟩⟩
      · have q2 : 2 * g k0 * crd G m ≤ 2 * g k0 * crd S m := by omega
        exact Nat.le_of_mul_le_mul_left q2 (by omega)
      · rcases Nat.lt_or_ge S G with hlt | hge
        · exfalso
          obtain ⟨h, hh, hd, hup⟩ := top_diff hS g0 (by omega)
          have heq := t1.2 (by rw [he, hce]; exact Nat.le_refl _)
          -- the highest differing bit is in G, for S < G
          have hhG : G.testBit h = true := by
            cases e : G.testBit h
            · exfalso
              have hs1 : S.testBit h = true := by
                cases e2 : S.testBit h
                · rw [e, e2] at hd; exact absurd rfl hd
                · rfl
              have := tb_less e hs1 (fun j hj => (hup j hj).symm)
              omega
            · rfl
          have hhS : S.testBit h = false := by
            cases e2 : S.testBit h
            · rfl
            · rw [hhG, e2] at hd; exact absurd rfl hd
          -- someone else is in S and not in G, for the counts are equal
          have hj : ∃ j, j < m ∧ S.testBit j = true ∧ G.testBit j = false := by
            refine Classical.byContradiction fun hno => ?_
            have hsub : ∀ i, i < m → S.testBit i = true → G.testBit i = true := fun i hi hb => by
              cases e : G.testBit i
              · exact absurd ⟨i, hi, hb, e⟩ hno
              · rfl
            have := ctN_sub_eq hsub (show crd G m ≤ crd S m by omega) h hh
            rw [hhS, hhG] at this; cases this
          obtain ⟨j, hj1, hj2, hj3⟩ := hj
          have e1 := heq j hj1 (by rw [hj2, hj3]; decide)
          have e2 := heq h hh hd
          have := g2 h j hh hj1 hhG hj3 (by omega)
          rcases this with q | ⟨-, q⟩
          · omega
          · have := hup j q
            rw [hj2, hj3] at this; cases this
        · exact hge
    · have := crd_0 hex
      have hL0 : L = 0 := by omega
      have hcS : crd S m = 0 := by omega
      have hSe : S = G := by
        apply Nat.eq_of_testBit_eq
        intro i
        by_cases hi : i < m
        · have b1 : G.testBit i = false := by
            cases e : G.testBit i
            · rfl
            · exact absurd ⟨i, hi, e⟩ hex
          have b2 : S.testBit i = false := by
            have hsub := ctN_sub_eq (p := fun i => G.testBit i) (q := fun i => S.testBit i) (n := m) (fun i hi hb => absurd ⟨i, hi, hb⟩ hex) (show crd S m ≤ crd G m by omega) i hi
            rw [← hsub]; exact b1
          rw [b1, b2]
        · rw [tb_lt g0 (by omega), tb_lt hS (by omega)]
      subst hSe
      exact ⟨Nat.le_refl _, fun _ => ⟨Nat.le_refl _, fun _ => Nat.le_refl _⟩⟩
/-! buckets with and without a spade -/
def bkS (age skill friend place mood : Nat → Int32) (m k : Nat) (b : Bool) : Int32 := if place k = -1 then 0 else halvS (skill k + (if b then 2 else 0) + b2i (friB friend place m k)) (mood k) (age k)
theorem bk_eq (age skill friend place mood : Nat → Int32) (spades : Int32) (m k : Nat) : buckS age skill friend place mood spades m k = bkS age skill friend place mood m k (bitB spades k) := rfl
def bkN (age skill friend place mood : Nat → Int32) (m k : Nat) (b : Bool) : Nat := (bkS age skill friend place mood m k b).toNatClampNeg
theorem bkS_r {age skill friend place mood : Nat → Int32} {m k : Nat} (hs : 1 ≤ skill k ∧ skill k ≤ 9) (b : Bool) : 0 ≤ bkS age skill friend place mood m k b ∧ bkS age skill friend place mood m k b ≤ 100 := by
  unfold bkS
  by_cases h : place k = -1
  · rw [if_pos h]; decide
  · rw [if_neg h]
    have hl := ld_r (y := if b = true then 2 else 0) (z := b2i (friB friend place m k)) hs.1 hs.2 (by split <;> simp) (b2i_01 _)
    exact halv_r hl.1 hl.2
theorem bkN_I {age skill friend place mood : Nat → Int32} {m k : Nat} (hs : 1 ≤ skill k ∧ skill k ≤ 9) (b : Bool) : bkS age skill friend place mood m k b = nI (bkN age skill friend place mood m k b) ∧ bkN age skill friend place mood m k b ≤ 100 := by
  have h := bkS_r (age := age) (friend := friend) (place := place) (mood := mood) (m := m) hs b
  obtain ⟨j, hj, e⟩ := nI_of2 (x := bkS age skill friend place mood m k b) (M := 100) (n := 100) rfl (by have := h.1; grind) h.2
  unfold bkN
  rw [e, nI_clamp (by omega)]
  exact ⟨rfl, hj⟩
theorem hv_mono {a : Int32} (h1 : 1 ≤ a) (h2 : a ≤ 9) (z : Bool) (mo ag : Int32) : halvS (a + 0 + b2i z) mo ag ≤ halvS (a + 2 + b2i z) mo ag := by
  obtain ⟨j, hj, rfl⟩ := nI_of2 (x := a) (M := 9) (n := 9) rfl (by grind) h2
  have tab : ∀ (z : Bool) (j : Nat), j < 10 → (nI j + 0 + b2i z) ≤ (nI j + 2 + b2i z) ∧ (nI j + 0 + b2i z) / 2 ≤ (nI j + 2 + b2i z) / 2 ∧ (nI j + 0 + b2i z) / 2 / 2 ≤ (nI j + 2 + b2i z) / 2 / 2 := by decide +kernel
  have t := tab z j (by omega)
  unfold halvS
  split <;> split
  · exact t.2.1
  · exact t.2.2
  · exact t.1
  · exact t.2.1
theorem bkN_mono {age skill friend place mood : Nat → Int32} {m k : Nat} (hs : 1 ≤ skill k ∧ skill k ≤ 9) : bkN age skill friend place mood m k false ≤ bkN age skill friend place mood m k true := by
  have h := bkS_r (age := age) (friend := friend) (place := place) (mood := mood) (m := m) hs false
  unfold bkN
  refine cl_le h.1 ?_
  unfold bkS
  by_cases e : place k = -1
  · rw [if_pos e, if_pos e]; exact Int32.le_refl _
  · rw [if_neg e, if_neg e]
    exact hv_mono hs.1 hs.2 _ _ _
def gaN (age skill friend place mood : Nat → Int32) (m k : Nat) : Nat := bkN age skill friend place mood m k true - bkN age skill friend place mood m k false
def toN (age skill friend place mood : Nat → Int32) (m S : Nat) : Nat := sumW (fun k => bkN age skill friend place mood m k (S.testBit k)) m
theorem to_gn {age skill friend place mood : Nat → Int32} {m : Nat} (hs : ∀ k, k < m → 1 ≤ skill k ∧ skill k ≤ 9) (S : Nat) : toN age skill friend place mood m S = sumW (fun k => bkN age skill friend place mood m k false) m + gnS (gaN age skill friend place mood m) S m := by
  unfold toN gnS
  rw [← sumW_add]
  apply sumW_congr
  intro k hk
  have := bkN_mono (age := age) (friend := friend) (place := place) (mood := mood) (m := m) (hs k hk)
  unfold gaN
  cases S.testBit k <;> simp <;> omega
theorem sumN_to {age skill friend place mood : Nat → Int32} {m : Nat} (hs : ∀ k, k < m → 1 ≤ skill k ∧ skill k ≤ 9) {S : Nat} {n : Nat} (hn : n ≤ m) (hm : m ≤ 8) : sumN (fun k => buckS age skill friend place mood (nI S) m k) n = nI (sumW (fun k => bkN age skill friend place mood m k (S.testBit k)) n) := by
  induction n with
  | zero => rfl
  | succ n ih =>
    rw [sumN_s, ih (by omega)]
    simp only [sumW]
    rw [bk_eq, bitB_t _ (by omega), b_nI _ (by omega), (bkN_I (hs n (by omega)) _).1, nI_add]
theorem to_b {age skill friend place mood : Nat → Int32} {m : Nat} (hs : ∀ k, k < m → 1 ≤ skill k ∧ skill k ≤ 9) (hm : m ≤ 8) (S : Nat) : toN age skill friend place mood m S ≤ 800 := by
  have := sumW_b (f := fun k => bkN age skill friend place mood m k (S.testBit k)) (b := 100) (n := m) (fun k hk => (bkN_I (hs k hk) _).2)
  unfold toN
  omega
/-! the class's choice -/
theorem or_tb (C k : Nat) : nI C ||| jshl 1 (nI k) = nI (C ||| 2 ^ k) ∨ 31 ≤ k := by
  rcases Nat.lt_or_ge k 31 with h | h
  · left
    apply b_ext
    intro i hi
    rw [b_or, b_nI _ hi, b_sh1 k (by omega) hi, b_nI _ hi, Nat.testBit_or, Nat.testBit_two_pow]
    congr 1
    rw [Bool.eq_iff_iff]
    simp only [decide_eq_true_eq]
    exact eq_comm
  · exact Or.inr h
theorem t_bestSp {m : Nat} (hm : m ≤ 8) {age skill friend pals place mood : Nat → Int32} (hp : palsOk friend pals m) (hs : ∀ k, k < m → 1 ≤ skill k ∧ skill k ≤ 9) (C : Nat) : ∃ b, fX11_bestForSpade (nI m) age skill pals (nI C) mood place = some (b, nI C) ∧ ((b = 0 ∧ ∀ j, j < m → 0 < gaN age skill friend place mood m j → C.testBit j = true) ∨ ∃ k, k < m ∧ b = jshl 1 (nI k) ∧ C.testBit k = false ∧ 0 < gaN age skill friend place mood m k ∧ ∀ j, j < m → C.testBit j = false → j ≠ k → 0 < gaN age skill friend place mood m j → gaN age skill friend place mood m j < gaN age skill friend place mood m k ∨ (gaN age skill friend place mood m j = gaN age skill friend place mood m k ∧ k < j)) := by
  have gain : ∀ i, i < m → ∃ u v, fX9_buckets (nI C) mood place (nI m) age skill pals (nI i) = some u ∧ fX9_buckets (nI C ||| jshl 1 (nI i)) mood place (nI m) age skill pals (nI i) = some v ∧ v - u = nI (if C.testBit i then 0 else gaN age skill friend place mood m i) := by
    intro i hi
    refine ⟨_, _, t_buckets hm hp hi, t_buckets hm hp hi, ?_⟩
    rw [bk_eq, bk_eq, bitB_or1 _ (by omega) (by omega), bitB_t _ (by omega), b_nI _ (by omega)]
    have eo : (C.testBit i || decide (i = i)) = true := by simp
    rw [eo, (bkN_I (hs i hi) _).1, (bkN_I (hs i hi) _).1]
    have hmn := bkN_mono (age := age) (friend := friend) (place := place) (mood := mood) (m := m) (hs i hi)
    cases C.testBit i
    · rw [pk_sub hmn]; rfl
    · rw [pk_sub (Nat.le_refl _), Nat.sub_self]; rfl
  have gb : ∀ i, i < m → gaN age skill friend place mood m i ≤ 100 := fun i hi => by
    have := (bkN_I (age := age) (friend := friend) (place := place) (mood := mood) (m := m) (hs i hi) true).2
    unfold gaN; omega
  unfold fX11_bestForSpade fX11_bestForSpade_b15
  generalize hg : gaN age skill friend place mood m = g at *
  refine lp_inv (fun r => ∃ b, r = some (b, nI C) ∧ ((b = 0 ∧ ∀ j, j < m → 0 < g j → C.testBit j = true) ∨ ∃ k, k < m ∧ b = jshl 1 (nI k) ∧ C.testBit k = false ∧ 0 < g k ∧ ∀ j, j < m → C.testBit j = false → j ≠ k → 0 < g j → g j < g k ∨ (g j = g k ∧ k < j))) (fun i s => s.1 = nI C ∧ s.2.2.2 = nI i ∧ ((s.2.1 = 0 ∧ s.2.2.1 = nI 0 ∧ ∀ j, j < i → 0 < g j → C.testBit j = true) ∨ ∃ k, k < i ∧ s.2.1 = jshl 1 (nI k) ∧ s.2.2.1 = nI (g k) ∧ C.testBit k = false ∧ 0 < g k ∧ ∀ j, j < i → C.testBit j = false → j ≠ k → 0 < g j → g j < g k ∨ (g j = g k ∧ k < j))) m (by omega) ⟨rfl, rfl, Or.inl ⟨rfl, rfl, fun j hj => absurd hj (by omega)⟩⟩ ?_
  intro i s k15 hi hI
  obtain ⟨sp, x2, x3, x4⟩ := s
  obtain ⟨e1, e2, e3⟩ := hI
  simp only at e1 e2 e3
  subst e1 e2
  by_cases e : i = m
  · subst e
    right
    have hle : nI i ≤ nI i := nI_le (Nat.le_refl i) (by omega)
    refine ⟨x2, by simp only [fX11_bestForSpade_l15, if_pos hle, fX11_bestForSpade_b93], ?_⟩
    rcases e3 with ⟨q1, -, q3⟩ | ⟨k, q1, q2, -, q4⟩
    · exact Or.inl ⟨q1, q3⟩
    · exact Or.inr ⟨k, q1, q2, q4⟩
  · have hi2 : i < m := by omega
    have cc : ¬ nI m ≤ nI i := nI_ge hi2 (by omega)
    left
    refine ⟨hi2, ?_⟩
    obtain ⟨u, v, b1, b2, b3⟩ := gain i hi2
    have gbi := gb i hi2
    have step : ∀ mo : Nat, mo ≤ 100 → x3 = nI mo → fX11_bestForSpade_l15 (nI m) age skill pals mood place (nI C) k15 (nI C) x2 x3 (nI i) = k15 (if (if C.testBit i then 0 else g i) ≤ mo then (nI C, x2, x3, nI (i + 1)) else (nI C, jshl 1 (nI i), nI (if C.testBit i then 0 else g i), nI (i + 1))) := by
      intro mo hmo e
      have hgn : (if C.testBit i then 0 else g i) ≤ 100 := by split <;> omega
      by_cases z : (if C.testBit i then 0 else g i) ≤ mo
      · have z2 : nI (if C.testBit i then 0 else g i) ≤ x3 := by rw [e]; exact nI_le z (by omega)
        simp only [fX11_bestForSpade_l15, if_neg cc, b1, b2, ob_s, b3, if_pos z2, fX11_bestForSpade_b87, nI_1]
        rw [if_pos z]
      · have z2 : ¬ nI (if C.testBit i then 0 else g i) ≤ x3 := by rw [e]; exact nI_ge (by omega) (by omega)
        simp only [fX11_bestForSpade_l15, if_neg cc, b1, b2, ob_s, b3, if_neg z2, fX11_bestForSpade_b87, nI_1]
        rw [if_neg z]
    rcases e3 with ⟨q1, q2, q3⟩ | ⟨k, q1, q2, q2b, q4, q5, q6⟩
    · refine ⟨_, ?_, step 0 (by omega) q2⟩
      by_cases z : (if C.testBit i then 0 else g i) ≤ 0
      · rw [if_pos z]
        refine ⟨rfl, rfl, Or.inl ⟨q1, q2, fun j hj hg0 => ?_⟩⟩
        by_cases e : j = i
        · subst e
          cases hb : C.testBit j
          · rw [hb] at z; simp at z; omega
          · rfl
        · exact q3 j (by omega) hg0
      · rw [if_neg z]
        cases hb : C.testBit i
        · rw [hb] at z
          simp at z
          refine ⟨rfl, rfl, Or.inr ⟨i, by omega, rfl, ?_, hb, by omega, ?_⟩⟩
          · simp
          · intro j hj hcb hne hg0
            have := q3 j (by omega) hg0
            rw [hcb] at this; cases this
        · rw [hb] at z; simp at z
    · refine ⟨_, ?_, step (g k) (gb k (by omega)) q2b⟩
      by_cases z : (if C.testBit i then 0 else g i) ≤ g k
      · rw [if_pos z]
        refine ⟨rfl, rfl, Or.inr ⟨k, by omega, q2, q2b, q4, q5, fun j hj hcb hne hg0 => ?_⟩⟩
        by_cases e : j = i
        · subst e
          rw [hcb] at z
          simp at z
          omega
        · exact q6 j (by omega) hcb hne hg0
      · rw [if_neg z]
        cases hb : C.testBit i
        · rw [hb] at z
          simp at z
          refine ⟨rfl, rfl, Or.inr ⟨i, by omega, rfl, ?_, hb, by omega, ?_⟩⟩
          · simp
          · intro j hj hcb hne hg0
            by_cases e : j = k
            · subst e; left; exact z
            · have := q6 j (by omega) hcb e hg0
              omega
        · rw [hb] at z; simp at z
