/-! ===== who should have the spades ===== -/
theorem sumW_eq {f g : Nat → Nat} {n : Nat} (h : ∀ c, c < n → f c ≤ g c) (he : sumW g n ≤ sumW f n) : ∀ c, c < n → f c = g c := by
  intro c hc
  refine Classical.byContradiction fun hne => ?_
  have := sumW_lt h hc (show f c < g c by have := h c hc; omega)
  omega
theorem sumW_congr {f g : Nat → Nat} : ∀ {n : Nat}, (∀ c, c < n → f c = g c) → sumW f n = sumW g n
  | 0, _ => rfl
  | n + 1, h => by
    simp only [sumW]; rw [sumW_congr (fun c hc => h c (by omega)), h n (by omega)]
theorem sumW_lin (a b : Nat → Nat) (T : Nat) : ∀ n, sumW (fun k => 2 * a k + T * b k) n = 2 * sumW a n + T * sumW b n
  | 0 => by simp [sumW]
  | n + 1 => by
    simp only [sumW]; rw [sumW_lin a b T n, Nat.mul_add, Nat.mul_add]; omega
theorem sumW_add (a b : Nat → Nat) : ∀ n, sumW (fun k => a k + b k) n = sumW a n + sumW b n
  | 0 => by simp [sumW]
  | n + 1 => by
    simp only [sumW]; rw [sumW_add a b n]; omega
def crd (S m : Nat) : Nat := ctN (fun i => S.testBit i) m
def gnS (g : Nat → Nat) (S m : Nat) : Nat := sumW (fun k => if S.testBit k then g k else 0) m
theorem crd_W (S m : Nat) : crd S m = sumW (fun k => if S.testBit k then 1 else 0) m := by
  unfold crd
  induction m with
  | zero => rfl
  | succ m ih => simp only [ctN, sumW]; rw [ih]
/-- the exchange: a threshold between those in G and those out of it -/
theorem gr_le {g : Nat → Nat} {m G T : Nat} (h1 : ∀ k, k < m → G.testBit k = true → T ≤ 2 * g k) (h2 : ∀ k, k < m → G.testBit k = false → 2 * g k ≤ T) (S : Nat) : 2 * gnS g S m + T * crd G m ≤ 2 * gnS g G m + T * crd S m ∧ (2 * gnS g G m + T * crd S m ≤ 2 * gnS g S m + T * crd G m → ∀ k, k < m → S.testBit k ≠ G.testBit k → 2 * g k = T) := by
  have a1 : 2 * gnS g S m + T * crd G m = sumW (fun k => 2 * (if S.testBit k then g k else 0) + T * (if G.testBit k then 1 else 0)) m := by rw [sumW_lin, crd_W]; rfl
  have a2 : 2 * gnS g G m + T * crd S m = sumW (fun k => 2 * (if G.testBit k then g k else 0) + T * (if S.testBit k then 1 else 0)) m := by rw [sumW_lin, crd_W]; rfl
  have term : ∀ k, k < m → 2 * (if S.testBit k then g k else 0) + T * (if G.testBit k then 1 else 0) ≤ 2 * (if G.testBit k then g k else 0) + T * (if S.testBit k then 1 else 0) := by
    intro k hk
    have p1 := h1 k hk
    have p2 := h2 k hk
    cases hS : S.testBit k <;> cases hG : G.testBit k <;> simp_all
  rw [a1, a2]
  refine ⟨sumW_le term, fun he k hk hne => ?_⟩
  have := sumW_eq term he k hk
  cases hS : S.testBit k <;> cases hG : G.testBit k <;> simp_all
/-- what the greedy choice is -/
def grP (g : Nat → Nat) (m L G : Nat) : Prop := G < 2 ^ m ∧ (∀ k, k < m → G.testBit k = true → 0 < g k) ∧ (∀ k j, k < m → j < m → G.testBit k = true → G.testBit j = false → 0 < g j → g j < g k ∨ (g j = g k ∧ k < j)) ∧ crd G m ≤ L ∧ (crd G m = L ∨ ∀ j, j < m → 0 < g j → G.testBit j = true)
theorem minT {g : Nat → Nat} {G : Nat} : ∀ {m : Nat}, (∃ k, k < m ∧ G.testBit k = true) → ∃ k, k < m ∧ G.testBit k = true ∧ ∀ j, j < m → G.testBit j = true → g k ≤ g j
  | 0, ⟨k, h, _⟩ => by omega
  | m + 1, ⟨k, hk, hb⟩ => by
    by_cases e : ∃ k, k < m ∧ G.testBit k = true
    · obtain ⟨k0, h1, h2, h3⟩ := minT (g := g) e
      cases hm : G.testBit m
      · refine ⟨k0, by omega, h2, fun j hj hb => ?_⟩
        by_cases e : j = m
        · subst e; rw [hm] at hb; cases hb
        · exact h3 j (by omega) hb
      · rcases Nat.lt_or_ge (g m) (g k0) with q | q
        · refine ⟨m, by omega, hm, fun j hj hb => ?_⟩
          by_cases e : j = m
          · subst e; exact Nat.le_refl _
          · have := h3 j (by omega) hb
            omega
        · refine ⟨k0, by omega, h2, fun j hj hb => ?_⟩
          by_cases e : j = m
          · subst e; exact q
          · exact h3 j (by omega) hb
    · have : k = m := by
        refine Classical.byContradiction fun hne => e ⟨k, by omega, hb⟩
      subst this
      refine ⟨k, hk, hb, fun j hj hb2 => ?_⟩
      by_cases e2 : j = k
      · subst e2; exact Nat.le_refl _
      · exact absurd ⟨j, by omega, hb2⟩ e
theorem crd_0 {G : Nat} : ∀ {m : Nat}, (¬ ∃ k, k < m ∧ G.testBit k = true) → crd G m = 0
  | 0, _ => rfl
  | m + 1, h => by
    have h1 := crd_0 (G := G) (m := m) (fun ⟨k, a, b⟩ => h ⟨k, by omega, b⟩)
    have h2 : G.testBit m = false := by
      cases e : G.testBit m
      · rfl
      · exact absurd ⟨m, by omega, e⟩ h
    unfold crd at h1 ⊢
    simp [ctN, h1, h2]
theorem top_diff {S G m : Nat} (hS : S < 2 ^ m) (hG : G < 2 ^ m) (hne : S ≠ G) : ∃ h, h < m ∧ S.testBit h ≠ G.testBit h ∧ ∀ j, h < j → S.testBit j = G.testBit j := by
  have : ∀ n, n ≤ m → (∀ j, n ≤ j → S.testBit j = G.testBit j) → ∃ h, h < m ∧ S.testBit h ≠ G.testBit h ∧ ∀ j, h < j → S.testBit j = G.testBit j := by
    intro n
    induction n with
    | zero => intro _ h; exact absurd (Nat.eq_of_testBit_eq (fun j => h j (by omega))) hne
    | succ n ih =>
      intro hn h
      by_cases e : S.testBit n = G.testBit n
      · exact ih (by omega) (fun j hj => by
          by_cases q : j = n
          · subst q; exact e
          · exact h j (by omega))
      · exact ⟨n, by omega, e, fun j hj => h j (by omega)⟩
  exact this m (Nat.le_refl _) (fun j hj => by rw [tb_lt hS hj, tb_lt hG hj])
theorem tb_less {a b h : Nat} (ha : a.testBit h = false) (hb : b.testBit h = true) (hup : ∀ j, h < j → a.testBit j = b.testBit j) : a < b := by
  have hq : a / 2 ^ (h + 1) = b / 2 ^ (h + 1) := by
    apply Nat.eq_of_testBit_eq
    intro i
    rw [Nat.testBit_div_two_pow, Nat.testBit_div_two_pow]
    exact hup _ (by omega)
  have h1 : a % 2 ^ (h + 1) < 2 ^ h := by
    apply Nat.lt_pow_two_of_testBit
    intro i hi
    rw [Nat.testBit_mod_two_pow]
    by_cases e : i = h
    · subst e; simp [ha]
    · have : ¬ i < h + 1 := by omega
      simp [this]
  have h2 : 2 ^ h ≤ b % 2 ^ (h + 1) := by
    apply Nat.ge_two_pow_of_testBit
    rw [Nat.testBit_mod_two_pow]
    simp [hb]
  have e1 := Nat.div_add_mod a (2 ^ (h + 1))
  have e2 := Nat.div_add_mod b (2 ^ (h + 1))
  rw [hq] at e1
  omega
theorem gr_best {g : Nat → Nat} {m L G : Nat} (hG : grP g m L G) {S : Nat} (hS : S < 2 ^ m) (hc : crd S m ≤ L) : gnS g S m ≤ gnS g G m ∧ (gnS g S m = gnS g G m → crd G m ≤ crd S m ∧ (crd S m = crd G m → G ≤ S)) := by
  obtain ⟨g0, g1, g2, g3, g4⟩ := hG
  by_cases hall : ∀ j, j < m → 0 < g j → G.testBit j = true
  · -- all who gain have one
    have hz : ∀ k, k < m → G.testBit k = false → g k = 0 := fun k hk hb => by
      refine Classical.byContradiction fun hne => ?_
      have := hall k hk (by omega)
      rw [hb] at this; cases this
    have t0 := (gr_le (g := g) (m := m) (G := G) (T := 0) (fun _ _ _ => Nat.zero_le _) (fun k hk hb => by rw [hz k hk hb]; omega) S).1
    have t1 := gr_le (g := g) (m := m) (G := G) (T := 1) (fun k hk hb => by have := g1 k hk hb; omega) (fun k hk hb => by rw [hz k hk hb]; omega) S
    refine ⟨by omega, fun he => ⟨by omega, fun hce => ?_⟩⟩
    have heq : G = S := by
      apply Nat.eq_of_testBit_eq
      intro i
      by_cases hi : i < m
      · refine Classical.byContradiction fun hne => ?_
        have := t1.2 (by omega) i hi (fun z => hne z.symm)
        omega
      · rw [tb_lt g0 (by omega), tb_lt hS (by omega)]
    omega
  · -- the limit is reached
    have hcL : crd G m = L := by
      rcases g4 with h | h
      · exact h
      · exact absurd h hall
    by_cases hex : ∃ k, k < m ∧ G.testBit k = true
    · obtain ⟨k0, hk0, hb0, hmin⟩ := minT (g := g) hex
      have hp := g1 k0 hk0 hb0
      have t1 := gr_le (g := g) (m := m) (G := G) (T := 2 * g k0) (fun k hk hb => by have := hmin k hk hb; omega) (fun k hk hb => by
        rcases Nat.eq_zero_or_pos (g k) with z | z
        · omega
        · have := g2 k0 k hk0 hk hb0 hb z
          omega) S
      have q1 : 2 * g k0 * crd S m ≤ 2 * g k0 * crd G m := Nat.mul_le_mul_left _ (by omega)
      refine ⟨by omega, fun he => ⟨?_, fun hce => ?_⟩⟩
      · have q2 : 2 * g k0 * crd G m ≤ 2 * g k0 * crd S m := by omega
        exact Nat.le_of_mul_le_mul_left q2 (by omega)
      · rcases Nat.lt_or_ge S G with hlt | hge
        · exfalso
          obtain ⟨h, hh, hd, hup⟩ := top_diff hS g0 (by omega)
          have heq := t1.2 (by rw [he, hce]; exact Nat.le_refl _)
          -- the highest differing bit is in G, for S < G
          have hhG : G.testBit h = true := by
            cases e : G.testBit h
            · exfalso
              have hs1 : S.testBit h = true := by
                cases e2 : S.testBit h
                · rw [e, e2] at hd; exact absurd rfl hd
                · rfl
              have := tb_less e hs1 (fun j hj => (hup j hj).symm)
              omega
            · rfl
          have hhS : S.testBit h = false := by
            cases e2 : S.testBit h
            · rfl
            · rw [hhG, e2] at hd; exact absurd rfl hd
          -- someone else is in S and not in G, for the counts are equal
          have hj : ∃ j, j < m ∧ S.testBit j = true ∧ G.testBit j = false := by
            refine Classical.byContradiction fun hno => ?_
            have hsub : ∀ i, i < m → S.testBit i = true → G.testBit i = true := fun i hi hb => by
              cases e : G.testBit i
              · exact absurd ⟨i, hi, hb, e⟩ hno
              · rfl
            have := ctN_sub_eq hsub (show crd G m ≤ crd S m by omega) h hh
            rw [hhS, hhG] at this; cases this
          obtain ⟨j, hj1, hj2, hj3⟩ := hj
          have e1 := heq j hj1 (by rw [hj2, hj3]; decide)
          have e2 := heq h hh hd
          have := g2 h j hh hj1 hhG hj3 (by omega)
          rcases this with q | ⟨-, q⟩
          · omega
          · have := hup j q
            rw [hj2, hj3] at this; cases this
        · exact hge
    · have := crd_0 hex
      have hL0 : L = 0 := by omega
      have hcS : crd S m = 0 := by omega
      have hSe : S = G := by
        apply Nat.eq_of_testBit_eq
        intro i
        by_cases hi : i < m
        · have b1 : G.testBit i = false := by
            cases e : G.testBit i
            · rfl
            · exact absurd ⟨i, hi, e⟩ hex
          have b2 : S.testBit i = false := by
            have hsub := ctN_sub_eq (p := fun i => G.testBit i) (q := fun i => S.testBit i) (n := m) (fun i hi hb => absurd ⟨i, hi, hb⟩ hex) (show crd S m ≤ crd G m by omega) i hi
            rw [← hsub]; exact b1
          rw [b1, b2]
        · rw [tb_lt g0 (by omega), tb_lt hS (by omega)]
      subst hSe
      exact ⟨Nat.le_refl _, fun _ => ⟨Nat.le_refl _, fun _ => Nat.le_refl _⟩⟩
/-! buckets with and without a spade -/
def bkS (age skill friend place mood : Nat → Int32) (m k : Nat) (b : Bool) : Int32 := if place k = -1 then 0 else halvS (skill k + (if b then 2 else 0) + b2i (friB friend place m k)) (mood k) (age k)
theorem bk_eq (age skill friend place mood : Nat → Int32) (spades : Int32) (m k : Nat) : buckS age skill friend place mood spades m k = bkS age skill friend place mood m k (bitB spades k) := rfl
def bkN (age skill friend place mood : Nat → Int32) (m k : Nat) (b : Bool) : Nat := (bkS age skill friend place mood m k b).toNatClampNeg
theorem bkS_r {age skill friend place mood : Nat → Int32} {m k : Nat} (hs : 1 ≤ skill k ∧ skill k ≤ 9) (b : Bool) : 0 ≤ bkS age skill friend place mood m k b ∧ bkS age skill friend place mood m k b ≤ 100 := by
  unfold bkS
  by_cases h : place k = -1
  · rw [if_pos h]; decide
  · rw [if_neg h]
    have hl := ld_r (y := if b = true then 2 else 0) (z := b2i (friB friend place m k)) hs.1 hs.2 (by split <;> simp) (b2i_01 _)
    exact halv_r hl.1 hl.2
theorem bkN_I {age skill friend place mood : Nat → Int32} {m k : Nat} (hs : 1 ≤ skill k ∧ skill k ≤ 9) (b : Bool) : bkS age skill friend place mood m k b = nI (bkN age skill friend place mood m k b) ∧ bkN age skill friend place mood m k b ≤ 100 := by
  have h := bkS_r (age := age) (friend := friend) (place := place) (mood := mood) (m := m) hs b
  obtain ⟨j, hj, e⟩ := nI_of2 (x := bkS age skill friend place mood m k b) (M := 100) (n := 100) rfl (by have := h.1; grind) h.2
  unfold bkN
  rw [e, nI_clamp (by omega)]
  exact ⟨rfl, hj⟩
theorem hv_mono {a : Int32} (h1 : 1 ≤ a) (h2 : a ≤ 9) (z : Bool) (mo ag : Int32) : halvS (a + 0 + b2i z) mo ag ≤ halvS (a + 2 + b2i z) mo ag := by
  obtain ⟨j, hj, rfl⟩ := nI_of2 (x := a) (M := 9) (n := 9) rfl (by grind) h2
  have tab : ∀ (z : Bool) (j : Nat), j < 10 → (nI j + 0 + b2i z) ≤ (nI j + 2 + b2i z) ∧ (nI j + 0 + b2i z) / 2 ≤ (nI j + 2 + b2i z) / 2 ∧ (nI j + 0 + b2i z) / 2 / 2 ≤ (nI j + 2 + b2i z) / 2 / 2 := by decide +kernel
  have t := tab z j (by omega)
  unfold halvS
  split <;> split
  · exact t.2.1
  · exact t.2.2
  · exact t.1
  · exact t.2.1
theorem bkN_mono {age skill friend place mood : Nat → Int32} {m k : Nat} (hs : 1 ≤ skill k ∧ skill k ≤ 9) : bkN age skill friend place mood m k false ≤ bkN age skill friend place mood m k true := by
  have h := bkS_r (age := age) (friend := friend) (place := place) (mood := mood) (m := m) hs false
  unfold bkN
  refine cl_le h.1 ?_
  unfold bkS
  by_cases e : place k = -1
  · rw [if_pos e, if_pos e]; exact Int32.le_refl _
  · rw [if_neg e, if_neg e]
    exact hv_mono hs.1 hs.2 _ _ _
def gaN (age skill friend place mood : Nat → Int32) (m k : Nat) : Nat := bkN age skill friend place mood m k true - bkN age skill friend place mood m k false
def toN (age skill friend place mood : Nat → Int32) (m S : Nat) : Nat := sumW (fun k => bkN age skill friend place mood m k (S.testBit k)) m
theorem to_gn {age skill friend place mood : Nat → Int32} {m : Nat} (hs : ∀ k, k < m → 1 ≤ skill k ∧ skill k ≤ 9) (S : Nat) : toN age skill friend place mood m S = sumW (fun k => bkN age skill friend place mood m k false) m + gnS (gaN age skill friend place mood m) S m := by
  unfold toN gnS
  rw [← sumW_add]
  apply sumW_congr
  intro k hk
  have := bkN_mono (age := age) (friend := friend) (place := place) (mood := mood) (m := m) (hs k hk)
  unfold gaN
  cases S.testBit k <;> simp <;> omega
theorem sumN_to {age skill friend place mood : Nat → Int32} {m : Nat} (hs : ∀ k, k < m → 1 ≤ skill k ∧ skill k ≤ 9) {S : Nat} {n : Nat} (hn : n ≤ m) (hm : m ≤ 8) : sumN (fun k => buckS age skill friend place mood (nI S) m k) n = nI (sumW (fun k => bkN age skill friend place mood m k (S.testBit k)) n) := by
  induction n with
  | zero => rfl
  | succ n ih =>
    rw [sumN_s, ih (by omega)]
    simp only [sumW]
    rw [bk_eq, bitB_t _ (by omega), b_nI _ (by omega), (bkN_I (hs n (by omega)) _).1, nI_add]
theorem to_b {age skill friend place mood : Nat → Int32} {m : Nat} (hs : ∀ k, k < m → 1 ≤ skill k ∧ skill k ≤ 9) (hm : m ≤ 8) (S : Nat) : toN age skill friend place mood m S ≤ 800 := by
  have := sumW_b (f := fun k => bkN age skill friend place mood m k (S.testBit k)) (b := 100) (n := m) (fun k hk => (bkN_I (hs k hk) _).2)
  unfold toN
  omega
/-! the class's choice -/
theorem or_tb (C k : Nat) : nI C ||| jshl 1 (nI k) = nI (C ||| 2 ^ k) ∨ 31 ≤ k := by
  rcases Nat.lt_or_ge k 31 with h | h
  · left
    apply b_ext
    intro i hi
    rw [b_or, b_nI _ hi, b_sh1 k (by omega) hi, b_nI _ hi, Nat.testBit_or, Nat.testBit_two_pow]
    congr 1
    rw [Bool.eq_iff_iff]
    simp only [decide_eq_true_eq]
    exact eq_comm
  · exact Or.inr h
theorem t_bestSp {m : Nat} (hm : m ≤ 8) {age skill friend pals place mood : Nat → Int32} (hp : palsOk friend pals m) (hs : ∀ k, k < m → 1 ≤ skill k ∧ skill k ≤ 9) (C : Nat) : ∃ b, fX11_bestForSpade (nI m) age skill pals (nI C) mood place = some (b, nI C) ∧ ((b = 0 ∧ ∀ j, j < m → 0 < gaN age skill friend place mood m j → C.testBit j = true) ∨ ∃ k, k < m ∧ b = jshl 1 (nI k) ∧ C.testBit k = false ∧ 0 < gaN age skill friend place mood m k ∧ ∀ j, j < m → C.testBit j = false → j ≠ k → 0 < gaN age skill friend place mood m j → gaN age skill friend place mood m j < gaN age skill friend place mood m k ∨ (gaN age skill friend place mood m j = gaN age skill friend place mood m k ∧ k < j)) := by
  have gain : ∀ i, i < m → ∃ u v, fX9_buckets (nI C) mood place (nI m) age skill pals (nI i) = some u ∧ fX9_buckets (nI C ||| jshl 1 (nI i)) mood place (nI m) age skill pals (nI i) = some v ∧ v - u = nI (if C.testBit i then 0 else gaN age skill friend place mood m i) := by
    intro i hi
    refine ⟨_, _, t_buckets hm hp hi, t_buckets hm hp hi, ?_⟩
    rw [bk_eq, bk_eq, bitB_or1 _ (by omega) (by omega), bitB_t _ (by omega), b_nI _ (by omega)]
    have eo : (C.testBit i || decide (i = i)) = true := by simp
    rw [eo, (bkN_I (hs i hi) _).1, (bkN_I (hs i hi) _).1]
    have hmn := bkN_mono (age := age) (friend := friend) (place := place) (mood := mood) (m := m) (hs i hi)
    cases C.testBit i
    · rw [pk_sub hmn]; rfl
    · rw [pk_sub (Nat.le_refl _), Nat.sub_self]; rfl
  have gb : ∀ i, i < m → gaN age skill friend place mood m i ≤ 100 := fun i hi => by
    have := (bkN_I (age := age) (friend := friend) (place := place) (mood := mood) (m := m) (hs i hi) true).2
    unfold gaN; omega
  unfold fX11_bestForSpade fX11_bestForSpade_b15
  generalize hg : gaN age skill friend place mood m = g at *
  refine lp_inv (fun r => ∃ b, r = some (b, nI C) ∧ ((b = 0 ∧ ∀ j, j < m → 0 < g j → C.testBit j = true) ∨ ∃ k, k < m ∧ b = jshl 1 (nI k) ∧ C.testBit k = false ∧ 0 < g k ∧ ∀ j, j < m → C.testBit j = false → j ≠ k → 0 < g j → g j < g k ∨ (g j = g k ∧ k < j))) (fun i s => s.1 = nI C ∧ s.2.2.2 = nI i ∧ ((s.2.1 = 0 ∧ s.2.2.1 = nI 0 ∧ ∀ j, j < i → 0 < g j → C.testBit j = true) ∨ ∃ k, k < i ∧ s.2.1 = jshl 1 (nI k) ∧ s.2.2.1 = nI (g k) ∧ C.testBit k = false ∧ 0 < g k ∧ ∀ j, j < i → C.testBit j = false → j ≠ k → 0 < g j → g j < g k ∨ (g j = g k ∧ k < j))) m (by omega) ⟨rfl, rfl, Or.inl ⟨rfl, rfl, fun j hj => absurd hj (by omega)⟩⟩ ?_
  intro i s k15 hi hI
  obtain ⟨sp, x2, x3, x4⟩ := s
  obtain ⟨e1, e2, e3⟩ := hI
  simp only at e1 e2 e3
  subst e1 e2
  by_cases e : i = m
  · subst e
    right
    have hle : nI i ≤ nI i := nI_le (Nat.le_refl i) (by omega)
    refine ⟨x2, by simp only [fX11_bestForSpade_l15, if_pos hle, fX11_bestForSpade_b93], ?_⟩
    rcases e3 with ⟨q1, -, q3⟩ | ⟨k, q1, q2, -, q4⟩
    · exact Or.inl ⟨q1, q3⟩
    · exact Or.inr ⟨k, q1, q2, q4⟩
  · have hi2 : i < m := by omega
    have cc : ¬ nI m ≤ nI i := nI_ge hi2 (by omega)
    left
    refine ⟨hi2, ?_⟩
    obtain ⟨u, v, b1, b2, b3⟩ := gain i hi2
    have gbi := gb i hi2
    have step : ∀ mo : Nat, mo ≤ 100 → x3 = nI mo → fX11_bestForSpade_l15 (nI m) age skill pals mood place (nI C) k15 (nI C) x2 x3 (nI i) = k15 (if (if C.testBit i then 0 else g i) ≤ mo then (nI C, x2, x3, nI (i + 1)) else (nI C, jshl 1 (nI i), nI (if C.testBit i then 0 else g i), nI (i + 1))) := by
      intro mo hmo e
      have hgn : (if C.testBit i then 0 else g i) ≤ 100 := by split <;> omega
      by_cases z : (if C.testBit i then 0 else g i) ≤ mo
      · have z2 : nI (if C.testBit i then 0 else g i) ≤ x3 := by rw [e]; exact nI_le z (by omega)
        simp only [fX11_bestForSpade_l15, if_neg cc, b1, b2, ob_s, b3, if_pos z2, fX11_bestForSpade_b87, nI_1]
        rw [if_pos z]
      · have z2 : ¬ nI (if C.testBit i then 0 else g i) ≤ x3 := by rw [e]; exact nI_ge (by omega) (by omega)
        simp only [fX11_bestForSpade_l15, if_neg cc, b1, b2, ob_s, b3, if_neg z2, fX11_bestForSpade_b87, nI_1]
        rw [if_neg z]
    rcases e3 with ⟨q1, q2, q3⟩ | ⟨k, q1, q2, q2b, q4, q5, q6⟩
    · refine ⟨_, ?_, step 0 (by omega) q2⟩
      by_cases z : (if C.testBit i then 0 else g i) ≤ 0
      · rw [if_pos z]
        refine ⟨rfl, rfl, Or.inl ⟨q1, q2, fun j hj hg0 => ?_⟩⟩
        by_cases e : j = i
        · subst e
          cases hb : C.testBit j
          · rw [hb] at z; simp at z; omega
          · rfl
        · exact q3 j (by omega) hg0
      · rw [if_neg z]
        cases hb : C.testBit i
        · rw [hb] at z
          simp at z
          refine ⟨rfl, rfl, Or.inr ⟨i, by omega, rfl, ?_, hb, by omega, ?_⟩⟩
          · simp
          · intro j hj hcb hne hg0
            have := q3 j (by omega) hg0
            rw [hcb] at this; cases this
        · rw [hb] at z; simp at z
    · refine ⟨_, ?_, step (g k) (gb k (by omega)) q2b⟩
      by_cases z : (if C.testBit i then 0 else g i) ≤ g k
      · rw [if_pos z]
        refine ⟨rfl, rfl, Or.inr ⟨k, by omega, q2, q2b, q4, q5, fun j hj hcb hne hg0 => ?_⟩⟩
        by_cases e : j = i
        · subst e
          rw [hcb] at z
          simp at z
          omega
        · exact q6 j (by omega) hcb hne hg0
      · rw [if_neg z]
        cases hb : C.testBit i
        · rw [hb] at z
          simp at z
          refine ⟨rfl, rfl, Or.inr ⟨i, by omega, rfl, ?_, hb, by omega, ?_⟩⟩
          · simp
          · intro j hj hcb hne hg0
            by_cases e : j = k
            · subst e; left; exact z
            · have := q6 j (by omega) hcb e hg0
              omega
        · rw [hb] at z; simp at z
theorem or2_tb (C k j : Nat) : (C ||| 2 ^ k).testBit j = (C.testBit j || decide (j = k)) := by
  rw [Nat.testBit_or, Nat.testBit_two_pow]
  congr 1
  rw [Bool.eq_iff_iff]
  simp only [decide_eq_true_eq]
  exact eq_comm
theorem t_greedy {m : Nat} (hm : m ≤ 8) {age skill friend pals place mood : Nat → Int32} (hp : palsOk friend pals m) (hs : ∀ k, k < m → 1 ≤ skill k ∧ skill k ≤ 9) {L : Nat} (hL : L ≤ 8) (moats spades tides : Int32) (nwall ndepth nmood nplace wall depth : Nat → Int32) (ts tm tt : Int32) (tn : Nat → Int64) : ∃ G, grP (gaN age skill friend place mood m) m L G ∧ fX11_spades_b21 (nI L) (nI m) age skill pals moats spades tides nwall ndepth nmood nplace ts tn tm 0 tt wall depth mood place 0 = fX11_spades_b51 (nI L) (nI m) age skill pals moats spades tides nwall ndepth nmood nplace ts tn tm (nI G) tt wall depth mood place := by
  generalize hg : gaN age skill friend place mood m = g
  unfold fX11_spades_b21
  refine lp_inv (fun r => ∃ G, grP g m L G ∧ r = fX11_spades_b51 (nI L) (nI m) age skill pals moats spades tides nwall ndepth nmood nplace ts tn tm (nI G) tt wall depth mood place) (fun h s => s.2 = nI h ∧ ∃ C, s.1 = nI C ∧ C < 2 ^ m ∧ (∀ k, k < m → C.testBit k = true → 0 < g k) ∧ (∀ k j, k < m → j < m → C.testBit k = true → C.testBit j = false → 0 < g j → g j < g k ∨ (g j = g k ∧ k < j)) ∧ (crd C m = h ∨ (crd C m ≤ h ∧ ∀ j, j < m → 0 < g j → C.testBit j = true))) L (by omega) ?_ ?_
  · refine ⟨rfl, 0, rfl, Nat.two_pow_pos m, fun k _ h => by simp at h, fun k j _ _ h => by simp at h, Or.inl ?_⟩
    apply crd_0
    rintro ⟨k, -, h⟩
    simp at h
  · intro h s k21 hh hI
    obtain ⟨sp, x⟩ := s
    obtain ⟨e1, C, e2, c1, c2, c3, c4⟩ := hI
    simp only at e1 e2
    subst e1 e2
    by_cases e : h = L
    · subst e
      right
      have hle : nI h ≤ nI h := nI_le (Nat.le_refl h) (by omega)
      refine ⟨C, ⟨c1, c2, c3, ?_, ?_⟩, by simp only [fX11_spades_l21, if_pos hle]⟩
      · rcases c4 with q | q
        · omega
        · exact q.1
      · rcases c4 with q | q
        · exact Or.inl q
        · exact Or.inr q.2
    · have hlt : h < L := by omega
      have cc : ¬ nI L ≤ nI h := nI_ge hlt (by omega)
      left
      refine ⟨hlt, ?_⟩
      obtain ⟨b, eb, hb⟩ := t_bestSp hm (place := place) (mood := mood) (age := age) hp hs C
      rw [hg] at hb
      have est : fX11_spades_l21 (nI L) (nI m) age skill pals moats spades tides nwall ndepth nmood nplace ts tn tm tt wall depth mood place k21 (nI C) (nI h) = k21 (nI C ||| b, nI (h + 1)) := by
        simp only [fX11_spades_l21, if_neg cc, eb, ob_s, nI_1]
      rcases hb with ⟨rfl, hall⟩ | ⟨k, hk, rfl, b1, b2, b3⟩
      · have w0 : nI C ||| 0 = nI C := by
          apply b_ext; intro i _; rw [b_or, b_0]; simp
        rw [w0] at est
        refine ⟨_, ⟨rfl, C, rfl, c1, c2, c3, Or.inr ⟨?_, hall⟩⟩, est⟩
        rcases c4 with q | q
        · omega
        · have := q.1; omega
      · have eo : nI C ||| jshl 1 (nI k) = nI (C ||| 2 ^ k) := by
          rcases or_tb C k with q | q
          · exact q
          · omega
        rw [eo] at est
        refine ⟨_, ⟨rfl, C ||| 2 ^ k, rfl, ?_, ?_, ?_, Or.inl ?_⟩, est⟩
        · exact Nat.or_lt_two_pow c1 (Nat.pow_lt_pow_right (by decide) hk)
        · intro j hj hbj
          rw [or2_tb] at hbj
          by_cases ej : j = k
          · subst ej; exact b2
          · simp [ej] at hbj; exact c2 j hj hbj
        · intro i j hi hj hbi hbj hg0
          rw [or2_tb] at hbi hbj
          have ejk : j ≠ k := fun z => by simp [z] at hbj
          have hbj2 : C.testBit j = false := by simpa [ejk] using hbj
          by_cases eik : i = k
          · subst eik; exact b3 j hj hbj2 ejk hg0
          · simp [eik] at hbi
            exact c3 i j hi hj hbi hbj2 hg0
        · have hcr : crd (C ||| 2 ^ k) m = crd C m + 1 := by
            unfold crd
            rw [ctN_congr (q := fun i => C.testBit i || decide (i = k)) (fun i _ => or2_tb C k i)]
            exact ct_or1 hk b1
          rcases c4 with q | ⟨-, q⟩
          · omega
          · have := q k hk b2
            rw [b1] at this; cases this
theorem t_bucketsAll {m : Nat} (hm : m ≤ 8) {n : Nat} (hn : n ≤ 12) {age skill r friend : Nat → Int32} (hr : plOk (atS r) n m) (hf : frOk friend m) : fX12_bucketsAll (nI m) age skill friend r = some (sumN (buckS age skill friend (atS r) (moS r) (r 41) m) m) := by
  unfold fX12_bucketsAll fX12_bucketsAll_b4
  refine lp_up (fun i => (sumN (buckS age skill friend (atS r) (moS r) (r 41) m) i, nI i)) m (by omega) rfl ?_ ?_
  · intro i hi k
    simp (disch := omega) [fX12_bucketsAll_b27, fX12_bucketsAll_l4, nI_leI, nI_ltI, nI_clamp, nI_pos', nI_1, nI_eq, sumN_s, Nat.not_le.mpr hi, t_bucketsOf hm hn hr hf hi]
  · intro k
    simp (disch := omega) [fX12_bucketsAll_b27, fX12_bucketsAll_l4, nI_leI, nI_ltI, nI_clamp, nI_pos', nI_1, nI_eq]
theorem crd_bc {S m : Nat} (hm : m ≤ 12) (hS : S < 2 ^ m) : bcS (nI S) = nI (crd S m) := by
  have h12 : S < 4096 := Nat.lt_of_lt_of_le hS (Nat.pow_le_pow_right (n := 2) (by decide) hm)
  rw [t_cnt h12]
  congr 1
  exact ctN_ext hm (fun _ _ => rfl) (fun i hi => tb_lt hS hi)
theorem c_spades {n m T : Nat} {age skill friend pals age' skill' friend' wall depth mood place now fixed : Nat → Int32} {moats spades tides ts tr : Int32} {tn tw : Nat → Int64} (hn : n ≤ 12) (hm : m ≤ 8) (hc : crR m age skill friend pals age' skill' friend') (hs : SS n m T wall depth mood place moats spades tides now) (ht : toR ts tn tr tw) (hf : fxR fixed) (q1 q2 q3 : Int32) (q4 q5 q6 q7 th : Nat → Int32) (thrown : Int32) : ∃ a ts' tn' p1 p2 p3 p4 p5 p6 p7 tr' tw' th', fX11_spades (fixed 1) (nI m) age skill pals moats spades tides wall depth mood place ts tn q1 q2 q3 q4 q5 q6 q7 = some (a, ts', tn', p1, p2, p3, p4, p5, p6, p7) ∧ fX12_spades thrown tr (nI m) tw age' skill' friend' fixed now th = some (a, 0, tr', tw', th') ∧ toR ts' tn' tr' tw' := by
  obtain ⟨L, hL, eL⟩ := hf
  obtain ⟨c1, c2, c3, c4⟩ := hc
  have hsk : ∀ k, k < m → 1 ≤ skill k ∧ skill k ≤ 9 := fun k hk => (c2 k hk).2.2
  have hS0 := j_copy hn hm hs q4 q5 q6 q7 th
  obtain ⟨md, hmd⟩ : ∃ md, va_cpy mood q6 0 0 8 = md := ⟨_, rfl⟩
  obtain ⟨pl, hpl⟩ : ∃ pl, va_cpy place q7 0 0 8 = pl := ⟨_, rfl⟩
  rw [hmd, hpl] at hS0
  obtain ⟨G, hG, eG⟩ := t_greedy hm (age := age) (place := pl) (mood := md) c3 hsk hL moats spades tides wall depth mood place (va_cpy wall q4 0 0 12) (va_cpy depth q5 0 0 12) ts moats tides tn
  have hf' : frOk friend' m := by
    intro k hk
    rw [(c1 k hk).2.2]; exact c4 k hk
  have p2 : 2 ^ m ≤ 256 := Nat.pow_le_pow_right (n := 2) (by decide) hm
  have e2m : jshl 1 (nI m) = nI (2 ^ m) := (by decide +kernel : ∀ k, k < 12 → jshl 1 (nI k) = nI (2 ^ k)) m (by omega)
  let tot := toN age skill friend pl md m
  have htb : ∀ S, tot S ≤ 800 := to_b hsk hm
  have i41 : inb (41 : Int32) 43 := inb_n (i := 41) (by omega) (by omega)
  have n41 : (41 : Int32).toNatClampNeg = 41 := rfl
  have i1 : inb (1 : Int32) 2 := inb_n (i := 1) (by omega) (by omega)
  have n1 : (1 : Int32).toNatClampNeg = 1 := rfl
  have main : ∃ th' B, B < 2 ^ m ∧ crd B m ≤ L ∧ (∀ S, S < 2 ^ m → crd S m ≤ L → tot S ≤ tot B ∧ (tot S = tot B → crd B m ≤ crd S m ∧ (crd S m = crd B m → B ≤ S))) ∧ fX12_spades_b15 0 tr (nI m) tw age' skill' friend' fixed now (fillN now th 43) 0 (-1) 0 = fX12_spades_b114 0 tr (nI m) tw age' skill' friend' fixed now th' (nI B) (nI (tot B)) := by
    unfold fX12_spades_b15
    refine lp_inv (fun u => ∃ th' B, B < 2 ^ m ∧ crd B m ≤ L ∧ (∀ S, S < 2 ^ m → crd S m ≤ L → tot S ≤ tot B ∧ (tot S = tot B → crd B m ≤ crd S m ∧ (crd S m = crd B m → B ≤ S))) ∧ u = fX12_spades_b114 0 tr (nI m) tw age' skill' friend' fixed now th' (nI B) (nI (tot B))) (fun i s => s.2.2.2 = nI i ∧ (∀ j, j ≠ 41 → s.1 j = fillN now th 43 j) ∧ ((i = 0 ∧ s.2.1 = 0 ∧ s.2.2.1 = -1) ∨ ∃ B, B < i ∧ crd B m ≤ L ∧ s.2.1 = nI B ∧ s.2.2.1 = nI (tot B) ∧ ∀ S, S < i → crd S m ≤ L → tot S ≤ tot B ∧ (tot S = tot B → crd B m ≤ crd S m ∧ (crd S m = crd B m → B ≤ S)))) (2 ^ m) (by omega) ⟨rfl, fun _ _ => rfl, Or.inl ⟨rfl, rfl, rfl⟩⟩ ?_
    intro i s k hi hI
    obtain ⟨r, x1, x2, x3⟩ := s
    obtain ⟨e1, e2, e3⟩ := hI
    simp only at e1 e2 e3
    subst e1
    by_cases e : i = 2 ^ m
    · right
      have hle : nI (2 ^ m) ≤ nI i := nI_le (by omega) (by omega)
      rcases e3 with ⟨q, -⟩ | ⟨B, b1, b2, rfl, rfl, b5⟩
      · have := Nat.two_pow_pos m
        omega
      · rw [e] at b1 b5
        exact ⟨r, B, b1, b2, b5, by simp only [fX12_spades_l15, e2m, if_pos hle]⟩
    · have hi2 : i < 2 ^ m := by omega
      have cc : ¬ nI (2 ^ m) ≤ nI i := nI_ge hi2 (by omega)
      have ebc := crd_bc (show m ≤ 12 by omega) hi2
      have crl : crd i m ≤ m := ctN_le _ m
      have hplr : plOk (atS (upd r 41 (nI i))) n m := fun k hk => by
        show -1 ≤ upd r 41 (nI i) (25 + 2 * k) ∧ upd r 41 (nI i) (25 + 2 * k) < nI n
        rw [pk_un (by omega), e2 _ (by omega)]
        exact SS_at hS0 k hk
      have eall : fX12_bucketsAll (nI m) age' skill' friend' (upd r 41 (nI i)) = some (nI (tot i)) := by
        rw [t_bucketsAll hm hn hplr hf', pk_us]
        congr 1
        have : sumN (buckS age' skill' friend' (atS (upd r 41 (nI i))) (moS (upd r 41 (nI i))) (nI i) m) m = sumN (fun k => buckS age skill friend pl md (nI i) m k) m := by
          apply sumN_congr
          intro k hk
          exact buck_congr (fun k hk => (c1 k hk).1) (fun k hk => (c1 k hk).2.1) (fun k hk => (c1 k hk).2.2) (fun k hk => by
            show upd r 41 (nI i) (25 + 2 * k) = pl k
            rw [pk_un (by omega), e2 _ (by omega)]; exact hS0.2.2.2.2.1 k hk) (fun k hk => by
            show upd r 41 (nI i) (26 + 2 * k) = md k
            rw [pk_un (by omega), e2 _ (by omega)]; exact hS0.2.2.2.1 k hk) hk
        rw [this, sumN_to hsk (Nat.le_refl m) hm]
        rfl
      left
      refine ⟨hi2, ?_⟩
      have hrow : ∀ j, j ≠ 41 → upd r 41 (nI i) j = fillN now th 43 j := fun j hj => by rw [pk_un hj]; exact e2 j hj
      by_cases hcl : crd i m ≤ L
      · have zc : bcS (nI i) ≤ fixed 1 := by rw [ebc, eL]; exact nI_le hcl (by omega)
        have est : fX12_spades_l15 0 tr (nI m) tw age' skill' friend' fixed now k r x1 x2 (nI i) = fX12_spades_b58 0 tr (nI m) tw age' skill' friend' fixed now (upd r 41 (nI i)) x1 x2 (nI i) (nI (tot i)) k := by
          simp only [fX12_spades_l15, e2m, if_neg cc, if_pos i41, n41, t_bc, ob_s, if_pos i1, n1, if_pos zc, eall]
        rw [est]
        have take : x2 < nI (tot i) → fX12_spades_b58 0 tr (nI m) tw age' skill' friend' fixed now (upd r 41 (nI i)) x1 x2 (nI i) (nI (tot i)) k = k (upd r 41 (nI i), nI i, nI (tot i), nI (i + 1)) := fun z => by
          have z10 : ¬ (1 : Int32) = 0 := by decide
          have em : jmax x2 (nI (tot i)) = nI (tot i) := by unfold jmax; rw [if_pos z]
          simp only [fX12_spades_b58, if_pos z, fX12_spades_b83, fX12_spades_b88, if_neg z10, fX12_spades_b100, em, nI_1]
        rcases e3 with ⟨q, rfl, rfl⟩ | ⟨B, b1, b2, rfl, rfl, b5⟩
        · subst q
          have z : (-1 : Int32) < nI (tot 0) := by
            have := nI_pos' (n := tot 0) (by have := htb 0; omega)
            grind
          refine ⟨_, ⟨rfl, hrow, Or.inr ⟨0, by omega, hcl, rfl, rfl, fun S hS _ => ?_⟩⟩, take z⟩
          have : S = 0 := by omega
          subst this
          exact ⟨Nat.le_refl _, fun _ => ⟨Nat.le_refl _, fun _ => Nat.le_refl _⟩⟩
        · have hB := htb B
          have hI := htb i
          by_cases z : tot B < tot i
          · refine ⟨_, ⟨rfl, hrow, Or.inr ⟨i, by omega, hcl, rfl, rfl, fun S hS hcS => ?_⟩⟩, take (nI_lt z (by omega))⟩
            by_cases e : S = i
            · subst e
              exact ⟨Nat.le_refl _, fun _ => ⟨Nat.le_refl _, fun _ => Nat.le_refl _⟩⟩
            · have := (b5 S (by omega) hcS).1
              exact ⟨by omega, fun q => by omega⟩
          · have z1 : ¬ nI (tot B) < nI (tot i) := nI_nlt (by omega) (by omega)
            have em : jmax (nI (tot B)) (nI (tot i)) = nI (tot B) := by unfold jmax; rw [if_neg z1]
            have z10 : ¬ (1 : Int32) = 0 := by decide
            have eB := crd_bc (show m ≤ 12 by omega) (show B < 2 ^ m by omega)
            have crB : crd B m ≤ m := ctN_le _ m
            by_cases zt : tot i = tot B
            · have zt2 : nI (tot i) = nI (tot B) := by rw [zt]
              by_cases zc2 : crd B m ≤ crd i m
              · have zc3 : bcS (nI B) ≤ bcS (nI i) := by rw [eB, ebc]; exact nI_le zc2 (by omega)
                refine ⟨(upd r 41 (nI i), nI B, nI (tot B), nI (i + 1)), ⟨rfl, hrow, Or.inr ⟨B, by omega, b2, rfl, rfl, fun S hS hcS => ?_⟩⟩, ?_⟩
                · by_cases e : S = i
                  · subst e
                    exact ⟨by omega, fun _ => ⟨zc2, fun _ => by omega⟩⟩
                  · exact b5 S (by omega) hcS
                · simp only [fX12_spades_b58, if_neg z1, if_pos zt2, t_bc, ob_s, if_pos zc3, fX12_spades_b87, fX12_spades_b88, if_true, fX12_spades_b100, em, nI_1]
              · have zc3 : ¬ bcS (nI B) ≤ bcS (nI i) := by rw [eB, ebc]; exact nI_ge (by omega) (by omega)
                refine ⟨(upd r 41 (nI i), nI i, nI (tot B), nI (i + 1)), ⟨rfl, hrow, Or.inr ⟨i, by omega, hcl, rfl, by rw [zt], fun S hS hcS => ?_⟩⟩, ?_⟩
                · by_cases e : S = i
                  · subst e
                    exact ⟨Nat.le_refl _, fun _ => ⟨Nat.le_refl _, fun _ => Nat.le_refl _⟩⟩
                  · have := b5 S (by omega) hcS
                    refine ⟨by omega, fun q => ?_⟩
                    have := (this.2 (by omega)).1
                    exact ⟨by omega, fun q2 => by omega⟩
                · simp only [fX12_spades_b58, if_neg z1, if_pos zt2, t_bc, ob_s, if_neg zc3, fX12_spades_b83, fX12_spades_b88, if_neg z10, fX12_spades_b100, em, nI_1]
            · have zt2 : ¬ nI (tot i) = nI (tot B) := by rw [nI_eq (by omega) (by omega)]; exact zt
              refine ⟨(upd r 41 (nI i), nI B, nI (tot B), nI (i + 1)), ⟨rfl, hrow, Or.inr ⟨B, by omega, b2, rfl, rfl, fun S hS hcS => ?_⟩⟩, ?_⟩
              · by_cases e : S = i
                · subst e
                  exact ⟨by omega, fun q => absurd q zt⟩
                · exact b5 S (by omega) hcS
              · simp only [fX12_spades_b58, if_neg z1, if_neg zt2, fX12_spades_b87, fX12_spades_b88, if_true, fX12_spades_b100, em, nI_1]
      · have zc : ¬ bcS (nI i) ≤ fixed 1 := by rw [ebc, eL]; exact nI_ge (by omega) (by omega)
        rcases e3 with ⟨q, -⟩ | ⟨B, b1, b2, rfl, rfl, b5⟩
        · subst q
          exfalso
          apply hcl
          have : crd 0 m = 0 := crd_0 (by rintro ⟨k, -, h⟩; simp at h)
          omega
        · have hB := htb B
          have z0 := nI_pos' (n := tot B) (by omega)
          have z1 : ¬ nI (tot B) < -1 := by grind
          have z2 : ¬ (-1 : Int32) = nI (tot B) := by grind
          have em : jmax (nI (tot B)) (-1) = nI (tot B) := by unfold jmax; rw [if_neg z1]
          refine ⟨(upd r 41 (nI i), nI B, nI (tot B), nI (i + 1)), ⟨rfl, hrow, Or.inr ⟨B, by omega, b2, rfl, rfl, fun S hS hcS => ?_⟩⟩, ?_⟩
          · by_cases e : S = i
            · subst e; exact absurd hcS hcl
            · exact b5 S (by omega) hcS
          · simp only [fX12_spades_l15, e2m, if_neg cc, if_pos i41, n41, t_bc, ob_s, if_pos i1, n1, if_neg zc, fX12_spades_b58, if_neg z1, if_neg z2, fX12_spades_b87, fX12_spades_b88, if_true, fX12_spades_b100, em, nI_1]
  obtain ⟨th', B, hB1, hB2, hB3, eM⟩ := main
  have hBG : B = G := by
    have a1 := hB3 G hG.1 hG.2.2.2.1
    have a2 := gr_best hG hB1 hB2
    have t1 : tot B = sumW (fun k => bkN age skill friend pl md m k false) m + gnS (gaN age skill friend pl md m) B m := to_gn hsk B
    have t2 : tot G = sumW (fun k => bkN age skill friend pl md m k false) m + gnS (gaN age skill friend pl md m) G m := to_gn hsk G
    have eq1 : gnS (gaN age skill friend pl md m) B m = gnS (gaN age skill friend pl md m) G m := by have := a1.1; have := a2.1; omega
    have b1 := a2.2 eq1
    have b2 := a1.2 (by omega)
    have cq : crd B m = crd G m := by have := b1.1; have := b2.1; omega
    have := b1.2 cq
    have := b2.2 cq.symm
    omega
  subst hBG
  have etot : sumN (buckS age skill friend pl md (nI B) m) m = nI (tot B) := sumN_to hsk (Nat.le_refl m) hm
  repeat apply Exists.intro
  refine ⟨?_, ?_, to_1 tn tw (nI B).toInt64⟩
  · simp only [fX11_spades, t_copy, ob_s, eL, hpl, hmd]
    rw [eG]
    simp only [fX11_spades_b51, t_tell, ob_s, t_bucketsT hm c3, etot]
    rfl
  · simp only [fX12_spades, t_puts, ob_s, eM, fX12_spades_b114, t_ent0]
    rfl
