/-! ===== what a crew can build at most ===== -/
theorem sumN_nI {f : Nat → Int32} {g : Nat → Nat} : ∀ {n : Nat}, (∀ k, k < n → f k = nI (g k)) → sumN f n = nI (sumW g n)
  | 0, _ => rfl
  | n + 1, h => by
    rw [sumN_s, sumN_nI (fun k hk => h k (by omega)), h n (by omega), nI_add]; rfl
def mdN (mood : Nat → Int32) (k : Nat) : Nat := (mood k).toNatClampNeg
def ldS (skill pals : Nat → Int32) (spades those : Int32) (k : Nat) : Int32 := skill k + (if bitB spades k then 2 else 0) + b2i (!decide (pals k &&& those = 0))
def hvN (age skill pals mood : Nat → Int32) (spades those : Int32) (k i : Nat) : Nat := (halvS (ldS skill pals spades those k) (nI (mdN mood k - i)) (age k)).toNatClampNeg
def moN (age skill pals mood : Nat → Int32) (spades those : Int32) (N k : Nat) : Nat := sumW (hvN age skill pals mood spades those k) (min N (mdN mood k))
theorem ld_ok {skill pals : Nat → Int32} {spades those : Int32} {k : Nat} (hs : 1 ≤ skill k ∧ skill k ≤ 9) : 0 ≤ ldS skill pals spades those k ∧ ldS skill pals spades those k ≤ 100 :=
  ld_r (y := if bitB spades k = true then 2 else 0) (z := b2i (!decide (pals k &&& those = 0))) hs.1 hs.2 (by split <;> simp) (b2i_01 _)
theorem hv_I {age skill pals mood : Nat → Int32} {spades those : Int32} {k : Nat} (hs : 1 ≤ skill k ∧ skill k ≤ 9) (x : Int32) : ∃ v, v ≤ 100 ∧ halvS (ldS skill pals spades those k) x (age k) = nI v := by
  have h := ld_ok (pals := pals) (spades := spades) (those := those) hs
  have h2 := halv_r (a := x) (b := age k) h.1 h.2
  obtain ⟨j, hj, e⟩ := nI_of2 (x := halvS (ldS skill pals spades those k) x (age k)) (M := 100) (n := 100) rfl (by have := h2.1; grind) h2.2
  exact ⟨j, hj, e⟩
theorem hvN_b {age skill pals mood : Nat → Int32} {spades those : Int32} {k : Nat} (hs : 1 ≤ skill k ∧ skill k ≤ 9) (i : Nat) : hvN age skill pals mood spades those k i ≤ 100 := by
  obtain ⟨v, hv, e⟩ := hv_I (age := age) (pals := pals) (mood := mood) (spades := spades) (those := those) hs (nI (mdN mood k - i))
  unfold hvN
  rw [e, nI_clamp (by omega)]; exact hv
theorem moN_b {age skill pals mood : Nat → Int32} {spades those : Int32} {N k : Nat} (hN : N ≤ 9) (hs : 1 ≤ skill k ∧ skill k ≤ 9) : moN age skill pals mood spades those N k ≤ 900 := by
  unfold moN
  have := sumW_b (f := hvN age skill pals mood spades those k) (b := 100) (n := min N (mdN mood k)) (fun i _ => hvN_b hs i)
  have h2 : min N (mdN mood k) ≤ 9 := by omega
  omega
theorem hv_mono2 {a : Int32} (h1 : 1 ≤ a) (h2 : a ≤ 9) (sp z1 z2 : Bool) (hz : z1 = true → z2 = true) (mo ag : Int32) : halvS (a + (if sp then 2 else 0) + b2i z1) mo ag ≤ halvS (a + (if sp then 2 else 0) + b2i z2) mo ag := by
  obtain ⟨j, hj, rfl⟩ := nI_of2 (x := a) (M := 9) (n := 9) rfl (by grind) h2
  have tab : ∀ (sp z1 z2 : Bool) (j : Nat), j < 10 → (z1 = true → z2 = true) → (nI j + (if sp then 2 else 0) + b2i z1) ≤ (nI j + (if sp then 2 else 0) + b2i z2) ∧ (nI j + (if sp then 2 else 0) + b2i z1) / 2 ≤ (nI j + (if sp then 2 else 0) + b2i z2) / 2 ∧ (nI j + (if sp then 2 else 0) + b2i z1) / 2 / 2 ≤ (nI j + (if sp then 2 else 0) + b2i z2) / 2 / 2 := by decide +kernel
  have t := tab sp z1 z2 j (by omega) hz
  unfold halvS
  split <;> split
  · exact t.2.1
  · exact t.2.2
  · exact t.1
  · exact t.2.1
theorem mi_le {w g : Nat} : (jmin 999 (nI w + nI g)).toNatClampNeg ≤ w + g ∨ 2 ^ 30 ≤ w + g := by
  rcases Nat.lt_or_ge (w + g) (2 ^ 30) with h | h
  · left
    rw [nI_add, show jmin 999 (nI (w + g)) = nI (min 999 (w + g)) from jmin_n (a := 999) (by omega) (by omega), nI_clamp (by omega)]
    omega
  · exact Or.inr h
theorem cr_bound {n m : Nat} (hn : n ≤ 12) (hm : m ≤ 8) {age skill friend pals wall mood g : Nat → Int32} {spades those : Int32} {ab : Nat → Bool} (hq : palsOk friend pals m) (hs : ∀ k, k < m → 1 ≤ skill k ∧ skill k ≤ 9) (hw : rng n wall) (hmo : ∀ k, k < m → 0 ≤ mood k ∧ mood k ≤ 9) (hab : ∀ k, k < m → ab k = true → bitB those k = true ∧ ¬ mood k ≤ 0) (hg : ∀ j, j < m → g j = -1 ∨ ∃ c, c < n ∧ g j = nI c ∧ ab j = true) : ∀ t, t ≤ 9 → (∀ j, j < m → g j = -1 → (spI n m age skill friend spades t (wall, mood, g)).2.2 j = -1) ∧ (∀ j, j < m → ¬ g j = -1 → (t < mdN mood j ∧ (spI n m age skill friend spades t (wall, mood, g)).2.2 j = g j ∧ (spI n m age skill friend spades t (wall, mood, g)).2.1 j = nI (mdN mood j - t)) ∨ (mdN mood j ≤ t ∧ (spI n m age skill friend spades t (wall, mood, g)).2.2 j = -1)) ∧ (∀ c, c < n → ((spI n m age skill friend spades t (wall, mood, g)).1 c).toNatClampNeg ≤ (wall c).toNatClampNeg + sumW (fun j => if g j = nI c then sumW (hvN age skill pals mood spades those j) (min t (mdN mood j)) else 0) m)
  | 0, _ => by
    refine ⟨fun j _ h => h, fun j hj h => ?_, fun c hc => Nat.le_add_right _ _⟩
    left
    rcases hg j hj with h2 | ⟨c, -, -, h3⟩
    · exact absurd h2 h
    · have hm0 := (hab j hj h3).2
      obtain ⟨v, hv, e⟩ := nI_of2 (x := mood j) (M := 9) (n := 9) rfl (by have := (hmo j hj).1; grind) (hmo j hj).2
      have hmd : mdN mood j = v := by unfold mdN; rw [e, nI_clamp (by omega)]
      refine ⟨?_, rfl, ?_⟩
      · rw [hmd]
        rcases Nat.eq_zero_or_pos v with z | z
        · exfalso; apply hm0; rw [e, z]; decide
        · exact z
      · show mood j = nI (mdN mood j - 0)
        rw [hmd, e]; rfl
  | t + 1, ht => by
    obtain ⟨i1, i2, i3⟩ := cr_bound hn hm (age := age) hq hs hw hmo hab hg t (by omega)
    have hplg : plOk g n m := fun j hj => by
      rcases hg j hj with h2 | ⟨c, h3, h4, -⟩
      · rw [h2]
        have := nI_pos' (n := n) (by omega)
        exact ⟨Int32.le_refl _, by grind⟩
      · rw [h4]
        have := nI_pos' (n := c) (by omega)
        exact ⟨by grind, nI_lt h3 (by omega)⟩
    have ok := (sp_ok hn hm (age := age) (friend := friend) (mood := mood) (spades := spades) hs hw hplg t).1
    have hpl0 : ∀ j, j < m → g j = -1 ∨ (¬ g j = -1 ∧ ((t < mdN mood j ∧ (spI n m age skill friend spades t (wall, mood, g)).2.2 j = g j ∧ (spI n m age skill friend spades t (wall, mood, g)).2.1 j = nI (mdN mood j - t)) ∨ (mdN mood j ≤ t ∧ (spI n m age skill friend spades t (wall, mood, g)).2.2 j = -1))) := fun j hj => by
      by_cases e : g j = -1
      · exact Or.inl e
      · exact Or.inr ⟨e, i2 j hj e⟩
    have hstep : (spI n m age skill friend spades (t + 1) (wall, mood, g)) = (clW n m age skill friend (spI n m age skill friend spades t (wall, mood, g)).1 (spI n m age skill friend spades t (wall, mood, g)).2.1 (spI n m age skill friend spades t (wall, mood, g)).2.2 spades m, fillN (clM (spI n m age skill friend spades t (wall, mood, g)).2.1 (spI n m age skill friend spades t (wall, mood, g)).2.2) (spI n m age skill friend spades t (wall, mood, g)).2.1 m, fillN (clP (spI n m age skill friend spades t (wall, mood, g)).2.1 (spI n m age skill friend spades t (wall, mood, g)).2.2) (spI n m age skill friend spades t (wall, mood, g)).2.2 m) := rfl
    rw [hstep]
    generalize spI n m age skill friend spades t (wall, mood, g) = X at *
    obtain ⟨w, mo, pl⟩ := X
    simp only at i1 i2 i3 ok hpl0 ⊢
    refine ⟨fun j hj h => ?_, fun j hj h => ?_, fun c hc => ?_⟩
    · rw [fill_lt _ _ hj]
      unfold clP
      rw [if_pos (i1 j hj h)]; exact i1 j hj h
    · rw [fill_lt _ _ hj, fill_lt _ _ hj]
      rcases i2 j hj h with ⟨q1, q2, q3⟩ | ⟨q1, q2⟩
      · have hm9 : mdN mood j ≤ 9 := by
          obtain ⟨v, hv, e⟩ := nI_of2 (x := mood j) (M := 9) (n := 9) rfl (by have := (hmo j hj).1; grind) (hmo j hj).2
          unfold mdN; rw [e, nI_clamp (by omega)]; exact hv
        have ej : jmax 0 (nI (mdN mood j - t) - 1) = nI (mdN mood j - (t + 1)) := by
          rw [show nI (mdN mood j - t) - 1 = nI (mdN mood j - (t + 1)) by
            rw [show nI (mdN mood j - t) - 1 = nI (mdN mood j - t - 1) from pk_sub (b := 1) (by omega)]
            congr 1]
          rw [show jmax 0 (nI (mdN mood j - (t + 1))) = nI (max 0 (mdN mood j - (t + 1))) from jmax_n (a := 0) (by omega) (by omega)]
          exact congrArg nI (by omega)
        by_cases hz : mdN mood j = t + 1
        · right
          refine ⟨by omega, ?_⟩
          have e0 : jmax 0 (mo j - 1) = 0 := by
            rw [q3, ej, hz, Nat.sub_self]; rfl
          unfold clP
          rw [if_neg (by rw [q2]; exact h), if_pos e0]
        · left
          have e0 : ¬ jmax 0 (mo j - 1) = 0 := by
            rw [q3, ej]; exact nI_ne0 (by omega) (by omega)
          refine ⟨by omega, ?_, ?_⟩
          · unfold clP
            rw [if_neg (by rw [q2]; exact h), if_neg e0]; exact q2
          · unfold clM
            rw [if_neg (by rw [q2]; exact h), q3, ej]
      · right
        refine ⟨by omega, ?_⟩
        unfold clP
        rw [if_pos q2]; exact q2
    · -- the wall
      have hbk : ∀ j, j < m → ∃ v, v ≤ 100 ∧ buckS age skill friend pl mo spades m j = nI v := fun j hj => by
        have h2 := buck_r (age := age) (friend := friend) (place := pl) (mood := mo) (spades := spades) (m := m) (hs j hj)
        obtain ⟨v, hv, e⟩ := nI_of2 (x := buckS age skill friend pl mo spades m j) (M := 100) (n := 100) rfl (by have := h2.1; grind) h2.2
        exact ⟨v, hv, e⟩
      let bN : Nat → Nat := fun j => (buckS age skill friend pl mo spades m j).toNatClampNeg
      have hbN : ∀ j, j < m → buckS age skill friend pl mo spades m j = nI (bN j) ∧ bN j ≤ 100 := fun j hj => by
        obtain ⟨v, hv, e⟩ := hbk j hj
        show _ = nI (buckS age skill friend pl mo spades m j).toNatClampNeg ∧ (buckS age skill friend pl mo spades m j).toNatClampNeg ≤ 100
        rw [e, nI_clamp (by omega)]; exact ⟨rfl, hv⟩
      have hgot : gotS age skill friend mo pl spades m m c = nI (sumW (fun j => if pl j = nI c then bN j else 0) m) := by
        unfold gotS
        apply sumN_nI
        intro j hj
        by_cases e : pl j = nI c
        · rw [if_pos e, if_pos e]; exact (hbN j hj).1
        · rw [if_neg e, if_neg e]; rfl
      have hgb : sumW (fun j => if pl j = nI c then bN j else 0) m ≤ m * 100 := sumW_b (fun j hj => by
        have := (hbN j hj).2
        split <;> omega)
      obtain ⟨wc, hwc, ew⟩ := nI_of2 (x := w c) (M := 999) (n := 999) rfl (by have := (ok c hc).1; grind) (ok c hc).2
      have hwcl : (w c).toNatClampNeg = wc := by rw [ew, nI_clamp (by omega)]
      simp only [clW]
      rw [if_pos hc, hgot, ew]
      have hmi : (jmin 999 (nI wc + nI (sumW (fun j => if pl j = nI c then bN j else 0) m))).toNatClampNeg ≤ wc + sumW (fun j => if pl j = nI c then bN j else 0) m := by
        rcases mi_le (w := wc) (g := sumW (fun j => if pl j = nI c then bN j else 0) m) with z | z
        · exact z
        · omega
      have hi3 := i3 c hc
      rw [hwcl] at hi3
      have hterm : sumW (fun j => if pl j = nI c then bN j else 0) m + sumW (fun j => if g j = nI c then sumW (hvN age skill pals mood spades those j) (min t (mdN mood j)) else 0) m ≤ sumW (fun j => if g j = nI c then sumW (hvN age skill pals mood spades those j) (min (t + 1) (mdN mood j)) else 0) m := by
        rw [← sumW_add]
        apply sumW_le
        intro j hj
        have hcneg : ¬ (-1 : Int32) = nI c := fun z => by
          have := nI_pos' (n := c) (by omega)
          rw [← z] at this
          exact absurd this (by decide)
        rcases hpl0 j hj with q | ⟨q0, ⟨q1, q2, q3⟩ | ⟨q1, q2⟩⟩
        · rw [i1 j hj q, q, if_neg hcneg, if_neg hcneg, if_neg hcneg]; exact Nat.le_refl _
        · rw [q2]
          by_cases e : g j = nI c
          · rw [if_pos e, if_pos e, if_pos e]
            have e1 : min t (mdN mood j) = t := by omega
            have e2 : min (t + 1) (mdN mood j) = t + 1 := by omega
            rw [e1, e2]
            show bN j + _ ≤ sumW (hvN age skill pals mood spades those j) t + hvN age skill pals mood spades those j t
            have hle : bN j ≤ hvN age skill pals mood spades those j t := by
              show (buckS age skill friend pl mo spades m j).toNatClampNeg ≤ _
              refine cl_le (buck_r (hs j hj)).1 ?_
              unfold buckS
              rw [if_neg (by rw [q2]; exact q0), q3]
              unfold ldS
              refine hv_mono2 (hs j hj).1 (hs j hj).2 _ _ _ (fun hfr => ?_) _ _
              unfold friB at hfr
              obtain ⟨o, ho, hfo⟩ := (anyN_iff _ m).mp hfr
              simp only [Bool.and_eq_true] at hfo
              have hpo : ¬ pl o = -1 := by
                have := hfo.2
                unfold nearB at this
                simp only [Bool.and_eq_true, Bool.not_eq_true', decide_eq_false_iff_not] at this
                exact this.1
              have hgo : ¬ g o = -1 := fun z => hpo (i1 o ho z)
              have hto : bitB those o = true := by
                rcases hg o ho with z | ⟨c', -, -, z⟩
                · exact absurd z hgo
                · exact (hab o ho z).1
              have hpp : bitB (pals j) o = true := by rw [hq j o hj ho]; exact hfo.1
              simp only [Bool.not_eq_true', decide_eq_false_iff_not]
              intro z
              have hb : bitB (pals j &&& those) o = true := by
                rw [bitB_t _ (by omega), b_and, ← bitB_t _ (by omega), ← bitB_t _ (by omega), hpp, hto]; rfl
              rw [bitB_z z o (by omega)] at hb
              cases hb
            omega
          · rw [if_neg e, if_neg e, if_neg e]; exact Nat.le_refl _
        · rw [q2, if_neg hcneg]
          have e1 : min t (mdN mood j) = mdN mood j := by omega
          have e2 : min (t + 1) (mdN mood j) = mdN mood j := by omega
          rw [e1, e2]
          omega
      omega
/-- whoever holds has built enough -/
theorem cr_need {n m : Nat} (hn : n ≤ 12) (hm : m ≤ 8) {age skill friend pals base wall mood g : Nat → Int32} {spades those h : Int32} {ab : Nat → Bool} (hq : palsOk friend pals m) (hs : ∀ k, k < m → 1 ≤ skill k ∧ skill k ≤ 9) (hb : ∀ c, c < n → 0 ≤ base c ∧ base c ≤ 9) (hw : rng n wall) (hmo : ∀ k, k < m → 0 ≤ mood k ∧ mood k ≤ 9) (hab : ∀ k, k < m → ab k = true → bitB those k = true ∧ ¬ mood k ≤ 0) (hg : ∀ j, j < m → g j = -1 ∨ ∃ c, c < n ∧ g j = nI c ∧ ab j = true) (hh : 0 ≤ h ∧ h ≤ 999) {N : Nat} (hN : N ≤ 9) (hold : hoB n m age skill friend base wall mood spades h N g = true) : ∀ c, c < n → h.toNatClampNeg ≤ (topS base wall c).toNatClampNeg + sumW (fun j => if g j = nI c then moN age skill pals mood spades those N j else 0) m := by
  intro c hc
  obtain ⟨-, -, b3⟩ := cr_bound hn hm (age := age) (spades := spades) hq hs hw hmo hab hg N hN
  have hplg : plOk g n m := fun j hj => by
    rcases hg j hj with h2 | ⟨c, h3, h4, -⟩
    · rw [h2]
      have := nI_pos' (n := n) (by omega)
      exact ⟨Int32.le_refl _, by grind⟩
    · rw [h4]
      have := nI_pos' (n := c) (by omega)
      exact ⟨by grind, nI_lt h3 (by omega)⟩
  have ok := (sp_ok hn hm (age := age) (friend := friend) (mood := mood) (spades := spades) hs hw hplg N).1 c hc
  have hz := (bits_0 (by omega)).mp (of_decide_eq_true hold) c hc
  have hle : h ≤ topS base (spI n m age skill friend spades N (wall, mood, g)).1 c := by simpa using hz
  have b3 := b3 c hc
  unfold topS at hle ⊢
  generalize (spI n m age skill friend spades N (wall, mood, g)).1 c = w at *
  obtain ⟨wc, hwc, rfl⟩ := nI_of2 (x := w) (M := 999) (n := 999) rfl (by have := ok.1; grind) ok.2
  obtain ⟨bc, hbc, ebc⟩ := nI_of2 (x := base c) (M := 9) (n := 9) rfl (by have := (hb c hc).1; grind) (hb c hc).2
  obtain ⟨w0, hw0, ew0⟩ := nI_of2 (x := wall c) (M := 999) (n := 999) rfl (by have := (hw c hc).1; grind) (hw c hc).2
  obtain ⟨hv, hhv, eh⟩ := nI_of2 (x := h) (M := 999) (n := 999) rfl (by have := hh.1; grind) hh.2
  rw [ebc, eh] at hle
  rw [ebc, ew0, eh]
  rw [ew0, nI_clamp (by omega), nI_clamp (by omega)] at b3
  have e10 : ∀ x, (10 : Int32) * nI bc + nI x = nI (10 * bc + x) := fun x => by
    show nI 10 * nI bc + nI x = _
    rw [pk_mul, nI_add]
  rw [e10, nI_leI (by omega) (by omega)] at hle
  rw [e10, nI_clamp (by omega), nI_clamp (by omega)]
  unfold moN
  omega
/-! the class's own bound -/
theorem t_mostOf {m k : Nat} (hm : m ≤ 8) (hk : k < m) {age skill pals mood : Nat → Int32} {spades those : Int32} (hs : 1 ≤ skill k ∧ skill k ≤ 9) (hmo : 0 ≤ mood k ∧ mood k ≤ 9) {N : Nat} (hN : N ≤ 9) : fX1_mostOf (nI N) spades mood age skill (nI k) (b2i (!decide (pals k &&& those = 0))) = some (nI (moN age skill pals mood spades those N k)) := by
  have h8 : k < 8 := by omega
  have hin : inb (nI k) 8 := inb_n h8 (by omega)
  have cl : (nI k).toNatClampNeg = k := nI_clamp (by omega)
  obtain ⟨md, hmd, emd⟩ := nI_of2 (x := mood k) (M := 9) (n := 9) rfl (by have := hmo.1; grind) hmo.2
  have hmdN : mdN mood k = md := by unfold mdN; rw [emd, nI_clamp (by omega)]
  have e49 : fX1_mostOf_b49 (nI N) spades mood age skill (nI k) (ldS skill pals spades those k) 0 (nI md) = some (nI (moN age skill pals mood spades those N k)) := by
    unfold fX1_mostOf_b49
    refine lp_up (fun i => (nI (sumW (hvN age skill pals mood spades those k) i), nI (md - i))) (min N md) (by omega) rfl ?_ ?_
    · intro i hi q
      have z1 : ¬ nI (md - i) ≤ 0 := nI_nle (by omega) (by omega)
      have z2 : ¬ nI (md - i) ≤ nI md - nI N := by
        rcases Nat.lt_or_ge md N with h | h
        · have hng := pk_sneg (a := md) (b := N) (by omega) h
          have hp := nI_pos' (n := md - i) (by omega)
          grind
        · rw [pk_sub h]; exact nI_ge (by omega) (by omega)
      obtain ⟨v, hv, ev⟩ := hv_I (age := age) (pals := pals) (mood := mood) (spades := spades) (those := those) hs (nI (md - i))
      have ehv : hvN age skill pals mood spades those k i = v := by unfold hvN; rw [hmdN, ev, nI_clamp (by omega)]
      have enx : nI (md - i) + (-1) = nI (md - (i + 1)) := by
        have : md - i = (md - (i + 1)) + 1 := by omega
        rw [this, pk_m1]
      simp only [fX1_mostOf_l49, if_neg z1, if_pos hin, cl, emd, if_neg z2, t_halved, ob_s, ev, nI_add, enx]
      show q (nI (_ + v), _) = q (nI (_ + hvN age skill pals mood spades those k i), _)
      rw [ehv]
    · intro q
      have em : moN age skill pals mood spades those N k = sumW (hvN age skill pals mood spades those k) (min N md) := by unfold moN; rw [hmdN]
      by_cases h : md ≤ N
      · have z1 : nI (md - min N md) ≤ 0 := by
          have : md - min N md = 0 := by omega
          rw [this]; decide
        simp only [fX1_mostOf_l49, if_pos z1, fX1_mostOf_b97, em]
      · have z1 : ¬ nI (md - min N md) ≤ 0 := nI_nle (by omega) (by omega)
        have z2 : nI (md - min N md) ≤ nI md - nI N := by
          rw [pk_sub (by omega)]
          have : md - min N md = md - N := by omega
          rw [this]; exact nI_le (Nat.le_refl _) (by omega)
        simp only [fX1_mostOf_l49, if_neg z1, if_pos hin, cl, emd, if_pos z2, fX1_mostOf_b97, em]
  have z10 : ¬ (1 : Int32) = 0 := by decide
  have e49' : ∀ a b : Int32, skill k + a + b = ldS skill pals spades those k → fX1_mostOf_b35 (nI N) spades mood age skill (nI k) (skill k + a) b = some (nI (moN age skill pals mood spades those N k)) := fun a b hab => by
    simp only [fX1_mostOf_b35, if_pos hin, cl, hab, emd, e49]
  cases hsp : bitB spades k
  · have z : jshr spades (nI k) &&& 1 = 0 := (bitB_0 _ _).mpr hsp
    by_cases hpp : pals k &&& those = 0
    · have el : skill k + 0 + 0 = ldS skill pals spades those k := by unfold ldS; rw [hsp, decide_eq_true hpp]; rfl
      rw [decide_eq_true hpp]
      simp only [fX1_mostOf, if_pos hin, if_pos z, cl, Bool.not_true, b2i_f, fX1_mostOf_b25, if_true, e49' 0 0 el]
    · have el : skill k + 0 + 1 = ldS skill pals spades those k := by unfold ldS; rw [hsp, decide_eq_false hpp]; rfl
      rw [decide_eq_false hpp]
      simp only [fX1_mostOf, if_pos hin, if_pos z, cl, Bool.not_false, b2i_t, fX1_mostOf_b25, if_neg z10, e49' 0 1 el]
  · have z : ¬ jshr spades (nI k) &&& 1 = 0 := by rw [bitB_0, hsp]; simp
    by_cases hpp : pals k &&& those = 0
    · have el : skill k + 2 + 0 = ldS skill pals spades those k := by unfold ldS; rw [hsp, decide_eq_true hpp]; rfl
      rw [decide_eq_true hpp]
      simp only [fX1_mostOf, if_pos hin, if_neg z, cl, Bool.not_true, b2i_f, fX1_mostOf_b25, if_true, e49' 2 0 el]
    · have el : skill k + 2 + 1 = ldS skill pals spades those k := by unfold ldS; rw [hsp, decide_eq_false hpp]; rfl
      rw [decide_eq_false hpp]
      simp only [fX1_mostOf, if_pos hin, if_neg z, cl, Bool.not_false, b2i_t, fX1_mostOf_b25, if_neg z10, e49' 2 1 el]
