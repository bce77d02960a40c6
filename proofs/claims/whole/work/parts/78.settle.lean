/-! ===== the class's search ===== -/
theorem ti_sub {a b : Int32} (h1 : -2147483648 ≤ a.toInt - b.toInt) (h2 : a.toInt - b.toInt < 2147483648) : (a - b).toInt = a.toInt - b.toInt := by
  rw [Int32.toInt_sub]
  exact Int.bmod_eq_of_le (by omega) (by omega)
theorem ti_nI {n : Nat} (h : n < 2 ^ 31) : (nI n).toInt = (n : Int) := nI_toInt h
theorem ti_le0 (a : Int32) : a ≤ 0 ↔ a.toInt ≤ 0 := by
  rw [Int32.le_iff_toInt_le]; rfl
def hpB (A k s n m : Nat) (Z : Nat → Int) (mo : Nat → Nat) : Bool := decide (crd (A / 2 ^ k) 8 < s) || (decide (s < ctN (fun c => decide (0 < Z c)) n) || decide ((if 0 < s then sumW (fun j => if k ≤ j then mo j else 0) m else 0) < sumW (fun c => (Z c).toNat) n))
theorem t_hopeless {n m k s A : Nat} (hn : n ≤ 12) (hm : m ≤ 8) (hk : k ≤ m) (hs : s ≤ 9) (hA : A < 256) {lack most : Nat → Int32} {Z : Nat → Int} {mo : Nat → Nat} (hl : ∀ c, c < n → (lack c).toInt = Z c) (hZ : ∀ c, c < n → Z c ≤ 1000) (hmo : ∀ j, j < m → most j = nI (mo j) ∧ mo j ≤ 900) : fX1_hopeless (nI A) lack most (nI m) (nI n) (nI k) (nI s) = some (b2i (hpB A k s n m Z mo)) := by
  have eA : jshr (nI A) (nI k) = nI (A / 2 ^ k) := pk_shrN (by omega) _ k (s_l k (by omega))
  have hAk : A / 2 ^ k < 256 := Nat.lt_of_le_of_lt (Nat.div_le_self _ _) hA
  have ebc : bcS (nI (A / 2 ^ k)) = nI (crd (A / 2 ^ k) 8) := crd_bc (m := 8) (by omega) hAk
  have hcr : crd (A / 2 ^ k) 8 ≤ 8 := ctN_le _ 8
  by_cases h1 : crd (A / 2 ^ k) 8 < s
  · have z : ¬ nI s ≤ nI (crd (A / 2 ^ k) 8) := nI_ge h1 (by omega)
    have : hpB A k s n m Z mo = true := by unfold hpB; simp [h1]
    rw [this]
    simp only [fX1_hopeless, eA, t_bc, ebc, ob_s, if_neg z, b2i_t]
  · have z : nI s ≤ nI (crd (A / 2 ^ k) 8) := nI_le (by omega) (by omega)
    have hP : sumW (fun c => (Z c).toNat) n ≤ 12000 := by
      have := sumW_b (f := fun c => (Z c).toNat) (b := 1000) (n := n) (fun c hc => by have := hZ c hc; omega)
      omega
    have hQ : ∀ a, a ≤ m → sumW (fun j => if k ≤ j then mo j else 0) a ≤ 7200 := fun a ha => by
      have := sumW_b (f := fun j => if k ≤ j then mo j else 0) (b := 900) (n := a) (fun j hj => by have := (hmo j (by omega)).2; split <;> omega)
      omega
    have hlow : ctN (fun c => decide (0 < Z c)) n ≤ 12 := Nat.le_trans (ctN_le _ n) hn
    -- the last question
    have e103 : ∀ Q, Q ≤ 7200 → fX1_hopeless_b103 (nI A) lack most (nI m) (nI n) (nI s) (nI (ctN (fun c => decide (0 < Z c)) n)) (nI (sumW (fun c => (Z c).toNat) n) - nI Q) = some (b2i (decide (s < ctN (fun c => decide (0 < Z c)) n) || decide (Q < sumW (fun c => (Z c).toNat) n))) := by
      intro Q hQ
      have hsub : nI (sumW (fun c => (Z c).toNat) n) - nI Q ≤ 0 ↔ sumW (fun c => (Z c).toNat) n ≤ Q := by
        rw [ti_le0, pk_sub_toInt (by omega) (by omega)]; omega
      by_cases a1 : s < ctN (fun c => decide (0 < Z c)) n
      · have y : nI s < nI (ctN (fun c => decide (0 < Z c)) n) := nI_lt a1 (by omega)
        simp only [fX1_hopeless_b103, if_pos y, fX1_hopeless_b113, fX1_hopeless_b118, a1, decide_true, Bool.true_or, b2i_t]
        rw [if_pos (by decide)]
      · have y : ¬ nI s < nI (ctN (fun c => decide (0 < Z c)) n) := nI_nlt (by omega) (by omega)
        by_cases a2 : Q < sumW (fun c => (Z c).toNat) n
        · have y2 : ¬ nI (sumW (fun c => (Z c).toNat) n) - nI Q ≤ 0 := fun w => by have := hsub.mp w; omega
          simp only [fX1_hopeless_b103, if_neg y, if_neg y2, fX1_hopeless_b113, fX1_hopeless_b118, a1, a2, decide_true, decide_false, Bool.false_or, b2i_t]
          rw [if_pos (by decide)]
        · have y2 : nI (sumW (fun c => (Z c).toNat) n) - nI Q ≤ 0 := hsub.mpr (by omega)
          simp only [fX1_hopeless_b103, if_neg y, if_pos y2, fX1_hopeless_b118, a1, a2, decide_false, Bool.false_or, b2i_f]
          rw [if_pos (by decide)]
    have e69 : fX1_hopeless_b69 (nI A) lack most (nI m) (nI n) (nI s) (nI (ctN (fun c => decide (0 < Z c)) n)) (nI (sumW (fun c => (Z c).toNat) n)) (nI k) = some (b2i (decide (s < ctN (fun c => decide (0 < Z c)) n) || decide ((if 0 < s then sumW (fun j => if k ≤ j then mo j else 0) m else 0) < sumW (fun c => (Z c).toNat) n))) := by
      unfold fX1_hopeless_b69
      have sz : ∀ x : Int32, x - nI 0 = x := fun x => by show x - 0 = x; grind
      rcases Nat.eq_zero_or_pos s with hs0 | hs0
      · refine lp_up (fun _ => (nI (sumW (fun c => (Z c).toNat) n), nI k)) 0 (by omega) rfl (fun i hi => absurd hi (by omega)) ?_
        intro q
        have zs : nI s ≤ 0 := by rw [hs0]; decide
        have e0 := e103 0 (by omega)
        rw [sz] at e0
        rw [if_neg (by omega)]
        by_cases hle : nI m ≤ nI k
        · simp only [fX1_hopeless_l69, if_pos hle]; exact e0
        · simp only [fX1_hopeless_l69, if_neg hle, if_pos zs]; exact e0
      · have zs : ¬ nI s ≤ 0 := nI_nle hs0 (by omega)
        rw [if_pos hs0]
        refine lp_up (fun i => (nI (sumW (fun c => (Z c).toNat) n) - nI (sumW (fun j => if k ≤ j then mo j else 0) (k + i)), nI (k + i))) (m - k) (by omega) ?_ ?_ ?_
        · refine Prod.ext ?_ rfl
          show _ = nI (sumW (fun c => (Z c).toNat) n) - nI (sumW (fun j => if k ≤ j then mo j else 0) (k + 0))
          have : sumW (fun j => if k ≤ j then mo j else 0) (k + 0) = 0 := by
            rw [Nat.add_zero, sumW_congr (g := fun _ => 0) (fun j hj => by rw [if_neg (by omega)]), sumW_z]
          rw [this, sz]
        · intro i hi q
          have cc : ¬ nI m ≤ nI (k + i) := nI_ge (by omega) (by omega)
          have ev : nI (sumW (fun c => (Z c).toNat) n) - nI (sumW (fun j => if k ≤ j then mo j else 0) (k + i)) - nI (mo (k + i)) = nI (sumW (fun c => (Z c).toNat) n) - nI (sumW (fun j => if k ≤ j then mo j else 0) (k + (i + 1))) := by
            have : sumW (fun j => if k ≤ j then mo j else 0) (k + (i + 1)) = sumW (fun j => if k ≤ j then mo j else 0) (k + i) + mo (k + i) := by
              show sumW (fun j => if k ≤ j then mo j else 0) (k + i + 1) = _
              simp only [sumW]
              rw [if_pos (by omega)]
            rw [this, ← nI_add]; grind
          simp only [fX1_hopeless_l69, if_neg cc, if_neg zs, if_pos (inb_n (show k + i < 8 by omega) (by omega)), nI_clamp (show k + i < 2 ^ 31 by omega), (hmo (k + i) (by omega)).1, ev, nI_1]
          rfl
        · intro q
          have hle : nI m ≤ nI m := nI_le (Nat.le_refl m) (by omega)
          have ek : k + (m - k) = m := by omega
          simp only [fX1_hopeless_l69, ek, if_pos hle]
          exact e103 _ (hQ m (Nat.le_refl _))
    have e23 : fX1_hopeless_b23 (nI A) lack most (nI m) (nI n) (nI k) (nI s) 0 0 0 = some (b2i (decide (s < ctN (fun c => decide (0 < Z c)) n) || decide ((if 0 < s then sumW (fun j => if k ≤ j then mo j else 0) m else 0) < sumW (fun c => (Z c).toNat) n))) := by
      unfold fX1_hopeless_b23
      refine lp_up (fun i => (nI (ctN (fun c => decide (0 < Z c)) i), nI (sumW (fun c => (Z c).toNat) i), nI i)) n (by omega) rfl ?_ ?_
      · intro i hi q
        have cc : ¬ nI n ≤ nI i := nI_ge hi (by omega)
        have hli := hl i hi
        show fX1_hopeless_l23 (nI A) lack most (nI m) (nI n) (nI k) (nI s) q _ _ (nI i) = q (nI (ctN (fun c => decide (0 < Z c)) i + (if decide (0 < Z i) = true then 1 else 0)), nI (sumW (fun c => (Z c).toNat) i + (Z i).toNat), nI (i + 1))
        by_cases hz : lack i ≤ 0
        · have hzz : Z i ≤ 0 := by rw [← hli]; exact (ti_le0 _).mp hz
          have n1 : ¬ 0 < Z i := by omega
          have n2 : (Z i).toNat = 0 := by omega
          simp only [fX1_hopeless_l23, if_neg cc, if_pos (inb_n (show i < 12 by omega) (by omega)), nI_clamp (show i < 2 ^ 31 by omega), if_pos hz, fX1_hopeless_b60, nI_1, n1, decide_false, n2, Nat.add_zero]
          rfl
        · have hzz : 0 < Z i := by
            rw [← hli]
            have : ¬ (lack i).toInt ≤ 0 := fun w => hz ((ti_le0 _).mpr w)
            omega
          have hlv : lack i = nI (Z i).toNat := by
            rw [← Int32.toInt_inj, hli, ti_nI (by have := hZ i hi; omega)]; omega
          have hz' : ¬ nI (Z i).toNat ≤ 0 := by rw [← hlv]; exact hz
          simp only [fX1_hopeless_l23, if_neg cc, if_pos (inb_n (show i < 12 by omega) (by omega)), nI_clamp (show i < 2 ^ 31 by omega), hlv, if_neg hz', fX1_hopeless_b60, nI_1, hzz, decide_true, if_true, nI_add]
      · intro q
        have hle : nI n ≤ nI n := nI_le (Nat.le_refl n) (by omega)
        simp only [fX1_hopeless_l23, if_pos hle, fX1_hopeless_b66]
        exact e69
    have : hpB A k s n m Z mo = (decide (s < ctN (fun c => decide (0 < Z c)) n) || decide ((if 0 < s then sumW (fun j => if k ≤ j then mo j else 0) m else 0) < sumW (fun c => (Z c).toNat) n)) := by unfold hpB; simp [h1]
    rw [this]
    simp only [fX1_hopeless, eA, t_bc, ebc, ob_s, if_pos z, e23]
/-! ===== why what is cut off is in vain ===== -/
def exG (n : Nat) (ab : Nat → Bool) (Hd : (Nat → Int32) → Bool) (m k : Nat) (f : Nat → Int32) (s : Nat) : Prop := ∃ g : Nat → Int32, (∀ j, j < k → g j = f j) ∧ Hd g = true ∧ (∀ j, k ≤ j → j < m → g j = -1 ∨ ∃ c, c < n ∧ g j = nI c ∧ ab j = true) ∧ sumW (fun j => if k ≤ j ∧ ¬ g j = -1 then 1 else 0) m = s
theorem m1_ne {c : Nat} (hc : c < 2 ^ 31) : ¬ nI c = -1 := fun z => by
  have := nI_pos' hc
  rw [z] at this
  exact absurd this (by decide)
theorem fnd_ex {n m : Nat} (hn : n ≤ 12) {ab : Nat → Bool} {Hd : (Nat → Int32) → Bool} : ∀ {r k : Nat} {f : Nat → Int32} {s : Nat}, k + r = m → fnd n ab Hd r k f s = true → exG n ab Hd m k f s
  | 0, k, f, s, hk, h => by
    simp only [fnd, Bool.and_eq_true, decide_eq_true_eq] at h
    refine ⟨f, fun _ _ => rfl, h.2, fun j h1 h2 => by omega, ?_⟩
    rw [sumW_congr (g := fun _ => 0) (fun j hj => by rw [if_neg (by omega)]), sumW_z, h.1]
  | r + 1, k, f, s, hk, h => by
    simp only [fnd, Bool.or_eq_true, Bool.and_eq_true, decide_eq_true_eq] at h
    have up : ∀ (v : Int32) (s' : Nat) (b : Nat), exG n ab Hd m (k + 1) (upd f k v) s' → (v = -1 ∧ b = 0 ∨ b = 1 ∧ ∃ c, c < n ∧ v = nI c ∧ ab k = true) → exG n ab Hd m k f (s' + b) := by
      rintro v s' b ⟨g, g1, g2, g3, g4⟩ hv
      have hgk : g k = v := by rw [g1 k (by omega), pk_us]
      refine ⟨g, fun j hj => by rw [g1 j (by omega), pk_un (by omega)], g2, fun j h1 h2 => ?_, ?_⟩
      · by_cases e : j = k
        · subst e
          rw [hgk]
          rcases hv with ⟨h1, -⟩ | ⟨-, h1⟩
          · exact Or.inl h1
          · exact Or.inr h1
        · exact g3 j (by omega) h2
      · rw [← g4]
        apply sumW_upd (k := k) (by omega)
        · intro j _ hne
          have : (k ≤ j ∧ ¬ g j = -1) ↔ (k + 1 ≤ j ∧ ¬ g j = -1) := ⟨fun z => ⟨by have := z.1; omega, z.2⟩, fun z => ⟨by have := z.1; omega, z.2⟩⟩
          simp only [this]
        · rw [if_neg (show ¬ (k + 1 ≤ k ∧ ¬ g k = -1) from fun z => by have := z.1; omega)]
          rcases hv with ⟨h1, h2⟩ | ⟨h1, c, h2, h3, -⟩
          · rw [if_neg (show ¬ (k ≤ k ∧ ¬ g k = -1) from fun z => z.2 (by rw [hgk, h1])), h2]
          · rw [if_pos (show k ≤ k ∧ ¬ g k = -1 from ⟨Nat.le_refl _, by rw [hgk, h3]; exact m1_ne (by omega)⟩), h1]
    rcases h with h | ⟨⟨h1, h2⟩, h3⟩
    · have := up (-1) s 0 (fnd_ex hn (by omega) h) (Or.inl ⟨rfl, rfl⟩)
      exact this
    · obtain ⟨c, hc, h4⟩ := (anyN_iff _ n).mp h3
      have := up (nI c) (s - 1) 1 (fnd_ex hn (by omega) h4) (Or.inr ⟨rfl, c, hc, rfl, h2⟩)
      have e : s - 1 + 1 = s := by omega
      rw [e] at this
      exact this
theorem ct_W (p : Nat → Bool) : ∀ n, ctN p n = sumW (fun c => if p c = true then 1 else 0) n
  | 0 => rfl
  | n + 1 => by simp only [ctN, sumW]; rw [ct_W p n]
theorem cr_sound {n m k s A : Nat} (hn : n ≤ 12) (hm : m ≤ 8) (hk : k ≤ m) {ab : Nat → Bool} {Hd : (Nat → Int32) → Bool} {f : Nat → Int32} {Z0 : Nat → Int} {mo : Nat → Nat} (hA : ∀ j, A.testBit j = (decide (j < m) && ab j)) (hf : ∀ j, j < k → f j = -1 ∨ ∃ c, c < n ∧ f j = nI c ∧ ab j = true) (need : ∀ g, Hd g = true → (∀ j, j < m → g j = -1 ∨ ∃ c, c < n ∧ g j = nI c ∧ ab j = true) → ∀ c, c < n → Z0 c ≤ (sumW (fun j => if g j = nI c then mo j else 0) m : Nat)) (hex : exG n ab Hd m k f s) : hpB A k s n m (fun c => Z0 c - (sumW (fun j => if f j = nI c then mo j else 0) k : Nat)) mo = false := by
  obtain ⟨g, g1, g2, g3, g4⟩ := hex
  have hg : ∀ j, j < m → g j = -1 ∨ ∃ c, c < n ∧ g j = nI c ∧ ab j = true := fun j hj => by
    rcases Nat.lt_or_ge j k with h | h
    · rw [g1 j h]; exact hf j h
    · exact g3 j h hj
  have hnd := need g g2 hg
  -- what the later ones add to a cell
  have hadd : ∀ c, c < n → Z0 c - (sumW (fun j => if f j = nI c then mo j else 0) k : Nat) ≤ (sumW (fun j => if k ≤ j ∧ g j = nI c then mo j else 0) m : Nat) := fun c hc => by
    have h := hnd c hc
    have e1 : sumW (fun j => if g j = nI c then mo j else 0) m = sumW (fun j => if f j = nI c then mo j else 0) k + sumW (fun j => if k ≤ j ∧ g j = nI c then mo j else 0) m := by
      have e2 : sumW (fun j => if g j = nI c then mo j else 0) m = sumW (fun j => (if j < k ∧ g j = nI c then mo j else 0) + (if k ≤ j ∧ g j = nI c then mo j else 0)) m := sumW_congr (fun j _ => by
        by_cases e : g j = nI c
        · rcases Nat.lt_or_ge j k with h | h
          · rw [if_pos e, if_pos ⟨h, e⟩, if_neg (fun z => by have := z.1; omega)]; omega
          · rw [if_pos e, if_neg (fun z => by have := z.1; omega), if_pos ⟨h, e⟩]; omega
        · rw [if_neg e, if_neg (fun z => e z.2), if_neg (fun z => e z.2)])
      rw [e2, sumW_add]
      congr 1
      rw [sumW_ext (a := k) hk (fun j h1 _ => by rw [if_neg (fun z => by have := z.1; omega)])]
      apply sumW_congr
      intro j hj
      rw [g1 j hj]
      by_cases e : f j = nI c
      · rw [if_pos e, if_pos ⟨hj, e⟩]
      · rw [if_neg e, if_neg (fun z => e z.2)]
    omega
  -- each later one stands at one cell
  have hone : ∀ (v : Nat → Nat) j, j < m → sumW (fun c => if k ≤ j ∧ g j = nI c then v j else 0) n = if k ≤ j ∧ ¬ g j = -1 then v j else 0 := fun v j hj => by
    rcases hg j hj with h | ⟨c0, hc0, h, -⟩
    · rw [if_neg (fun z => z.2 h), sumW_congr (g := fun _ => 0) (fun c hc => by rw [if_neg (fun z => m1_ne (c := c) (by omega) (by rw [← z.2]; exact h))]), sumW_z]
    · have hne : ¬ g j = -1 := by rw [h]; exact m1_ne (by omega)
      by_cases hkj : k ≤ j
      · rw [if_pos ⟨hkj, hne⟩, sumW_congr (g := fun c => if c0 = c then v j else 0) (fun c hc => by
          by_cases e : c0 = c
          · rw [if_pos e, if_pos ⟨hkj, by rw [h, e]⟩]
          · rw [if_neg e, if_neg (fun z => e (by have := z.2; rw [h, nI_eq (by omega) (by omega)] at this; exact this))]), sumW_one _ hc0]
      · rw [if_neg (fun z => hkj z.1), sumW_congr (g := fun _ => 0) (fun c _ => by rw [if_neg (fun z => hkj z.1)]), sumW_z]
  unfold hpB
  rw [Bool.or_eq_false_iff, Bool.or_eq_false_iff]
  refine ⟨?_, ?_, ?_⟩
  · rw [decide_eq_false_iff_not]
    intro h
    have h1 : s ≤ crd (A / 2 ^ k) 8 := by
      rw [← g4]
      have e1 : crd (A / 2 ^ k) 8 = sumW (fun i => if (A / 2 ^ k).testBit i = true then 1 else 0) 8 := ct_W _ 8
      rw [e1]
      have e2 : sumW (fun i => if (A / 2 ^ k).testBit i = true then 1 else 0) 8 = sumW (fun i => if A.testBit (k + i) = true then 1 else 0) 8 := sumW_congr (fun i _ => by rw [Nat.testBit_div_two_pow, Nat.add_comm])
      rw [e2]
      have e3 : sumW (fun j => if k ≤ j ∧ ¬ g j = -1 then 1 else 0) m = sumW (fun i => if ¬ g (k + i) = -1 then 1 else 0) (m - k) := by
        have hkm : m = k + (m - k) := by omega
        rw [hkm, sumW_split, sumW_congr (n := k) (g := fun _ => 0) (fun j hj => by rw [if_neg (fun z => by have := z.1; omega)]), sumW_z, Nat.zero_add]
        have : k + (m - k) - k = m - k := by omega
        rw [this]
        apply sumW_congr
        intro i _
        have : (k ≤ k + i ∧ ¬ g (k + i) = -1) ↔ ¬ g (k + i) = -1 := ⟨fun z => z.2, fun z => ⟨by omega, z⟩⟩
        simp only [this]
      rw [e3]
      have e4 : sumW (fun i => if A.testBit (k + i) = true then 1 else 0) 8 = sumW (fun i => if A.testBit (k + i) = true then 1 else 0) (m - k) := sumW_ext (by omega) (fun i h1 _ => by
        rw [hA]
        have : ¬ k + i < m := by omega
        simp [this])
      rw [e4]
      apply sumW_le
      intro i hi
      by_cases e : g (k + i) = -1
      · rw [if_neg (fun z => z e)]; omega
      · rcases hg (k + i) (by omega) with z | ⟨c, -, -, z⟩
        · exact absurd z e
        · rw [if_pos e, if_pos (by rw [hA, z]; have : k + i < m := by omega
                                   simp [this])]; omega
    omega
  · rw [decide_eq_false_iff_not]
    intro h
    have h : s < ctN (fun c => decide (0 < Z0 c - (sumW (fun j => if f j = nI c then mo j else 0) k : Nat))) n := h
    have h1 : ctN (fun c => decide (0 < Z0 c - (sumW (fun j => if f j = nI c then mo j else 0) k : Nat))) n ≤ s := by
      rw [ct_W, ← g4]
      refine Nat.le_trans (sumW_le (g := fun c => sumW (fun j => if k ≤ j ∧ g j = nI c then 1 else 0) m) (fun c hc => ?_)) ?_
      · by_cases e : 0 < Z0 c - (sumW (fun j => if f j = nI c then mo j else 0) k : Nat)
        · rw [if_pos (by simpa using e)]
          have h2 := hadd c hc
          have h3 : 0 < sumW (fun j => if k ≤ j ∧ g j = nI c then mo j else 0) m := by omega
          obtain ⟨j, hj, h4⟩ := sumW_pos.mp h3
          have h5 : k ≤ j ∧ g j = nI c := by
            refine Classical.byContradiction fun z => ?_
            rw [if_neg z] at h4; omega
          exact sumW_pos.mpr ⟨j, hj, by rw [if_pos h5]; omega⟩
        · rw [if_neg (by simpa using e)]; omega
      · rw [← sumW_swap (fun j c => if k ≤ j ∧ g j = nI c then 1 else 0) n m]
        exact Nat.le_of_eq (sumW_congr (fun j hj => hone (fun _ => 1) j hj))
    omega
  · rw [decide_eq_false_iff_not]
    intro h
    have h : (if 0 < s then sumW (fun j => if k ≤ j then mo j else 0) m else 0) < sumW (fun c => (Z0 c - (sumW (fun j => if f j = nI c then mo j else 0) k : Nat)).toNat) n := h
    have h1 : sumW (fun c => (Z0 c - (sumW (fun j => if f j = nI c then mo j else 0) k : Nat)).toNat) n ≤ sumW (fun j => if k ≤ j ∧ ¬ g j = -1 then mo j else 0) m := by
      refine Nat.le_trans (sumW_le (g := fun c => sumW (fun j => if k ≤ j ∧ g j = nI c then mo j else 0) m) (fun c hc => by have := hadd c hc; omega)) ?_
      rw [← sumW_swap (fun j c => if k ≤ j ∧ g j = nI c then mo j else 0) n m]
      exact Nat.le_of_eq (sumW_congr (fun j hj => hone mo j hj))
    rcases Nat.eq_zero_or_pos s with hs | hs
    · rw [if_neg (by omega)] at h
      have h2 : sumW (fun j => if k ≤ j ∧ ¬ g j = -1 then mo j else 0) m = 0 := by
        rw [sumW_congr (g := fun _ => 0) (fun j hj => by
          rw [if_neg (fun z => by
            have : 0 < sumW (fun j => if k ≤ j ∧ ¬ g j = -1 then 1 else 0) m := sumW_pos.mpr ⟨j, hj, by rw [if_pos z]; omega⟩
            omega)]), sumW_z]
      omega
    · rw [if_pos hs] at h
      have h2 : sumW (fun j => if k ≤ j ∧ ¬ g j = -1 then mo j else 0) m ≤ sumW (fun j => if k ≤ j then mo j else 0) m := sumW_le (fun j _ => by
        by_cases e : k ≤ j ∧ ¬ g j = -1
        · rw [if_pos e, if_pos e.1]; omega
        · rw [if_neg e]; omega)
      omega
