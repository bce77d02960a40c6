/-! ===== buckets ===== -/
theorem bitB_z {x : Int32} (h : x = 0) (o : Nat) (ho : o < 32) : bitB x o = false := by
  subst h
  revert o
  decide +kernel
def palB (friend : Nat → Int32) (k o : Nat) : Bool := decide (friend k = nI o) || decide (friend o = nI k)
def friB (friend place : Nat → Int32) (m k : Nat) : Bool := anyN (fun o => palB friend k o && nearB place k o) m
def buckS (age skill friend place mood : Nat → Int32) (spades : Int32) (m k : Nat) : Int32 :=
  if place k = -1 then 0 else halvS (skill k + (if bitB spades k then 2 else 0) + b2i (friB friend place m k)) (mood k) (age k)
def palsOk (friend pals : Nat → Int32) (m : Nat) : Prop := ∀ k o, k < m → o < m → bitB (pals k) o = palB friend k o
theorem t_buckets {m : Nat} (hm : m ≤ 8) {age skill friend pals place mood : Nat → Int32} {spades : Int32} (hp : palsOk friend pals m) {k : Nat} (hk : k < m) : fX9_buckets spades mood place (nI m) age skill pals (nI k) = some (buckS age skill friend place mood spades m k) := by
  have h8 : k < 8 := by omega
  have hn : anyN (fun o => bitB (pals k) o && nearB place k o) m = friB friend place m k := anyN_congr (fun o ho => by rw [hp k o hk ho])
  have hz : pals k = 0 → friB friend place m k = false := by
    intro z
    rw [← hn, anyN_f]
    intro o ho
    rw [bitB_z z o (by omega)]; rfl
  have e36 : ∀ x, fX9_buckets_b36 spades mood place (nI m) age skill pals (nI k) x = some (halvS (x + b2i (friB friend place m k)) (mood k) (age k)) := by
    intro x
    by_cases z : pals k = 0
    · simp (disch := omega) [fX9_buckets_b36, fX9_buckets_b59, nI_leI, nI_ltI, nI_clamp, nI_pos', nI_1, nI_eq, h8, z, t_halved, hz z, b2i]
    · cases hf : friB friend place m k <;> simp (disch := omega) [fX9_buckets_b36, fX9_buckets_b59, nI_leI, nI_ltI, nI_clamp, nI_pos', nI_1, nI_eq, h8, z, t_halved, t_palNear hm place pals hk, hn, hf, b2i]
  by_cases h1 : place k = -1
  · simp (disch := omega) [fX9_buckets, nI_leI, nI_ltI, nI_clamp, nI_pos', nI_1, nI_eq, h8, h1, buckS]
  · cases h2 : bitB spades k <;> simp (disch := omega) [fX9_buckets, nI_leI, nI_ltI, nI_clamp, nI_pos', nI_1, nI_eq, h8, h1, buckS, bitB_0, h2, e36]
theorem t_bucketsT {m : Nat} (hm : m ≤ 8) {age skill friend pals place mood : Nat → Int32} {spades : Int32} (hp : palsOk friend pals m) : fX9_bucketsTogether spades mood place (nI m) age skill pals = some (sumN (buckS age skill friend place mood spades m) m) := by
  unfold fX9_bucketsTogether fX9_bucketsTogether_b4
  refine lp_up (fun i => (sumN (buckS age skill friend place mood spades m) i, nI i)) m (by omega) rfl ?_ ?_
  · intro i hi k
    simp (disch := omega) [fX9_bucketsTogether_b29, fX9_bucketsTogether_l4, nI_leI, nI_ltI, nI_clamp, nI_pos', nI_1, nI_eq, sumN_s, Nat.not_le.mpr hi, t_buckets hm hp hi]
  · intro k
    simp (disch := omega) [fX9_bucketsTogether_b29, fX9_bucketsTogether_l4, nI_leI, nI_ltI, nI_clamp, nI_pos', nI_1, nI_eq]
/-! ===== the model's words ===== -/
theorem t_in (x : Int32) {L H : Int64} (a b : Int32) (hL : L = a.toInt64) (hH : H = b.toInt64) : fX12_in x.toInt64 L H = some (b2i (decide (a ≤ x ∧ x ≤ b))) := by
  subst hL hH
  have w1 : ∀ p q : Int32, p.toInt64 > q.toInt64 ↔ q < p := fun p q => by rw [gt_iff_lt, Int64.lt_iff_toInt_lt, Int32.lt_iff_toInt_lt, Int32.toInt_toInt64, Int32.toInt_toInt64]
  have w2 : ∀ p q : Int32, p.toInt64 = q.toInt64 ↔ p = q := fun p q => by rw [← Int64.toInt_inj, ← Int32.toInt_inj, Int32.toInt_toInt64, Int32.toInt_toInt64]
  simp only [fX12_in, fX12_in_b17, fX12_in_b18, lg_cmp, w1, w2]
  by_cases h1 : a ≤ x
  · by_cases h2 : x ≤ b
    · have c1 : ¬ b < x := by grind
      have c2 : a < x ∨ x = a := by grind
      have c3 : ¬ ((if x = b then (0 : Int32) else -1) > 0) := by split <;> decide
      rcases c2 with c2 | c2 <;> simp [c1, c2, h1, h2, b2i] <;> grind
    · have c1 : b < x := by grind
      have c2 : a < x ∨ x = a := by grind
      rcases c2 with c2 | c2 <;> simp [c1, c2, h2, b2i] <;> grind
  · have c1 : ¬ a < x := by grind
    have c2 : ¬ x = a := by grind
    simp [c1, c2, h1, b2i]
theorem t_hasM (x : Int32) (k : Nat) : fX12_has x (nI k) = some (b2i (bitB x k)) := by
  cases h : bitB x k <;> simp [fX12_has, fX12_has_b14, bitB_1, h, b2i]
theorem t_flag (b : Bool) : fX12_flag (b2i b) = some (b2i b) := by cases b <;> simp [fX12_flag, fX12_flag_b9, b2i]
theorem b01 (b : Bool) : (b2i b = 0 ∨ b2i b = 1) = True := eq_true (b2i_01 b)
theorem t_isCell {n : Nat} (hn : n ≤ 12) (x : Int32) : fX12_isCell (nI n) x = some (b2i (decide (0 ≤ x ∧ x < nI n))) := by
  have h : (0 ≤ x ∧ x ≤ nI n - 1) ↔ (0 ≤ x ∧ x < nI n) := by
    have h1 : nI n ≤ 12 := nI_le (a := n) (b := 12) hn (by omega)
    have h2 : 0 ≤ nI n := nI_pos' (by omega)
    grind
  simp [fX12_isCell, t_in x (L := 0) 0 (nI n - 1) rfl rfl, b01, h]
theorem t_isChild {n : Nat} (hn : n ≤ 12) (x : Int32) : fX12_isChild (nI n) x = some (b2i (decide (0 ≤ x ∧ x < nI n))) := t_isCell hn x
theorem ix_k (k : Nat) : (25 : Int32) + 2 * nI k = nI (25 + 2 * k) := by
  show nI 25 + nI 2 * nI k = _
  rw [pk_mul, nI_add]
theorem ix_d (c : Nat) : (13 : Int32) + nI c = nI (13 + c) := nI_add 13 c
theorem i32_a0 (x : Int32) : x + 0 = x := by grind
theorem t_atOf {k : Nat} (hk : k < 8) (r : Nat → Int32) : fX12_atOf r (nI k) = some (r (25 + 2 * k)) := by
  have h : 25 + 2 * k < 43 := by omega
  simp (disch := omega) [fX12_atOf, ix_k, nI_leI, nI_ltI, nI_clamp, nI_pos', nI_1, nI_eq, h]
theorem t_moodOf {k : Nat} (hk : k < 8) (r : Nat → Int32) : fX12_moodOf r (nI k) = some (r (26 + 2 * k)) := by
  have h : 25 + 2 * k + 1 < 43 := by omega
  have e : 25 + 2 * k + 1 = 26 + 2 * k := by omega
  rw [e] at h
  simp (disch := omega) [fX12_moodOf, ix_k, nI_leI, nI_ltI, nI_clamp, nI_pos', nI_1, nI_eq, h, e]
theorem t_topOf {c : Nat} (hc : c < 12) (base r : Nat → Int32) : fX12_topOf base r (nI c) = some (topS base r c) := by
  have h : c < 43 := by omega
  simp (disch := omega) [fX12_topOf, nI_leI, nI_ltI, nI_clamp, nI_pos', nI_1, nI_eq, h, hc, topS]
theorem t_childrenAtM {m : Nat} (hm : m ≤ 8) (r : Nat → Int32) (c : Int32) : fX12_childrenAt (nI m) r c = some (bitsN (fun k => decide (r (25 + 2 * k) = c)) m) := by
  unfold fX12_childrenAt fX12_childrenAt_b5
  refine lp_up (fun i => (bitsN (fun k => decide (r (25 + 2 * k) = c)) i, nI i)) m (by omega) rfl ?_ ?_
  · intro i hi k
    have h8 : i < 8 := by omega
    by_cases hc : r (25 + 2 * i) = c <;> simp (disch := omega) [fX12_childrenAt_b41, fX12_childrenAt_b33, fX12_childrenAt_l5, nI_leI, nI_ltI, nI_clamp, nI_pos', nI_1, nI_eq, bitsN_s, hc, Nat.not_le.mpr hi, t_atOf]
  · intro k
    simp (disch := omega) [fX12_childrenAt_b41, fX12_childrenAt_b33, fX12_childrenAt_l5, nI_leI, nI_ltI, nI_clamp, nI_pos', nI_1, nI_eq]
theorem t_wetM {n : Nat} (hn : n ≤ 12) (r : Nat → Int32) : fX12_wet (nI n) r = some (bitsN (fun c => !decide (r (13 + c) ≤ 0)) n) := by
  unfold fX12_wet fX12_wet_b4
  refine lp_up (fun i => (bitsN (fun c => !decide (r (13 + c) ≤ 0)) i, nI i)) n (by omega) rfl ?_ ?_
  · intro i hi k
    have h8 : 13 + i < 43 := by omega
    by_cases hc : r (13 + i) ≤ 0 <;> simp (disch := omega) [fX12_wet_b37, fX12_wet_b29, fX12_wet_l4, nI_leI, nI_ltI, nI_clamp, nI_pos', nI_1, nI_eq, ix_d, bitsN_s, hc, Nat.not_le.mpr hi, h8]
  · intro k
    simp (disch := omega) [fX12_wet_b37, fX12_wet_b29, fX12_wet_l4, nI_leI, nI_ltI, nI_clamp, nI_pos', nI_1, nI_eq]
theorem t_deepAll {n : Nat} (hn : n ≤ 12) (r : Nat → Int32) : fX12_deepAll (nI n) r = some (sumN (fun c => r (13 + c)) n) := by
  unfold fX12_deepAll fX12_deepAll_b4
  refine lp_up (fun i => (sumN (fun c => r (13 + c)) i, nI i)) n (by omega) rfl ?_ ?_
  · intro i hi k
    have h8 : 13 + i < 43 := by omega
    simp (disch := omega) [fX12_deepAll_b27, fX12_deepAll_l4, nI_leI, nI_ltI, nI_clamp, nI_pos', nI_1, nI_eq, ix_d, sumN_s, Nat.not_le.mpr hi, h8]
  · intro k
    simp (disch := omega) [fX12_deepAll_b27, fX12_deepAll_l4, nI_leI, nI_ltI, nI_clamp, nI_pos', nI_1, nI_eq]
theorem t_wallAll {n : Nat} (hn : n ≤ 12) (r : Nat → Int32) : fX12_wallAll (nI n) r = some (sumN r n) := by
  unfold fX12_wallAll fX12_wallAll_b4
  refine lp_up (fun i => (sumN r i, nI i)) n (by omega) rfl ?_ ?_
  · intro i hi k
    have h8 : i < 43 := by omega
    simp (disch := omega) [fX12_wallAll_b24, fX12_wallAll_l4, nI_leI, nI_ltI, nI_clamp, nI_pos', nI_1, nI_eq, sumN_s, Nat.not_le.mpr hi, h8]
  · intro k
    simp (disch := omega) [fX12_wallAll_b24, fX12_wallAll_l4, nI_leI, nI_ltI, nI_clamp, nI_pos', nI_1, nI_eq]
theorem t_lowBy {n : Nat} (hn : n ≤ 12) (base r : Nat → Int32) (h : Int32) : fX12_lowBy (nI n) base r h = some (bitsN (fun c => !decide (h ≤ topS base r c)) n) := by
  unfold fX12_lowBy fX12_lowBy_b5
  refine lp_up (fun i => (bitsN (fun c => !decide (h ≤ topS base r c)) i, nI i)) n (by omega) rfl ?_ ?_
  · intro i hi k
    by_cases hc : h ≤ topS base r i <;> simp (disch := omega) [fX12_lowBy_b42, fX12_lowBy_b34, fX12_lowBy_l5, t_topOf, nI_leI, nI_ltI, nI_clamp, nI_pos', nI_1, nI_eq, bitsN_s, hc, Nat.not_le.mpr hi]
  · intro k
    simp (disch := omega) [fX12_lowBy_b42, fX12_lowBy_b34, fX12_lowBy_l5, nI_leI, nI_ltI, nI_clamp, nI_pos', nI_1, nI_eq]
/-- the model's places and moods -/
def atS (r : Nat → Int32) (k : Nat) : Int32 := r (25 + 2 * k)
def moS (r : Nat → Int32) (k : Nat) : Int32 := r (26 + 2 * k)
def plOk (place : Nat → Int32) (n m : Nat) : Prop := ∀ k, k < m → -1 ≤ place k ∧ place k < nI n
def frOk (friend : Nat → Int32) (m : Nat) : Prop := ∀ k, k < m → friend k = -1 ∨ ∃ j, j < k ∧ friend k = nI j
theorem jabs_comm {a b : Int32} (h1 : -1 ≤ a) (h2 : a < 12) (h3 : -1 ≤ b) (h4 : b < 12) : jabs (a - b) = jabs (b - a) := by
  obtain ⟨i, hi, e1⟩ := nI_of2 (x := a + 1) (M := 12) (n := 12) rfl (by grind) (by grind)
  obtain ⟨j, hj, e2⟩ := nI_of2 (x := b + 1) (M := 12) (n := 12) rfl (by grind) (by grind)
  have ea : a = nI i - 1 := by rw [← e1]; grind
  have eb : b = nI j - 1 := by rw [← e2]; grind
  subst ea eb
  exact (by decide +kernel : ∀ i, i < 13 → ∀ j, j < 13 → jabs (nI i - 1 - (nI j - 1)) = jabs (nI j - 1 - (nI i - 1))) i (by omega) j (by omega)
theorem i_ge0 {a : Int32} (h1 : -1 ≤ a) (h2 : ¬ a = -1) : 0 ≤ a ∧ ¬ a < 0 := by grind
theorem i_nle {a b : Int32} (h : a < b) : ¬ b ≤ a := by grind
theorem i_nlt {a b : Int32} (h : ¬ a < b) : b ≤ a := by grind
theorem i_lt_le {a b c : Int32} (h1 : a < b) (h2 : b ≤ c) : a < c := by grind
theorem t_areNear {m : Nat} (hm : m ≤ 8) {n : Nat} (hn : n ≤ 12) {r : Nat → Int32} (hr : plOk (atS r) n m) {k o : Nat} (hk : k < m) (ho : o < m) (h0 : ¬ atS r k = -1) : fX12_areNear r (nI k) (nI o) = some (b2i (nearB (atS r) k o)) := by
  obtain ⟨a1, a2⟩ := hr k hk
  obtain ⟨b1, b2⟩ := hr o ho
  have hn1 : nI n ≤ 12 := nI_le (a := n) (b := 12) hn (by omega)
  have ka : fX12_atOf r (nI k) = some (atS r k) := t_atOf (by omega) r
  have oa : fX12_atOf r (nI o) = some (atS r o) := t_atOf (by omega) r
  have ck : ¬ atS r k < 0 := (i_ge0 a1 h0).2
  have z1 : ¬ nI k < 0 := nI_pos (by omega)
  have z2 : ¬ nI o < 0 := nI_pos (by omega)
  have e : jabs (atS r k - atS r o) = jabs (atS r o - atS r k) := jabs_comm a1 (i_lt_le a2 hn1) b1 (i_lt_le b2 hn1)
  simp only [fX12_areNear, fX12_areNear_b47, fX12_areNear_b46, ka, oa, z1, z2, ck, Option.bind_some, if_false, nearB, e]
  by_cases h2 : atS r o = -1
  · simp [h2, b2i]
  · have c2 : ¬ atS r o < 0 := (i_ge0 b1 h2).2
    by_cases h3 : 1 < jabs (atS r o - atS r k)
    · have h4 : ¬ jabs (atS r o - atS r k) ≤ 1 := i_nle h3
      simp [h2, c2, h3, h4, b2i]
    · have h4 : jabs (atS r o - atS r k) ≤ 1 := i_nlt h3
      simp [h2, c2, h3, h4, b2i]
theorem t_hasFriend {m : Nat} (hm : m ≤ 8) {n : Nat} (hn : n ≤ 12) {r friend : Nat → Int32} (hr : plOk (atS r) n m) (hf : frOk friend m) {k : Nat} (hk : k < m) (h0 : ¬ atS r k = -1) : fX12_hasFriend (nI m) friend r (nI k) = some (b2i (friB friend (atS r) m k)) := by
  have h8 : k < 8 := by omega
  have ⟨a0, ha0, hfi⟩ : ∃ a0 : Bool, fX12_areNear r (nI k) (friend k) = some (b2i a0) ∧ (a0 = true ↔ ∃ o, o < m ∧ friend k = nI o ∧ nearB (atS r) k o = true) := by
    rcases hf k hk with h | ⟨j, h1, h2⟩
    · refine ⟨false, ?_, ?_⟩
      · have z1 : ¬ nI k < 0 := nI_pos (by omega)
        simp [fX12_areNear, fX12_areNear_b47, fX12_areNear_b46, h, z1, b2i]
      · constructor
        · intro z; cases z
        · rintro ⟨o, ho, z, -⟩
          have : 0 ≤ nI o := nI_pos' (by omega)
          rw [h] at z; rw [← z] at this
          exact absurd this (by decide)
    · refine ⟨nearB (atS r) k j, ?_, ?_⟩
      · rw [h2]; exact t_areNear hm hn hr hk (by omega) h0
      · constructor
        · intro z; exact ⟨j, by omega, h2, z⟩
        · rintro ⟨o, ho, z, z2⟩
          rw [h2, nI_eq (by omega) (by omega)] at z
          subst z; exact z2
  have main : fX12_hasFriend (nI m) friend r (nI k) = some (b2i (a0 || anyN (fun o => decide (friend o = nI k) && nearB (atS r) k o) m)) := by
    simp (disch := omega) only [fX12_hasFriend, nI_leI, nI_ltI, nI_clamp, nI_pos', nI_1, nI_eq, fX12_hasFriend_b16, if_pos (inb_n h8 (by omega)), ha0, Option.bind_some]
    refine lp_up (fun i => (b2i (a0 || anyN (fun o => decide (friend o = nI k) && nearB (atS r) k o) i), nI i)) m (by omega) (by simp [anyN]; rfl) ?_ ?_
    · intro i hi q
      have hi8 : i < 8 := by omega
      simp only [anyN]
      cases hb : (a0 || anyN (fun o => decide (friend o = nI k) && nearB (atS r) k o) i) with
      | true =>
        have : (a0 || (anyN (fun o => decide (friend o = nI k) && nearB (atS r) k o) i || (decide (friend i = nI k) && nearB (atS r) k i))) = true := by
          rw [← Bool.or_assoc, hb]; rfl
        simp (disch := omega) [fX12_hasFriend_b63, fX12_hasFriend_b56, fX12_hasFriend_b51, fX12_hasFriend_b55, fX12_hasFriend_l16, nI_leI, nI_ltI, nI_clamp, nI_pos', nI_1, nI_eq, this, b2i, Nat.not_le.mpr hi]
      | false =>
        have : (a0 || (anyN (fun o => decide (friend o = nI k) && nearB (atS r) k o) i || (decide (friend i = nI k) && nearB (atS r) k i))) = (decide (friend i = nI k) && nearB (atS r) k i) := by
          rw [← Bool.or_assoc, hb]; rfl
        rw [this]
        by_cases h1 : friend i = nI k
        · cases h2 : nearB (atS r) k i <;> simp (disch := omega) [fX12_hasFriend_b63, fX12_hasFriend_b56, fX12_hasFriend_b51, fX12_hasFriend_b55, fX12_hasFriend_l16, nI_leI, nI_ltI, nI_clamp, nI_pos', nI_1, nI_eq, t_areNear hm hn hr hk hi h0, b2i, Nat.not_le.mpr hi, hi8, h1, h2]
        · simp (disch := omega) [fX12_hasFriend_b63, fX12_hasFriend_b56, fX12_hasFriend_b51, fX12_hasFriend_b55, fX12_hasFriend_l16, nI_leI, nI_ltI, nI_clamp, nI_pos', nI_1, nI_eq, b2i, Nat.not_le.mpr hi, hi8, h1]
    · intro q
      simp (disch := omega) [fX12_hasFriend_b63, fX12_hasFriend_b56, fX12_hasFriend_b51, fX12_hasFriend_b55, fX12_hasFriend_l16, nI_leI, nI_ltI, nI_clamp, nI_pos', nI_1, nI_eq, b01]
  rw [main]
  congr 2
  rw [Bool.eq_iff_iff]
  simp only [Bool.or_eq_true, hfi, anyN_iff, friB, palB, Bool.and_eq_true, decide_eq_true_eq]
  constructor
  · rintro (⟨o, h1, h2, h3⟩ | ⟨o, h1, h2, h3⟩)
    · exact ⟨o, h1, Or.inl h2, h3⟩
    · exact ⟨o, h1, Or.inr h2, h3⟩
  · rintro ⟨o, h1, h2 | h2, h3⟩
    · exact Or.inl ⟨o, h1, h2, h3⟩
    · exact Or.inr ⟨o, h1, h2, h3⟩
theorem t_bucketsOf {m : Nat} (hm : m ≤ 8) {n : Nat} (hn : n ≤ 12) {age skill r friend : Nat → Int32} (hr : plOk (atS r) n m) (hf : frOk friend m) {k : Nat} (hk : k < m) : fX12_bucketsOf (nI m) age skill friend r (nI k) = some (buckS age skill friend (atS r) (moS r) (r 41) m k) := by
  have h8 : k < 8 := by omega
  obtain ⟨a1, a2⟩ := hr k hk
  have ka : fX12_atOf r (nI k) = some (atS r k) := t_atOf (by omega) r
  have km : fX12_moodOf r (nI k) = some (moS r k) := t_moodOf (by omega) r
  have e41 : inb (41 : Int32) 43 := inb_n (i := 41) (by omega) (by omega)
  have c41 : (41 : Int32).toNatClampNeg = 41 := rfl
  by_cases h0 : atS r k = -1
  · simp [fX12_bucketsOf, ka, h0, buckS]
  · have c0 : 0 ≤ atS r k := (i_ge0 a1 h0).1
    have f0 : (skill k + 2 * b2i (bitB (r 41) k) + b2i (friB friend (atS r) m k)) = skill k + (if bitB (r 41) k = true then 2 else 0) + b2i (friB friend (atS r) m k) := by
      cases bitB (r 41) k <;> simp [b2i]
    simp (disch := omega) only [fX12_bucketsOf, ka, km, c0, if_true, if_pos (inb_n h8 (by omega)), if_pos e41, c41, nI_leI, nI_ltI, nI_clamp, nI_pos', nI_1, nI_eq, Option.bind_some, t_hasM, t_flag, t_hasFriend hm hn hr hf hk h0, f0, buckS, if_neg h0, halvS, fX12_bucketsOf_b76, fX12_bucketsOf_b57]
    by_cases h1 : 3 ≤ moS r k <;> by_cases h2 : age k = 13 <;> simp [h1, h2]
