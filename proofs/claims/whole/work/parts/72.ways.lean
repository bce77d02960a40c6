/-! ===== ways, child by child ===== -/
def opS (op : Nat → Int32) (c x : Nat) : Nat → Int32 := upd op c (op c - nI x)
theorem wy_add {cells : Int32} {s : Nat → Nat} {k F : Nat} (hk : k < 8) (hF : F.testBit k = false) (op : Nat → Int32) : wyN cells s op (F ||| 2 ^ k) = wyN cells s op F + sumW (fun c => if bitB cells c = true then wyN cells s (opS op c (s k)) F else 0) 12 := by
  unfold wyN
  rw [nF_add hk (Nat.le_refl _) hF]
  congr 1
  apply sumW_congr
  intro c hc
  have hsh : shP (fun c x => decide (nI x = op c)) c (s k) = (fun d x => decide (nI x = opS op c (s k) d)) := by
    funext d y
    unfold shP opS
    by_cases e : d = c
    · subst e
      rw [if_pos rfl, pk_us]
      show decide (nI (y + s k) = op d) = _
      rw [← nI_add]
      have : (nI y + nI (s k) = op d) ↔ (nI y = op d - nI (s k)) := by
        constructor
        · intro h; rw [← h]; grind
        · intro h; rw [h]; grind
      rw [Bool.eq_iff_iff]
      simp only [decide_eq_true_eq]
      exact this
    · rw [if_neg e, pk_un e]
  rw [hsh]
  have : (12 - 12 ≤ c ∧ bitB cells c = true) ↔ bitB cells c = true := by
    constructor
    · exact fun z => z.2
    · exact fun z => ⟨by omega, z⟩
  simp only [this]
theorem nF_none {q : Nat → Bool} {P : Nat → Nat → Bool} {s : Nat → Nat} {c : Nat} (hc : c < 12) (hq : q c = true) (hP : ∀ T, P c (sm8 s T) = false) : ∀ {j R : Nat}, j ≤ 12 → 12 - j ≤ c → nF q P s j R = 0
  | 0, _, _, h => by omega
  | j + 1, R, hj, h => by
    simp only [nF]
    by_cases e : c = 11 - j
    · rw [← e, hq]
      simp only [if_true]
      rw [smL_congr (g := fun _ => 0) (fun T _ => by rw [hP T]; rfl), smL_z]
    · cases q (11 - j)
      · simp only [Bool.false_eq_true, if_false]
        exact nF_none hc hq hP (by omega) (by omega)
      · simp only [if_true]
        rw [smL_congr (g := fun _ => 0) (fun T _ => by rw [nF_none hc hq hP (by omega) (by omega)]; split <;> rfl), smL_z]
theorem sm8_b {s : Nat → Nat} (hs : ∀ i, s i ≤ 9) (T : Nat) : sm8 s T ≤ 72 := by
  have := sumW_b (f := fun i => if T.testBit i then s i else 0) (b := 9) (n := 8) (fun i _ => by
    have := hs i
    split <;> omega)
  unfold sm8; omega
theorem wy_neg {cells : Int32} {s : Nat → Nat} (hs : ∀ i, s i ≤ 9) {op : Nat → Int32} {c : Nat} (hc : c < 12) (hq : bitB cells c = true) (hn : op c < 0) (R : Nat) : wyN cells s op R = 0 := by
  unfold wyN
  refine nF_none hc hq (fun T => ?_) (Nat.le_refl _) (by omega)
  rw [decide_eq_false_iff_not]
  intro h
  rw [← h] at hn
  exact nI_pos (by have := sm8_b hs T; omega) hn
theorem nF_base {q : Nat → Bool} {P : Nat → Nat → Bool} {s : Nat → Nat} : ∀ {j : Nat}, j ≤ 12 → nF q P s j 0 = if anyN (fun c => decide (12 - j ≤ c) && q c && !P c 0) 12 then 0 else 1
  | 0, _ => by
    have : anyN (fun c => decide (12 - 0 ≤ c) && q c && !P c 0) 12 = false := (anyN_f _ 12).mpr (fun c hc => by
      have : ¬ 12 - 0 ≤ c := by omega
      simp [this])
    rw [this]; rfl
  | j + 1, hj => by
    have h0 : subL 8 0 = [0] := by decide
    have hd : dfN 0 0 = 0 := by decide
    have hs0 : sm8 s 0 = 0 := by
      unfold sm8
      rw [sumW_congr (g := fun _ => 0) (fun i _ => by simp), sumW_z]
    have ih := nF_base (q := q) (P := P) (s := s) (j := j) (by omega)
    have split_ : anyN (fun c => decide (12 - (j + 1) ≤ c) && q c && !P c 0) 12 = ((q (11 - j) && !P (11 - j) 0) || anyN (fun c => decide (12 - j ≤ c) && q c && !P c 0) 12) := by
      rw [Bool.eq_iff_iff, Bool.or_eq_true, anyN_iff, anyN_iff]
      simp only [Bool.and_eq_true, decide_eq_true_eq, Bool.not_eq_true']
      constructor
      · rintro ⟨c, h1, ⟨h2, h3⟩, h4⟩
        by_cases e : c = 11 - j
        · subst e; exact Or.inl ⟨h3, h4⟩
        · exact Or.inr ⟨c, h1, ⟨by omega, h3⟩, h4⟩
      · rintro (⟨h3, h4⟩ | ⟨c, h1, ⟨h2, h3⟩, h4⟩)
        · exact ⟨11 - j, by omega, ⟨by omega, h3⟩, h4⟩
        · exact ⟨c, h1, ⟨by omega, h3⟩, h4⟩
    rw [split_]
    simp only [nF, h0, smL, hd, hs0, ih]
    cases q (11 - j) <;> cases P (11 - j) 0 <;> simp
theorem wy_base (cells : Int32) (s : Nat → Nat) (op : Nat → Int32) : wyN cells s op 0 = if anyN (fun c => bitB cells c && !decide (op c = 0)) 12 then 0 else 1 := by
  unfold wyN
  rw [nF_base (Nat.le_refl _)]
  have : anyN (fun c => decide (12 - 12 ≤ c) && bitB cells c && !decide (nI 0 = op c)) 12 = anyN (fun c => bitB cells c && !decide (op c = 0)) 12 := anyN_congr (fun c _ => by
    have e1 : decide (12 - 12 ≤ c) = true := by simp
    have e2 : decide (nI 0 = op c) = decide (op c = 0) := by
      rw [Bool.eq_iff_iff]; simp only [decide_eq_true_eq]; exact eq_comm
    rw [e1, e2]; rfl)
  rw [this]
def gmN (k m : Nat) : Nat := bW (fun i => decide (k ≤ i)) m
theorem gm_tb (k m i : Nat) : (gmN k m).testBit i = (decide (i < m) && decide (k ≤ i)) := bW_tb _ _ _
theorem gm_lt (k m : Nat) : gmN k m < 2 ^ m := bW_lt _ _
theorem gm_s {k m : Nat} (h : k < m) : gmN k m = gmN (k + 1) m ||| 2 ^ k := by
  apply Nat.eq_of_testBit_eq
  intro i
  rw [or2_tb, gm_tb, gm_tb]
  by_cases e : i = k
  · subst e; simp [h]
  · have : (k ≤ i) ↔ (k + 1 ≤ i) := by omega
    simp [e, this]
theorem gm_m (m : Nat) : gmN m m = 0 := by
  apply Nat.eq_of_testBit_eq
  intro i
  rw [gm_tb]
  simp
theorem gm_k (k m : Nat) : (gmN (k + 1) m).testBit k = false := by
  rw [gm_tb]
  simp
/-- ways from child k on -/
def mwN (cells : Int32) (s : Nat → Nat) (m k : Nat) (op : Nat → Int32) : Nat := wyN cells s op (gmN k m)
theorem mw_s {cells : Int32} {s : Nat → Nat} {m k : Nat} (hm : m ≤ 8) (hk : k < m) (op : Nat → Int32) : mwN cells s m k op = mwN cells s m (k + 1) op + sumW (fun c => if bitB cells c = true then mwN cells s m (k + 1) (opS op c (s k)) else 0) 12 := by
  unfold mwN
  rw [gm_s hk, wy_add (by omega) (gm_k k m)]
/-- ways from child k on, of all but o -/
def mxN (cells : Int32) (s : Nat → Nat) (m o k : Nat) (op : Nat → Int32) : Nat := wyN cells s op (dfN (gmN k m) (2 ^ o))
theorem mx_o {cells : Int32} {s : Nat → Nat} {m k : Nat} (hm : m ≤ 8) (hk : k < m) (op : Nat → Int32) : mxN cells s m k k op = mwN cells s m (k + 1) op := by
  unfold mxN mwN
  congr 1
  apply Nat.eq_of_testBit_eq
  intro i
  rw [df_tb, gm_tb, gm_tb, Nat.testBit_two_pow]
  by_cases e : i = k
  · subst e; simp
  · have e2 : ¬ k = i := by omega
    have e3 : (k ≤ i) ↔ (k + 1 ≤ i) := by omega
    by_cases h8 : i < 8
    · simp [e2, e3, h8]
    · have : ¬ i < m := by omega
      simp [this]
theorem mx_s {cells : Int32} {s : Nat → Nat} {m o k : Nat} (hm : m ≤ 8) (hk : k < o) (ho : o < m) (op : Nat → Int32) : mxN cells s m o k op = mxN cells s m o (k + 1) op + sumW (fun c => if bitB cells c = true then mxN cells s m o (k + 1) (opS op c (s k)) else 0) 12 := by
  unfold mxN
  have e : dfN (gmN k m) (2 ^ o) = dfN (gmN (k + 1) m) (2 ^ o) ||| 2 ^ k := by
    rw [gm_s (show k < m by omega), df_or1 (by omega) (gm_k k m) (by rw [Nat.testBit_two_pow]; simp; omega)]
  rw [e, wy_add (by omega) (df_k (gm_k k m))]
theorem op_comm (op : Nat → Int32) (c x d y : Nat) : opS (opS op c x) d y = opS (opS op d y) c x := by
  funext i
  unfold opS
  by_cases e1 : i = d
  · by_cases e2 : i = c
    · subst e1; subst e2; rw [pk_us, pk_us, pk_us, pk_us]; grind
    · rw [e1, pk_us, pk_un (show d ≠ c by omega), pk_un (show d ≠ c by omega), pk_us]
  · rw [pk_un e1]
    by_cases e2 : i = c
    · subst e2; rw [pk_us, pk_us, pk_un e1]
    · rw [pk_un e2, pk_un e2, pk_un e1]
/-! what is told of those ways -/
def shO (op : Nat → Int32) (s : Nat → Nat) (o : Nat) : Nat → Nat → Int32
  | 0 => op
  | c + 1 => opS op c (s o)
def okB (cells : Int32) : Nat → Bool
  | 0 => true
  | c + 1 => decide (c < 12) && bitB cells c
def exB (cells : Int32) (s : Nat → Nat) (m o k : Nat) (op : Nat → Int32) (i : Nat) : Bool := okB cells i && decide (0 < mxN cells s m o k (shO op s o i))
theorem sumW_pos {f : Nat → Nat} : ∀ {n : Nat}, 0 < sumW f n ↔ ∃ c, c < n ∧ 0 < f c
  | 0 => by simp [sumW]
  | n + 1 => by
    simp only [sumW]
    have ih := sumW_pos (f := f) (n := n)
    constructor
    · intro h
      rcases Nat.eq_zero_or_pos (sumW f n) with z | z
      · exact ⟨n, by omega, by omega⟩
      · obtain ⟨c, h1, h2⟩ := ih.mp z
        exact ⟨c, by omega, h2⟩
    · rintro ⟨c, h1, h2⟩
      by_cases e : c = n
      · subst e; omega
      · have := ih.mpr ⟨c, by omega, h2⟩
        omega
theorem ex_s {cells : Int32} {s : Nat → Nat} {m o k : Nat} (hm : m ≤ 8) (hk : k < o) (ho : o < m) (op : Nat → Int32) (i : Nat) : exB cells s m o k op i = (exB cells s m o (k + 1) op i || anyN (fun c => bitB cells c && exB cells s m o (k + 1) (opS op c (s k)) i) 12) := by
  have hsh : ∀ c, opS (shO op s o i) c (s k) = shO (opS op c (s k)) s o i := by
    intro c
    cases i with
    | zero => rfl
    | succ d => exact op_comm op d (s o) c (s k)
  unfold exB
  rw [mx_s hm hk ho]
  rw [Bool.eq_iff_iff, Bool.or_eq_true, anyN_iff]
  simp only [Bool.and_eq_true, decide_eq_true_eq, hsh]
  constructor
  · rintro ⟨h1, h2⟩
    rcases Nat.eq_zero_or_pos (mxN cells s m o (k + 1) (shO op s o i)) with z | z
    · rw [z, Nat.zero_add] at h2
      obtain ⟨c, h3, h4⟩ := sumW_pos.mp h2
      cases hb : bitB cells c
      · simp [hb] at h4
      · simp only [hb, if_true] at h4
        exact Or.inr ⟨c, h3, hb, h1, h4⟩
    · exact Or.inl ⟨h1, z⟩
  · rintro (⟨h1, h2⟩ | ⟨c, h3, h4, h1, h2⟩)
    · exact ⟨h1, by omega⟩
    · refine ⟨h1, ?_⟩
      have : 0 < sumW (fun c => if bitB cells c = true then mxN cells s m o (k + 1) (shO (opS op c (s k)) s o i) else 0) 12 := sumW_pos.mpr ⟨c, h3, by simp only [h4, if_true]; exact h2⟩
      omega
/-- the first way: where child k is, and what is open then -/
def chC (cells : Int32) (s : Nat → Nat) (m k : Nat) (op : Nat → Int32) : Nat := fstN (fun c => bitB cells c && decide (0 < mwN cells s m (k + 1) (opS op c (s k)))) 12
def chV (cells : Int32) (s : Nat → Nat) (m k : Nat) (op : Nat → Int32) : Int32 := if 0 < mwN cells s m (k + 1) op then -1 else nI (chC cells s m k op)
def chO (cells : Int32) (s : Nat → Nat) (m k : Nat) (op : Nat → Int32) : Nat → Int32 := if 0 < mwN cells s m (k + 1) op then op else opS op (chC cells s m k op) (s k)
def lsV (cells : Int32) (s : Nat → Nat) (m : Nat) : Nat → Nat → (Nat → Int32) → Nat → Int32
  | 0, _, _, _ => 0
  | r + 1, k, op, o => if o = k then chV cells s m k op else lsV cells s m r (k + 1) (chO cells s m k op) o
