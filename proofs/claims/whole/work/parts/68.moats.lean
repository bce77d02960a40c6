/-! ===== where moats are worth most ===== -/
def fstN (p : Nat → Bool) : Nat → Nat
  | 0 => 0
  | n + 1 => if fstN p n < n then fstN p n else if p n then n else n + 1
theorem fst_le (p : Nat → Bool) : ∀ n, fstN p n ≤ n
  | 0 => Nat.le_refl _
  | n + 1 => by
    have := fst_le p n
    simp only [fstN]
    split
    · omega
    · split <;> omega
theorem fst_spec (p : Nat → Bool) : ∀ n, (∀ t, t < fstN p n → p t = false) ∧ (fstN p n < n → p (fstN p n) = true)
  | 0 => ⟨fun t h => by simp [fstN] at h, fun h => by simp [fstN] at h⟩
  | n + 1 => by
    have ih := fst_spec p n
    have hle := fst_le p n
    simp only [fstN]
    by_cases h : fstN p n < n
    · rw [if_pos h]
      exact ⟨ih.1, fun _ => ih.2 h⟩
    · rw [if_neg h]
      have e : fstN p n = n := by omega
      cases hp : p n
      · simp only [Bool.false_eq_true, if_false]
        refine ⟨fun t ht => ?_, fun z => by omega⟩
        by_cases e2 : t = n
        · subst e2; exact hp
        · exact ih.1 t (by omega)
      · simp only [if_true]
        exact ⟨fun t ht => ih.1 t (by omega), fun _ => hp⟩
theorem fst_uniq {p : Nat → Bool} {n k : Nat} (hk : k ≤ n) (h1 : ∀ t, t < k → p t = false) (h2 : k < n → p k = true) : fstN p n = k := by
  have ⟨s1, s2⟩ := fst_spec p n
  have hle := fst_le p n
  rcases Nat.lt_trichotomy (fstN p n) k with h | h | h
  · have a := s2 (by omega)
    rw [h1 _ h] at a; cases a
  · exact h
  · have a := h2 (by omega)
    rw [s1 k h] at a; cases a
theorem fst_or (p q : Nat → Bool) (n : Nat) : fstN (fun t => p t || q t) n = min (fstN p n) (fstN q n) := by
  have ⟨p1, p2⟩ := fst_spec p n
  have ⟨q1, q2⟩ := fst_spec q n
  have hp := fst_le p n
  have hq := fst_le q n
  apply fst_uniq
  · omega
  · intro t ht
    simp [p1 t (by omega), q1 t (by omega)]
  · intro h
    rcases Nat.lt_or_ge (fstN p n) (fstN q n) with z | z
    · have e : min (fstN p n) (fstN q n) = fstN p n := by omega
      rw [e] at h ⊢
      simp [p2 h]
    · have e : min (fstN p n) (fstN q n) = fstN q n := by omega
      rw [e] at h ⊢
      simp [q2 h]
/-- the wall at a cell while nothing breaks -/
def wlS (H : Nat → Int32) (base wall : Nat → Int32) (c : Nat) (b : Bool) : Nat → Int32
  | 0 => wall c
  | t + 1 => jmax 0 (wlS H base wall c b t - washS (H t) (base c) b)
def bkB (H : Nat → Int32) (base wall : Nat → Int32) (c : Nat) (b : Bool) (t : Nat) : Bool := !decide (H t ≤ 10 * base c + wlS H base wall c b t)
def laN (H : Nat → Int32) (base wall : Nat → Int32) (c : Nat) (b : Bool) : Nat := fstN (bkB H base wall c b) 99 + 1
def heS (F : Int32 → Int32 → Int32 → Int32 → Int32) (wind cells k : Int32) (q : Nat) : Int32 := jmax 0 (jmin 999 (F (nI q) wind cells k))
theorem t_lasts {t0 : Nat} (ht0 : t0 < 2 ^ 30) {heights H : Nat → Int32} (hH : ∀ t, t < 99 → heights ((t0 + t) % 8) = H t) {c : Nat} (hc : c < 12) (base wall : Nat → Int32) (b : Bool) : fX7_lasts heights (nI t0) wall base (nI c) (b2i b) = some (nI (laN H base wall c b)) := by
  have cl : (nI c).toNatClampNeg = c := nI_clamp (by omega)
  have hin : inb (nI c) 12 := inb_n hc (by omega)
  unfold fX7_lasts
  rw [if_pos hin, cl]
  unfold fX7_lasts_b11
  refine lp_inv (fun r => r = some (nI (laN H base wall c b))) (fun i s => s.2 = nI (i + 1) ∧ s.1 = wlS H base wall c b i ∧ ∀ t, t < i → bkB H base wall c b t = false) 99 (by omega) ⟨rfl, rfl, fun t ht => absurd ht (by omega)⟩ ?_
  intro i s k hi hI
  obtain ⟨w, x⟩ := s
  obtain ⟨e1, e2, e3⟩ := hI
  simp only at e1 e2
  subst e1 e2
  by_cases e : i = 99
  · right
    have z : (99 : Int32) < nI (i + 1) := by rw [e]; decide
    have hv : laN H base wall c b = 100 := by
      unfold laN
      rw [fst_uniq (k := i) hi e3 (fun z => absurd z (by omega)), e]
    show fX7_lasts_l11 heights (nI t0) wall base (nI c) (b2i b) k (wlS H base wall c b i) (nI (i + 1)) = _
    simp only [fX7_lasts_l11, if_pos z, fX7_lasts_b90, hv]
    rfl
  · have hi2 : i < 99 := by omega
    have z : ¬ (99 : Int32) < nI (i + 1) := nI_nlt (a := 99) (by omega) (by omega)
    have ej : jrem (nI t0 + nI (i + 1) - 1) 8 = nI ((t0 + i) % 8) := by
      have : nI t0 + nI (i + 1) - 1 = nI (t0 + i) := by rw [nI_succ, ← nI_add]; grind
      rw [this]; exact jrem_n (d := 8) (by omega) (by omega) (by omega)
    have h8 : (t0 + i) % 8 < 8 := by omega
    have cl8 : (nI ((t0 + i) % 8)).toNatClampNeg = (t0 + i) % 8 := nI_clamp (by omega)
    have hHi := hH i hi2
    by_cases hb : H i ≤ 10 * base c + wlS H base wall c b i
    · left
      refine ⟨hi2, (wlS H base wall c b (i + 1), nI (i + 1 + 1)), ⟨rfl, rfl, ?_⟩, ?_⟩
      · intro t ht
        by_cases e : t = i
        · subst e; simp [bkB, hb]
        · exact e3 t (by omega)
      · show fX7_lasts_l11 heights (nI t0) wall base (nI c) (b2i b) k (wlS H base wall c b i) (nI (i + 1)) = _
        simp only [fX7_lasts_l11, if_neg z, ej, if_pos (inb_n h8 (by omega)), if_pos hin, cl8, cl, hHi, if_pos hb, t_wash, ob_s, nI_1]
        rfl
    · right
      have hv : laN H base wall c b = i + 1 := by
        unfold laN
        rw [fst_uniq (k := i) (by omega) e3 (fun _ => by simp [bkB, hb])]
      show fX7_lasts_l11 heights (nI t0) wall base (nI c) (b2i b) k (wlS H base wall c b i) (nI (i + 1)) = _
      simp only [fX7_lasts_l11, if_neg z, ej, if_pos (inb_n h8 (by omega)), if_pos hin, cl8, cl, hHi, if_neg hb, fX7_lasts_b57, hv]
/-- in how many tides it breaks first, with moats at S -/
def vlN (n : Nat) (H : Nat → Int32) (base wall : Nat → Int32) (S : Nat) : Nat := fstN (fun t => anyN (fun c => bkB H base wall c (S.testBit c) t) n) 99 + 1
theorem fst_false (n : Nat) : fstN (fun _ => false) n = n := fst_uniq (Nat.le_refl n) (fun _ _ => rfl) (fun h => absurd h (by omega))
theorem t_firstBreak {n : Nat} (hn : n ≤ 12) {H base wall bare moated : Nat → Int32} (hb : ∀ c, c < n → bare c = nI (laN H base wall c false)) (hm : ∀ c, c < n → moated c = nI (laN H base wall c true)) (S : Nat) : fX7_firstBreak bare moated (nI n) (nI S) = some (nI (vlN n H base wall S)) := by
  unfold fX7_firstBreak fX7_firstBreak_b5
  refine lp_up (fun i => (nI (vlN i H base wall S), nI i)) n (by omega) ?_ ?_ ?_
  · refine Prod.ext ?_ rfl
    show (100 : Int32) = nI (vlN 0 H base wall S)
    have : vlN 0 H base wall S = 100 := by
      unfold vlN
      rw [show (fun t => anyN (fun c => bkB H base wall c (S.testBit c) t) 0) = (fun _ => false) from rfl, fst_false]
    rw [this]; rfl
  · intro i hi k
    have cc : ¬ nI n ≤ nI i := nI_ge hi (by omega)
    have cl : (nI i).toNatClampNeg = i := nI_clamp (by omega)
    have eb : bitB (nI S) i = S.testBit i := by rw [bitB_t _ (by omega), b_nI _ (by omega)]
    have hmin : ∀ b, S.testBit i = b → jmin (nI (vlN i H base wall S)) (nI (laN H base wall i b)) = nI (vlN (i + 1) H base wall S) := by
      intro b eb2
      have l1 := fst_le (fun t => anyN (fun c => bkB H base wall c (S.testBit c) t) i) 99
      have l2 := fst_le (bkB H base wall i b) 99
      rw [jmin_n (by unfold vlN; omega) (by unfold laN; omega)]
      refine congrArg nI ?_
      have : vlN (i + 1) H base wall S = min (fstN (fun t => anyN (fun c => bkB H base wall c (S.testBit c) t) i) 99) (fstN (bkB H base wall i b) 99) + 1 := by
        unfold vlN
        rw [← fst_or, ← eb2]
        rfl
      rw [this]
      unfold vlN laN
      omega
    show fX7_firstBreak_l5 bare moated (nI n) (nI S) k (nI (vlN i H base wall S)) (nI i) = _
    cases hb2 : S.testBit i
    · have z : jshr (nI S) (nI i) &&& 1 = 0 := (bitB_0 _ _).mpr (by rw [eb, hb2])
      simp only [fX7_firstBreak_l5, if_neg cc, if_pos z, if_pos (inb_n (show i < 12 by omega) (by omega)), cl, hb i hi, fX7_firstBreak_b40, hmin false hb2, nI_1]
    · have z : ¬ jshr (nI S) (nI i) &&& 1 = 0 := by rw [bitB_0, eb, hb2]; simp
      simp only [fX7_firstBreak_l5, if_neg cc, if_neg z, if_pos (inb_n (show i < 12 by omega) (by omega)), cl, hm i hi, fX7_firstBreak_b40, hmin true hb2, nI_1]
  · intro k
    have hle : nI n ≤ nI n := nI_le (Nat.le_refl n) (by omega)
    simp only [fX7_firstBreak_l5, if_pos hle, fX7_firstBreak_b50]
theorem t_breaksIn {n m T : Nat} {F : Int32 → Int32 → Int32 → Int32 → Int32} {long moats spades tides : Int32} {code base dyke base' dyke' wall depth mood place now fixed : Nat → Int32} (hn : n ≤ 12) (h1 : 1 ≤ n) (hm : m ≤ 8) (hM : laM F long code) (hl : laR n base dyke base' dyke') (hs : SS n m T wall depth mood place moats spades tides now) {t0 S k : Nat} (ht0 : t0 < 2 ^ 30) (et : tides = nI t0) (em : moats = nI S) (hk : bcS (nI S) = nI k) (lvl fb : Int32) (st as : Nat → Int32) : ∃ lvl' fb' th' st' as', fX12_breaksIn (nI n) long lvl fb base' dyke' fixed now code st as = some (nI (vlN n (fun t => heS F (fixed 0) (nI n) (nI k) ((t0 + t) % 8)) base wall S), lvl', fb', th', st', as') := by
  let H : Nat → Int32 := fun t => heS F (fixed 0) (nI n) (nI k) ((t0 + t) % 8)
  unfold fX12_breaksIn fX12_breaksIn_b2
  refine lp_inv (fun r => ∃ lvl' fb' th' st' as', r = some (nI (vlN n H base wall S), lvl', fb', th', st', as')) (fun i s => s.2.2.2.2.2 = nI (i + 1) ∧ (∃ wa de, SS n m (T + i) wa de mood place (nI S) spades (nI (t0 + i)) s.2.2.1 ∧ ∀ c, c < n → wa c = wlS H base wall c (S.testBit c) i) ∧ ∀ t, t < i → anyN (fun c => bkB H base wall c (S.testBit c) t) n = false) 99 (by omega) ⟨rfl, ⟨wall, depth, by subst et em; exact hs, fun _ _ => rfl⟩, fun t ht => absurd ht (by omega)⟩ ?_
  intro i s k2 hi hI
  obtain ⟨lv, fb2, th, st2, as2, x⟩ := s
  obtain ⟨e1, ⟨wa, de, hS, hwa⟩, e3⟩ := hI
  simp only at e1 hS hwa
  subst e1
  by_cases e : i = 99
  · right
    have z : (99 : Int32) < nI (i + 1) := by rw [e]; decide
    have hv : vlN n H base wall S = 100 := by
      unfold vlN
      rw [fst_uniq (k := i) hi e3 (fun z => absurd z (by omega)), e]
    refine ⟨lv, fb2, th, st2, as2, ?_⟩
    simp only [fX12_breaksIn_l2, if_pos z, fX12_breaksIn_b35, hv]
    rfl
  · have hi2 : i < 99 := by omega
    have z : ¬ (99 : Int32) < nI (i + 1) := nI_nlt (a := 99) (by omega) (by omega)
    obtain ⟨wa', de', th', st4, as4, e2, e4, hS'⟩ := j_tide hn h1 hm hM (fixed := fixed) hl hS lv st2 as2
    have eh : levS F (fixed 0) (nI n) (nI S) (nI (t0 + i)) = H i := by
      show jmax 0 (jmin 999 (F (jrem (nI (t0 + i)) 8) _ _ (bcS (nI S)))) = jmax 0 (jmin 999 (F (nI ((t0 + i) % 8)) _ _ (nI k)))
      rw [hk, show jrem (nI (t0 + i)) 8 = nI ((t0 + i) % 8) from jrem_n (d := 8) (by omega) (by omega) (by omega)]
    have hh := lev_r F (fixed 0) (nI n) (nI S) (nI (t0 + i))
    have ts := t_surge hn h1 (depth := de) (dyke := dyke) (nI S) (nI (t0 + i)) (levS F (fixed 0) (nI n) (nI S) (nI (t0 + i))) hS.1.1 hl.2.1 hh
    rw [eh] at e2 e4 hS' ts
    rw [e2] at ts
    have hwl : wa' = fillN (tdW (H i) (nI S) base wa) wa n := by
      have := Option.some.inj ts
      simp only [Prod.mk.injEq] at this
      exact this.2.2.2.1
    have htop : ∀ c, c < n → topS base wa c = 10 * base c + wlS H base wall c (S.testBit c) i := fun c hc => by unfold topS; rw [hwa c hc]
    have hany : brkS n (H i) base wa = 0 ↔ anyN (fun c => bkB H base wall c (S.testBit c) i) n = false := by
      unfold brkS
      rw [bits_0 (by omega), anyN_f]
      constructor
      · intro h c hc
        have := h c hc
        rw [htop c hc] at this
        exact this
      · intro h c hc
        rw [htop c hc]; exact h c hc
    by_cases zb : brkS n (H i) base wa = 0
    · left
      have mz : nI S &&& (brkS n (H i) base wa ^^^ (-1)) = nI S := by
        rw [zb]
        apply b_ext
        intro j hj
        rw [b_and, b_not _ hj, b_0]; simp
      rw [mz, nI_1] at hS'
      refine ⟨hi2, (H i, brkS n (H i) base wa, th', st4, as4, nI (i + 1 + 1)), ⟨rfl, ⟨wa', de', hS', ?_⟩, ?_⟩, ?_⟩
      · intro c hc
        have hnb := (anyN_f _ n).mp (hany.mp zb) c hc
        have hle : H i ≤ topS base wa c := by
          rw [htop c hc]
          simpa [bkB] using hnb
        rw [hwl, fill_lt _ _ hc]
        unfold tdW
        rw [if_pos hle, hwa c hc, bitB_t _ (by omega), b_nI _ (by omega)]
        rfl
      · intro t ht
        by_cases e : t = i
        · subst e; exact hany.mp zb
        · exact e3 t (by omega)
      · simp only [fX12_breaksIn_l2, if_neg z, e4, ob_s, if_pos zb, nI_1]
    · right
      have hv : vlN n H base wall S = i + 1 := by
        unfold vlN
        rw [fst_uniq (k := i) (by omega) e3 (fun _ => by
          cases e : anyN (fun c => bkB H base wall c (S.testBit c) i) n
          · exact absurd (hany.mpr e) zb
          · rfl)]
      refine ⟨H i, brkS n (H i) base wa, th', st4, as4, ?_⟩
      simp only [fX12_breaksIn_l2, if_neg z, e4, ob_s, if_neg zb, fX12_breaksIn_b27, hv]
theorem crd_full {k : Nat} : ∀ {n : Nat}, k ≤ n → crd (2 ^ k - 1) n = k := by
  intro n h
  unfold crd
  have hb : ∀ i, (2 ^ k - 1).testBit i = decide (i < k) := fun i => Nat.testBit_two_pow_sub_one k i
  rw [ctN_ext (p := fun _ => true) (n := k) h (fun i hi => by rw [hb]; simp [hi]) (fun i hi => by rw [hb]; simp; omega)]
  clear h hb
  induction k with
  | zero => rfl
  | succ k ih => simp [ctN, ih]
theorem c_moats {n m T : Nat} {F : Int32 → Int32 → Int32 → Int32 → Int32} {len long moats spades tides ts tr : Int32} {codes code base dyke base' dyke' wall depth mood place now fixed : Nat → Int32} {tn tw : Nat → Int64} (hn : n ≤ 12) (h1 : 1 ≤ n) (hm : m ≤ 8) (hC : laC F len codes) (hM : laM F long code) (hl : laR n base dyke base' dyke') (hs : SS n m T wall depth mood place moats spades tides now) (ht : toR ts tn tr tw) (hT : T < 2 ^ 30) (x : Int32) (stack : Nat → Int32) (ch : Int32) (q1 q2 q3 : Nat → Int32) (lvl fb thrown : Int32) (th st as : Nat → Int32) : ∃ a st1 ch' p1 p2 p3 ts' tn' tr' lvl' fb' tw' th' st' as', fX11_moats (fixed 0) (nI n) base len codes stack ch q1 q2 q3 tides wall ts tn x = some (a, st1, ch', p1, p2, p3, ts', tn') ∧ fX12_moats thrown tr (nI n) long lvl fb tw base' dyke' fixed now th code st as x = some (a, 0, tr', lvl', fb', tw', th', st', as') ∧ toR ts' tn' tr' tw' := by
  have p := t_in x (L := 0) (H := 4) 0 4 rfl rfl
  by_cases hx : 0 ≤ x ∧ x ≤ 4
  · obtain ⟨k, -, hk, rfl⟩ := rng_n (a := 0) (b := 4) (by omega) (by omega) hx
    by_cases hkn : k ≤ n
    · have zkn : nI k ≤ nI n := nI_le hkn (by omega)
      obtain ⟨t0, ht0, et⟩ := hs.1.2.2.2.2.2.2
      have ht30 : t0 < 2 ^ 30 := by omega
      let H : Nat → Int32 := fun t => heS F (fixed 0) (nI n) (nI k) ((t0 + t) % 8)
      have p2 : 2 ^ n ≤ 4096 := Nat.pow_le_pow_right (n := 2) (by decide) hn
      have e2n : jshl 1 (nI n) = nI (2 ^ n) := (by decide +kernel : ∀ k, k < 13 → jshl 1 (nI k) = nI (2 ^ k)) n (by omega)
      have hvb : ∀ S, vlN n H base wall S ≤ 100 := fun S => by
        have := fst_le (fun t => anyN (fun c => bkB H base wall c (S.testBit c) t) n) 99
        unfold vlN; omega
      -- the class: heights, then what each cell bears
      have eC : ∃ st1 p1 p2 p3, (∀ c, c < n → p2 c = nI (laN H base wall c false)) ∧ (∀ c, c < n → p3 c = nI (laN H base wall c true)) ∧ fX7_find ch q1 q2 q3 tides wall len codes stack (nI n) base (fixed 0) (nI k) = fX7_find_b90 ch p1 p2 p3 tides wall len codes st1 (nI n) base (nI k) := by
        have e42 : ∀ (hts : Nat → Int32) (st1 : Nat → Int32), (∀ q, q < 8 → hts q = heS F (fixed 0) (nI n) (nI k) q) → ∃ p2 p3, (∀ c, c < n → p2 c = nI (laN H base wall c false)) ∧ (∀ c, c < n → p3 c = nI (laN H base wall c true)) ∧ fX7_find_b39 ch hts q2 q3 tides wall len codes st1 (nI n) base (nI k) = fX7_find_b90 ch hts p2 p3 tides wall len codes st1 (nI n) base (nI k) := by
          intro hts st1 hh
          refine ⟨fillN (fun c => nI (laN H base wall c false)) q2 n, fillN (fun c => nI (laN H base wall c true)) q3 n, fun c hc => fill_lt _ _ hc, fun c hc => fill_lt _ _ hc, ?_⟩
          unfold fX7_find_b39 fX7_find_b42
          refine lp_up (fun i => (fillN (fun c => nI (laN H base wall c false)) q2 i, fillN (fun c => nI (laN H base wall c true)) q3 i, nI i)) n (by omega) (by rw [fill_0, fill_0]; rfl) ?_ ?_
          · intro i hi k42
            have cc : ¬ nI n ≤ nI i := nI_ge hi (by omega)
            have l0 := t_lasts ht30 (heights := hts) (H := H) (fun t _ => hh _ (by omega)) (show i < 12 by omega) base wall false
            have l1 := t_lasts ht30 (heights := hts) (H := H) (fun t _ => hh _ (by omega)) (show i < 12 by omega) base wall true
            rw [b2i_f, ← et] at l0
            rw [b2i_t, ← et] at l1
            have f0 := fill_s (fun c => nI (laN H base wall c false)) q2 i
            have f1 := fill_s (fun c => nI (laN H base wall c true)) q3 i
            rw [← f0, ← f1]
            show fX7_find_l42 ch hts tides wall len codes st1 (nI n) base (nI k) k42 _ _ (nI i) = _
            simp only [fX7_find_l42, if_neg cc, l0, l1, ob_s, if_pos (inb_n (show i < 12 by omega) (by omega)), nI_clamp (show i < 2 ^ 31 by omega), nI_1]
          · intro k42
            have hle : nI n ≤ nI n := nI_le (Nat.le_refl n) (by omega)
            simp only [fX7_find_l42, if_pos hle]
        have e3 : ∃ hts st1, (∀ q, q < 8 → hts q = heS F (fixed 0) (nI n) (nI k) q) ∧ fX7_find ch q1 q2 q3 tides wall len codes stack (nI n) base (fixed 0) (nI k) = fX7_find_b39 ch hts q2 q3 tides wall len codes st1 (nI n) base (nI k) := by
          unfold fX7_find fX7_find_b3
          refine lp_inv (s := (q1, stack, (0 : Int32))) (fun r => ∃ hts st1, (∀ q, q < 8 → hts q = heS F (fixed 0) (nI n) (nI k) q) ∧ r = fX7_find_b39 ch hts q2 q3 tides wall len codes st1 (nI n) base (nI k)) (fun i (s : (Nat → Int32) × (Nat → Int32) × Int32) => s.2.2 = nI i ∧ ∀ q, q < i → s.1 q = heS F (fixed 0) (nI n) (nI k) q) 8 (by omega) ⟨rfl, fun q hq => absurd hq (by omega)⟩ ?_
          intro i s k3 hi hI
          obtain ⟨hts, st1, x5⟩ := s
          obtain ⟨g1, g2⟩ := hI
          simp only at g1 g2
          subst g1
          by_cases e : i = 8
          · subst e
            right
            have z : (8 : Int32) ≤ nI 8 := by decide
            exact ⟨hts, st1, g2, by simp only [fX7_find_l3, if_pos z]⟩
          · have z : ¬ (8 : Int32) ≤ nI i := nI_ge (b := 8) (by omega) (by omega)
            obtain ⟨st2, ev⟩ := hC st1 (nI i) (fixed 0) (nI n) (nI k)
            left
            refine ⟨by omega, (upd hts i (heS F (fixed 0) (nI n) (nI k) i), st2, nI (i + 1)), ⟨rfl, ?_⟩, ?_⟩
            · intro q hq
              show upd hts i _ q = _
              by_cases e2 : q = i
              · subst e2; rw [pk_us]
              · rw [pk_un e2]; exact g2 q (by omega)
            · simp only [fX7_find_l3, if_neg z, ev, ob_s, if_pos (inb_n (show i < 8 by omega) (by omega)), nI_clamp (show i < 2 ^ 31 by omega), nI_1]
              rfl
        obtain ⟨hts, st1, hh, e4⟩ := e3
        obtain ⟨p2, p3, h2, h3, e5⟩ := e42 hts st1 hh
        exact ⟨st1, hts, p2, p3, h2, h3, e4.trans e5⟩
      obtain ⟨st1, p1, p2', p3, hp2, hp3, eC⟩ := eC
      have key : ∃ (B v lvl' fb' : Int32) (th' st' as' : Nat → Int32), fX7_find_b90 ch p1 p2' p3 tides wall len codes st1 (nI n) base (nI k) = some (v, B, p1, p2', p3, st1) ∧ fX12_moats_b37 0 tr (nI n) long lvl fb tw base' dyke' fixed now th code st as (nI k) (-1) (-1) 0 = some (v, 0, nI 1, lvl', fb', vp_updL tw 0 B.toInt64, th', st', as') := by
        unfold fX7_find_b90 fX7_find_b96 fX12_moats_b37
        refine lq2 (fun r u => ∃ (B v lvl' fb' : Int32) (th' st' as' : Nat → Int32), r = some (v, B, p1, p2', p3, st1) ∧ u = some (v, 0, nI 1, lvl', fb', vp_updL tw 0 B.toInt64, th', st', as')) (fun i (s : Int32 × Int32 × Int32) (t : Int32 × Int32 × (Nat → Int32) × (Nat → Int32) × (Nat → Int32) × Int32 × Int32 × Int32) => s.2.2 = nI i ∧ t.2.2.2.2.2.2.2 = nI i ∧ ((s.2.1 = 0 ∧ t.2.2.2.2.2.1 = -1 ∧ t.2.2.2.2.2.2.1 = -1 ∧ ∀ S, S < i → crd S n ≠ k) ∨ ∃ B v, v ≤ 100 ∧ s.1 = nI B ∧ s.2.1 = nI v ∧ t.2.2.2.2.2.1 = nI B ∧ t.2.2.2.2.2.2.1 = nI v)) (2 ^ n) (by omega) ⟨rfl, rfl, Or.inl ⟨rfl, rfl, rfl, fun S hS => absurd hS (by omega)⟩⟩ ?_
        intro i s t k1 k2 hi hI
        obtain ⟨cch, clo, ci⟩ := s
        obtain ⟨lv, f2, th2, st2, as2, mb, mm, mi⟩ := t
        obtain ⟨g1, g2, g3⟩ := hI
        simp only at g1 g2 g3
        subst g1 g2
        by_cases e : i = 2 ^ n
        · right
          have hle : nI (2 ^ n) ≤ nI i := nI_le (by omega) (by omega)
          rcases g3 with ⟨-, -, -, hno⟩ | ⟨B, v, hv, rfl, rfl, rfl, rfl⟩
          · exfalso
            have hlt : 2 ^ k - 1 < i := by
              have : 2 ^ k ≤ 2 ^ n := Nat.pow_le_pow_right (by decide) hkn
              have := Nat.two_pow_pos k
              omega
            exact hno _ hlt (crd_full hkn)
          · refine ⟨nI B, nI v, lv, f2, th2, st2, as2, ?_, ?_⟩
            · simp only [fX7_find_l96, e2n, if_pos hle, fX7_find_b151]
            · simp only [fX12_moats_l37, e2n, if_pos hle, fX12_moats_b102, t_ent0, ob_s]
        · have hi2 : i < 2 ^ n := by omega
          have cc : ¬ nI (2 ^ n) ≤ nI i := nI_ge hi2 (by omega)
          have ebc := crd_bc hn hi2
          have crl : crd i n ≤ n := ctN_le _ n
          left
          refine ⟨hi2, ?_⟩
          by_cases hcr : crd i n = k
          · have zb : bcS (nI i) = nI k := by rw [ebc, hcr]
            have efb := t_firstBreak hn hp2 hp3 i
            have hS1 := SS_moats hn hm (j_copy hn hm hs wall depth mood place th2) (v := nI i) ⟨i, hi2, rfl⟩
            obtain ⟨lv3, fb3, th3, st3, as3, ebr⟩ := t_breaksIn hn h1 hm hM hl hS1 (fixed := fixed) (t0 := t0) (S := i) (k := k) ht30 et rfl zb lv f2 st2 as2
            have i12 : inb (12 : Int32) 43 := inb_n (i := 12) (by omega) (by omega)
            have n12 : (12 : Int32).toNatClampNeg = 12 := rfl
            have ewl : vlN n (fun t => heS F (fixed 0) (nI n) (nI k) ((t0 + t) % 8)) base (va_cpy wall wall 0 0 12) i = vlN n H base wall i := by
              have : va_cpy wall wall 0 0 12 = wall := by
                funext j
                by_cases e : j < 12
                · rw [cpy_lt e]
                · rw [pk_cpy_out (by omega)]
              rw [this]
            rw [ewl] at ebr
            have hv := hvb i
            have hv1 : 1 ≤ vlN n H base wall i := by unfold vlN; omega
            generalize vlN n H base wall i = v at *
            have eCs : fX7_find_l96 p1 p2' p3 tides wall len codes st1 (nI n) base (nI k) k1 cch clo (nI i) = if nI v ≤ clo then k1 (cch, clo, nI (i + 1)) else k1 (nI i, nI v, nI (i + 1)) := by
              simp only [fX7_find_l96, e2n, if_neg cc, t_bc, ob_s, if_pos zb, efb, fX7_find_b145, nI_1]
            have eMs : fX12_moats_l37 0 tr (nI n) long tw base' dyke' fixed now code (nI k) k2 lv f2 th2 st2 as2 mb mm (nI i) = k2 (lv3, fb3, th3, st3, as3, if nI v ≤ mm then mb else nI i, jmax mm (nI v), nI (i + 1)) := by
              simp only [fX12_moats_l37, e2n, if_neg cc, t_bc, ob_s, if_pos zb, t_puts, if_pos i12, n12, ebr]
              by_cases z : nI v ≤ mm
              · rw [if_pos z, if_pos z, fX12_moats_b88, fX12_moats_b96, nI_1]
              · rw [if_neg z, if_neg z, fX12_moats_b88, fX12_moats_b96, nI_1]
            rcases g3 with ⟨rfl, rfl, rfl, hno⟩ | ⟨B, v0, hv0, rfl, rfl, rfl, rfl⟩
            · have z1 : ¬ nI v ≤ 0 := nI_nle (by omega) (by omega)
              have z0 := nI_pos' (n := v) (by omega)
              have z2 : ¬ nI v ≤ -1 := by grind
              have ej : jmax (-1) (nI v) = nI v := by unfold jmax; rw [if_pos (by grind)]
              rw [if_neg z1] at eCs
              rw [if_neg z2, ej] at eMs
              exact ⟨_, _, ⟨rfl, rfl, Or.inr ⟨i, v, hv, rfl, rfl, rfl, rfl⟩⟩, eCs, eMs⟩
            · by_cases z : v ≤ v0
              · have z1 : nI v ≤ nI v0 := nI_le z (by omega)
                have ej : jmax (nI v0) (nI v) = nI v0 := by unfold jmax; rw [if_neg (nI_nlt z (by omega))]
                rw [if_pos z1] at eCs
                rw [if_pos z1, ej] at eMs
                exact ⟨_, _, ⟨rfl, rfl, Or.inr ⟨B, v0, hv0, rfl, rfl, rfl, rfl⟩⟩, eCs, eMs⟩
              · have z1 : ¬ nI v ≤ nI v0 := nI_ge (by omega) (by omega)
                have ej : jmax (nI v0) (nI v) = nI v := by unfold jmax; rw [if_pos (nI_lt (by omega) (by omega))]
                rw [if_neg z1] at eCs
                rw [if_neg z1, ej] at eMs
                exact ⟨_, _, ⟨rfl, rfl, Or.inr ⟨i, v, hv, rfl, rfl, rfl, rfl⟩⟩, eCs, eMs⟩
          · have zb : ¬ bcS (nI i) = nI k := by rw [ebc, nI_eq (by omega) (by omega)]; exact hcr
            refine ⟨(cch, clo, nI (i + 1)), (lv, f2, th2, st2, as2, mb, mm, nI (i + 1)), ⟨rfl, rfl, ?_⟩, ?_, ?_⟩
            · rcases g3 with ⟨a1, a2, a3, hno⟩ | g3
              · exact Or.inl ⟨a1, a2, a3, fun S hS => by
                  by_cases e : S = i
                  · subst e; exact hcr
                  · exact hno S (by omega)⟩
              · exact Or.inr g3
            · simp only [fX7_find_l96, e2n, if_neg cc, t_bc, ob_s, if_neg zb, fX7_find_b145, nI_1]
            · simp only [fX12_moats_l37, e2n, if_neg cc, t_bc, ob_s, if_neg zb, fX12_moats_b96, nI_1]
      obtain ⟨B, v, lvl', fb', th', st', as', k1, k2⟩ := key
      rw [k1] at eC
      repeat apply Exists.intro
      refine ⟨?_, ?_, to_1 tn tw B.toInt64⟩
      · simp only [fX11_moats, t_within, hx, decide_true, b2i_t, ob_s, if_pos zkn, eC, t_tell]
        rfl
      · simp only [fX12_moats, p, hx, decide_true, b2i_t, ob_s, if_pos zkn, k2]
        rfl
    · have zkn : ¬ nI k ≤ nI n := nI_ge (by omega) (by omega)
      refine ⟨-2, stack, ch, q1, q2, q3, ts, tn, tr, lvl, fb, tw, th, st, as, ?_, ?_, ht⟩
      · simp only [fX11_moats, t_within, hx, decide_true, b2i_t, ob_s, if_neg zkn]
        rfl
      · simp only [fX12_moats, p, hx, decide_true, b2i_t, ob_s, if_neg zkn]
        rfl
  · refine ⟨-1, stack, ch, q1, q2, q3, ts, tn, tr, lvl, fb, tw, th, st, as, ?_, ?_, ht⟩
    · simp [fX11_moats, t_within, hx, b2i]
    · simp [fX12_moats, p, hx, b2i]
