/-! ===== does a crew hold? ===== -/
def spI (n m : Nat) (age skill friend : Nat → Int32) (spades : Int32) : Nat → (Nat → Int32) × (Nat → Int32) × (Nat → Int32) → (Nat → Int32) × (Nat → Int32) × (Nat → Int32)
  | 0, x => x
  | N + 1, x =>
    let y := spI n m age skill friend spades N x
    (clW n m age skill friend y.1 y.2.1 y.2.2 spades m, fillN (clM y.2.1 y.2.2) y.2.1 m, fillN (clP y.2.1 y.2.2) y.2.2 m)
theorem got_r {m : Nat} (hm : m ≤ 8) {age skill friend mood place : Nat → Int32} {spades : Int32} (hs : ∀ k, k < m → 1 ≤ skill k ∧ skill k ≤ 9) (c : Nat) : 0 ≤ gotS age skill friend mood place spades m m c ∧ gotS age skill friend mood place spades m m c ≤ 2000 := by
  have hS := sum_r (f := fun k => if place k = nI c then buckS age skill friend place mood spades m k else 0) (n := m) (by omega) (fun k hk => by
    show 0 ≤ (if place k = nI c then _ else _) ∧ (if place k = nI c then _ else _) ≤ 100
    split
    · exact buck_r (hs k hk)
    · decide)
  have : (100 : Int32) * nI m ≤ 2000 := by
    show nI 100 * nI m ≤ nI 2000
    rw [pk_mul, nI_leI (by omega) (by omega)]; omega
  exact ⟨hS.1, Int32.le_trans hS.2 this⟩
theorem clW_rng {n m : Nat} (hm : m ≤ 8) {age skill friend wall mood place : Nat → Int32} {spades : Int32} (hs : ∀ k, k < m → 1 ≤ skill k ∧ skill k ≤ 9) (hw : rng n wall) : rng n (clW n m age skill friend wall mood place spades m) := fun c hc => by
  have hg := got_r hm (age := age) (friend := friend) (mood := mood) (place := place) (spades := spades) hs c
  simp only [clW]
  rw [if_pos hc]
  exact min_r (hw c hc).1 (hw c hc).2 hg.1 hg.2
theorem clP_ok {n m : Nat} (hn : n ≤ 12) {mood place : Nat → Int32} (hp : plOk place n m) : plOk (fillN (clP mood place) place m) n m := fun k hk => by
  rw [fill_lt _ _ hk]; exact clP_r hn hp hk
theorem sp_ok {n m : Nat} (hn : n ≤ 12) (hm : m ≤ 8) {age skill friend wall mood place : Nat → Int32} {spades : Int32} (hs : ∀ k, k < m → 1 ≤ skill k ∧ skill k ≤ 9) (hw : rng n wall) (hp : plOk place n m) : ∀ N, rng n (spI n m age skill friend spades N (wall, mood, place)).1 ∧ plOk (spI n m age skill friend spades N (wall, mood, place)).2.2 n m
  | 0 => ⟨hw, hp⟩
  | N + 1 => by
    have ih := sp_ok hn hm (age := age) (friend := friend) (mood := mood) (spades := spades) hs hw hp N
    exact ⟨clW_rng hm hs ih.1, clP_ok hn ih.2⟩
theorem t_buildOn {n m : Nat} (hn : n ≤ 12) (hm : m ≤ 8) {age skill friend pals wall mood place : Nat → Int32} {spades : Int32} (hq : palsOk friend pals m) (hs : ∀ k, k < m → 1 ≤ skill k ∧ skill k ≤ 9) (hw : rng n wall) (hp : plOk place n m) {N : Nat} (hN : N ≤ 100) : fX9_buildOn spades wall mood place (nI m) age skill pals (nI n) (nI N) = some (spI n m age skill friend spades N (wall, mood, place)) := by
  unfold fX9_buildOn fX9_buildOn_b2
  refine lp_up (fun i => ((spI n m age skill friend spades i (wall, mood, place)).1, (spI n m age skill friend spades i (wall, mood, place)).2.1, (spI n m age skill friend spades i (wall, mood, place)).2.2, nI i)) N (by omega) rfl ?_ ?_
  · intro i hi k
    have cc : ¬ nI N ≤ nI i := nI_ge hi (by omega)
    have ok := sp_ok hn hm (age := age) (friend := friend) (mood := mood) (spades := spades) hs hw hp i
    have e := t_spell hn hm (age := age) (mood := (spI n m age skill friend spades i (wall, mood, place)).2.1) (spades := spades) hq hs ok.1 ok.2
    simp only [fX9_buildOn_l2, if_neg cc, e, ob_s, nI_1]
    rfl
  · intro k
    have hle : nI N ≤ nI N := nI_le (Nat.le_refl N) (by omega)
    simp only [fX9_buildOn_l2, if_pos hle, fX9_buildOn_b17]
theorem sp_congr {n m : Nat} (hn : n ≤ 12) {age skill friend wall mood place wall' mood' place' : Nat → Int32} {spades : Int32} (h1 : ∀ c, c < n → wall' c = wall c) (h2 : ∀ k, k < m → mood' k = mood k) (h3 : ∀ k, k < m → place' k = place k) : ∀ N, (∀ c, c < n → (spI n m age skill friend spades N (wall', mood', place')).1 c = (spI n m age skill friend spades N (wall, mood, place)).1 c) ∧ (∀ k, k < m → (spI n m age skill friend spades N (wall', mood', place')).2.1 k = (spI n m age skill friend spades N (wall, mood, place)).2.1 k) ∧ (∀ k, k < m → (spI n m age skill friend spades N (wall', mood', place')).2.2 k = (spI n m age skill friend spades N (wall, mood, place)).2.2 k)
  | 0 => ⟨h1, h2, h3⟩
  | N + 1 => by
    obtain ⟨i1, i2, i3⟩ := sp_congr hn (age := age) (skill := skill) (friend := friend) (spades := spades) h1 h2 h3 N
    refine ⟨fun c hc => ?_, fun k hk => ?_, fun k hk => ?_⟩
    · show clW n m age skill friend _ _ _ spades m c = clW n m age skill friend _ _ _ spades m c
      simp only [clW]
      rw [if_pos hc, if_pos hc, i1 c hc]
      congr 2
      apply sumN_congr
      intro k hk
      rw [i3 k hk, buck_congr (fun _ _ => rfl) (fun _ _ => rfl) (fun _ _ => rfl) i3 i2 hk]
    · show fillN _ _ m k = fillN _ _ m k
      rw [fill_lt _ _ hk, fill_lt _ _ hk]
      simp only [clM, i3 k hk, i2 k hk]
    · show fillN _ _ m k = fillN _ _ m k
      rw [fill_lt _ _ hk, fill_lt _ _ hk]
      simp only [clP, i3 k hk, i2 k hk]
/-- do those placed so hold? -/
def hoB (n m : Nat) (age skill friend base wall mood : Nat → Int32) (spades h : Int32) (N : Nat) (f : Nat → Int32) : Bool := decide (bitsN (fun c => !decide (h ≤ topS base (spI n m age skill friend spades N (wall, mood, f)).1 c)) n = 0)
theorem ho_congr {n m : Nat} (hn : n ≤ 12) {age skill friend base wall mood : Nat → Int32} {spades h : Int32} {N : Nat} {f g : Nat → Int32} (hfg : ∀ k, k < m → f k = g k) : hoB n m age skill friend base wall mood spades h N f = hoB n m age skill friend base wall mood spades h N g := by
  have hc := (sp_congr hn (age := age) (skill := skill) (friend := friend) (spades := spades) (wall := wall) (wall' := wall) (mood := mood) (mood' := mood) (place := g) (place' := f) (fun _ _ => rfl) (fun _ _ => rfl) hfg N).1
  unfold hoB
  have : bitsN (fun c => !decide (h ≤ topS base (spI n m age skill friend spades N (wall, mood, f)).1 c)) n = bitsN (fun c => !decide (h ≤ topS base (spI n m age skill friend spades N (wall, mood, g)).1 c)) n := bitsN_congr (fun c hcn => by
    have : topS base (spI n m age skill friend spades N (wall, mood, f)).1 c = topS base (spI n m age skill friend spades N (wall, mood, g)).1 c := by simp only [topS, hc c hcn]
    rw [this])
  rw [this]
theorem t_stands {n m : Nat} (hn : n ≤ 12) (hm : m ≤ 8) {age skill friend pals base wall depth mood place : Nat → Int32} {moats spades tides h : Int32} (hq : palsOk friend pals m) (hs : ∀ k, k < m → 1 ≤ skill k ∧ skill k ≤ 9) (hw : rng n wall) {f : Nat → Int32} (hf : plOk f n m) {N : Nat} (hN : N ≤ 100) (q1 q2 q3 : Int32) (q4 q5 q6 q7 : Nat → Int32) : ∃ p1 p2 p3 p4 p5 p6 p7, fX1_stands (nI N) h f moats spades tides wall depth mood place q1 q2 q3 q4 q5 q6 q7 (nI m) age skill pals (nI n) base = some (b2i (hoB n m age skill friend base wall mood spades h N f), p1, p2, p3, p4, p5, p6, p7) := by
  have hw' : rng n (va_cpy wall q4 0 0 12) := fun c hc => by rw [cpy_lt (by omega)]; exact hw c hc
  have hf' : plOk (va_cpy f (va_cpy place q7 0 0 8) 0 0 8) n m := fun k hk => by rw [cpy_lt (by omega)]; exact hf k hk
  have hcg := (sp_congr (m := m) hn (age := age) (skill := skill) (friend := friend) (spades := spades) (wall := wall) (wall' := va_cpy wall q4 0 0 12) (mood := mood) (mood' := va_cpy mood q6 0 0 8) (place := f) (place' := va_cpy f (va_cpy place q7 0 0 8) 0 0 8) (fun c hc => cpy_lt (by omega)) (fun k hk => cpy_lt (by omega)) (fun k hk => cpy_lt (by omega)) N).1
  have ok := sp_ok hn hm (age := age) (friend := friend) (mood := va_cpy mood q6 0 0 8) (spades := spades) hs hw' hf'
  obtain ⟨w0, hw0⟩ : ∃ w0, va_cpy wall q4 0 0 12 = w0 := ⟨_, rfl⟩
  obtain ⟨m0, hm0⟩ : ∃ m0, va_cpy mood q6 0 0 8 = m0 := ⟨_, rfl⟩
  obtain ⟨p0, hp0⟩ : ∃ p0, va_cpy f (va_cpy place q7 0 0 8) 0 0 8 = p0 := ⟨_, rfl⟩
  rw [hw0, hm0, hp0] at hcg
  rw [hw0, hm0, hp0] at ok
  have n0 : (0 : Int32).toNatClampNeg = 0 := rfl
  have n8 : (8 : Int32).toNatClampNeg = 8 := rfl
  have e22 : fX1_stands_b22 (nI N) h f moats spades tides wall depth mood place moats spades tides w0 (va_cpy depth q5 0 0 12) m0 p0 (nI m) age skill pals (nI n) base 0 = some (b2i (hoB n m age skill friend base wall mood spades h N f), moats, spades, tides, (spI n m age skill friend spades N (w0, m0, p0)).1, va_cpy depth q5 0 0 12, (spI n m age skill friend spades N (w0, m0, p0)).2.1, (spI n m age skill friend spades N (w0, m0, p0)).2.2) := by
    unfold fX1_stands_b22
    refine lp_up (fun i => ((spI n m age skill friend spades i (w0, m0, p0)).1, (spI n m age skill friend spades i (w0, m0, p0)).2.1, (spI n m age skill friend spades i (w0, m0, p0)).2.2, nI i)) N (by omega) rfl ?_ ?_
    · intro i hi k
      have cc : ¬ nI N ≤ nI i := nI_ge hi (by omega)
      have e := t_spell hn hm (age := age) (mood := (spI n m age skill friend spades i (w0, m0, p0)).2.1) (spades := spades) hq hs (ok i).1 (ok i).2
      simp only [fX1_stands_l22, if_neg cc, e, ob_s, nI_1]
      rfl
    · intro k
      have hle : nI N ≤ nI N := nI_le (Nat.le_refl N) (by omega)
      have eb : bitsN (fun c => !decide (h ≤ topS base (spI n m age skill friend spades N (w0, m0, p0)).1 c)) n = bitsN (fun c => !decide (h ≤ topS base (spI n m age skill friend spades N (wall, mood, f)).1 c)) n := bitsN_congr (fun c hc => by
        have : topS base (spI n m age skill friend spades N (w0, m0, p0)).1 c = topS base (spI n m age skill friend spades N (wall, mood, f)).1 c := congrArg (fun x => 10 * base c + x) (hcg c hc)
        rw [this])
      simp only [fX1_stands_l22, if_pos hle, fX1_stands_b40, t_below hn, ob_s, eb]
      by_cases z : bitsN (fun c => !decide (h ≤ topS base (spI n m age skill friend spades N (wall, mood, f)).1 c)) n = 0
      · have hb : hoB n m age skill friend base wall mood spades h N f = true := decide_eq_true z
        rw [if_pos z, hb, b2i_t, fX1_stands_b56, if_pos (by decide)]
      · have hb : hoB n m age skill friend base wall mood spades h N f = false := decide_eq_false z
        rw [if_neg z, hb, b2i_f, fX1_stands_b56, if_pos (by decide)]
  refine ⟨moats, spades, tides, (spI n m age skill friend spades N (w0, m0, p0)).1, va_cpy depth q5 0 0 12, (spI n m age skill friend spades N (w0, m0, p0)).2.1, (spI n m age skill friend spades N (w0, m0, p0)).2.2, ?_⟩
  simp only [fX1_stands, t_copy, ob_s, n0, n8, hw0, hm0, hp0, e22]
