/-! ===== single acts on a state ===== -/
theorem ix_of {m : Nat} (hm : m < 2 ^ 31) {x : Int32} (h : 0 ≤ x ∧ x < nI m) : ∃ k, k < m ∧ x = nI k := by
  obtain ⟨k, hk, rfl⟩ := nI_of (x := x) (by have := h.1; grind)
  exact ⟨k, (nI_ltI hk hm).mp h.2, rfl⟩
theorem SS_place {n m T : Nat} {wall depth mood place now : Nat → Int32} {moats spades tides : Int32} (hn : n ≤ 12) (hm : m ≤ 8) (hs : SS n m T wall depth mood place moats spades tides now) {k : Nat} (hk : k < m) {v : Int32} (hv : -1 ≤ v ∧ v < nI n) : SS n m T wall depth mood (upd place k v) moats spades tides (upd now (25 + 2 * k) v) := by
  obtain ⟨⟨o1, o2, o3, o4, o5⟩, s1, s2, s3, s4, s5, s6, s7⟩ := hs
  refine ⟨⟨o1, o2, o3, fun j hj => ?_, o5⟩, fun c hc => ?_, fun c hc => ?_, fun j hj => ?_, fun j hj => ?_, ?_, ?_, ?_⟩
  · by_cases e : j = k
    · subst e; rw [pk_us]; exact hv
    · rw [pk_un e]; exact o4 j hj
  · rw [pk_un (by omega)]; exact s1 c hc
  · rw [pk_un (by omega)]; exact s2 c hc
  · rw [pk_un (by omega)]; exact s3 j hj
  · by_cases e : j = k
    · subst e; rw [pk_us, pk_us]
    · rw [pk_un e, pk_un (by omega)]; exact s4 j hj
  · rw [pk_un (by omega)]; exact s5
  · rw [pk_un (by omega)]; exact s6
  · rw [pk_un (by omega)]; exact s7
theorem SS_mood {n m T : Nat} {wall depth mood place now : Nat → Int32} {moats spades tides : Int32} (hn : n ≤ 12) (hm : m ≤ 8) (hs : SS n m T wall depth mood place moats spades tides now) {k : Nat} (hk : k < m) {v : Int32} (hv : 0 ≤ v ∧ v ≤ 9) : SS n m T wall depth (upd mood k v) place moats spades tides (upd now (26 + 2 * k) v) := by
  obtain ⟨⟨o1, o2, o3, o4, o5⟩, s1, s2, s3, s4, s5, s6, s7⟩ := hs
  refine ⟨⟨o1, o2, fun j hj => ?_, o4, o5⟩, fun c hc => ?_, fun c hc => ?_, fun j hj => ?_, fun j hj => ?_, ?_, ?_, ?_⟩
  · by_cases e : j = k
    · subst e; rw [pk_us]; exact hv
    · rw [pk_un e]; exact o3 j hj
  · rw [pk_un (by omega)]; exact s1 c hc
  · rw [pk_un (by omega)]; exact s2 c hc
  · by_cases e : j = k
    · subst e; rw [pk_us, pk_us]
    · rw [pk_un e, pk_un (by omega)]; exact s3 j hj
  · rw [pk_un (by omega)]; exact s4 j hj
  · rw [pk_un (by omega)]; exact s5
  · rw [pk_un (by omega)]; exact s6
  · rw [pk_un (by omega)]; exact s7
theorem SS_moats {n m T : Nat} {wall depth mood place now : Nat → Int32} {moats spades tides : Int32} (hn : n ≤ 12) (hm : m ≤ 8) (hs : SS n m T wall depth mood place moats spades tides now) {v : Int32} (hv : isW n v) : SS n m T wall depth mood place v spades tides (upd now 12 v) := by
  obtain ⟨⟨o1, o2, o3, o4, -, o5⟩, s1, s2, s3, s4, s5, s6, s7⟩ := hs
  refine ⟨⟨o1, o2, o3, o4, hv, o5⟩, fun c hc => ?_, fun c hc => ?_, fun j hj => ?_, fun j hj => ?_, pk_us, ?_, ?_⟩
  · rw [pk_un (by omega)]; exact s1 c hc
  · rw [pk_un (by omega)]; exact s2 c hc
  · rw [pk_un (by omega)]; exact s3 j hj
  · rw [pk_un (by omega)]; exact s4 j hj
  · rw [pk_un (by omega)]; exact s6
  · rw [pk_un (by omega)]; exact s7
theorem SS_spades {n m T : Nat} {wall depth mood place now : Nat → Int32} {moats spades tides : Int32} (hn : n ≤ 12) (hm : m ≤ 8) (hs : SS n m T wall depth mood place moats spades tides now) {v : Int32} (hv : isW m v) : SS n m T wall depth mood place moats v tides (upd now 41 v) := by
  obtain ⟨⟨o1, o2, o3, o4, o5, -, o6⟩, s1, s2, s3, s4, s5, s6, s7⟩ := hs
  refine ⟨⟨o1, o2, o3, o4, o5, hv, o6⟩, fun c hc => ?_, fun c hc => ?_, fun j hj => ?_, fun j hj => ?_, ?_, pk_us, ?_⟩
  · rw [pk_un (by omega)]; exact s1 c hc
  · rw [pk_un (by omega)]; exact s2 c hc
  · rw [pk_un (by omega)]; exact s3 j hj
  · rw [pk_un (by omega)]; exact s4 j hj
  · rw [pk_un (by omega)]; exact s5
  · rw [pk_un (by omega)]; exact s7
theorem ix_m (k : Nat) : (25 : Int32) + 2 * nI k + 1 = nI (26 + 2 * k) := by
  rw [ix_k, nI_1]; congr 1; omega
theorem ix_p (k : Nat) : (25 : Int32) + 2 * nI k + 0 = nI (25 + 2 * k) := by rw [ix_k, i32_a0]
theorem j_send {n m T : Nat} {wall depth mood place now : Nat → Int32} {moats spades tides : Int32} (hn : n ≤ 12) (hm : m ≤ 8) (hs : SS n m T wall depth mood place moats spades tides now) (x y : Int32) : ∃ a place' now', fX9_send mood place (nI m) (nI n) x y = some (a, place') ∧ fX12_goes (nI n) (nI m) now x y = some (a, now') ∧ SS n m T wall depth mood place' moats spades tides now' := by
  by_cases hx : 0 ≤ x ∧ x < nI m
  · by_cases hy : 0 ≤ y ∧ y < nI n
    · obtain ⟨k, hk, rfl⟩ := ix_of (by omega) hx
      have h8 : k < 8 := by omega
      have ea : fX12_atOf now (nI k) = some (place k) := by rw [t_atOf h8, hs.2.2.2.2.1 k hk]
      have em : fX12_moodOf now (nI k) = some (mood k) := by rw [t_moodOf h8, hs.2.2.2.1 k hk]
      by_cases h0 : mood k = 0
      · refine ⟨-2, place, now, ?_, ?_, hs⟩
        · simp (disch := omega) [fX9_send, t_has2, t_has5, hx, hy, b2i, h8, nI_leI, nI_ltI, nI_clamp, nI_pos', nI_1, nI_eq, h0]
        · simp (disch := omega) [fX12_goes, t_isChild (show m ≤ 12 by omega), t_isCell hn, hx, hy, b2i, ea, em, h0]
      · by_cases h1 : place k = y
        · refine ⟨-3, place, now, ?_, ?_, hs⟩
          · simp (disch := omega) [fX9_send, t_has2, t_has5, hx, hy, b2i, h8, nI_leI, nI_ltI, nI_clamp, nI_pos', nI_1, nI_eq, h0, h1]
          · simp (disch := omega) [fX12_goes, t_isChild (show m ≤ 12 by omega), t_isCell hn, hx, hy, b2i, ea, em, h0, h1]
        · refine ⟨place k + 1, upd place k y, upd now (25 + 2 * k) y, ?_, ?_, SS_place hn hm hs hk ⟨by have := hy.1; grind, hy.2⟩⟩
          · simp (disch := omega) [fX9_send, t_has2, t_has5, hx, hy, b2i, h8, nI_leI, nI_ltI, nI_clamp, nI_pos', nI_1, nI_eq, h0, h1]
          · have h4 : 25 + 2 * k < 43 := by omega
            simp (disch := omega) [fX12_goes, t_isChild (show m ≤ 12 by omega), t_isCell hn, hx, hy, b2i, ea, em, h0, h1, ix_k, nI_leI, nI_ltI, nI_clamp, nI_pos', nI_1, nI_eq, h4]
    · refine ⟨-1, place, now, ?_, ?_, hs⟩
      · simp [fX9_send, fX9_send_b22, t_has2, t_has5, hx, hy, b2i]
      · simp [fX12_goes, fX12_goes_b16, t_isChild (show m ≤ 12 by omega), t_isCell hn, hx, hy, b2i]
  · refine ⟨-1, place, now, ?_, ?_, hs⟩
    · simp [fX9_send, fX9_send_b22, t_has2, t_has5, hx, b2i]
    · simp [fX12_goes, fX12_goes_b16, t_isChild (show m ≤ 12 by omega), hx, b2i]
theorem j_home {n m T : Nat} {wall depth mood place now : Nat → Int32} {moats spades tides : Int32} (hn : n ≤ 12) (hm : m ≤ 8) (hs : SS n m T wall depth mood place moats spades tides now) (x : Int32) : ∃ a place' now', fX9_sendHome place (nI m) x = some (a, place') ∧ fX12_goesHome (nI m) now x = some (a, now') ∧ SS n m T wall depth mood place' moats spades tides now' := by
  by_cases hx : 0 ≤ x ∧ x < nI m
  · obtain ⟨k, hk, rfl⟩ := ix_of (by omega) hx
    have h8 : k < 8 := by omega
    have h4 : 25 + 2 * k < 43 := by omega
    have ea : fX12_atOf now (nI k) = some (place k) := by rw [t_atOf h8, hs.2.2.2.2.1 k hk]
    have hm1 : (-1 : Int32) < nI n := by
      have := nI_pos' (n := n) (by omega)
      grind
    have hS := SS_place hn hm hs hk (v := -1) ⟨Int32.le_refl _, hm1⟩
    by_cases h1 : place k = -1
    · rw [upd_id place h1] at hS
      refine ⟨-2, place, _, ?_, ?_, hS⟩
      · simp (disch := omega) [fX9_sendHome, t_has2, hx, b2i, h8, nI_leI, nI_ltI, nI_clamp, nI_pos', nI_1, nI_eq, h1]
      · have z : ¬ (0 : Int32) ≤ -1 := by decide
        simp (disch := omega) [fX12_goesHome, fX12_goesHome_b43, t_isChild (show m ≤ 12 by omega), hx, b2i, ea, h1, z, ix_k, nI_leI, nI_ltI, nI_clamp, nI_pos', nI_1, nI_eq, h4]
    · have z := (i_ge0 (hs.1.2.2.2.1 k hk).1 h1).1
      refine ⟨place k, _, _, ?_, ?_, hS⟩
      · simp (disch := omega) [fX9_sendHome, t_has2, hx, b2i, h8, nI_leI, nI_ltI, nI_clamp, nI_pos', nI_1, nI_eq, h1]
      · simp (disch := omega) [fX12_goesHome, fX12_goesHome_b43, t_isChild (show m ≤ 12 by omega), hx, b2i, ea, z, ix_k, nI_leI, nI_ltI, nI_clamp, nI_pos', nI_1, nI_eq, h4]
  · refine ⟨-1, place, now, ?_, ?_, hs⟩
    · simp [fX9_sendHome, t_has2, hx, b2i]
    · simp [fX12_goesHome, t_isChild (show m ≤ 12 by omega), hx, b2i]
theorem j_spade {n m T : Nat} {wall depth mood place now fixed : Nat → Int32} {moats spades tides : Int32} (hn : n ≤ 12) (hm : m ≤ 8) (hs : SS n m T wall depth mood place moats spades tides now) (x : Int32) : ∃ a spades' now', fX9_passSpade spades (nI m) x (fixed 1) = some (a, spades') ∧ fX12_spadeFor (nI m) fixed now x = some (a, now') ∧ SS n m T wall depth mood place moats spades' tides now' := by
  by_cases hx : 0 ≤ x ∧ x < nI m
  · obtain ⟨k, hk, rfl⟩ := ix_of (by omega) hx
    have i41 : inb (41 : Int32) 43 := inb_n (i := 41) (by omega) (by omega)
    have n41 : (41 : Int32).toNatClampNeg = 41 := rfl
    have i1 : inb (1 : Int32) 2 := inb_n (i := 1) (by omega) (by omega)
    have n1 : (1 : Int32).toNatClampNeg = 1 := rfl
    have e41 : now 41 = spades := hs.2.2.2.2.2.2.1
    have hS := SS_spades hn hm hs (isW_xor1 (by omega) hk hs.1.2.2.2.2.2.1)
    have b46 : fX12_spadeFor_b46 (nI m) fixed now (nI k) = some (bcS (spades ^^^ jshl 1 (nI k)), upd now 41 (spades ^^^ jshl 1 (nI k))) := by
      simp only [fX12_spadeFor_b46, if_pos i41, n41, e41, pk_us, t_bc, ob_s]
    have b48 : fX9_passSpade_b48 spades (nI m) (nI k) = some (bcS (spades ^^^ jshl 1 (nI k)), spades ^^^ jshl 1 (nI k)) := by
      simp only [fX9_passSpade_b48, t_bc, ob_s]
    cases hb : bitB spades k
    · by_cases hl : bcS spades < fixed 1
      · refine ⟨bcS (spades ^^^ jshl 1 (nI k)), _, _, ?_, ?_, hS⟩
        · simp [fX9_passSpade, fX9_passSpade_b29, t_has2, hx, b2i, bitB_0, hb, t_bc, hl, b48]
        · simp [fX12_spadeFor, t_isChild (show m ≤ 12 by omega), hx, b2i, i41, n41, e41, t_hasM, hb, t_bc, i1, n1, hl, b46]
      · refine ⟨-2, spades, now, ?_, ?_, hs⟩
        · simp [fX9_passSpade, fX9_passSpade_b29, t_has2, hx, b2i, bitB_0, hb, t_bc, hl]
        · simp [fX12_spadeFor, t_isChild (show m ≤ 12 by omega), hx, b2i, i41, n41, e41, t_hasM, hb, t_bc, i1, n1, hl]
    · refine ⟨bcS (spades ^^^ jshl 1 (nI k)), _, _, ?_, ?_, hS⟩
      · simp [fX9_passSpade, fX9_passSpade_b29, t_has2, hx, b2i, bitB_0, hb, b48]
      · simp [fX12_spadeFor, t_isChild (show m ≤ 12 by omega), hx, b2i, i41, n41, e41, t_hasM, hb, b46]
  · refine ⟨-1, spades, now, ?_, ?_, hs⟩
    · simp [fX9_passSpade, t_has2, hx, b2i]
    · simp [fX12_spadeFor, t_isChild (show m ≤ 12 by omega), hx, b2i]
theorem tr_r {x : Int32} (h : 0 ≤ x ∧ x ≤ 9) : 0 ≤ jmin 9 (x + 3) ∧ jmin 9 (x + 3) ≤ 9 := by
  obtain ⟨h1, h2⟩ := h
  unfold jmin; grind
theorem j_treat {n m T : Nat} {wall depth mood place now : Nat → Int32} {moats spades tides : Int32} (hn : n ≤ 12) (hm : m ≤ 8) (hs : SS n m T wall depth mood place moats spades tides now) (x : Int32) : ∃ a mood' now', fX9_cheer mood (nI m) x = some (a, mood') ∧ fX12_treatsOne (nI m) now x = some (a, now') ∧ SS n m T wall depth mood' place moats spades tides now' := by
  by_cases hx : 0 ≤ x ∧ x < nI m
  · obtain ⟨k, hk, rfl⟩ := ix_of (by omega) hx
    have h8 : k < 8 := by omega
    have h4 : 26 + 2 * k < 43 := by omega
    have em : fX12_moodOf now (nI k) = some (mood k) := by rw [t_moodOf h8, hs.2.2.2.1 k hk]
    have em2 : ∀ v, fX12_moodOf (upd now (26 + 2 * k) v) (nI k) = some v := fun v => by rw [t_moodOf h8, pk_us]
    have hS := SS_mood hn hm hs hk (tr_r (hs.1.2.2.1 k hk))
    refine ⟨jmin 9 (mood k + 3), _, _, ?_, ?_, hS⟩
    · simp (disch := omega) [fX9_cheer, t_has2, hx, b2i, h8, nI_leI, nI_ltI, nI_clamp, nI_pos', nI_1, nI_eq, pk_us]
    · simp (disch := omega) [fX12_treatsOne, t_isChild (show m ≤ 12 by omega), hx, b2i, em, ix_m, nI_leI, nI_ltI, nI_clamp, nI_pos', nI_1, nI_eq, h4, em2]
  · refine ⟨-1, mood, now, ?_, ?_, hs⟩
    · simp [fX9_cheer, t_has2, hx, b2i]
    · simp [fX12_treatsOne, t_isChild (show m ≤ 12 by omega), hx, b2i]
theorem j_dig {n m T : Nat} {wall depth mood place now : Nat → Int32} {moats spades tides : Int32} (hn : n ≤ 12) (hm : m ≤ 8) (hs : SS n m T wall depth mood place moats spades tides now) (x : Int32) : ∃ a moats' now', fX9_dig moats (nI n) x = some (a, moats') ∧ fX12_digs (nI n) now x = some (a, now') ∧ SS n m T wall depth mood place moats' spades tides now' := by
  by_cases hx : 0 ≤ x ∧ x < nI n
  · obtain ⟨k, hk, rfl⟩ := ix_of (by omega) hx
    have i12 : inb (12 : Int32) 43 := inb_n (i := 12) (by omega) (by omega)
    have n12 : (12 : Int32).toNatClampNeg = 12 := rfl
    have e12 : now 12 = moats := hs.2.2.2.2.2.1
    have hS := SS_moats hn hm hs (isW_xor1 (by omega) hk hs.1.2.2.2.2.1)
    refine ⟨bcS (moats ^^^ jshl 1 (nI k)), _, _, ?_, ?_, hS⟩
    · simp [fX9_dig, t_has5, hx, b2i, t_bc]
    · simp [fX12_digs, t_isCell hn, hx, b2i, i12, n12, e12, pk_us, t_bc]
  · refine ⟨-1, moats, now, ?_, ?_, hs⟩
    · simp [fX9_dig, t_has5, hx, b2i]
    · simp [fX12_digs, t_isCell hn, hx, b2i]
/-! ===== building on ===== -/
theorem b_upT (p : Nat → Bool) (a : Int32) : ∀ m, m ≤ 32 → ∀ i, i < 32 → bt (upT (fun k a => if p k then a ||| jshl 1 (nI k) else a) m a) i = (bt a i || (decide (i < m) && p i)) := by
  intro m
  induction m with
  | zero => intro _ i _; simp [upT]
  | succ m ih =>
    intro hm i hi
    show bt (if p m then _ ||| jshl 1 (nI m) else _) i = _
    by_cases e : i = m
    · subst e
      cases h : p i
      · rw [if_neg (by simp), ih (by omega) i hi]; simp [h]
      · rw [if_pos rfl, b_or, ih (by omega) i hi, b_sh1 i (by omega) hi]; simp
    · have z : (i < m + 1) ↔ (i < m) := by omega
      cases h : p m
      · rw [if_neg (by simp), ih (by omega) i hi]; simp [z]
      · rw [if_pos rfl, b_or, ih (by omega) i hi, b_sh1 m (by omega) hi]; simp [e, z]
theorem upT_bits (p q : Nat → Bool) {m : Nat} (hm : m ≤ 32) : upT (fun k a => if p k then a ||| jshl 1 (nI k) else a) m (bitsN q m) = bitsN (fun k => q k || p k) m := by
  apply b_ext
  intro i hi
  rw [b_upT p _ m hm i hi, b_bits q m hm i hi, b_bits _ m hm i hi]
  by_cases h : i < m <;> simp [h]
def wentS (m : Nat) (p0 p : Nat → Int32) : Int32 := bitsN (fun k => !decide (p0 k = -1) && decide (p k = -1)) m
theorem went_s {m : Nat} (hm : m ≤ 8) {p0 mood p p' : Nat → Int32} (h0 : ∀ k, k < m → p0 k = -1 → p k = -1) (h : ∀ k, k < m → p' k = clP mood p k) : upT (fun k a => if homB mood p k then a ||| jshl 1 (nI k) else a) m (wentS m p0 p) = wentS m p0 p' := by
  unfold wentS
  rw [upT_bits _ _ (by omega)]
  apply bitsN_congr
  intro k hk
  rw [h k hk]
  by_cases e1 : p k = -1
  · simp [clP, homB, e1]
  · have e0 : ¬ p0 k = -1 := fun z => e1 (h0 k hk z)
    by_cases e2 : jmax 0 (mood k - 1) = 0
    · simp [clP, homB, e1, e2, e0]
    · simp [clP, homB, e1, e2]
theorem j_builds {n m T : Nat} {age skill friend pals age' skill' friend' wall depth mood place now : Nat → Int32} {moats spades tides : Int32} (hn : n ≤ 12) (hm : m ≤ 8) (hc : crR m age skill friend pals age' skill' friend') (hs : SS n m T wall depth mood place moats spades tides now) {N : Nat} (hN : N ≤ 100) (gets : Nat → Int32) (wh : Int32) : ∃ wall' mood' place' wh' gets' now', fX9_buildOn spades wall mood place (nI m) age skill pals (nI n) (nI N) = some (wall', mood', place') ∧ fX12_builds (nI n) (nI m) wh age' skill' friend' gets now (nI N) = some (wh', gets', now') ∧ SS n m T wall' depth mood' place' moats spades tides now' ∧ (wh = 0 → wh' = wentS m place place') ∧ (∀ c, c < n → wall c ≤ wall' c) := by
  unfold fX9_buildOn fX9_buildOn_b2 fX12_builds fX12_builds_b2
  refine lq2 (fun r u => ∃ wall' mood' place' wh' gets' now', r = some (wall', mood', place') ∧ u = some (wh', gets', now') ∧ SS n m T wall' depth mood' place' moats spades tides now' ∧ (wh = 0 → wh' = wentS m place place') ∧ (∀ c, c < n → wall c ≤ wall' c)) (fun i s t => s.2.2.2 = nI i ∧ t.2.2.2 = nI i ∧ SS n m T s.1 depth s.2.1 s.2.2.1 moats spades tides t.2.2.1 ∧ (wh = 0 → t.1 = wentS m place s.2.2.1) ∧ (∀ k, k < m → place k = -1 → s.2.2.1 k = -1) ∧ (∀ c, c < n → wall c ≤ s.1 c)) N (by omega) ⟨rfl, rfl, hs, ?_, fun _ _ h => h, fun _ _ => Int32.le_refl _⟩ ?_
  · intro h
    subst h
    symm
    rw [wentS, bits_0 (by omega)]
    intro k hk
    by_cases e : place k = -1 <;> simp [e]
  · intro i s t k1 k2 hi hI
    obtain ⟨wa, mo, pl, x⟩ := s
    obtain ⟨w, g, r, y⟩ := t
    obtain ⟨e1, e2, hS, hw, hp, hle⟩ := hI
    simp only at e1 e2 hS hw hp hle
    subst e1 e2
    by_cases e : i = N
    · subst e
      right
      refine ⟨wa, mo, pl, w, g, r, ?_, ?_, hS, hw, hle⟩
      · simp (disch := omega) [fX9_buildOn_b17, fX9_buildOn_l2, nI_leI, nI_ltI, nI_clamp, nI_pos', nI_1, nI_eq]
      · simp (disch := omega) [fX12_builds_b18, fX12_builds_l2, nI_leI, nI_ltI, nI_clamp, nI_pos', nI_1, nI_eq]
    · have hi2 : i < N := by omega
      left
      obtain ⟨wa', mo', pl', g', r', e5, e6, hS', hc', hl'⟩ := j_spell hn hm hc hS g w
      refine ⟨hi2, (wa', mo', pl', nI (i + 1)), (upT (fun k a => if homB mo pl k then a ||| jshl 1 (nI k) else a) m w, g', r', nI (i + 1)), ⟨rfl, rfl, hS', ?_, ?_, ?_⟩, ?_, ?_⟩
      · intro z
        show upT (fun k a => if homB mo pl k then a ||| jshl 1 (nI k) else a) m w = wentS m place pl'
        rw [hw z]
        exact went_s hm hp (fun k hk => (hc' k hk).2)
      · intro k hk z
        show pl' k = -1
        rw [(hc' k hk).2, clP, if_pos (hp k hk z)]; exact hp k hk z
      · intro c hc; exact Int32.le_trans (hle c hc) (hl' c hc)
      · simp (disch := omega) [fX9_buildOn_b17, fX9_buildOn_l2, nI_leI, nI_ltI, nI_clamp, nI_pos', nI_1, nI_eq, Nat.not_le.mpr hi2, e5]
      · simp (disch := omega) [fX12_builds_b18, fX12_builds_l2, nI_leI, nI_ltI, nI_clamp, nI_pos', nI_1, nI_eq, Nat.not_le.mpr hi2, e6]
theorem sumN_W {f : Nat → Int32} : ∀ {n : Nat}, (∀ c, c < n → 0 ≤ f c ∧ f c ≤ 999) → sumN f n = nI (sumW (fun c => (f c).toNatClampNeg) n)
  | 0, _ => rfl
  | n + 1, h => by
    obtain ⟨a, ha, e⟩ := nI_of (x := f n) (by have := (h n (by omega)).1; grind)
    rw [sumN_s, sumN_W (fun c hc => h c (by omega))]
    simp only [sumW]
    rw [e, nI_add, nI_clamp ha]
theorem sum_ge {f g : Nat → Int32} {n : Nat} (hn : n ≤ 12) (hf : rng n f) (hg : rng n g) (h : ∀ c, c < n → f c ≤ g c) : 0 ≤ sumN g n - sumN f n := by
  rw [sumN_W hf, sumN_W hg]
  have h1 : sumW (fun c => (f c).toNatClampNeg) n ≤ sumW (fun c => (g c).toNatClampNeg) n := sumW_le (fun c hc => cl_le (hf c hc).1 (h c hc))
  have h2 : sumW (fun c => (g c).toNatClampNeg) n ≤ n * 999 := sumW_b (fun c hc => cl_le (hg c hc).1 (hg c hc).2)
  rw [pk_sub h1]
  exact nI_pos' (by omega)
