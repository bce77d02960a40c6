/-! ===== crew ===== -/
theorem t_settle {n m : Nat} (hn : n ≤ 12) (hm : m ≤ 8) {age skill friend pals base wall depth mood place0 : Nat → Int32} {moats spades tides h : Int32} (hq : palsOk friend pals m) (hs : ∀ k, k < m → 1 ≤ skill k ∧ skill k ≤ 9) (hw : rng n wall) {N A : Nat} (hN : N ≤ 9) {Hd : (Nat → Int32) → Bool} (hHd : Hd = hoB n m age skill friend base wall mood spades h N) {ab : Nat → Bool} (hA : ∀ j, A.testBit j = (decide (j < m) && ab j)) (hA8 : A < 256) {most : Nat → Int32} {mo : Nat → Nat} (hmo : ∀ j, j < m → most j = nI (mo j) ∧ mo j ≤ 900) {Z0 : Nat → Int} (hZ : ∀ c, c < n → -2000 ≤ Z0 c ∧ Z0 c ≤ 1000) (need : ∀ g, Hd g = true → (∀ j, j < m → g j = -1 ∨ ∃ c, c < n ∧ g j = nI c ∧ ab j = true) → ∀ c, c < n → Z0 c ≤ (sumW (fun j => if g j = nI c then mo j else 0) m : Nat)) : ∀ (d k s : Nat) (place lack : Nat → Int32) (q1 q2 q3 : Int32) (q4 q5 q6 q7 : Nat → Int32), k ≤ m → m - k < d → s ≤ 9 → (∀ j, j < k → place j = -1 ∨ ∃ c, c < n ∧ place j = nI c ∧ ab j = true) → (∀ c, c < n → (lack c).toInt = Z0 c - (sumW (fun j => if place j = nI c then mo j else 0) k : Nat)) → ∃ place' p1 p2 p3 p4 p5 p6 p7, fX1_settle d (nI A) (nI N) h place lack most moats spades tides wall depth mood place0 q1 q2 q3 q4 q5 q6 q7 (nI m) age skill pals (nI n) base (nI k) (nI s) = some (b2i (fnd n ab Hd (m - k) k place s), place', lack, p1, p2, p3, p4, p5, p6, p7) ∧ (∀ j, j < k → place' j = place j) ∧ (fnd n ab Hd (m - k) k place s = true → ∀ j, j < m → place' j = roF n ab Hd (m - k) k place s j)
  | 0, k, s, place, lack, q1, q2, q3, q4, q5, q6, q7, hk, hd, _, _, _ => by omega
  | d + 1, k, s, place, lack, q1, q2, q3, q4, q5, q6, q7, hk, hd, hs9, hpl, hla => by
    have hH : ∀ f g : Nat → Int32, (∀ k, k < m → f k = g k) → Hd f = Hd g := fun f g h => by rw [hHd]; exact ho_congr hn h
    have hsumb : ∀ (pp : Nat → Int32) c kk, kk ≤ m → sumW (fun j => if pp j = nI c then mo j else 0) kk ≤ 7200 := fun pp c kk hkk => by
      have := sumW_b (f := fun j => if pp j = nI c then mo j else 0) (b := 900) (n := kk) (fun j hj => by have := (hmo j (by omega)).2; split <;> omega)
      omega
    have hhp := t_hopeless hn hm hk hs9 hA8 (lack := lack) (most := most) (Z := fun c => Z0 c - (sumW (fun j => if place j = nI c then mo j else 0) k : Nat)) (mo := mo) hla (fun c hc => by have := (hZ c hc).2; omega) hmo
    have hsd := fun hex => cr_sound hn hm hk (A := A) (ab := ab) (Hd := Hd) (f := place) (Z0 := Z0) (mo := mo) (s := s) hA hpl need hex
    show ∃ place' p1 p2 p3 p4 p5 p6 p7, fX1_settle_s (fX1_settle d) (nI A) (nI N) h place lack most moats spades tides wall depth mood place0 q1 q2 q3 q4 q5 q6 q7 (nI m) age skill pals (nI n) base (nI k) (nI s) = _ ∧ _
    have z10 : ¬ (1 : Int32) = 0 := by decide
    cases hp : hpB A k s n m (fun c => Z0 c - (sumW (fun j => if place j = nI c then mo j else 0) k : Nat)) mo
    · rw [hp, b2i_f] at hhp
      by_cases ekm : k = m
      · subst ekm
        have z0 : k - k = 0 := by omega
        have hsz : s = 0 := by
          unfold hpB at hp
          rw [Bool.or_eq_false_iff] at hp
          have h1 := of_decide_eq_false hp.1
          have : crd (A / 2 ^ k) 8 = 0 := by
            apply crd_0
            rintro ⟨i, -, hb⟩
            rw [Nat.testBit_div_two_pow, hA] at hb
            have : ¬ i + k < k := by omega
            simp [this] at hb
          omega
        have zl : ¬ nI k < nI k := nI_nlt (Nat.le_refl _) (by omega)
        have hpo : plOk place n k := fun j hj => by
          rcases hpl j hj with h2 | ⟨c, h3, h4, -⟩
          · rw [h2]
            have := nI_pos' (n := n) (by omega)
            exact ⟨Int32.le_refl _, by grind⟩
          · rw [h4]
            have := nI_pos' (n := c) (by omega)
            exact ⟨by grind, nI_lt h3 (by omega)⟩
        obtain ⟨p1, p2, p3, p4, p5, p6, p7, e⟩ := t_stands hn hm (base := base) (depth := depth) (mood := mood) (place := place0) (moats := moats) (spades := spades) (tides := tides) (h := h) hq hs hw hpo (N := N) (by omega) q1 q2 q3 q4 q5 q6 q7
        rw [← hHd] at e
        have ef : fnd n ab Hd 0 k place s = Hd place := by simp [fnd, hsz]
        refine ⟨place, p1, p2, p3, p4, p5, p6, p7, ?_, fun _ _ => rfl, fun _ j _ => by rw [z0]; rfl⟩
        rw [z0, ef]
        simp only [fX1_settle_s, hhp, ob_s, if_true, if_neg zl, e, b01]
      · have hk2 : k < m := by omega
        have hk8 : k < 8 := by omega
        have zl : nI k < nI m := nI_lt hk2 (by omega)
        have cl : (nI k).toNatClampNeg = k := nI_clamp (by omega)
        obtain ⟨r, hr⟩ : ∃ r, m - k = r + 1 := ⟨m - k - 1, by omega⟩
        have hr2 : m - (k + 1) = r := by omega
        have hpk : ∀ (pp : Nat → Int32) (v : Int32), (∀ j, j < k → pp j = place j) → (v = -1 ∨ ∃ c, c < n ∧ v = nI c ∧ ab k = true) → ∀ j, j < k + 1 → upd pp k v j = -1 ∨ ∃ c, c < n ∧ upd pp k v j = nI c ∧ ab j = true := fun pp v hpp hv j hj => by
          by_cases e : j = k
          · subst e; rw [pk_us]; exact hv
          · rw [pk_un e, hpp j (by omega)]; exact hpl j (by omega)
        have hsk : ∀ (pp : Nat → Int32) (v : Int32) c, (∀ j, j < k → pp j = place j) → sumW (fun j => if upd pp k v j = nI c then mo j else 0) (k + 1) = sumW (fun j => if place j = nI c then mo j else 0) k + (if v = nI c then mo k else 0) := fun pp v c hpp => by
          simp only [sumW]
          rw [pk_us]
          congr 1
          apply sumW_congr
          intro j hj
          rw [pk_un (by omega), hpp j hj]
        obtain ⟨pl1, a1, a2, a3, a4, a5, a6, a7, r1, r2, r3⟩ := t_settle hn hm hq hs hw hN hHd hA hA8 hmo hZ need (depth := depth) (place0 := place0) (moats := moats) (tides := tides) d (k + 1) s (upd place k (-1)) lack q1 q2 q3 q4 q5 q6 q7 (by omega) (by omega) hs9 (hpk place (-1) (fun _ _ => rfl) (Or.inl rfl)) (fun c hc => by
          rw [hla c hc, hsk place (-1) c (fun _ _ => rfl), if_neg (fun z => m1_ne (c := c) (by omega) z.symm), Nat.add_zero])
        rw [hr2] at r1 r3
        have hpl1 : ∀ j, j < k → pl1 j = place j := fun j hj => by rw [r2 j (by omega), pk_un (by omega)]
        rw [hr]
        cases hf0 : fnd n ab Hd r (k + 1) (upd place k (-1)) s
        · rw [hf0, b2i_f] at r1
          have hno : ∀ b, (decide (0 < s) && ab k && b) = false → fnd n ab Hd (r + 1) k place s = (decide (0 < s) && ab k && anyN (fun c => fnd n ab Hd r (k + 1) (upd place k (nI c)) (s - 1)) n) := fun b _ => by
            simp only [fnd, hf0, Bool.false_or]
          have hfe : fnd n ab Hd (r + 1) k place s = (decide (0 < s) && ab k && anyN (fun c => fnd n ab Hd r (k + 1) (upd place k (nI c)) (s - 1)) n) := by simp only [fnd, hf0, Bool.false_or]
          rcases Nat.eq_zero_or_pos s with hs0 | hs0
          · have zs : nI s = 0 := by rw [hs0]; rfl
            have hff : fnd n ab Hd (r + 1) k place s = false := by rw [hfe]; simp [hs0]
            refine ⟨pl1, a1, a2, a3, a4, a5, a6, a7, ?_, hpl1, fun z => by rw [hff] at z; cases z⟩
            rw [hff, b2i_f]
            simp only [fX1_settle_s, hhp, ob_s, if_true, if_pos zl, if_pos (inb_n hk8 (by omega)), cl, nI_1, r1, if_pos zs, fX1_settle_b69]
          · have zs : ¬ nI s = 0 := nI_ne0 hs0 (by omega)
            have ebit : bitB (nI A) k = ab k := by
              rw [bitB_t _ (by omega), b_nI _ (by omega), hA]; simp [hk2]
            cases hak : ab k
            · have zb : jshr (nI A) (nI k) &&& 1 = 0 := (bitB_0 _ _).mpr (by rw [ebit, hak])
              have hff : fnd n ab Hd (r + 1) k place s = false := by rw [hfe, hak]; simp
              refine ⟨pl1, a1, a2, a3, a4, a5, a6, a7, ?_, hpl1, fun z => by rw [hff] at z; cases z⟩
              rw [hff, b2i_f]
              simp only [fX1_settle_s, hhp, ob_s, if_true, if_pos zl, if_pos (inb_n hk8 (by omega)), cl, nI_1, r1, if_neg zs, if_pos zb, fX1_settle_b69]
            · have zb : ¬ jshr (nI A) (nI k) &&& 1 = 0 := by rw [bitB_0, ebit, hak]; simp
              have es1 : nI s - 1 = nI (s - 1) := pk_sub (b := 1) hs0
              have hfe2 : fnd n ab Hd (r + 1) k place s = anyN (fun c => fnd n ab Hd r (k + 1) (upd place k (nI c)) (s - 1)) n := by rw [hfe, hak]; simp [hs0]
              have key : ∃ place' p1 p2 p3 p4 p5 p6 p7, fX1_settle_b74 (fX1_settle d) (nI A) (nI N) h pl1 lack most moats spades tides wall depth mood place0 a1 a2 a3 a4 a5 a6 a7 (nI m) age skill pals (nI n) base (nI k) (nI s) 0 = some (b2i (anyN (fun c => fnd n ab Hd r (k + 1) (upd place k (nI c)) (s - 1)) n), place', lack, p1, p2, p3, p4, p5, p6, p7) ∧ (∀ j, j < k → place' j = place j) ∧ (anyN (fun c => fnd n ab Hd r (k + 1) (upd place k (nI c)) (s - 1)) n = true → ∀ j, j < m → place' j = roF n ab Hd r (k + 1) (upd place k (nI (fstN (fun c => fnd n ab Hd r (k + 1) (upd place k (nI c)) (s - 1)) n))) (s - 1) j) := by
                unfold fX1_settle_b74
                refine lp_inv (s := (pl1, lack, a1, a2, a3, a4, a5, a6, a7, (0 : Int32))) (fun x => ∃ (place' : Nat → Int32) (p1 p2 p3 : Int32) (p4 p5 p6 p7 : Nat → Int32), x = some (b2i (anyN (fun c => fnd n ab Hd r (k + 1) (upd place k (nI c)) (s - 1)) n), place', lack, p1, p2, p3, p4, p5, p6, p7) ∧ (∀ j, j < k → place' j = place j) ∧ (anyN (fun c => fnd n ab Hd r (k + 1) (upd place k (nI c)) (s - 1)) n = true → ∀ j, j < m → place' j = roF n ab Hd r (k + 1) (upd place k (nI (fstN (fun c => fnd n ab Hd r (k + 1) (upd place k (nI c)) (s - 1)) n))) (s - 1) j)) (fun c (t : (Nat → Int32) × (Nat → Int32) × Int32 × Int32 × Int32 × (Nat → Int32) × (Nat → Int32) × (Nat → Int32) × (Nat → Int32) × Int32) => t.2.2.2.2.2.2.2.2.2 = nI c ∧ t.2.1 = lack ∧ (∀ j, j < k → t.1 j = place j) ∧ ∀ c', c' < c → fnd n ab Hd r (k + 1) (upd place k (nI c')) (s - 1) = false) n (by omega) ⟨rfl, rfl, hpl1, fun c' hc' => absurd hc' (by omega)⟩ ?_
                intro c t q74 hc hI
                obtain ⟨pl, la, b1, b2, b3, b4, b5, b6, b7, x⟩ := t
                obtain ⟨f1, f2, f3, f4⟩ := hI
                simp only at f1 f2 f3
                subst f1 f2
                by_cases e : c = n
                · right
                  have hle : nI n ≤ nI c := nI_le (by omega) (by omega)
                  have hany : anyN (fun c => fnd n ab Hd r (k + 1) (upd place k (nI c)) (s - 1)) n = false := (anyN_f _ n).mpr (fun c' hc' => f4 c' (by omega))
                  refine ⟨upd pl k (-1), b1, b2, b3, b4, b5, b6, b7, ?_, fun j hj => by rw [pk_un (by omega)]; exact f3 j hj, fun z => by rw [hany] at z; cases z⟩
                  rw [hany, b2i_f]
                  simp only [fX1_settle_l74, if_pos hle, fX1_settle_b154, if_pos (inb_n hk8 (by omega)), cl]
                · have hcn : c < n := by omega
                  have cc : ¬ nI n ≤ nI c := nI_ge hcn (by omega)
                  have clc : (nI c).toNatClampNeg = c := nI_clamp (by omega)
                  have hmk := hmo k hk2
                  have hlc : (la c - nI (mo k)).toInt = (la c).toInt - mo k := by
                    have h1 := hla c hcn
                    have h2 := hZ c hcn
                    have h3 := hsumb place c k hk
                    have e1 : (nI (mo k)).toInt = (mo k : Int) := ti_nI (by omega)
                    rw [ti_sub (by rw [e1]; omega) (by rw [e1]; omega), e1]
                  obtain ⟨pl2, c1, c2, c3, c4, c5, c6, c7, g1, g2, g3⟩ := t_settle hn hm hq hs hw hN hHd hA hA8 hmo hZ need (depth := depth) (place0 := place0) (moats := moats) (tides := tides) d (k + 1) (s - 1) (upd pl k (nI c)) (upd la c (la c - nI (mo k))) b1 b2 b3 b4 b5 b6 b7 (by omega) (by omega) (by omega) (hpk pl (nI c) f3 (Or.inr ⟨c, hcn, rfl, hak⟩)) (fun c' hc' => by
                    rw [hsk pl (nI c) c' f3]
                    by_cases ec : c' = c
                    · subst ec
                      rw [pk_us, if_pos rfl, hlc, hla c' hc']
                      omega
                    · have hne : ¬ nI c = nI c' := by rw [nI_eq (by omega) (by omega)]; omega
                      rw [pk_un ec, if_neg hne, hla c' hc', Nat.add_zero])
                  rw [hr2] at g1 g3
                  have hcg := fnd_congr (n := n) (ab := ab) hH (r := r) (k := k + 1) (f := upd pl k (nI c)) (g := upd place k (nI c)) (by omega) (fun j hj => by
                    by_cases e : j = k
                    · subst e; rw [pk_us, pk_us]
                    · rw [pk_un e, pk_un e]; exact f3 j (by omega)) (s - 1)
                  rw [hcg.1] at g1 g3
                  have hback : upd (upd la c (la c - nI (mo k))) c (la c - nI (mo k) + nI (mo k)) = la := by
                    rw [upd_upd, add_back, upd_id _ rfl]
                  have hpl2 : ∀ j, j < k → pl2 j = place j := fun j hj => by rw [g2 j (by omega), pk_un (by omega), f3 j hj]
                  cases hfc : fnd n ab Hd r (k + 1) (upd place k (nI c)) (s - 1)
                  · left
                    rw [hfc, b2i_f] at g1
                    refine ⟨hcn, (pl2, la, c1, c2, c3, c4, c5, c6, c7, nI (c + 1)), ⟨rfl, rfl, hpl2, fun c' hc' => ?_⟩, ?_⟩
                    · by_cases e : c' = c
                      · subst e; exact hfc
                      · exact f4 c' (by omega)
                    · simp only [fX1_settle_l74, if_neg cc, if_pos (inb_n hk8 (by omega)), if_pos (inb_n (show c < 12 by omega) (by omega)), cl, clc, hmk.1, nI_1, es1, g1, ob_s, if_true, pk_us, hback]
                  · right
                    rw [hfc, b2i_t] at g1
                    have hany : anyN (fun c => fnd n ab Hd r (k + 1) (upd place k (nI c)) (s - 1)) n = true := (anyN_iff _ n).mpr ⟨c, hcn, hfc⟩
                    have hfst : fstN (fun c => fnd n ab Hd r (k + 1) (upd place k (nI c)) (s - 1)) n = c := fst_uniq (by omega) f4 (fun _ => hfc)
                    refine ⟨pl2, c1, c2, c3, c4, c5, c6, c7, ?_, hpl2, fun _ j hj => by rw [hfst, g3 hfc j hj, hcg.2 j hj]⟩
                    rw [hany, b2i_t]
                    simp only [fX1_settle_l74, if_neg cc, if_pos (inb_n hk8 (by omega)), if_pos (inb_n (show c < 12 by omega) (by omega)), cl, clc, hmk.1, nI_1, es1, g1, ob_s, if_neg z10, pk_us, hback, fX1_settle_b146]
              obtain ⟨pl', p1, p2, p3, p4, p5, p6, p7, k1, k2, k3⟩ := key
              refine ⟨pl', p1, p2, p3, p4, p5, p6, p7, ?_, k2, fun z j hj => ?_⟩
              · rw [hfe2]
                simp only [fX1_settle_s, hhp, ob_s, if_true, if_pos zl, if_pos (inb_n hk8 (by omega)), cl, nI_1, r1, if_neg zs, if_neg zb]
                exact k1
              · rw [hfe2] at z
                rw [k3 z j hj]
                simp only [roF]
                rw [if_neg (by rw [hf0]; simp)]
        · rw [hf0, b2i_t] at r1
          have hft : fnd n ab Hd (r + 1) k place s = true := by simp only [fnd, hf0, Bool.true_or]
          refine ⟨pl1, a1, a2, a3, a4, a5, a6, a7, ?_, hpl1, fun _ j hj => ?_⟩
          · rw [hft, b2i_t]
            simp only [fX1_settle_s, hhp, ob_s, if_true, if_pos zl, if_pos (inb_n hk8 (by omega)), cl, nI_1, r1, if_neg z10]
          · rw [r3 hf0 j hj]
            simp only [roF]
            rw [if_pos hf0]
    · rw [hp, b2i_t] at hhp
      have hff : fnd n ab Hd (m - k) k place s = false := by
        cases e : fnd n ab Hd (m - k) k place s
        · rfl
        · have := hsd (fnd_ex hn (by omega) e)
          rw [hp] at this; cases this
      refine ⟨place, q1, q2, q3, q4, q5, q6, q7, ?_, fun _ _ => rfl, fun z => by rw [hff] at z; cases z⟩
      rw [hff, b2i_f]
      simp only [fX1_settle_s, hhp, ob_s, if_neg z10]
def crM (age skill pals mood : Nat → Int32) (spades those : Int32) (ab : Nat → Bool) (N k : Nat) : Nat := if ab k then moN age skill pals mood spades those N k else 0
theorem t_prepare {n m : Nat} (hn : n ≤ 12) (hm : m ≤ 8) {age skill pals base wall mood : Nat → Int32} {spades those h : Int32} (hs : ∀ k, k < m → 1 ≤ skill k ∧ skill k ≤ 9) (hmo : ∀ k, k < m → 0 ≤ mood k ∧ mood k ≤ 9) {N : Nat} (hN : N ≤ 9) {ab : Nat → Bool} (hab : ∀ k, k < m → ab k = (bitB those k && !decide (mood k ≤ 0))) (able0 : Int32) (place lack most : Nat → Int32) : fX1_prepare able0 (nI N) h place lack most spades wall mood (nI m) age skill pals (nI n) base those = some (bitsN ab m, fillN (fun _ => -1) place m, fillN (fun c => h - topS base wall c) lack n, fillN (fun j => nI (crM age skill pals mood spades those ab N j)) most m) := by
  have e42 : ∀ la : Nat → Int32, fX1_prepare_b42 0 (nI N) h place la most spades wall mood (nI m) age skill pals (nI n) base those 0 = some (bitsN ab m, fillN (fun _ => -1) place m, la, fillN (fun j => nI (crM age skill pals mood spades those ab N j)) most m) := by
    intro la
    unfold fX1_prepare_b42
    refine lp_up (fun i => (bitsN ab i, fillN (fun _ => -1) place i, fillN (fun j => nI (crM age skill pals mood spades those ab N j)) most i, nI i)) m (by omega) (by rw [fill_0, fill_0]; rfl) ?_ ?_
    · intro i hi q
      have cc : ¬ nI m ≤ nI i := nI_ge hi (by omega)
      have cl : (nI i).toNatClampNeg = i := nI_clamp (by omega)
      have hin : inb (nI i) 8 := inb_n (by omega) (by omega)
      have f1 := fill_s (fun _ => (-1 : Int32)) place i
      have f2 := fill_s (fun j => nI (crM age skill pals mood spades those ab N j)) most i
      have habi := hab i hi
      show fX1_prepare_l42 (nI N) h la spades wall mood (nI m) age skill pals (nI n) base those q (bitsN ab i) (fillN (fun _ => -1) place i) (fillN (fun j => nI (crM age skill pals mood spades those ab N j)) most i) (nI i) = q (bitsN ab (i + 1), fillN (fun _ => -1) place (i + 1), fillN (fun j => nI (crM age skill pals mood spades those ab N j)) most (i + 1), nI (i + 1))
      rw [← f1, ← f2, bitsN_s]
      cases hb : bitB those i
      · have z : jshr those (nI i) &&& 1 = 0 := (bitB_0 _ _).mpr hb
        rw [hb, Bool.false_and] at habi
        have hc0 : crM age skill pals mood spades those ab N i = 0 := by unfold crM; rw [habi]; rfl
        rw [habi, hc0]
        simp only [fX1_prepare_l42, if_neg cc, if_pos hin, if_pos z, cl, fX1_prepare_b127, nI_1]
        rfl
      · have z : ¬ jshr those (nI i) &&& 1 = 0 := by rw [bitB_0, hb]; simp
        by_cases hm0 : mood i ≤ 0
        · rw [hb, decide_eq_true hm0] at habi
          have hc0 : crM age skill pals mood spades those ab N i = 0 := by unfold crM; rw [habi]; rfl
          rw [habi, hc0]
          simp only [fX1_prepare_l42, if_neg cc, if_pos hin, if_neg z, cl, if_pos hm0, fX1_prepare_b127, nI_1]
          rfl
        · rw [hb, decide_eq_false hm0] at habi
          have habt : ab i = true := habi
          have hc0 : crM age skill pals mood spades those ab N i = moN age skill pals mood spades those N i := by unfold crM; rw [habt]; rfl
          have hmost := t_mostOf hm hi (age := age) (pals := pals) (mood := mood) (spades := spades) (those := those) (hs i hi) (hmo i hi) hN
          rw [habt, hc0]
          by_cases hpp : pals i &&& those = 0
          · rw [decide_eq_true hpp] at hmost
            have hmost : fX1_mostOf (nI N) spades mood age skill (nI i) 0 = some (nI (moN age skill pals mood spades those N i)) := hmost
            simp only [fX1_prepare_l42, if_neg cc, if_pos hin, if_neg z, cl, if_neg hm0, if_pos hpp, fX1_prepare_b123, hmost, ob_s, upd_upd, fX1_prepare_b127, nI_1]
            rfl
          · rw [decide_eq_false hpp] at hmost
            have hmost : fX1_mostOf (nI N) spades mood age skill (nI i) 1 = some (nI (moN age skill pals mood spades those N i)) := hmost
            simp only [fX1_prepare_l42, if_neg cc, if_pos hin, if_neg z, cl, if_neg hm0, if_neg hpp, fX1_prepare_b123, hmost, ob_s, upd_upd, fX1_prepare_b127, nI_1]
            rfl
    · intro q
      have hle : nI m ≤ nI m := nI_le (Nat.le_refl m) (by omega)
      simp only [fX1_prepare_l42, if_pos hle, fX1_prepare_b133]
  unfold fX1_prepare fX1_prepare_b7
  refine lp_up (fun i => (fillN (fun c => h - topS base wall c) lack i, nI i)) n (by omega) (by rw [fill_0]; rfl) ?_ ?_
  · intro i hi q
    have cc : ¬ nI n ≤ nI i := nI_ge hi (by omega)
    have fs := fill_s (fun c => h - topS base wall c) lack i
    simp only [fX1_prepare_l7, if_neg cc, t_top (show i < 12 by omega), ob_s, if_pos (inb_n (show i < 12 by omega) (by omega)), nI_clamp (show i < 2 ^ 31 by omega), nI_1, ← fs]
  · intro q
    have hle : nI n ≤ nI n := nI_le (Nat.le_refl n) (by omega)
    simp only [fX1_prepare_l7, if_pos hle, fX1_prepare_b40]
    exact e42 _
theorem shr_0 {x : Int32} {m : Nat} (hm : m ≤ 8) : jshr x (nI m) = 0 ↔ ∃ w, w < 2 ^ m ∧ x = nI w := by
  have p2 : 2 ^ m ≤ 256 := Nat.pow_le_pow_right (n := 2) (by decide) (show m ≤ 8 by omega)
  constructor
  · intro h
    refine ⟨bW (fun i => bt x i) m, bW_lt _ _, ?_⟩
    apply b_ext
    intro i hi
    rw [b_nI _ hi, bW_tb]
    by_cases e : i < m
    · simp [e]
    · have h1 := congrArg (fun z => bt z (i - m)) h
      simp only [b_0] at h1
      rw [b_sshr m (by omega) x (by omega)] at h1
      have e2 : m + (i - m) = i := by omega
      rw [e2, if_pos hi] at h1
      simp [e, h1]
  · rintro ⟨w, hw, rfl⟩
    apply b_ext
    intro i hi
    rw [b_sshr m (by omega) _ hi, b_0]
    split
    · rw [b_nI _ (by assumption)]; exact tb_lt hw (by omega)
    · rw [b_nI _ (by omega)]; exact tb_lt hw (by omega)
theorem c_crew {n m T : Nat} {F : Int32 → Int32 → Int32 → Int32 → Int32} {len long moats spades tides ts tr : Int32} {codes code base dyke base' dyke' age skill friend pals age' skill' friend' wall depth mood place now fixed : Nat → Int32} {tn tw : Nat → Int64} (hn : n ≤ 12) (h1 : 1 ≤ n) (hm : m ≤ 8) (hC : laC F len codes) (hM : laM F long code) (hl : laR n base dyke base' dyke') (hc : crR m age skill friend pals age' skill' friend') (hs : SS n m T wall depth mood place moats spades tides now) (ht : toR ts tn tr tw) (x y : Int32) (stack : Nat → Int32) (i1 i2 i3 : Int32) (r1 r2 r3 : Nat → Int32) (q1 q2 q3 : Int32) (q4 q5 q6 q7 : Nat → Int32) (wh bc thrown : Int32) (th st as gets po bp : Nat → Int32) : ∃ a j1 j2 j3 s1 s2 s3 st1 ts' tn' p1 p2 p3 p4 p5 p6 p7 tr' wh' bc' tw' th' st' as' gets' po' bp', fX11_crew (fixed 0) (nI m) age skill pals (nI n) base i1 i2 i3 r1 r2 r3 len codes stack moats spades tides wall depth mood place ts tn q1 q2 q3 q4 q5 q6 q7 x y = some (a, j1, j2, j3, s1, s2, s3, st1, ts', tn', p1, p2, p3, p4, p5, p6, p7) ∧ fX12_crew thrown tr (nI n) (nI m) long wh bc tw base' age' skill' friend' fixed now th code st as gets po bp x y = some (a, 0, tr', wh', bc', tw', th', st', as', gets', po', bp') ∧ toR ts' tn' tr' tw' := by
  have p2m : 2 ^ m ≤ 256 := Nat.pow_le_pow_right (n := 2) (by decide) (show m ≤ 8 by omega)
  have e2m : jshl 1 (nI m) - 1 = nI (2 ^ m - 1) := by
    rw [sh_n (by omega)]; exact pk_sub (b := 1) (Nat.two_pow_pos m)
  have pin := t_in x (L := 0) (H := (jshl 1 (nI m) - 1).toInt64) 0 (jshl 1 (nI m) - 1) rfl rfl
  have pin2 := t_in y (L := 1) (H := 9) 1 9 rfl rfl
  have hx_iff : (0 ≤ x ∧ x ≤ jshl 1 (nI m) - 1) ↔ jshr x (nI m) = 0 := by
    rw [shr_0 hm, e2m]
    have := Nat.two_pow_pos m
    constructor
    · intro h
      obtain ⟨w, -, h2, e⟩ := rng_n (a := 0) (b := 2 ^ m - 1) (by omega) (by omega) h
      exact ⟨w, by omega, e⟩
    · rintro ⟨w, hw, rfl⟩
      exact ⟨nI_pos' (by omega), nI_le (by omega) (by omega)⟩
  by_cases hx : jshr x (nI m) = 0
  · have hx2 := hx_iff.mpr hx
    by_cases hy : 1 ≤ y ∧ y ≤ 9
    · obtain ⟨N, hN1, hN, rfl⟩ := rng_n (a := 1) (b := 9) (by omega) (by omega) hy
      by_cases h4 : bcS x ≤ 4
      · obtain ⟨st1, eh⟩ := t_heightOf hC stack (fixed 0) moats tides (nI n) 0
        rw [i32_a0] at eh
        have hh := lev_r F (fixed 0) (nI n) moats tides
        let Hd := hoB n m age skill friend base wall mood spades (levS F (fixed 0) (nI n) moats tides) N
        have hHd : Hd = hoB n m age skill friend base wall mood spades (levS F (fixed 0) (nI n) moats tides) N := rfl
        let ab : Nat → Bool := fun k => bitB x k && !decide (mood k ≤ 0)
        have hab : ∀ k, k < m → ab k = (bitB x k && !decide (mood k ≤ 0)) := fun _ _ => rfl
        have hab2 : ∀ k, k < m → ab k = true → bitB x k = true ∧ ¬ mood k ≤ 0 := fun k _ h => by
          have h' : (bitB x k && !decide (mood k ≤ 0)) = true := h
          simpa using h'
        have hH : ∀ f g : Nat → Int32, (∀ k, k < m → f k = g k) → Hd f = Hd g := fun f g h => ho_congr hn h
        have hsk : ∀ k, k < m → 1 ≤ skill k ∧ skill k ≤ 9 := fun k hk => (hc.2.1 k hk).2.2
        -- the model
        obtain ⟨wh', B', th', st', as', gets', po', bp', m1, m2, -, m4⟩ := t_crews hn h1 hm hM hl hc hs (fixed := fixed) (N := N) (by omega) x hHd hab 12 0 0 1000000 wh th st as gets po bp (by omega) (by omega) (fun j hj => absurd hj (by omega)) (by omega) (Nat.le_refl _)
        have zm : nI 1000000 = 1000000 := rfl
        have z0 : nI 0 = 0 := rfl
        rw [zm, z0] at m1
        have em0 : m - 0 = m := by omega
        rw [em0] at m4
        -- the class
        let mo : Nat → Nat := crM age skill pals mood spades x ab N
        have hpre := t_prepare hn hm (age := age) (pals := pals) (base := base) (wall := wall) (spades := spades) (those := x) (h := levS F (fixed 0) (nI n) moats tides) hsk hs.1.2.2.1 hN hab i1 r1 r2 r3
        have hA8 : bW ab m < 256 := Nat.lt_of_lt_of_le (bW_lt ab m) p2m
        have eA : bitsN ab m = nI (bW ab m) := bits_W ab (by omega)
        rw [eA] at hpre
        have hmo : ∀ j, j < m → fillN (fun j => nI (crM age skill pals mood spades x ab N j)) r3 m j = nI (mo j) ∧ mo j ≤ 900 := fun j hj => by
          rw [fill_lt _ _ hj]
          refine ⟨rfl, ?_⟩
          show crM age skill pals mood spades x ab N j ≤ 900
          unfold crM
          have := moN_b (age := age) (pals := pals) (mood := mood) (spades := spades) (those := x) hN (hsk j hj)
          split <;> omega
        let Z0 : Nat → Int := fun c => ((levS F (fixed 0) (nI n) moats tides).toNatClampNeg : Int) - ((topS base wall c).toNatClampNeg : Nat)
        obtain ⟨hv, hhv, ehv⟩ := nI_of2 (x := levS F (fixed 0) (nI n) moats tides) (M := 999) (n := 999) rfl (by have := hh.1; grind) hh.2
        have htop : ∀ c, c < n → ∃ t, t ≤ 1089 ∧ topS base wall c = nI t := fun c hc => by
          have hr := top_r (hl.2.1 c hc).1 (hl.2.1 c hc).2 (hs.1.1 c hc).1 (hs.1.1 c hc).2
          obtain ⟨t, ht, e⟩ := nI_of2 (x := topS base wall c) (M := 1089) (n := 1089) rfl (by have := hr.1; unfold topS; grind) hr.2
          exact ⟨t, ht, e⟩
        have hZ : ∀ c, c < n → -2000 ≤ Z0 c ∧ Z0 c ≤ 1000 := fun c hc => by
          obtain ⟨t, ht, e⟩ := htop c hc
          show -2000 ≤ ((levS F (fixed 0) (nI n) moats tides).toNatClampNeg : Int) - ((topS base wall c).toNatClampNeg : Nat) ∧ ((levS F (fixed 0) (nI n) moats tides).toNatClampNeg : Int) - ((topS base wall c).toNatClampNeg : Nat) ≤ 1000
          rw [e, ehv, nI_clamp (by omega), nI_clamp (by omega)]; omega
        have hla0 : ∀ c, c < n → (fillN (fun c => levS F (fixed 0) (nI n) moats tides - topS base wall c) r2 n c).toInt = Z0 c := fun c hc => by
          obtain ⟨t, ht, e⟩ := htop c hc
          rw [fill_lt _ _ hc]
          show (levS F (fixed 0) (nI n) moats tides - topS base wall c).toInt = ((levS F (fixed 0) (nI n) moats tides).toNatClampNeg : Int) - ((topS base wall c).toNatClampNeg : Nat)
          rw [e, ehv, nI_clamp (by omega), nI_clamp (by omega), pk_sub_toInt (by omega) (by omega)]
        have hAb : ∀ j, (bW ab m).testBit j = (decide (j < m) && ab j) := bW_tb ab m
        have need : ∀ g, Hd g = true → (∀ j, j < m → g j = -1 ∨ ∃ c, c < n ∧ g j = nI c ∧ ab j = true) → ∀ c, c < n → Z0 c ≤ (sumW (fun j => if g j = nI c then mo j else 0) m : Nat) := fun g hg1 hg2 c hcn => by
          have h2 := cr_need hn hm (age := age) (pals := pals) (base := base) (spades := spades) (those := x) hc.2.2.1 hsk hl.2.1 hs.1.1 hs.1.2.2.1 hab2 hg2 hh hN hg1 c hcn
          have h3 : sumW (fun j => if g j = nI c then moN age skill pals mood spades x N j else 0) m = sumW (fun j => if g j = nI c then mo j else 0) m := sumW_congr (fun j hj => by
            by_cases e : g j = nI c
            · rw [if_pos e, if_pos e]
              have haj : ab j = true := by
                rcases hg2 j hj with z | ⟨c', -, -, z⟩
                · exact absurd (by rw [← e]; exact z) (m1_ne (c := c) (by omega))
                · exact z
              show _ = crM age skill pals mood spades x ab N j
              unfold crM
              rw [haj]; rfl
            · rw [if_neg e, if_neg e])
          rw [h3] at h2
          show ((levS F (fixed 0) (nI n) moats tides).toNatClampNeg : Int) - ((topS base wall c).toNatClampNeg : Nat) ≤ _
          omega
        have hcnt : bcS (nI (bW ab m)) = nI (ctN ab m) := by rw [← eA]; exact t_cntB ab (by omega)
        have hctm : ctN ab m ≤ m := ctN_le _ m
        have key : ∃ (so : Option Nat) (pl la : Nat → Int32) (p1 p2 p3 : Int32) (p4 p5 p6 p7 : Nat → Int32), fX1_find_b21 (nI (bW ab m)) (nI N) (levS F (fixed 0) (nI n) moats tides) (fillN (fun _ => -1) r1 m) (fillN (fun c => levS F (fixed 0) (nI n) moats tides - topS base wall c) r2 n) (fillN (fun j => nI (crM age skill pals mood spades x ab N j)) r3 m) moats spades tides wall depth mood place q1 q2 q3 q4 q5 q6 q7 (nI m) age skill pals (nI n) base 0 = some ((match so with | some s => nI s | none => -1), nI (bW ab m), nI N, levS F (fixed 0) (nI n) moats tides, pl, la, fillN (fun j => nI (crM age skill pals mood spades x ab N j)) r3 m, p1, p2, p3, p4, p5, p6, p7) ∧ (so = none → ∀ s, fnd n ab Hd m 0 po s = false) ∧ (∀ s, so = some s → s ≤ 8 ∧ fnd n ab Hd m 0 po s = true ∧ (∀ s', s' < s → fnd n ab Hd m 0 po s' = false) ∧ ∀ j, j < m → pl j = roF n ab Hd m 0 po s j) := by
          generalize fillN (fun c => levS F (fixed 0) (nI n) moats tides - topS base wall c) r2 n = la0 at hla0
          generalize fillN (fun j => nI (crM age skill pals mood spades x ab N j)) r3 m = mo0 at hmo
          unfold fX1_find_b21
          refine lp_inv (s := (fillN (fun _ => -1) r1 m, la0, q1, q2, q3, q4, q5, q6, q7, (0 : Int32))) (fun u => ∃ (so : Option Nat) (pl la : Nat → Int32) (p1 p2 p3 : Int32) (p4 p5 p6 p7 : Nat → Int32), u = some ((match so with | some s => nI s | none => -1), nI (bW ab m), nI N, levS F (fixed 0) (nI n) moats tides, pl, la, mo0, p1, p2, p3, p4, p5, p6, p7) ∧ (so = none → ∀ s, fnd n ab Hd m 0 po s = false) ∧ (∀ s, so = some s → s ≤ 8 ∧ fnd n ab Hd m 0 po s = true ∧ (∀ s', s' < s → fnd n ab Hd m 0 po s' = false) ∧ ∀ j, j < m → pl j = roF n ab Hd m 0 po s j)) (fun s (t : (Nat → Int32) × (Nat → Int32) × Int32 × Int32 × Int32 × (Nat → Int32) × (Nat → Int32) × (Nat → Int32) × (Nat → Int32) × Int32) => t.2.2.2.2.2.2.2.2.2 = nI s ∧ t.2.1 = la0 ∧ ∀ s', s' < s → fnd n ab Hd m 0 po s' = false) 9 (by omega) ⟨rfl, rfl, fun s' hs' => absurd hs' (by omega)⟩ ?_
          intro s t k21 hs9 hI
          obtain ⟨pl, la, b1, b2, b3, b4, b5, b6, b7, z⟩ := t
          obtain ⟨f1, f2, f3⟩ := hI
          simp only at f1 f2
          subst f1 f2
          by_cases hsc : ctN ab m < s
          · right
            have zc : nI (ctN ab m) < nI s := nI_lt hsc (by omega)
            refine ⟨none, pl, la, b1, b2, b3, b4, b5, b6, b7, ?_, fun _ s2 => ?_, fun s2 h => by cases h⟩
            · simp only [fX1_find_l21, t_bc, hcnt, ob_s, if_pos zc, fX1_find_b54]
            · rcases Nat.lt_or_ge s2 s with h | h
              · exact f3 s2 h
              · cases e : fnd n ab Hd m 0 po s2
                · rfl
                · exfalso
                  have hsd := cr_sound hn hm (Nat.zero_le m) (A := bW ab m) (ab := ab) (Hd := Hd) (f := po) (Z0 := Z0) (mo := mo) (s := s2) hAb (fun j hj => absurd hj (by omega)) need (fnd_ex hn (by omega) e)
                  unfold hpB at hsd
                  rw [Bool.or_eq_false_iff] at hsd
                  have h2 := of_decide_eq_false hsd.1
                  have h3 : crd (bW ab m / 2 ^ 0) 8 = ctN ab m := by
                    rw [Nat.pow_zero, Nat.div_one]
                    exact ctN_ext (by omega) (fun i hi => by rw [hAb]; simp [hi]) (fun i hi => by
                      rw [hAb]
                      have : ¬ i < m := by omega
                      simp [this])
                  omega
          · have zc : ¬ nI (ctN ab m) < nI s := nI_nlt (by omega) (by omega)
            obtain ⟨pl2, c1, c2, c3, c4, c5, c6, c7, g1, -, g3⟩ := t_settle hn hm (age := age) (base := base) (depth := depth) (mood := mood) (place0 := place) (moats := moats) (spades := spades) (tides := tides) (h := levS F (fixed 0) (nI n) moats tides) hc.2.2.1 hsk hs.1.1 hN hHd hAb hA8 hmo hZ need 12 0 s pl la b1 b2 b3 b4 b5 b6 b7 (by omega) (by omega) (by omega) (fun j hj => absurd hj (by omega)) (fun c hcn => by
              rw [hla0 c hcn]
              show Z0 c = Z0 c - ((0 : Nat) : Int)
              omega)
            rw [em0] at g1 g3
            have hcg := fnd_congr (n := n) (ab := ab) hH (r := m) (k := 0) (f := pl) (g := po) (by omega) (fun j hj => absurd hj (by omega)) s
            rw [hcg.1] at g1 g3
            rw [z0] at g1
            cases hf : fnd n ab Hd m 0 po s
            · left
              rw [hf, b2i_f] at g1
              refine ⟨by omega, (pl2, la, c1, c2, c3, c4, c5, c6, c7, nI (s + 1)), ⟨rfl, rfl, fun s' hs' => ?_⟩, ?_⟩
              · by_cases e : s' = s
                · subst e; exact hf
                · exact f3 s' (by omega)
              · simp only [fX1_find_l21, t_bc, hcnt, ob_s, if_neg zc, g1, if_true, nI_1]
            · right
              have z10 : ¬ (1 : Int32) = 0 := by decide
              rw [hf, b2i_t] at g1
              refine ⟨some s, pl2, la, c1, c2, c3, c4, c5, c6, c7, ?_, fun h => by (cases h), fun s2 h => ?_⟩
              · simp only [fX1_find_l21, t_bc, hcnt, ob_s, if_neg zc, g1, if_neg z10, fX1_find_b45]
              · cases h
                exact ⟨by omega, hf, f3, fun j hj => by rw [g3 hf j hj, hcg.2 j hj]⟩
        obtain ⟨so, pl, la, p1, p2, p3, p4, p5, p6, p7, k1, k2, k3⟩ := key
        cases so with
        | none =>
          have k2 := k2 rfl
          have hB' : B' = 1000000 := by
            rcases m4 with ⟨-, h, -⟩ | ⟨s, -, h, -⟩
            · exact h
            · rw [k2 s] at h; cases h
          rw [hB', zm] at m1
          have zn : ¬ (0 : Int32) ≤ -1 := by decide
          repeat apply Exists.intro
          refine ⟨?_, ?_, ht⟩
          · simp only [fX11_crew, if_pos hx, t_within, hy, decide_true, b2i_t, ob_s, t_bc, if_pos h4, eh, fX1_find, hpre, k1, if_neg zn]
            rfl
          · simp only [fX12_crew, pin, hx2, decide_true, b2i_t, ob_s, pin2, hy, t_bc, if_pos h4, m1, if_true]
            rfl
        | some s =>
          obtain ⟨hs8, k4, k5, k6⟩ := k3 s rfl
          have hB' : B' = s ∧ ∀ j, j < m → bp' j = roF n ab Hd m 0 po s j := by
            rcases m4 with ⟨h, -, -⟩ | ⟨s2, -, h2, h3, h4, h5⟩
            · have := h s (by omega)
              rw [k4] at this; cases this
            · have : s2 = s := by
                rcases Nat.lt_trichotomy s2 s with q | q | q
                · have := k5 s2 q
                  rw [h2] at this; cases this
                · exact q
                · have := h3 s q
                  rw [k4] at this; cases this
              subst this
              exact ⟨by omega, h5⟩
          rw [hB'.1] at m1
          have zs : ¬ nI s = 1000000 := by
            show ¬ nI s = nI 1000000
            rw [nI_eq (by omega) (by omega)]; omega
          have zn : (0 : Int32) ≤ nI s := nI_pos' (by omega)
          have tell : ∃ ts' tn' tr' tw', fX11_crew_b83 (fixed 0) (nI m) age skill pals (nI n) base (nI (bW ab m)) (nI N) (levS F (fixed 0) (nI n) moats tides) pl la (fillN (fun j => nI (crM age skill pals mood spades x ab N j)) r3 m) len codes st1 moats spades tides wall depth mood place 0 tn p1 p2 p3 p4 p5 p6 p7 (nI s) 0 = some (nI s, nI (bW ab m), nI N, levS F (fixed 0) (nI n) moats tides, pl, la, fillN (fun j => nI (crM age skill pals mood spades x ab N j)) r3 m, st1, ts', tn', p1, p2, p3, p4, p5, p6, p7) ∧ fX12_crew_b83 0 0 (nI n) (nI m) long wh' (nI s) tw base' age' skill' friend' fixed now th' code st' as' gets' po' bp' 0 = some (nI s, 0, tr', wh', nI s, tw', th', st', as', gets', po', bp') ∧ toR ts' tn' tr' tw' := by
            unfold fX11_crew_b83 fX12_crew_b83
            refine lq2 (fun u v => ∃ (ts' : Int32) (tn' : Nat → Int64) (tr' : Int32) (tw' : Nat → Int64), u = some (nI s, nI (bW ab m), nI N, levS F (fixed 0) (nI n) moats tides, pl, la, fillN (fun j => nI (crM age skill pals mood spades x ab N j)) r3 m, st1, ts', tn', p1, p2, p3, p4, p5, p6, p7) ∧ v = some (nI s, 0, tr', wh', nI s, tw', th', st', as', gets', po', bp') ∧ toR ts' tn' tr' tw') (fun i (a : Int32 × (Nat → Int64) × Int32) (b : Int32 × (Nat → Int64) × Int32) => a.1 = nI i ∧ b.1 = nI i ∧ a.2.2 = nI i ∧ b.2.2 = nI i ∧ ∀ j, j < i → a.2.1 j = b.2.1 j) m (by omega) ⟨rfl, rfl, rfl, rfl, fun j hj => absurd hj (by omega)⟩ ?_
            intro i a b ka kb hi hI
            obtain ⟨a1, a2, a3⟩ := a
            obtain ⟨b1, b2, b3⟩ := b
            obtain ⟨f1, f2, f3, f4, hJ⟩ := hI
            simp only at f1 f2 f3 f4 hJ
            subst f1 f2 f3 f4
            by_cases e : i = m
            · right
              have hle : nI m ≤ nI i := nI_le (by omega) (by omega)
              refine ⟨nI i, a2, nI i, b2, ?_, ?_, i, by omega, rfl, rfl, hJ⟩
              · simp only [fX11_crew_l83, if_pos hle, fX11_crew_b119]
              · simp only [fX12_crew_l83, if_pos hle, fX12_crew_b108]
            · left
              have hi2 : i < m := by omega
              have cc : ¬ nI m ≤ nI i := nI_ge hi2 (by omega)
              have cl : (nI i).toNatClampNeg = i := nI_clamp (by omega)
              refine ⟨hi2, (nI (i + 1), vp_updL a2 i (roF n ab Hd m 0 po s i).toInt64, nI (i + 1)), (nI (i + 1), vp_updL b2 i (roF n ab Hd m 0 po s i).toInt64, nI (i + 1)), ⟨rfl, rfl, rfl, rfl, ?_⟩, ?_, ?_⟩
              · intro j hj
                show vp_updL a2 i _ j = vp_updL b2 i _ j
                by_cases e : j = i
                · subst e; rw [pk_uLs, pk_uLs]
                · rw [pk_uLn e, pk_uLn e]; exact hJ j (by omega)
              · simp only [fX11_crew_l83, if_neg cc, if_pos (inb_n (show i < 8 by omega) (by omega)), cl, k6 i hi2, t_add (show i < 12 by omega), ob_s, nI_1]
              · simp only [fX12_crew_l83, if_neg cc, if_pos (inb_n (show i < 8 by omega) (by omega)), cl, hB'.2 i hi2, t_ent (show i < 24 by omega), ob_s, nI_1]
          obtain ⟨ts', tn', tr', tw', t1, t2, hT⟩ := tell
          repeat apply Exists.intro
          refine ⟨?_, ?_, hT⟩
          · simp only [fX11_crew, if_pos hx, t_within, hy, decide_true, b2i_t, ob_s, t_bc, if_pos h4, eh, fX1_find, hpre, k1, if_pos zn, fX8_clear, t1]
            rfl
          · simp only [fX12_crew, pin, hx2, decide_true, b2i_t, ob_s, pin2, hy, t_bc, if_pos h4, m1, if_neg zs, t2]
            rfl
      · repeat apply Exists.intro
        refine ⟨?_, ?_, ht⟩
        · simp only [fX11_crew, if_pos hx, t_within, hy, decide_true, b2i_t, ob_s, t_bc, if_neg h4]
          rfl
        · simp only [fX12_crew, pin, hx2, decide_true, b2i_t, ob_s, pin2, hy, t_bc, if_neg h4]
          rfl
    · repeat apply Exists.intro
      refine ⟨?_, ?_, ht⟩
      · simp only [fX11_crew, if_pos hx, t_within, hy, decide_false, b2i_f, ob_s, if_true, fX11_crew_b22]
        rfl
      · simp only [fX12_crew, pin, hx2, decide_true, b2i_t, ob_s, pin2, hy, decide_false, b2i_f, fX12_crew_b35]
        rfl
  · have hx2 : ¬ (0 ≤ x ∧ x ≤ jshl 1 (nI m) - 1) := fun z => hx (hx_iff.mp z)
    repeat apply Exists.intro
    refine ⟨?_, ?_, ht⟩
    · simp only [fX11_crew, if_neg hx, fX11_crew_b22]
      rfl
    · simp only [fX12_crew, pin, hx2, decide_false, b2i_f, ob_s, if_true, fX12_crew_b35]
      rfl
