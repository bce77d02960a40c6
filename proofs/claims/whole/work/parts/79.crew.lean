/-! ===== crew ===== -/
theorem t_settle {n m : Nat} (hn : n ≤ 12) (hm : m ≤ 8) {age skill friend pals base wall depth mood place0 : Nat → Int32} {moats spades tides h : Int32} (hq : palsOk friend pals m) (hs : ∀ k, k < m → 1 ≤ skill k ∧ skill k ≤ 9) (hw : rng n wall) {N A : Nat} (hN : N ≤ 9) {Hd : (Nat → Int32) → Bool} (hHd : Hd = hoB n m age skill friend base wall mood spades h N) {ab : Nat → Bool} (hA : ∀ j, A.testBit j = (decide (j < m) && ab j)) (hA8 : A < 256) {most : Nat → Int32} {mo : Nat → Nat} (hmo : ∀ j, j < m → most j = nI (mo j) ∧ mo j ≤ 900) {Z0 : Nat → Int} (hZ : ∀ c, c < n → -2000 ≤ Z0 c ∧ Z0 c ≤ 1000) (need : ∀ g, Hd g = true → (∀ j, j < m → g j = -1 ∨ ∃ c, c < n ∧ g j = nI c ∧ ab j = true) → ∀ c, c < n → Z0 c ≤ (sumW (fun j => if g j = nI c then mo j else 0) m : Nat)) : ∀ (d k s : Nat) (place lack : Nat → Int32) (q1 q2 q3 : Int32) (q4 q5 q6 q7 : Nat → Int32), k ≤ m → m - k < d → s ≤ 9 → (∀ j, j < k → place j = -1 ∨ ∃ c, c < n ∧ place j = nI c ∧ ab j = true) → (∀ c, c < n → (lack c).toInt = Z0 c - (sumW (fun j => if place j = nI c then mo j else 0) k : Nat)) → ∃ place' p1 p2 p3 p4 p5 p6 p7, fX1_settle d (nI A) (nI N) h place lack most moats spades tides wall depth mood place0 q1 q2 q3 q4 q5 q6 q7 (nI m) age skill pals (nI n) base (nI k) (nI s) = some (b2i (fnd n ab Hd (m - k) k place s), place', lack, p1, p2, p3, p4, p5, p6, p7) ∧ (∀ j, j < k → place' j = place j) ∧ (fnd n ab Hd (m - k) k place s = true → ∀ j, j < m → place' j = roF n ab Hd (m - k) k place s j)
  | 0, k, s, place, lack, q1, q2, q3, q4, q5, q6, q7, hk, hd, _, _, _ => by omega
  | d + 1, k, s, place, lack, q1, q2, q3, q4, q5, q6, q7, hk, hd, hs9, hpl, hla => by
    have hH : ∀ f g : Nat → Int32, (∀ k, k < m → f k = g k) → Hd f = Hd g := fun f g h => by rw [hHd]; exact ho_congr hn h
    have hsumb : ∀ (pp : Nat → Int32) c kk, kk ≤ m → sumW (fun j => if pp j = nI c then mo j else 0) kk ≤ 7200 := fun pp c kk hkk => by
      have := sumW_b (f := fun j => if pp j = nI c then mo j else 0) (b := 900) (n := kk) (fun j hj => by have := (hmo j (by omega)).2; split <;> omega)
      omega
    have hhp := t_hopeless hn hm hk hs9 hA8 (lack := lack) (most := most) (Z := fun c => Z0 c - (sumW (fun j => if place j = nI c then mo j else 0) k : Nat)) (mo := mo) hla (fun c hc => by have := (hZ c hc).2; omega) hmo
    have hsd := fun hex => cr_sound hn hm hk (A := A) (ab := ab) (Hd := Hd) (f := place) (Z0 := Z0) (mo := mo) (s := s) hA hpl need hex
    show ∃ place' p1 p2 p3 p4 p5 p6 p7, fX1_settle_s (fX1_settle d) (nI A) (nI N) h place lack most moats spades tides wall depth mood place0 q1 q2 q3 q4 q5 q6 q7 (nI m) age skill pals (nI n) base (nI k) (nI s) = _ ∧ _
    have z10 : ¬ (1 : Int32) = 0 := by decide
    cases hp : hpB A k s n m (fun c => Z0 c - (sumW (fun j => if place j = nI c then mo j else 0) k : Nat)) mo
    · rw [hp, b2i_f] at hhp
      by_cases ekm : k = m
      · subst ekm
        have z0 : k - k = 0 := by omega
        have hsz : s = 0 := by
          unfold hpB at hp
          rw [Bool.or_eq_false_iff] at hp
          have h1 := of_decide_eq_false hp.1
          have : crd (A / 2 ^ k) 8 = 0 := by
            apply crd_0
            rintro ⟨i, -, hb⟩
            rw [Nat.testBit_div_two_pow, hA] at hb
            have : ¬ i + k < k := by omega
            simp [this] at hb
          omega
        have zl : ¬ nI k < nI k := nI_nlt (Nat.le_refl _) (by omega)
        have hpo : plOk place n k := fun j hj => by
          rcases hpl j hj with h2 | ⟨c, h3, h4, -⟩
          · rw [h2]
            have := nI_pos' (n := n) (by omega)
            exact ⟨Int32.le_refl _, by grind⟩
          · rw [h4]
            have := nI_pos' (n := c) (by omega)
            exact ⟨by grind, nI_lt h3 (by omega)⟩
        obtain ⟨p1, p2, p3, p4, p5, p6, p7, e⟩ := t_stands hn hm (base := base) (depth := depth) (mood := mood) (place := place0) (moats := moats) (spades := spades) (tides := tides) (h := h) hq hs hw hpo (N := N) (by omega) q1 q2 q3 q4 q5 q6 q7
        rw [← hHd] at e
        have ef : fnd n ab Hd 0 k place s = Hd place := by simp [fnd, hsz]
        refine ⟨place, p1, p2, p3, p4, p5, p6, p7, ?_, fun _ _ => rfl, fun _ j _ => by rw [z0]; rfl⟩
        rw [z0, ef]
        simp only [fX1_settle_s, hhp, ob_s, if_true, if_neg zl, e, b01]
      · have hk2 : k < m := by omega
        have hk8 : k < 8 := by omega
        have zl : nI k < nI m := nI_lt hk2 (by omega)
        have cl : (nI k).toNatClampNeg = k := nI_clamp (by omega)
        obtain ⟨r, hr⟩ : ∃ r, m - k = r + 1 := ⟨m - k - 1, by omega⟩
        have hr2 : m - (k + 1) = r := by omega
        have hpk : ∀ (pp : Nat → Int32) (v : Int32), (∀ j, j < k → pp j = place j) → (v = -1 ∨ ∃ c, c < n ∧ v = nI c ∧ ab k = true) → ∀ j, j < k + 1 → upd pp k v j = -1 ∨ ∃ c, c < n ∧ upd pp k v j = nI c ∧ ab j = true := fun pp v hpp hv j hj => by
          by_cases e : j = k
          · subst e; rw [pk_us]; exact hv
          · rw [pk_un e, hpp j (by omega)]; exact hpl j (by omega)
        have hsk : ∀ (pp : Nat → Int32) (v : Int32) c, (∀ j, j < k → pp j = place j) → sumW (fun j => if upd pp k v j = nI c then mo j else 0) (k + 1) = sumW (fun j => if place j = nI c then mo j else 0) k + (if v = nI c then mo k else 0) := fun pp v c hpp => by
          simp only [sumW]
          rw [pk_us]
          congr 1
          apply sumW_congr
          intro j hj
          rw [pk_un (by omega), hpp j hj]
        obtain ⟨pl1, a1, a2, a3, a4, a5, a6, a7, r1, r2, r3⟩ := t_settle hn hm hq hs hw hN hHd hA hA8 hmo hZ need (depth := depth) (place0 := place0) (moats := moats) (tides := tides) d (k + 1) s (upd place k (-1)) lack q1 q2 q3 q4 q5 q6 q7 (by omega) (by omega) hs9 (hpk place (-1) (fun _ _ => rfl) (Or.inl rfl)) (fun c hc => by
          rw [hla c hc, hsk place (-1) c (fun _ _ => rfl), if_neg (fun z => m1_ne (c := c) (by omega) z.symm), Nat.add_zero])
        rw [hr2] at r1 r3
        have hpl1 : ∀ j, j < k → pl1 j = place j := fun j hj => by rw [r2 j (by omega), pk_un (by omega)]
        rw [hr]
        cases hf0 : fnd n ab Hd r (k + 1) (upd place k (-1)) s
        · rw [hf0, b2i_f] at r1
          have hno : ∀ b, (decide (0 < s) && ab k && b) = false → fnd n ab Hd (r + 1) k place s = (decide (0 < s) && ab k && anyN (fun c => fnd n ab Hd r (k + 1) (upd place k (nI c)) (s - 1)) n) := fun b _ => by
            simp only [fnd, hf0, Bool.false_or]
          have hfe : fnd n ab Hd (r + 1) k place s = (decide (0 < s) && ab k && anyN (fun c => fnd n ab Hd r (k + 1) (upd place k (nI c)) (s - 1)) n) := by simp only [fnd, hf0, Bool.false_or]
          rcases Nat.eq_zero_or_pos s with hs0 | hs0
          · have zs : nI s = 0 := by rw [hs0]; rfl
            have hff : fnd n ab Hd (r + 1) k place s = false := by rw [hfe]; simp [hs0]
            refine ⟨pl1, a1, a2, a3, a4, a5, a6, a7, ?_, hpl1, fun z => by rw [hff] at z; cases z⟩
            rw [hff, b2i_f]
            simp only [fX1_settle_s, hhp, ob_s, if_true, if_pos zl, if_pos (inb_n hk8 (by omega)), cl, nI_1, r1, if_pos zs, fX1_settle_b69]
          · have zs : ¬ nI s = 0 := nI_ne0 hs0 (by omega)
            have ebit : bitB (nI A) k = ab k := by
              rw [bitB_t _ (by omega), b_nI _ (by omega), hA]; simp [hk2]
            cases hak : ab k
            · have zb : jshr (nI A) (nI k) &&& 1 = 0 := (bitB_0 _ _).mpr (by rw [ebit, hak])
              have hff : fnd n ab Hd (r + 1) k place s = false := by rw [hfe, hak]; simp
              refine ⟨pl1, a1, a2, a3, a4, a5, a6, a7, ?_, hpl1, fun z => by rw [hff] at z; cases z⟩
              rw [hff, b2i_f]
              simp only [fX1_settle_s, hhp, ob_s, if_true, if_pos zl, if_pos (inb_n hk8 (by omega)), cl, nI_1, r1, if_neg zs, if_pos zb, fX1_settle_b69]
            · have zb : ¬ jshr (nI A) (nI k) &&& 1 = 0 := by rw [bitB_0, ebit, hak]; simp
              have es1 : nI s - 1 = nI (s - 1) := pk_sub (b := 1) hs0
              have hfe2 : fnd n ab Hd (r + 1) k place s = anyN (fun c => fnd n ab Hd r (k + 1) (upd place k (nI c)) (s - 1)) n := by rw [hfe, hak]; simp [hs0]
              have key : ∃ place' p1 p2 p3 p4 p5 p6 p7, fX1_settle_b74 (fX1_settle d) (nI A) (nI N) h pl1 lack most moats spades tides wall depth mood place0 a1 a2 a3 a4 a5 a6 a7 (nI m) age skill pals (nI n) base (nI k) (nI s) 0 = some (b2i (anyN (fun c => fnd n ab Hd r (k + 1) (upd place k (nI c)) (s - 1)) n), place', lack, p1, p2, p3, p4, p5, p6, p7) ∧ (∀ j, j < k → place' j = place j) ∧ (anyN (fun c => fnd n ab Hd r (k + 1) (upd place k (nI c)) (s - 1)) n = true → ∀ j, j < m → place' j = roF n ab Hd r (k + 1) (upd place k (nI (fstN (fun c => fnd n ab Hd r (k + 1) (upd place k (nI c)) (s - 1)) n))) (s - 1) j) := by
                unfold fX1_settle_b74
                refine lp_inv (s := (pl1, lack, a1, a2, a3, a4, a5, a6, a7, (0 : Int32))) (fun x => ∃ (place' : Nat → Int32) (p1 p2 p3 : Int32) (p4 p5 p6 p7 : Nat → Int32), x = some (b2i (anyN (fun c => fnd n ab Hd r (k + 1) (upd place k (nI c)) (s - 1)) n), place', lack, p1, p2, p3, p4, p5, p6, p7) ∧ (∀ j, j < k → place' j = place j) ∧ (anyN (fun c => fnd n ab Hd r (k + 1) (upd place k (nI c)) (s - 1)) n = true → ∀ j, j < m → place' j = roF n ab Hd r (k + 1) (upd place k (nI (fstN (fun c => fnd n ab Hd r (k + 1) (upd place k (nI c)) (s - 1)) n))) (s - 1) j)) (fun c (t : (Nat → Int32) × (Nat → Int32) × Int32 × Int32 × Int32 × (Nat → Int32) × (Nat → Int32) × (Nat → Int32) × (Nat → Int32) × Int32) => t.2.2.2.2.2.2.2.2.2 = nI c ∧ t.2.1 = lack ∧ (∀ j, j < k → t.1 j = place j) ∧ ∀ c', c' < c → fnd n ab Hd r (k + 1) (upd place k (nI c')) (s - 1) = false) n (by omega) ⟨rfl, rfl, hpl1, fun c' hc' => absurd hc' (by omega)⟩ ?_
                intro c t q74 hc hI
                obtain ⟨pl, la, b1, b2, b3, b4, b5, b6, b7, x⟩ := t
                obtain ⟨f1, f2, f3, f4⟩ := hI
                simp only at f1 f2 f3
                subst f1 f2
                by_cases e : c = n
                · right
                  have hle : nI n ≤ nI c := nI_le (by omega) (by omega)
                  have hany : anyN (fun c => fnd n ab Hd r (k + 1) (upd place k (nI c)) (s - 1)) n = false := (anyN_f _ n).mpr (by rw [← e]; exact f4)
                  refine ⟨upd pl k (-1), b1, b2, b3, b4, b5, b6, b7, ?_, fun j hj => by rw [pk_un (by omega)]; exact f3 j hj, fun z => by rw [hany] at z; cases z⟩
                  rw [hany, b2i_f]
                  simp only [fX1_settle_l74, if_pos hle, fX1_settle_b154, if_pos (inb_n hk8 (by omega)), cl]
                · have hcn : c < n := by omega
                  have cc : ¬ nI n ≤ nI c := nI_ge hcn (by omega)
                  have clc : (nI c).toNatClampNeg = c := nI_clamp (by omega)
                  have hmk := hmo k hk2
                  have hlc : (la c - nI (mo k)).toInt = (la c).toInt - mo k := by
                    have h1 := hla c hcn
                    have h2 := hZ c hcn
                    have h3 := hsumb place c k hk
                    have e1 : (nI (mo k)).toInt = (mo k : Int) := ti_nI (by omega)
                    rw [ti_sub (by rw [e1]; omega) (by rw [e1]; omega), e1]
                  obtain ⟨pl2, c1, c2, c3, c4, c5, c6, c7, g1, g2, g3⟩ := t_settle hn hm hq hs hw hN hHd hA hA8 hmo hZ need (depth := depth) (place0 := place0) (moats := moats) (tides := tides) d (k + 1) (s - 1) (upd pl k (nI c)) (upd la c (la c - nI (mo k))) b1 b2 b3 b4 b5 b6 b7 (by omega) (by omega) (by omega) (hpk pl (nI c) f3 (Or.inr ⟨c, hcn, rfl, hak⟩)) (fun c' hc' => by
                    rw [hsk pl (nI c) c' f3]
                    by_cases ec : c' = c
                    · subst ec
                      rw [pk_us, if_pos rfl, hlc, hla c' hc']
                      omega
                    · have hne : ¬ nI c = nI c' := by rw [nI_eq (by omega) (by omega)]; omega
                      rw [pk_un ec, if_neg hne, hla c' hc', Nat.add_zero])
                  rw [hr2] at g1 g3
                  have hcg := fnd_congr (n := n) (ab := ab) hH (r := r) (k := k + 1) (f := upd pl k (nI c)) (g := upd place k (nI c)) (by omega) (fun j hj => by
                    by_cases e : j = k
                    · subst e; rw [pk_us, pk_us]
                    · rw [pk_un e, pk_un e]; exact f3 j (by omega)) (s - 1)
                  rw [hcg.1] at g1 g3
                  have hback : upd (upd la c (la c - nI (mo k))) c (la c - nI (mo k) + nI (mo k)) = la := by
                    rw [upd_upd, add_back, upd_id _ rfl]
                  have hpl2 : ∀ j, j < k → pl2 j = place j := fun j hj => by rw [g2 j (by omega), pk_un (by omega), f3 j hj]
                  cases hfc : fnd n ab Hd r (k + 1) (upd place k (nI c)) (s - 1)
                  · left
                    rw [hfc, b2i_f] at g1
                    refine ⟨hcn, (pl2, la, c1, c2, c3, c4, c5, c6, c7, nI (c + 1)), ⟨rfl, rfl, hpl2, fun c' hc' => ?_⟩, ?_⟩
                    · by_cases e : c' = c
                      · subst e; exact hfc
                      · exact f4 c' (by omega)
                    · simp only [fX1_settle_l74, if_neg cc, if_pos (inb_n hk8 (by omega)), if_pos (inb_n (show c < 12 by omega) (by omega)), cl, clc, hmk.1, nI_1, es1, g1, ob_s, if_true, pk_us, hback]
                  · right
                    rw [hfc, b2i_t] at g1
                    have hany : anyN (fun c => fnd n ab Hd r (k + 1) (upd place k (nI c)) (s - 1)) n = true := (anyN_iff _ n).mpr ⟨c, hcn, hfc⟩
                    have hfst : fstN (fun c => fnd n ab Hd r (k + 1) (upd place k (nI c)) (s - 1)) n = c := fst_uniq (by omega) f4 (fun _ => hfc)
                    refine ⟨pl2, c1, c2, c3, c4, c5, c6, c7, ?_, hpl2, fun _ j hj => by rw [hfst, g3 hfc j hj, hcg.2 j hj]⟩
                    rw [hany, b2i_t]
                    simp only [fX1_settle_l74, if_neg cc, if_pos (inb_n hk8 (by omega)), if_pos (inb_n (show c < 12 by omega) (by omega)), cl, clc, hmk.1, nI_1, es1, g1, ob_s, if_neg z10, pk_us, hback, fX1_settle_b146]
              obtain ⟨pl', p1, p2, p3, p4, p5, p6, p7, k1, k2, k3⟩ := key
              refine ⟨pl', p1, p2, p3, p4, p5, p6, p7, ?_, k2, fun z j hj => ?_⟩
              · rw [hfe2]
                simp only [fX1_settle_s, hhp, ob_s, if_true, if_pos zl, if_pos (inb_n hk8 (by omega)), cl, nI_1, r1, if_neg zs, if_neg zb]
                exact k1
              · rw [hfe2] at z
                rw [k3 z j hj]
                simp only [roF]
                rw [if_neg (by rw [hf0]; simp)]
        · rw [hf0, b2i_t] at r1
          have hft : fnd n ab Hd (r + 1) k place s = true := by simp only [fnd, hf0, Bool.true_or]
          refine ⟨pl1, a1, a2, a3, a4, a5, a6, a7, ?_, hpl1, fun _ j hj => ?_⟩
          · rw [hft, b2i_t]
            simp only [fX1_settle_s, hhp, ob_s, if_true, if_pos zl, if_pos (inb_n hk8 (by omega)), cl, nI_1, r1, if_neg z10]
          · rw [r3 hf0 j hj]
            simp only [roF]
            rw [if_pos hf0]
    · rw [hp, b2i_t] at hhp
      have hff : fnd n ab Hd (m - k) k place s = false := by
        cases e : fnd n ab Hd (m - k) k place s
        · rfl
        · have := hsd (fnd_ex hn (by omega) e)
          rw [hp] at this; cases this
      refine ⟨place, q1, q2, q3, q4, q5, q6, q7, ?_, fun _ _ => rfl, fun z => by rw [hff] at z; cases z⟩
      rw [hff, b2i_f]
      simp only [fX1_settle_s, hhp, ob_s, if_neg z10]
