/-! ===== children: the call ===== -/
theorem isW_le {a c : Nat} (h : a ≤ c) {x : Int32} (hw : isW a x) : isW c x := by
  obtain ⟨w, h1, h2⟩ := hw
  exact ⟨w, Nat.lt_of_lt_of_le h1 (Nat.pow_le_pow_right (by omega) h), h2⟩
theorem c_children {n m T : Nat} {age skill friend pals age' skill' friend' wall depth mood place now : Nat → Int32} {moats spades tides : Int32} (hn : n ≤ 12) (hm : m ≤ 8) (hc : crR m age skill friend pals age' skill' friend') (hs : SS n m T wall depth mood place moats spades tides now) (hz : plZ m pals) {ln tp : Int32} {signs tape : Nat → Int32} (hx0 : txR ln signs tp tape) {ch : Nat} {kc km ks kt : Nat → Int32} {kw kd ko kp : Nat → Nat → Int32} {isK kch kept : Nat → Int32} (hk : kpR n m T ch kc km ks kt kw kd ko kp isK kch kept) {next size undos : Int32} {rm rs rt undone : Nat → Int32} {rw rd ro rp : Nat → Nat → Int32} (hh : hR n m T next size rm rs rt rw rd ro rp undos undone) (rdd : Nat → Int32) (thrown at_ to ne rmy : Int32) :
    ∃ a m' ch' ag sk fr pa size' mo pl at2 to2 ne2 rmy' un' ag' sk' fr' now' rdd', fX11_children (nI m) age skill friend pals size mood place ln signs = some (a, nI m', ag, sk, fr, pa, size', mo, pl, 0) ∧
      fX12_children thrown (nI m) (nI ch) tp at_ to ne rmy undos age' skill' friend' now tape rdd = some (a, 0, nI m', nI ch', 0, at2, to2, ne2, rmy', un', ag', sk', fr', now', rdd') ∧
      m' ≤ 8 ∧ ch' ≤ ch + 1 ∧ crR m' ag sk fr pa ag' sk' fr' ∧ plZ m' pa ∧ SS n m' T wall depth mo pl moats spades tides now' ∧ hR n m' T next size' rm rs rt rw rd ro rp un' undone ∧ kpR n m' T ch' kc km ks kt kw kd ko kp isK kch kept := by
  obtain ⟨k, b, rfl, rfl, hx⟩ := tx_B hx0
  have hk8 := hx.1
  have ejm : jmin (nI k) 47 = nI (min k 47) := jmin_n (b := 47) (by omega) (by omega)
  by_cases k0 : k = 0
  · subst k0
    refine ⟨0, m, ch, age, skill, friend, pals, size, mood, place, nI 0, nI 0, 0, nI 0, undos, age', skill', friend', now, rdd, ?_, ?_, hm, by omega, hc, hz, hs, hh, hk⟩
    · rw [fX11_children, fX2_read, if_pos (show nI 0 = 0 from rfl), ob_s, if_pos (Int32.le_refl _)]; rfl
    · rw [fX12_children, fX12_begins, ob_s, if_pos (show nI 0 ≤ 0 by decide), fX12_children_b28]
      have e : fX12_children_b29 0 (nI m) (nI ch) 0 0 (nI 0) 0 0 undos age' skill' friend' now tape rdd (nI 0) 1 0 = fX12_children_b60 0 (nI m) (nI ch) 0 (nI 0) (nI 0) 0 (nI 0) undos age' skill' friend' now tape rdd (nI 0) 1 := by
        refine lp_up (fun _ => ((0 : Int32), (0 : Int32), rdd, (1 : Int32), (0 : Int32))) 0 (by omega) rfl (fun i hi => absurd hi (by omega)) ?_
        intro K
        show fX12_children_l29 0 (nI m) (nI ch) 0 (nI 0) 0 undos age' skill' friend' now tape (nI 0) K 0 0 rdd 1 0 = _
        rw [fX12_children_l29, if_pos rfl]; rfl
      rw [ejm]
      refine Eq.trans e ?_
      rw [fX12_children_b60, flt_1 (k := 0) (to := 0) (q := 0) (by omega) rfl (by omega), ob_s, if_pos rfl, if_pos (Int32.le_refl _), ch_81 (r := 0) (by omega), fX12_children_b198, if_pos (show nI 0 ≤ 0 by decide), fX12_children_b220, spn_0, spn_0, spn_0]
      have : nwC m 0 now = now := by funext q; unfold nwC; rw [if_neg (by omega)]
      rw [this]; rfl
  · have q := ch_loop hx (to := min k 47) (m := m) rfl age skill friend pals (nI ch) undos age' skill' friend' now 9 0 0 age skill friend rdd 1 FUEL FUEL (by omega) (by omega) (by omega) (Nat.le_of_lt (lt_F (by omega))) (Nat.le_of_lt (lt_F (by omega))) ⟨fun j _ => ⟨rfl, rfl, rfl⟩, fun c hc => absurd hc (by omega), fun c hc => absurd hc (by omega)⟩
    have c0 : fX2_read (nI m) age skill friend pals (nI k) signs = loopN (fun (s : (Nat → Int32) × (Nat → Int32) × (Nat → Int32) × Int32 × Int32 × Int32) k19 => fX2_read_l19 (nI m) pals (nI k) signs k19 s.1 s.2.1 s.2.2.1 s.2.2.2.1 s.2.2.2.2.1 s.2.2.2.2.2) FUEL (age, skill, friend, nI (m + 0), nI 0, 1) := by
      rw [fX2_read, if_neg (nI_ne0 (by omega) (by omega))]; rfl
    have m0 : fX12_children thrown (nI m) (nI ch) (nI k) at_ to ne rmy undos age' skill' friend' now tape rdd = loopN (fun (s : Int32 × Int32 × (Nat → Int32) × Int32 × Int32) k29 => fX12_children_l29 0 (nI m) (nI ch) 0 (nI (min k 47)) 0 undos age' skill' friend' now tape (nI k) k29 s.1 s.2.1 s.2.2.1 s.2.2.2.1 s.2.2.2.2) FUEL (nI 0, nI 0, rdd, 1, 1) := by
      rw [fX12_children, fX12_begins, ob_s, ejm, if_neg (nI_nle (by omega) (by omega))]; rfl
    rw [m0]
    rw [← c0] at q
    rcases q with ⟨p, ag, sk, fr, at2, rmy', rd', hp, hj, e1, e2⟩ | ⟨r, ag, sk, fr, at2, rd', hr1, hr8, hS, e1, e2⟩
    · have z : (-1 : Int32) - nI p ≤ 0 := (by decide +kernel : ∀ q, q ≤ 80 → (-1 : Int32) - nI q ≤ 0) p (by omega)
      refine ⟨-1 - nI p, m, ch, ag, sk, fr, pals, size, mood, place, at2, nI (min k 47), 0, rmy', undos, age', skill', friend', now, rd', ?_, e2, hm, by omega, ?_, hz, hs, hh, hk⟩
      · rw [fX11_children, e1, ob_s, if_pos z, fX11_children_b47]
      · obtain ⟨a1, a2, a3, a4⟩ := hc
        refine ⟨fun c hc => ?_, fun c hc => ?_, fun c o hc ho => ?_, fun c hc => ?_⟩
        · rw [(hj c hc).1, (hj c hc).2.1, (hj c hc).2.2]; exact a1 c hc
        · rw [(hj c hc).1, (hj c hc).2.1]; exact a2 c hc
        · rw [a3 c o hc ho]; unfold palB; rw [(hj c hc).2.2, (hj o ho).2.2]
        · rw [(hj c hc).2.2]; exact a4 c hc
    · obtain ⟨a1, a2, a3, a4⟩ := hc
      obtain ⟨s1, s2, s3⟩ := hS
      have fo : frOk fr (m + r) := by
        intro c hc
        by_cases e : c < m
        · rw [(s1 c e).2.2]; exact a4 c e
        · have := (s3 (c - m) (by omega)).2.2.2.2
          rw [show m + (c - m) = c by omega] at this; exact this
      obtain ⟨pa, e3, hpa, hza⟩ := t_befriend hr8 (by omega) fo (fun c o hc ho => by rw [a3 c o hc ho]; unfold palB; rw [(s1 c hc).2.2, (s1 o ho).2.2]) hz
      rw [e3, ob_s] at e1
      have er : nI (m + r) - nI m = nI r := by rw [pk_sub (by omega)]; congr 1; omega
      have z : ¬ nI r ≤ 0 := nI_nle (by omega) (by omega)
      obtain ⟨⟨o1, o2, o3, o4, o5, o6, t, o7, o8⟩, t1, t2, t3, t4, t5, t6, t7⟩ := hs
      refine ⟨nI r, m + r, ch + 1, ag, sk, fr, pa, 0, spn m r (fun _ => 5) mood, spn m r (fun _ => -1) place, at2, nI (min k 47), 0, nI r, 0, spn m r (fun c => rd' (3 * c)) age', spn m r (fun c => rd' (3 * c + 1)) skill', spn m r (fun c => rd' (3 * c + 2)) friend', nwC m r now, rd', ?_, ?_, hr8, by omega, ?_, hza, ?_, ?_, ?_⟩
      · rw [fX11_children, e1, er, ob_s, if_neg z, t_welcome hr8, ob_s, fX4_clear, ob_s, fX11_children_b47]
      · rw [e2, ch_81 hr8, fX12_children_b198, if_neg z, fX12_children_b220, nI_1]
      · refine ⟨fun c hc => ?_, fun c hc => ?_, hpa, fo⟩
        · by_cases e : c < m
          · rw [spn_lt e, spn_lt e, spn_lt e, (s1 c e).1, (s1 c e).2.1, (s1 c e).2.2]; exact a1 c e
          · have q := s2 (c - m) (by omega)
            rw [show c = m + (c - m) by omega, spn_in (by omega), spn_in (by omega), spn_in (by omega)]
            exact q
        · by_cases e : c < m
          · rw [(s1 c e).1, (s1 c e).2.1]; exact a2 c e
          · have q := s3 (c - m) (by omega)
            rw [show m + (c - m) = c by omega] at q
            exact ⟨q.1, q.2.1, q.2.2.1, q.2.2.2.1⟩
      · refine ⟨⟨o1, o2, ?_, ?_, o5, isW_le (by omega) o6, t, o7, o8⟩, ?_, ?_, ?_, ?_, ?_, ?_, ?_⟩
        · intro c hc
          by_cases e : c < m
          · rw [spn_lt e]; exact o3 c e
          · rw [show c = m + (c - m) by omega, spn_in (by omega)]; decide
        · intro c hc
          by_cases e : c < m
          · rw [spn_lt e]; exact o4 c e
          · rw [show c = m + (c - m) by omega, spn_in (by omega)]
            exact ⟨by decide, Int32.lt_of_lt_of_le (by decide) (nI_pos' (by omega))⟩
        · intro c hc; unfold nwC; rw [if_neg (by omega)]; exact t1 c hc
        · intro c hc; unfold nwC; rw [if_neg (by omega)]; exact t2 c hc
        · intro c hc; unfold nwC
          by_cases e : c < m
          · rw [if_neg (by omega), spn_lt e]; exact t3 c e
          · rw [if_pos (by omega), if_neg (by omega), show c = m + (c - m) by omega, spn_in (by omega)]
        · intro c hc; unfold nwC
          by_cases e : c < m
          · rw [if_neg (by omega), spn_lt e]; exact t4 c e
          · rw [if_pos (by omega), if_pos (by omega), show c = m + (c - m) by omega, spn_in (by omega)]
        · unfold nwC; rw [if_neg (by omega)]; exact t5
        · unfold nwC; rw [if_neg (by omega)]; exact t6
        · unfold nwC; rw [if_neg (by omega)]; exact t7
      · obtain ⟨nx, u, h1, h2, e1, e2, e3, h3⟩ := hh
        exact ⟨nx, 0, h1, by omega, e1, rfl, rfl, fun j hj => absurd hj (by omega)⟩
      · intro i hi
        right
        rcases hk i hi with ⟨a, b, c, d⟩ | ⟨q1, q2⟩
        · exact ⟨Or.inr ⟨m, by omega, a⟩, Or.inr ⟨b, ch, by omega, c⟩⟩
        · refine ⟨?_, ?_⟩
          · rcases q1 with q | ⟨j, hj, e⟩
            · exact Or.inl q
            · exact Or.inr ⟨j, by omega, e⟩
          · rcases q2 with q | ⟨q, j, hj, e⟩
            · exact Or.inl q
            · exact Or.inr ⟨q, j, by omega, e⟩
