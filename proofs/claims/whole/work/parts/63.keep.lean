/-! ===== keep, again ===== -/
def kpR (n m T ch : Nat) (kc km ks kt : Nat → Int32) (kw kd ko kp : Nat → Nat → Int32) (isK kch kept : Nat → Int32) : Prop := ∀ i, i < 3 → (kc i = nI m ∧ isK i = 1 ∧ kch i = nI ch ∧ riS n m T km ks kt kw kd ko kp i (fun k => kept (43 * i + k))) ∨ ((kc i = -1 ∨ ∃ j, j < m ∧ kc i = nI j) ∧ (isK i = 0 ∨ (isK i = 1 ∧ ∃ j, j < ch ∧ kch i = nI j)))
theorem kp_mono {n m T T2 ch : Nat} (h : T ≤ T2) {kc km ks kt : Nat → Int32} {kw kd ko kp : Nat → Nat → Int32} {isK kch kept : Nat → Int32} (hk : kpR n m T ch kc km ks kt kw kd ko kp isK kch kept) : kpR n m T2 ch kc km ks kt kw kd ko kp isK kch kept := by
  intro i hi
  rcases hk i hi with ⟨a, b, c, d⟩ | q
  · exact Or.inl ⟨a, b, c, SS_mono h d⟩
  · exact Or.inr q
theorem c_keep {n m T : Nat} {wall depth mood place now : Nat → Int32} {moats spades tides : Int32} (hn : n ≤ 12) (hm : m ≤ 8) (hs : SS n m T wall depth mood place moats spades tides now) {ch : Nat} {kc km ks kt : Nat → Int32} {kw kd ko kp : Nat → Nat → Int32} {isK kch kept : Nat → Int32} (hk : kpR n m T ch kc km ks kt kw kd ko kp isK kch kept) (thrown x : Int32) : ∃ a kc' km' ks' kt' kw' kd' ko' kp' isK' kch' kept', fX11_keep kc (nI m) km ks kt kw kd ko kp moats spades tides wall depth mood place x = some (a, kc', km', ks', kt', kw', kd', ko', kp') ∧ fX12_keep thrown (nI ch) now isK kch kept x = some (a, 0, isK', kch', kept') ∧ kpR n m T ch kc' km' ks' kt' kw' kd' ko' kp' isK' kch' kept' ∧ (a = 0 ∨ a = 1) := by
  have q := t_in x (L := 0) (H := 2) 0 2 rfl rfl
  by_cases hx : 0 ≤ x ∧ x ≤ 2
  · obtain ⟨i, -, hi, rfl⟩ := rng_n (a := 0) (b := 2) (by omega) (by omega) hx
    have i3 : inb (nI i) 3 := inb_n (by omega) (by omega)
    have cl : (nI i).toNatClampNeg = i := nI_clamp (by omega)
    have e38 : fX12_keep_b38 0 (nI ch) now (upd isK i (vp_nar .boolean 1)) (upd kch i (nI ch)) kept (nI i) 0 = some (1, 0, upd isK i (vp_nar .boolean 1), upd kch i (nI ch), fun q => if 43 * i ≤ q ∧ q < 43 * i + 43 then now (q - 43 * i) else kept q) := by
      unfold fX12_keep_b38
      have e43 : (43 : Int32) * nI i = nI (43 * i) := pk_mul 43 i
      refine lp_up (fun j => ((fun q => if 43 * i ≤ q ∧ q < 43 * i + j then now (q - 43 * i) else kept q), nI j)) 43 (by omega) ?_ ?_ ?_
      · refine Prod.ext ?_ rfl
        funext q
        show _ = if 43 * i ≤ q ∧ q < 43 * i + 0 then _ else _
        rw [if_neg (by omega)]
      · intro j hj k
        have h : ¬ (43 : Int32) ≤ nI j := nI_ge (b := 43) hj (by omega)
        have h6 : 43 * i + j < 129 := by omega
        have fn : upd (fun q => if 43 * i ≤ q ∧ q < 43 * i + j then now (q - 43 * i) else kept q) (43 * i + j) (now j) = (fun q => if 43 * i ≤ q ∧ q < 43 * i + (j + 1) then now (q - 43 * i) else kept q) := by
          funext q
          by_cases e : q = 43 * i + j
          · have e2 : 43 * i + j - 43 * i = j := by omega
            subst e; rw [pk_us, if_pos (by omega), e2]
          · rw [pk_un e]
            have : (43 * i ≤ q ∧ q < 43 * i + (j + 1)) ↔ (43 * i ≤ q ∧ q < 43 * i + j) := by omega
            simp only [this]
        rw [← fn]
        simp (disch := omega) [fX12_keep_b67, fX12_keep_l38, nI_leI, nI_ltI, nI_clamp, nI_pos', nI_1, nI_eq, h, hj, e43, nI_add, h6]
      · intro k
        have h : (43 : Int32) ≤ nI 43 := by decide
        simp [fX12_keep_b67, fX12_keep_l38, h]
    have hv := j_copy hn hm hs (kw i) (kd i) (ko i) (kp i) (fun _ => 0)
    refine ⟨1, upd kc i (nI m), va_up km i moats, va_up ks i spades, va_up kt i tides, va_up kw i (va_cpy wall (kw i) 0 0 12), va_up kd i (va_cpy depth (kd i) 0 0 12), va_up ko i (va_cpy mood (ko i) 0 0 8), va_up kp i (va_cpy place (kp i) 0 0 8), upd isK i (vp_nar .boolean 1), upd kch i (nI ch), fun q => if 43 * i ≤ q ∧ q < 43 * i + 43 then now (q - 43 * i) else kept q, ?_, ?_, ?_, Or.inr rfl⟩
    · simp only [fX11_keep, t_within, hx, decide_true, b2i_t, ob_s, if_pos i3, cl, t_copy]
      rfl
    · simp only [fX12_keep, q, hx, decide_true, b2i_t, ob_s, if_pos i3, cl, e38]
      rfl
    · intro j hj
      by_cases e : j = i
      · subst e
        left
        refine ⟨pk_us, by rw [pk_us]; decide, pk_us, ?_⟩
        unfold riS
        rw [va_up_self, va_up_self, va_up_self, va_up_self, va_up_self, va_up_self, va_up_self]
        exact SS_congr hn hm hv (fun _ _ => rfl) (fun _ _ => rfl) (fun _ _ => rfl) (fun _ _ => rfl) (fun k hk => by
          have e : 43 * j + k - 43 * j = k := by omega
          show (if 43 * j ≤ 43 * j + k ∧ 43 * j + k < 43 * j + 43 then _ else _) = _
          rw [if_pos (by omega), e, fill_lt _ _ hk])
      · rw [pk_un e, pk_un e, pk_un e]
        rcases hk j hj with ⟨a, b, c, d⟩ | d
        · left
          refine ⟨a, b, c, ?_⟩
          unfold riS at d ⊢
          rw [va_up_ne _ _ e, va_up_ne _ _ e, va_up_ne _ _ e, va_up_ne _ _ e, va_up_ne _ _ e, va_up_ne _ _ e, va_up_ne _ _ e]
          exact SS_congr hn hm d (fun _ _ => rfl) (fun _ _ => rfl) (fun _ _ => rfl) (fun _ _ => rfl) (fun k hk => by
            show (if 43 * i ≤ 43 * j + k ∧ 43 * j + k < 43 * i + 43 then _ else _) = _
            rw [if_neg (by omega)])
        · exact Or.inr d
  · refine ⟨0, kc, km, ks, kt, kw, kd, ko, kp, isK, kch, kept, ?_, ?_, hk, Or.inl rfl⟩
    · simp [fX11_keep, t_within, hx, b2i]
    · simp [fX12_keep, q, hx, b2i]
theorem hR_0 {n m T : Nat} {next size undos : Int32} {rm rs rt undone : Nat → Int32} {rw rd ro rp : Nat → Nat → Int32} (hh : hR n m T next size rm rs rt rw rd ro rp undos undone) : hR n m T next 0 rm rs rt rw rd ro rp 0 undone := by
  obtain ⟨nx, u, h1, h2, e1, e2, e3, h3⟩ := hh
  exact ⟨nx, 0, h1, by omega, e1, rfl, rfl, fun j hj => absurd hj (by omega)⟩
theorem c_again {n m T : Nat} {wall depth mood place now : Nat → Int32} {moats spades tides : Int32} (hn : n ≤ 12) (hm : m ≤ 8) (hs : SS n m T wall depth mood place moats spades tides now) {ch : Nat} (hch : ch < 2 ^ 20) {kc km ks kt : Nat → Int32} {kw kd ko kp : Nat → Nat → Int32} {isK kch kept : Nat → Int32} (hk : kpR n m T ch kc km ks kt kw kd ko kp isK kch kept) {next size undos : Int32} {rm rs rt undone : Nat → Int32} {rw rd ro rp : Nat → Nat → Int32} (hh : hR n m T next size rm rs rt rw rd ro rp undos undone) (thrown x : Int32) : ∃ a size' mo sp ti wa de md pl undos' now', fX11_again kc (nI m) size km ks kt kw kd ko kp moats spades tides wall depth mood place x = some (a, size', mo, sp, ti, wa, de, md, pl) ∧ fX12_again thrown (nI ch) undos now isK kch kept x = some (a, 0, undos', now') ∧ SS n m T wa de md pl mo sp ti now' ∧ hR n m T next size' rm rs rt rw rd ro rp undos' undone ∧ (a = 0 ∨ a = 1) := by
  have q := t_in x (L := 0) (H := 2) 0 2 rfl rfl
  by_cases hx : 0 ≤ x ∧ x ≤ 2
  · obtain ⟨i, -, hi, rfl⟩ := rng_n (a := 0) (b := 2) (by omega) (by omega) hx
    have i3 : inb (nI i) 3 := inb_n (by omega) (by omega)
    have cl : (nI i).toNatClampNeg = i := nI_clamp (by omega)
    rcases hk i (by omega) with ⟨k1, k2, k3, k4⟩ | ⟨k1, k2⟩
    · have z1 : ¬ (1 : Int32) = 0 := by decide
      have e43' : fX12_again_b43 0 (nI ch) undos now isK kch kept (nI i) 0 = some (1, 0, 0, fillN (fun k => kept (43 * i + k)) now 43) := by
        unfold fX12_again_b43
        have e43 : (43 : Int32) * nI i = nI (43 * i) := pk_mul 43 i
        refine lp_up (fun j => (fillN (fun k => kept (43 * i + k)) now j, nI j)) 43 (by omega) (by rw [fill_0]; rfl) ?_ ?_
        · intro j hj k
          have h : ¬ (43 : Int32) ≤ nI j := nI_ge (b := 43) hj (by omega)
          have h6 : 43 * i + j < 129 := by omega
          have fs := fill_s (fun k => kept (43 * i + k)) now j
          rw [← fs]
          simp (disch := omega) [fX12_again_b39, fX12_again_b72, fX12_again_l43, nI_leI, nI_ltI, nI_clamp, nI_pos', nI_1, nI_eq, h, hj, e43, nI_add, h6]
        · intro k
          have h : (43 : Int32) ≤ nI 43 := by decide
          simp [fX12_again_b39, fX12_again_b72, fX12_again_l43, h]
      have hS := j_copy hn hm k4 wall depth mood place now
      refine ⟨1, 0, _, _, _, _, _, _, _, 0, _, ?_, ?_, hS, hR_0 hh, Or.inr rfl⟩
      · simp only [fX11_again, t_within, hx, decide_true, b2i_t, ob_s, if_pos i3, cl, k1, if_true, t_copy, fX4_clear]
        rfl
      · simp only [fX12_again, q, hx, decide_true, b2i_t, ob_s, if_pos i3, cl, k2, if_neg z1, k3, if_true, e43']
        rfl
    · have c1 : ¬ kc i = nI m := by
        rcases k1 with e | ⟨j, hj, e⟩
        · rw [e]; intro z
          have := nI_pos' (n := m) (by omega)
          rw [← z] at this
          exact absurd this (by decide)
        · rw [e, nI_eq (by omega) (by omega)]; omega
      refine ⟨0, size, moats, spades, tides, wall, depth, mood, place, undos, now, ?_, ?_, hs, hh, Or.inl rfl⟩
      · simp only [fX11_again, t_within, hx, decide_true, b2i_t, ob_s, if_pos i3, cl, if_neg c1, fX11_again_b25]
        rfl
      · rcases k2 with e | ⟨e, j, hj, e2⟩
        · simp only [fX12_again, q, hx, decide_true, b2i_t, ob_s, if_pos i3, cl, e, if_true, fX12_again_b39]
          rfl
        · have z1 : ¬ (1 : Int32) = 0 := by decide
          have z2 : ¬ nI j = nI ch := by rw [nI_eq (by omega) (by omega)]; omega
          simp only [fX12_again, q, hx, decide_true, b2i_t, ob_s, if_pos i3, cl, e, if_neg z1, e2, if_neg z2, fX12_again_b39]
          rfl
  · refine ⟨0, size, moats, spades, tides, wall, depth, mood, place, undos, now, ?_, ?_, hs, hh, Or.inl rfl⟩
    · simp [fX11_again, fX11_again_b25, t_within, hx, b2i]
    · simp [fX12_again, fX12_again_b39, q, hx, b2i]
/-! ===== treats ===== -/
theorem t_all : ∀ m, m < 13 → jshl 1 (nI m) - 1 = bitsN (fun _ => true) m := by decide +kernel
def ownN (x md : Nat) : Nat := (x + 1 - md + 2) / 3
theorem own_tab : ∀ x, x < 10 → ∀ md, md < 10 → (jmax 0 (nI x + 1 - nI md) + 3 - 1) / 3 = nI (ownN x md) := by decide +kernel
theorem own_lt : ∀ x, x < 9 → ∀ md, md < 10 → ∀ j, j < ownN x md → ¬ nI x < jmin 9 (nI md + 3 * nI j) := by decide +kernel
theorem own_ge : ∀ x, x < 9 → ∀ md, md < 10 → nI x < jmin 9 (nI md + 3 * nI (ownN x md)) := by decide +kernel
theorem own_b : ∀ x, x < 10 → ∀ md, md < 10 → ownN x md < 10 := by decide +kernel
theorem c_treats {n m T : Nat} {wall depth mood place now : Nat → Int32} {moats spades tides ts tr : Int32} {tn tw : Nat → Int64} (hn : n ≤ 12) (hm : m ≤ 8) (hs : SS n m T wall depth mood place moats spades tides now) (ht : toR ts tn tr tw) (thrown x : Int32) : ∃ a ts' tn' tr' tw', fX11_treats (nI m) mood place ts tn x = some (a, ts', tn') ∧ fX12_treats thrown tr (nI m) tw now x = some (a, 0, tr', tw') ∧ toR ts' tn' tr' tw' := by
  have q := t_in x (L := 1) (H := 9) 1 9 rfl rfl
  by_cases hx : 1 ≤ x ∧ x ≤ 9
  · obtain ⟨X, hX1, hX2, rfl⟩ := rng_n (a := 1) (b := 9) (by omega) (by omega) hx
    have eal := t_all m (by omega)
    have ewk : bitsN (fun _ => true) m &&& (bitsN (fun k => decide (place k = -1)) m ^^^ (-1)) = bitsN (fun k => true && !decide (place k = -1)) m := bits_andn _ _ (by omega)
    have eat : ∀ k, k < m → fX12_atOf now (nI k) = some (place k) := fun k hk => by rw [t_atOf (by omega), hs.2.2.2.2.1 k hk]
    have emo : ∀ k, k < m → fX12_moodOf now (nI k) = some (mood k) := fun k hk => by rw [t_moodOf (by omega), hs.2.2.2.1 k hk]
    have main : (X = 9 → ∀ k, k < m → place k = -1) → ∃ a ts' tn' tr' tw', fX11_treats_b57 (nI m) mood place 0 tn (nI X) (bitsN (fun k => true && !decide (place k = -1)) m) 0 0 = some (a, ts', tn') ∧ fX12_treats_b64 0 0 (nI m) tw now (nI X) 0 0 = some (a, 0, tr', tw') ∧ toR ts' tn' tr' tw' := by
      intro h9
      unfold fX11_treats_b57 fX12_treats_b64
      refine lq2 (fun r u => ∃ a ts' tn' tr' tw', r = some (a, ts', tn') ∧ u = some (a, 0, tr', tw') ∧ toR ts' tn' tr' tw') (fun i s t => s.1 = nI i ∧ t.1 = nI i ∧ s.2.2.2 = nI i ∧ t.2.2.2 = nI i ∧ s.2.2.1 = t.2.2.1 ∧ ∀ j, j < i → s.2.1 j = t.2.1 j) m (by omega) ⟨rfl, rfl, rfl, rfl, rfl, fun j hj => absurd hj (by omega)⟩ ?_
      intro i s t k1 k2 hi hI
      obtain ⟨a1, a2, a3, a4⟩ := s
      obtain ⟨b1, b2, b3, b4⟩ := t
      obtain ⟨f1, f2, f3, f4, f5, hJ⟩ := hI
      simp only at f1 f2 f3 f4 f5 hJ
      subst f1 f2 f3 f4 f5
      by_cases e : i = m
      · subst e
        right
        refine ⟨a3, nI i, a2, nI i, b2, ?_, ?_, i, by omega, rfl, rfl, hJ⟩
        · simp (disch := omega) [fX11_treats_b133, fX11_treats_b100, fX11_treats_l57, fX11_treats_b45, nI_leI, nI_ltI, nI_clamp, nI_pos', nI_1, nI_eq]
        · simp (disch := omega) [fX12_treats_b132, fX12_treats_b114, fX12_treats_l75, fX12_treats_l64, fX12_treats_b57, fX12_treats_b51, fX12_treats_b48, fX12_treats_l23, nI_leI, nI_ltI, nI_clamp, nI_pos', nI_1, nI_eq]
      · have hi2 : i < m := by omega
        have h8 : i < 8 := by omega
        have h12 : i < 12 := by omega
        left
        refine ⟨hi2, ?_⟩
        have hb : bitB (bitsN (fun k => true && !decide (place k = -1)) m) i = !decide (place i = -1) := by rw [bitB_bits _ (by omega) hi2]; rfl
        have nx : ∀ v : Int32, ∀ j, j < i + 1 → vp_updL a2 i v.toInt64 j = vp_updL b2 i v.toInt64 j := fun v j hj => by
          by_cases e : j = i
          · subst e; rw [pk_uLs, pk_uLs]
          · rw [pk_uLn e, pk_uLn e]; exact hJ j (by omega)
        have c64 : ¬ nI m ≤ nI i := nI_ge hi2 (by omega)
        by_cases hp : place i = -1
        · have z0 : ((0 : Int32) + 3 - 1) / 3 = 0 := by decide
          refine ⟨(nI (i + 1), vp_updL a2 i (0 : Int32).toInt64, a3 + 0, nI (i + 1)), (nI (i + 1), vp_updL b2 i (0 : Int32).toInt64, a3 + 0, nI (i + 1)), ⟨rfl, rfl, rfl, rfl, rfl, nx 0⟩, ?_, ?_⟩
          · have hb0 : (jshr (bitsN (fun k => true && !decide (place k = -1)) m) (nI i) &&& 1 = 0) := (bitB_0 _ _).mpr (by rw [hb, hp]; rfl)
            show fX11_treats_l57 (nI m) mood place (nI X) (bitsN (fun k => true && !decide (place k = -1)) m) k1 (nI i) a2 a3 (nI i) = _
            simp only [fX11_treats_l57, if_neg c64, if_pos hb0, fX11_treats_b100, z0, t_add h12, ob_s, nI_1]
          · show fX12_treats_l64 0 (nI m) now (nI X) k2 (nI i) b2 a3 (nI i) = _
            rw [fX12_treats_l64, if_neg c64]
            unfold fX12_treats_b75
            refine lp_up (fun j => (0 : Int32)) 0 (by omega) rfl (fun i hi => absurd hi (by omega)) ?_
            intro k
            have hl : (-1 : Int32) < 0 := by decide
            simp only [fX12_treats_l75, eat i hi2, ob_s, hp, if_pos hl, fX12_treats_b114, t_ent (show i < 24 by omega), nI_1]
        · have hX9 : X < 9 := by
            rcases Nat.lt_or_ge X 9 with z | z
            · exact z
            · exact absurd (h9 (by omega) i hi2) hp
          obtain ⟨md, hmd, emd⟩ := nI_of2 (x := mood i) (M := 9) (n := 9) rfl (by have := (hs.1.2.2.1 i hi2).1; grind) (hs.1.2.2.1 i hi2).2
          have hob := own_b X (by omega) md (by omega)
          have hl : ¬ place i < 0 := (i_ge0 (hs.1.2.2.2.1 i hi2).1 hp).2
          refine ⟨(nI (i + 1), vp_updL a2 i (nI (ownN X md)).toInt64, a3 + nI (ownN X md), nI (i + 1)), (nI (i + 1), vp_updL b2 i (nI (ownN X md)).toInt64, a3 + nI (ownN X md), nI (i + 1)), ⟨rfl, rfl, rfl, rfl, rfl, nx _⟩, ?_, ?_⟩
          · have hb0 : ¬ (jshr (bitsN (fun k => true && !decide (place k = -1)) m) (nI i) &&& 1 = 0) := by
              rw [bitB_0, hb]; simp [hp]
            have ot := own_tab X (by omega) md (by omega)
            rw [nI_1] at ot
            show fX11_treats_l57 (nI m) mood place (nI X) (bitsN (fun k => true && !decide (place k = -1)) m) k1 (nI i) a2 a3 (nI i) = _
            simp only [fX11_treats_l57, if_neg c64, if_neg hb0, if_pos (inb_n h8 (by omega)), nI_clamp (show i < 2 ^ 31 by omega), emd, fX11_treats_b100, ot, t_add h12, ob_s, nI_1]
          · show fX12_treats_l64 0 (nI m) now (nI X) k2 (nI i) b2 a3 (nI i) = _
            rw [fX12_treats_l64, if_neg c64]
            unfold fX12_treats_b75
            refine lp_up (fun j => nI j) (ownN X md) (by omega) rfl ?_ ?_
            · intro j hj k
              have z := own_lt X hX9 md (by omega) j hj
              simp only [fX12_treats_l75, eat i hi2, emo i hi2, ob_s, if_neg hl, emd, if_neg z, nI_1]
            · intro k
              have z := own_ge X hX9 md (by omega)
              simp only [fX12_treats_l75, eat i hi2, emo i hi2, ob_s, if_neg hl, emd, if_pos z, fX12_treats_b114, t_ent (show i < 24 by omega), nI_1]
    have ctl : ∀ (P : Option (Int32 × Int32 × Int32 × (Nat → Int64)) → Prop), ((∀ k, k < m → place k = -1) ∨ ¬ X = 9 → P (fX12_treats_b64 0 0 (nI m) tw now (nI X) 0 0)) → ((∃ k, k < m ∧ ¬ place k = -1) → X = 9 → P (some (-2, 0, tr, tw))) → P (fX12_treats_b23 0 tr (nI m) tw now (nI X) 0 0) := by
      intro P hP1 hP2
      unfold fX12_treats_b23
      refine lp_inv P (fun i s => s = nI i ∧ (X = 9 → ∀ k, k < i → place k = -1)) m (by omega) ⟨rfl, fun _ k hk => absurd hk (by omega)⟩ ?_
      intro i s k hi hI
      obtain ⟨rfl, hI⟩ := hI
      by_cases e : i = m
      · subst e
        right
        have hle : nI i ≤ nI i := nI_le (Nat.le_refl i) (by omega)
        simp only [fX12_treats_l23, if_pos hle, fX12_treats_b57]
        apply hP1
        by_cases h9 : X = 9
        · exact Or.inl (hI h9)
        · exact Or.inr h9
      · have hi2 : i < m := by omega
        have c64 : ¬ nI m ≤ nI i := nI_ge hi2 (by omega)
        by_cases hp : place i = -1
        · left
          have hl : (-1 : Int32) < 0 := by decide
          refine ⟨hi2, nI (i + 1), ⟨rfl, fun h9 j hj => ?_⟩, ?_⟩
          · by_cases e : j = i
            · subst e; exact hp
            · exact hI h9 j (by omega)
          · simp only [fX12_treats_l23, if_neg c64, eat i hi2, ob_s, hp, if_pos hl, fX12_treats_b51, nI_1]
        · have hl : ¬ place i < 0 := (i_ge0 (hs.1.2.2.2.1 i hi2).1 hp).2
          by_cases h9 : X = 9
          · right
            subst h9
            have z9 : nI 9 = 9 := rfl
            simp only [fX12_treats_l23, if_neg c64, eat i hi2, ob_s, if_neg hl, z9, if_true, fX12_treats_b48]
            exact hP2 ⟨i, hi2, hp⟩ rfl
          · left
            have z9 : ¬ nI X = 9 := by
              show ¬ nI X = nI 9
              rw [nI_eq (by omega) (by omega)]; exact h9
            refine ⟨hi2, nI (i + 1), ⟨rfl, fun h => absurd h h9⟩, ?_⟩
            simp only [fX12_treats_l23, if_neg c64, eat i hi2, ob_s, if_neg hl, if_neg z9, fX12_treats_b51, nI_1]
    have eM : fX12_treats thrown tr (nI m) tw now (nI X) = fX12_treats_b23 0 tr (nI m) tw now (nI X) 0 0 := by
      simp only [fX12_treats, q, hx, decide_true, b2i_t, ob_s]
      rfl
    rw [eM]
    have eC1 : (X = 9 → ∀ k, k < m → place k = -1) → fX11_treats (nI m) mood place ts tn (nI X) = fX11_treats_b57 (nI m) mood place 0 tn (nI X) (bitsN (fun k => true && !decide (place k = -1)) m) 0 0 := by
      intro h9
      by_cases hc : nI X + 1 ≤ 9
      · simp only [fX11_treats, t_within, hx, decide_true, b2i_t, ob_s, fX2_all, t_atHome hm, eal, ewk, if_pos hc, fX11_treats_b45, fX8_clear]
        rfl
      · have hX : X = 9 := by
          rw [nI_1] at hc
          have : ¬ X + 1 ≤ 9 := fun z => hc (nI_le (b := 9) z (by omega))
          omega
        have hw : bitsN (fun k => true && !decide (place k = -1)) m = 0 := (bits_0 (by omega)).mpr (fun k hk => by simp [h9 hX k hk])
        simp only [fX11_treats, t_within, hx, decide_true, b2i_t, ob_s, fX2_all, t_atHome hm, eal, ewk, if_neg hc, if_pos hw, fX11_treats_b45, fX8_clear]
        rfl
    refine ctl (fun u => ∃ a ts' tn' tr' tw', fX11_treats (nI m) mood place ts tn (nI X) = some (a, ts', tn') ∧ u = some (a, 0, tr', tw') ∧ toR ts' tn' tr' tw') ?_ ?_
    · intro h
      have h9 : X = 9 → ∀ k, k < m → place k = -1 := fun z => by
        rcases h with h | h
        · exact h
        · exact absurd z h
      rw [eC1 h9]
      exact main h9
    · rintro ⟨k, hk, hp⟩ h9
      subst h9
      refine ⟨-2, ts, tn, tr, tw, ?_, rfl, ht⟩
      have hc : ¬ nI 9 + 1 ≤ 9 := by decide
      have hw : ¬ bitsN (fun k => true && !decide (place k = -1)) m = 0 := fun z => by
        have := (bits_0 (by omega)).mp z k hk
        simp [hp] at this
      simp only [fX11_treats, t_within, hx, decide_true, b2i_t, ob_s, fX2_all, t_atHome hm, eal, ewk, if_neg hc, if_neg hw]
      rfl
  · refine ⟨-1, ts, tn, tr, tw, ?_, ?_, ht⟩
    · simp [fX11_treats, t_within, hx, b2i]
    · simp [fX12_treats, q, hx, b2i]
