/-! ===== a summer ===== -/
theorem j_tale {k : Nat} {b : Nat → Nat} {signs tape : Nat → Int32} (hx : txB k b signs tape) {to : Nat} (ht : to = min k 60) {n m : Nat} {tr long undos wh lvl : Int32} {tw : Nat → Int64} {base' dyke' age' skill' friend' fixed now code st as undone gets : Nat → Int32} : ∀ d p i S O W f1 f2 pos, to - p = d → p ≤ to → i ≤ p → pos i = p → posOk b i to pos S O W → d < f1 → d + 1 < f2 →
    (∃ q at2 i' S' O' W', q ≤ 80 ∧ loopN (fun (s : Int32) k15 => fX11_faultOfTale_l15 (nI k) signs (nI to) k15 s) f1 (nI p) = some (nI q) ∧ loopN (fun (s : Int32 × Int32 × (Nat → Int32) × (Nat → Int32) × (Nat → Int32) × Int32) k19 => fX12_summer_l19 0 tr (nI n) (nI m) 0 (nI to) 0 long undos wh lvl tw base' dyke' age' skill' friend' fixed now tape code st as undone gets (nI k) k19 s.1 s.2.1 s.2.2.1 s.2.2.2.1 s.2.2.2.2.1 s.2.2.2.2.2) f2 (nI p, nI i, S, O, W, 1) = some (-1 - nI q, 0, tr, 0, at2, nI to, 0, undos, wh, lvl, i', tw, now, st, as, undone, gets, S', O', W')) ∨
    (∃ A pos S' O' W', A ≤ 60 ∧ to = k ∧ pos A = k ∧ posOk b A k pos S' O' W' ∧ loopN (fun (s : Int32) k15 => fX11_faultOfTale_l15 (nI k) signs (nI to) k15 s) f1 (nI p) = some (-1) ∧ loopN (fun (s : Int32 × Int32 × (Nat → Int32) × (Nat → Int32) × (Nat → Int32) × Int32) k19 => fX12_summer_l19 0 tr (nI n) (nI m) 0 (nI to) 0 long undos wh lvl tw base' dyke' age' skill' friend' fixed now tape code st as undone gets (nI k) k19 s.1 s.2.1 s.2.2.1 s.2.2.2.1 s.2.2.2.2.1 s.2.2.2.2.2) f2 (nI p, nI i, S, O, W, 1) = (fX12_putsBy undos now undone).bind (fun r14 => fX12_summer_b64 0 tr (nI n) (nI m) 0 (nI to) (nI to) 0 long undos wh lvl (nI A) tw base' dyke' age' skill' friend' fixed now tape code st as r14 gets S' O' W' 0)) := by
  have hk := hx.1
  intro d
  induction d using Nat.strongRecOn with
  | ind d ih =>
  intro p i S O W f1 f2 pos hd hp hip hpos hP hf1 hf2
  obtain ⟨f1, rfl⟩ : ∃ g, f1 = g + 1 := ⟨f1 - 1, by omega⟩
  obtain ⟨f2, rfl⟩ : ∃ g, f2 = g + 2 := ⟨f2 - 2, by omega⟩
  have uc : loopN (fun (s : Int32) k15 => fX11_faultOfTale_l15 (nI k) signs (nI to) k15 s) (f1 + 1) (nI p) = fX11_faultOfTale_l15 (nI k) signs (nI to) (loopN (fun (s : Int32) k15 => fX11_faultOfTale_l15 (nI k) signs (nI to) k15 s) f1) (nI p) := loopN_s _ _ _
  have um : ∀ a i x x' y z w, loopN (fun (s : Int32 × Int32 × (Nat → Int32) × (Nat → Int32) × (Nat → Int32) × Int32) k19 => fX12_summer_l19 0 tr (nI n) (nI m) 0 (nI to) 0 long undos wh lvl tw base' dyke' age' skill' friend' fixed now tape code st as undone gets (nI k) k19 s.1 s.2.1 s.2.2.1 s.2.2.2.1 s.2.2.2.2.1 s.2.2.2.2.2) (a + 1) (x, i, x', y, z, w) = fX12_summer_l19 0 tr (nI n) (nI m) 0 (nI to) 0 long undos wh lvl tw base' dyke' age' skill' friend' fixed now tape code st as undone gets (nI k) (loopN (fun (s : Int32 × Int32 × (Nat → Int32) × (Nat → Int32) × (Nat → Int32) × Int32) k19 => fX12_summer_l19 0 tr (nI n) (nI m) 0 (nI to) 0 long undos wh lvl tw base' dyke' age' skill' friend' fixed now tape code st as undone gets (nI k) k19 s.1 s.2.1 s.2.2.1 s.2.2.2.1 s.2.2.2.2.1 s.2.2.2.2.2) a) x i x' y z w := fun _ _ _ _ _ _ _ => loopN_s _ _ _
  rw [uc, um, fX12_summer_l19, if_neg (show ¬ (1 : Int32) = 0 by decide)]
  by_cases e : p = to
  · subst e
    have fl : fX12_faultOf (nI p) (nI p) (nI k) 60 1 = some (if p = k then 0 else -1 - nI p) := fltL_1 (W := 60) (by omega) hk ht (Nat.le_refl _)
    rw [if_pos (Int32.le_refl _), fX12_summer_b42, fl, ob_s, fX11_faultOfTale_l15, if_pos (Int32.le_refl _), fX11_faultOfTale_b93, fX11_faultOfTale_b109, fX11_faultOfTale_b109]
    by_cases e2 : p = k
    · subst e2
      right
      rw [if_pos rfl, if_pos (Int32.le_refl _), if_pos (Int32.le_refl _)]
      exact ⟨i, pos, S, O, W, by omega, rfl, hpos, hP, rfl, rfl⟩
    · left
      rw [if_neg e2, if_neg (nI_ge (by omega) (by omega)), if_neg ((by decide +kernel : ∀ q, q ≤ 80 → ¬ (0 : Int32) ≤ -1 - nI q) p (by omega))]
      exact ⟨p, nI p, nI i, S, O, W, by omega, rfl, rfl⟩
  · rw [if_neg (nI_ge (show p < to by omega) (by omega))]
    rcases j_actP hx (to := to) (p := p) (i := i) (by omega) (by omega) (by omega) S O W with ⟨q, i', S', O', W', h1, h2, h3, h4⟩ | ⟨p', S', O', W', h1, h2, h3, h4, h5, h6⟩
    · left
      have fl : fX12_faultOf (nI q) (nI to) (nI k) 60 0 = some (-1 - nI q) := fltL_0 (W := 60) (by omega) hk ht h2
      rw [h3, h4, ob_s, um, fX12_summer_l19, if_pos rfl, fX12_summer_b42, fl, ob_s, if_neg ((by decide +kernel : ∀ q, q ≤ 80 → ¬ (0 : Int32) ≤ -1 - nI q) q (by omega))]
      exact ⟨q, nI q, i', S', O', W', by omega, rfl, rfl⟩
    · rw [h5, h6, ob_s]
      refine ih (to - p') (by omega) p' (i + 1) S' O' W' f1 (f2 + 1) (fun j => if j ≤ i then pos j else p') rfl h2 (by omega) (by rw [if_neg (by omega)]) ⟨by dsimp only; rw [if_pos (by omega)]; exact hP.1, fun j hj => ?_⟩ (by omega) (by omega)
      dsimp only
      by_cases hji : j < i
      · rw [if_pos (by omega), if_pos (by omega), (h3 j hji).1, (h3 j hji).2.1, (h3 j hji).2.2]
        exact hP.2 j hji
      · have : j = i := by omega
        subst this
        rw [if_pos (by omega), if_neg (by omega), hpos]
        exact ⟨h1, h2, h4⟩

/-! an act of a summer -/
theorem t_wordA {k : Nat} {b : Nat → Nat} {signs tape : Nat → Int32} (hx : txB k b signs tape) {q : Nat} (hq : q < k) (h : 97 ≤ b q) : fX11_wordAt signs (nI q) = some (nI (b q - 97)) := by
  have hk := hx.1
  have hb := hx.2.1 q
  have z : dg (b q) = false := by
    cases e : dg (b q) with
    | false => rfl
    | true => have := dg_r e; omega
  have w : (0 : Int32) ≤ nI q ∧ nI q ≤ 79 := ⟨nI_pos' (by omega), nI_le (b := 79) (by omega) (by omega)⟩
  rw [fX11_wordAt, t_within]
  simp only [w, and_self, decide_true]
  rw [b2i_t, ob_s, if_neg (show ¬ (1 : Int32) = 0 by decide), if_pos (inb_n (show q < 80 by omega) (by omega)), nI_clamp (by omega), (hx.2.2 q hq).1, t_dg hb, ob_s, z, if_pos (show b2i false = 0 from rfl), fX11_wordAt_b40]
  exact congrArg some (pk_sub (b := 97) h)
theorem t_wordD {k : Nat} {b : Nat → Nat} {signs tape : Nat → Int32} (hx : txB k b signs tape) {q : Nat} (hq : q < k) (h : dg (b q) = true) : fX11_wordAt signs (nI q) = some (nI (b q - 48)) := by
  have hk := hx.1
  have hb := hx.2.1 q
  have w : (0 : Int32) ≤ nI q ∧ nI q ≤ 79 := ⟨nI_pos' (by omega), nI_le (b := 79) (by omega) (by omega)⟩
  rw [fX11_wordAt, t_within]
  simp only [w, and_self, decide_true]
  rw [b2i_t, ob_s, if_neg (show ¬ (1 : Int32) = 0 by decide), if_pos (inb_n (show q < 80 by omega) (by omega)), nI_clamp (by omega), (hx.2.2 q hq).1, t_dg hb, ob_s, h, if_neg (show ¬ b2i true = 0 by decide), fX11_wordAt_b40]
  exact congrArg some (dg_v h)
theorem s_act {n m T k : Nat} {F : Int32 → Int32 → Int32 → Int32 → Int32} {len long moats spades tides : Int32} {codes code base dyke base' dyke' age skill friend pals age' skill' friend' wall depth mood place now signs tape fixed : Nat → Int32} {b : Nat → Nat} (hn : n ≤ 12) (h1 : 1 ≤ n) (hm : m ≤ 8) (hC : laC F len codes) (hM : laM F long code) (hl : laR n base dyke base' dyke') (hc : crR m age skill friend pals age' skill' friend') (hs : SS n m T wall depth mood place moats spades tides now) (hx : txB k b signs tape) {p p' i : Nat} {S O W : Nat → Int32} (hA : actAt b p p' (S i) (O i) (W i)) (hp' : p' ≤ k) (hi : i < 60) {next size : Int32} {rm rs rt : Nat → Int32} {rw rd ro rp : Nat → Nat → Int32} (stack : Nat → Int32) (ts : Int32) (tn : Nat → Int64) (x3 wh lvl : Int32) (st as gets : Nat → Int32) (K : (Nat → Int32) × Int32 × Int32 × Int32 × (Nat → Int32) × (Nat → Int32) × (Nat → Int32) × (Nat → Int32) × Int32 × (Nat → Int64) × Int32 × Int32 × Int32 → Option (Int32 × Int32 × Int32 × (Nat → Int32) × Int32 × Int32 × Int32 × (Nat → Int32) × (Nat → Int32) × (Nat → Int32) × (Nat → Int32) × (Nat → Int32) × (Nat → Int32) × (Nat → Int32) × (Nat → Nat → Int32) × (Nat → Nat → Int32) × (Nat → Nat → Int32) × (Nat → Nat → Int32) × Int32 × Int32 × (Nat → Int64))) :
    ∃ a st1 mo' sp' ti' wa' de' md' pl' ts' tn' wh' lvl' now' st2 as2 gets', (fX11_summer_l49 (fixed 0) (fixed 1) (nI m) age skill pals (nI n) base dyke next size len codes rm rs rt rw rd ro rp 0 signs (nI k) K stack moats spades tides wall depth mood place ts tn x3 0 (nI p) = if (0 : Int32) ≤ a then K (st1, mo', sp', ti', wa', de', md', pl', ts', tn', x3 + 1, 0, nI p') else K (st1, mo', sp', ti', wa', de', md', pl', ts', tn', x3, 1, nI p')) ∧ fX12_does (nI n) (nI m) long wh lvl base' dyke' age' skill' friend' fixed now code st as gets S O W (nI i) = some (if (0 : Int32) ≤ a then 1 else 0, wh', lvl', now', st2, as2, gets') ∧ SS n m (T + 1) wa' de' md' pl' mo' sp' ti' now' := by
  have hk := hx.1
  have kp : p < k := by rcases hA with h | h | h | h | h | h | h <;> omega
  have l0 : fX11_summer_l49 (fixed 0) (fixed 1) (nI m) age skill pals (nI n) base dyke next size len codes rm rs rt rw rd ro rp 0 signs (nI k) K stack moats spades tides wall depth mood place ts tn x3 0 (nI p) = (fX11_wordsOf (nI (b p))).bind (fun r13 => if r13 ≤ (0 : Int32) then (fX11_summer_b96 (fixed 0) (fixed 1) (nI m) age skill pals (nI n) base dyke next size len codes stack moats spades tides wall depth mood place rm rs rt rw rd ro rp 0 signs ts tn (nI k) x3 0 (nI p) (nI (b p)) r13 (0 : Int32) K) else ((fX11_wordAt signs (nI (p + 1))).bind (fun r15 => fX11_summer_b96 (fixed 0) (fixed 1) (nI m) age skill pals (nI n) base dyke next size len codes stack moats spades tides wall depth mood place rm rs rt rw rd ro rp 0 signs ts tn (nI k) x3 0 (nI p) (nI (b p)) r13 r15 K))) := by
    rw [fX11_summer_l49, if_neg (nI_ge kp (by omega)), if_pos rfl, if_pos (inb_n (show p < 80 by omega) (by omega)), nI_clamp (by omega), (hx.2.2 p kp).1, nI_1]
  have fin : ∀ (x y wd : Int32) (dp : Nat) (a : Int32) st1 mo' sp' ti' wa' de' md' pl' ts' tn', jmax wd 0 = nI dp → fX11_perform (fixed 0) (fixed 1) (nI m) age skill pals (nI n) base dyke len codes stack moats spades tides wall depth mood place ts tn (nI (b p)) x y = some (a, st1, mo', sp', ti', wa', de', md', pl', ts', tn') → fX11_summer_b116 (fixed 0) (fixed 1) (nI m) age skill pals (nI n) base dyke next size len codes stack moats spades tides wall depth mood place rm rs rt rw rd ro rp 0 signs ts tn (nI k) x3 0 (nI p) (nI (b p)) wd x y K = if (0 : Int32) ≤ a then K (st1, mo', sp', ti', wa', de', md', pl', ts', tn', x3 + 1, 0, nI (p + (1 + dp))) else K (st1, mo', sp', ti', wa', de', md', pl', ts', tn', x3, 1, nI (p + (1 + dp))) := by
    intro x y wd dp a st1 mo' sp' ti' wa' de' md' pl' ts' tn' hw ep
    have ej : nI p + (1 + jmax wd 0) = nI (p + (1 + dp)) := by
      rw [hw, show (1 : Int32) = nI 1 from rfl, nI_add, nI_add]
    rw [fX11_summer_b116, ep, ob_s, fX11_summer_b140, fX11_summer_b140, ej]
  have one : ∀ (x : Int32) (a : Int32) st1 mo' sp' ti' wa' de' md' pl' ts' tn', fX11_wordsOf (nI (b p)) = some 1 → fX11_wordAt signs (nI (p + 1)) = some x → fX11_perform (fixed 0) (fixed 1) (nI m) age skill pals (nI n) base dyke len codes stack moats spades tides wall depth mood place ts tn (nI (b p)) x 0 = some (a, st1, mo', sp', ti', wa', de', md', pl', ts', tn') → fX11_summer_l49 (fixed 0) (fixed 1) (nI m) age skill pals (nI n) base dyke next size len codes rm rs rt rw rd ro rp 0 signs (nI k) K stack moats spades tides wall depth mood place ts tn x3 0 (nI p) = if (0 : Int32) ≤ a then K (st1, mo', sp', ti', wa', de', md', pl', ts', tn', x3 + 1, 0, nI (p + 2)) else K (st1, mo', sp', ti', wa', de', md', pl', ts', tn', x3, 1, nI (p + 2)) := by
    intro x a st1 mo' sp' ti' wa' de' md' pl' ts' tn' e1 e2 ep
    rw [l0, e1, ob_s, if_neg (show ¬ (1 : Int32) ≤ 0 by decide), e2, ob_s, fX11_summer_b96, if_pos (Int32.le_refl _)]
    exact fin x 0 1 1 a st1 mo' sp' ti' wa' de' md' pl' ts' tn' rfl ep
  have fl : ∀ a : Int32, (if a < 0 then (0 : Int32) else 1) = if (0 : Int32) ≤ a then 1 else 0 := by
    intro a
    by_cases h : a < 0
    · rw [if_pos h, if_neg (i_nle h)]
    · rw [if_neg h, if_pos (i_nlt h)]
  rcases hA with ⟨c, hp, hw1, hw2, es, eo, ew⟩ | ⟨c, hp, hw1, es, eo⟩ | ⟨c, hp, hw1, es, eo⟩ | ⟨c, hp, hw1, es, eo⟩ | ⟨c, hp, hw1, es, eo⟩ | ⟨c, hp, hw1, es, eo⟩ | ⟨c, hp, es⟩
  · obtain ⟨a, place', now', e1, e2, hS⟩ := j_send hn hm hs (O i) (W i)
    have ep := pf_g (fixed 0) (fixed 1) (nI m) (nI n) len ts (O i) (W i) moats spades tides age skill pals base dyke codes stack wall depth mood place tn
    rw [e1, ob_s] at ep
    refine ⟨a, stack, moats, spades, tides, wall, depth, mood, place', ts, tn, wh, lvl, now', st, as, gets, ?_, ?_, SS_mono (by omega) hS⟩
    · have wa := t_wordA hx (q := p + 1) (by omega) hw1.1
      have wb := t_wordA hx (q := p + 2) (by omega) hw2.1
      rw [← eo] at wa
      rw [← ew] at wb
      rw [l0, t_wordsOf _ (hx.2.1 p), ob_s, c, if_neg (show ¬ wdS 103 ≤ 0 by decide), wa, ob_s, fX11_summer_b96, if_neg (show ¬ wdS 103 ≤ 1 by decide), show nI p + 2 = nI (p + 2) from nI_add p 2, wb, ob_s]
      have := fin (O i) (W i) (wdS 103) 2 a stack moats spades tides wall depth mood place' ts tn rfl (by rw [c]; exact ep)
      rw [c] at this
      rw [this, hp]
    · rw [fX12_does, if_pos (inb_n hi (by omega)), nI_clamp (by omega), if_pos es, e2, ob_s, ← fl a, fX12_does_b75, fX12_does_b75, if_pos (Or.inl rfl), if_pos (Or.inr rfl)]
      by_cases h : a < 0
      · rw [if_pos h, if_pos h]
      · rw [if_neg h, if_neg h]
  · obtain ⟨a, place', now', e1, e2, hS⟩ := j_home hn hm hs (O i)
    have ep := pf_h (fixed 0) (fixed 1) (nI m) (nI n) len ts (O i) 0 moats spades tides age skill pals base dyke codes stack wall depth mood place tn
    rw [e1, ob_s] at ep
    have wa := t_wordA hx (q := p + 1) (by omega) hw1.1
    rw [← eo] at wa
    have q := one _ _ _ _ _ _ _ _ _ _ _ _ (by rw [t_wordsOf _ (hx.2.1 p), c]; rfl) wa (by rw [c]; exact ep)
    refine ⟨_, _, _, _, _, _, _, _, _, _, _, wh, lvl, now', st, as, gets, by rw [q, hp], ?_, SS_mono (by omega) hS⟩
    rw [fX12_does, if_pos (inb_n hi (by omega)), nI_clamp (by omega), es, if_neg (show ¬ (1 : Int32) = 0 by decide), if_pos rfl, e2, ob_s, ← fl a, fX12_does_b89, fX12_does_b89, if_pos (Or.inl rfl), if_pos (Or.inr rfl)]
    by_cases h : a < 0
    · rw [if_pos h, if_pos h]
    · rw [if_neg h, if_neg h]
  · obtain ⟨a, spades', now', e1, e2, hS⟩ := j_spade hn hm hs (fixed := fixed) (O i)
    have ep := pf_s (fixed 0) (fixed 1) (nI m) (nI n) len ts (O i) 0 moats spades tides age skill pals base dyke codes stack wall depth mood place tn
    rw [e1, ob_s] at ep
    have wa := t_wordA hx (q := p + 1) (by omega) hw1.1
    rw [← eo] at wa
    have q := one _ _ _ _ _ _ _ _ _ _ _ _ (by rw [t_wordsOf _ (hx.2.1 p), c]; rfl) wa (by rw [c]; exact ep)
    refine ⟨_, _, _, _, _, _, _, _, _, _, _, wh, lvl, now', st, as, gets, by rw [q, hp], ?_, SS_mono (by omega) hS⟩
    rw [fX12_does, if_pos (inb_n hi (by omega)), nI_clamp (by omega), es, if_neg (show ¬ (2 : Int32) = 0 by decide), if_neg (show ¬ (2 : Int32) = 1 by decide), if_pos rfl, e2, ob_s, ← fl a, fX12_does_b103, fX12_does_b103, if_pos (Or.inl rfl), if_pos (Or.inr rfl)]
    by_cases h : a < 0
    · rw [if_pos h, if_pos h]
    · rw [if_neg h, if_neg h]
  · obtain ⟨a, mood', now', e1, e2, hS⟩ := j_treat hn hm hs (O i)
    have ep := pf_t (fixed 0) (fixed 1) (nI m) (nI n) len ts (O i) 0 moats spades tides age skill pals base dyke codes stack wall depth mood place tn
    rw [e1, ob_s] at ep
    have wa := t_wordA hx (q := p + 1) (by omega) hw1.1
    rw [← eo] at wa
    have q := one _ _ _ _ _ _ _ _ _ _ _ _ (by rw [t_wordsOf _ (hx.2.1 p), c]; rfl) wa (by rw [c]; exact ep)
    refine ⟨_, _, _, _, _, _, _, _, _, _, _, wh, lvl, now', st, as, gets, by rw [q, hp], ?_, SS_mono (by omega) hS⟩
    rw [fX12_does, if_pos (inb_n hi (by omega)), nI_clamp (by omega), es, if_neg (show ¬ (3 : Int32) = 0 by decide), if_neg (show ¬ (3 : Int32) = 1 by decide), if_neg (show ¬ (3 : Int32) = 2 by decide), if_pos rfl, e2, ob_s, ← fl a, fX12_does_b117, fX12_does_b117, if_pos (Or.inl rfl), if_pos (Or.inr rfl)]
    by_cases h : a < 0
    · rw [if_pos h, if_pos h]
    · rw [if_neg h, if_neg h]
  · obtain ⟨a, moats', now', e1, e2, hS⟩ := j_dig hn hm hs (O i)
    have ep := pf_m (fixed 0) (fixed 1) (nI m) (nI n) len ts (O i) 0 moats spades tides age skill pals base dyke codes stack wall depth mood place tn
    rw [e1, ob_s] at ep
    have wa := t_wordA hx (q := p + 1) (by omega) hw1.1
    rw [← eo] at wa
    have q := one _ _ _ _ _ _ _ _ _ _ _ _ (by rw [t_wordsOf _ (hx.2.1 p), c]; rfl) wa (by rw [c]; exact ep)
    refine ⟨_, _, _, _, _, _, _, _, _, _, _, wh, lvl, now', st, as, gets, by rw [q, hp], ?_, SS_mono (by omega) hS⟩
    rw [fX12_does, if_pos (inb_n hi (by omega)), nI_clamp (by omega), es, if_neg (show ¬ (4 : Int32) = 0 by decide), if_neg (show ¬ (4 : Int32) = 1 by decide), if_neg (show ¬ (4 : Int32) = 2 by decide), if_neg (show ¬ (4 : Int32) = 3 by decide), if_pos rfl, e2, ob_s, ← fl a, fX12_does_b131, fX12_does_b131, if_pos (Or.inl rfl), if_pos (Or.inr rfl)]
    by_cases h : a < 0
    · rw [if_pos h, if_pos h]
    · rw [if_neg h, if_neg h]
  · have hd9 := dg_r hw1
    obtain ⟨wall', mood', place', wh', gets', now', e1, e2, hS, -, hge⟩ := j_bt hn hm hc hs (N := b (p + 1) - 48) (by omega) ts tn gets wh
    have ep := pf_b (fixed 0) (fixed 1) (nI m) (nI n) len ts (nI (b (p + 1) - 48)) 0 moats spades tides age skill pals base dyke codes stack wall depth mood place tn
    rw [e1, ob_s] at ep
    have q := one _ _ _ _ _ _ _ _ _ _ _ _ (by rw [t_wordsOf _ (hx.2.1 p), c]; rfl) (t_wordD hx (q := p + 1) (by omega) hw1) (by rw [c]; exact ep)
    refine ⟨_, _, _, _, _, _, _, _, _, _, _, wh', lvl, now', st, as, gets', by rw [q, hp], ?_, SS_mono (by omega) hS⟩
    rw [fX12_does, if_pos (inb_n hi (by omega)), nI_clamp (by omega), es, eo, if_neg (show ¬ (5 : Int32) = 0 by decide), if_neg (show ¬ (5 : Int32) = 1 by decide), if_neg (show ¬ (5 : Int32) = 2 by decide), if_neg (show ¬ (5 : Int32) = 3 by decide), if_neg (show ¬ (5 : Int32) = 4 by decide), if_pos rfl, e2, ob_s, if_pos hge]
  · obtain ⟨brk, h, st1, mo', wall', depth', st', as', now', e1, e2, hS, hge⟩ := j_st hn h1 hm hC hM hl hs (fixed := fixed) stack ts tn lvl st as
    have ep := pf_w (fixed 0) (fixed 1) (nI m) (nI n) len ts 0 0 moats spades tides age skill pals base dyke codes stack wall depth mood place tn
    rw [e1, ob_s] at ep
    refine ⟨brk, st1, mo', spades, tides + 1, wall', depth', mood, place, nI 2, vp_updL (vp_updL tn 0 h.toInt64) 1 (sumN depth' n - sumN depth n).toInt64, wh, h, now', st', as', gets, ?_, ?_, hS⟩
    · rw [l0, t_wordsOf _ (hx.2.1 p), ob_s, c, if_pos (show wdS 119 ≤ 0 by decide), fX11_summer_b96, if_pos (show wdS 119 ≤ 1 by decide)]
      have := fin 0 0 (wdS 119) 0 brk st1 mo' spades (tides + 1) wall' depth' mood place (nI 2) _ rfl (by rw [c]; exact ep)
      rw [c] at this
      rw [this, hp]
    · rw [fX12_does, if_pos (inb_n hi (by omega)), nI_clamp (by omega), es, if_neg (show ¬ (6 : Int32) = 0 by decide), if_neg (show ¬ (6 : Int32) = 1 by decide), if_neg (show ¬ (6 : Int32) = 2 by decide), if_neg (show ¬ (6 : Int32) = 3 by decide), if_neg (show ¬ (6 : Int32) = 4 by decide), if_neg (show ¬ (6 : Int32) = 5 by decide), e2, ob_s, if_pos hge]

theorem s_loop {n m k : Nat} {F : Int32 → Int32 → Int32 → Int32 → Int32} {len long : Int32} {codes code base dyke base' dyke' age skill friend pals age' skill' friend' signs tape fixed : Nat → Int32} {b : Nat → Nat} (hn : n ≤ 12) (h1 : 1 ≤ n) (hm : m ≤ 8) (hC : laC F len codes) (hM : laM F long code) (hl : laR n base dyke base' dyke') (hc : crR m age skill friend pals age' skill' friend') (hx : txB k b signs tape) {A : Nat} {pos : Nat → Nat} {S O W : Nat → Int32} (hA60 : A ≤ 60) (hpA : pos A = k) (hP : posOk b A k pos S O W) {next size : Int32} {rm rs rt : Nat → Int32} {rw rd ro rp : Nat → Nat → Int32} {tr undos am tm : Int32} {tw : Nat → Int64} {undone : Nat → Int32} : ∀ d i T wall depth mood place moats spades tides now (stack : Nat → Int32) (ts : Int32) (tn : Nat → Int64) (wh lvl : Int32) (st as gets : Nat → Int32) f1 f2, A - i = d → i ≤ A → SS n m T wall depth mood place moats spades tides now → d + 1 < f1 → d + 1 < f2 →
    ∃ i' st1 mo' sp' ti' wa' de' md' pl' ts' tn' wh' lvl' now' st2 as2 gets', i' ≤ A ∧ SS n m (T + d) wa' de' md' pl' mo' sp' ti' now' ∧
      loopN (fun (s : (Nat → Int32) × Int32 × Int32 × Int32 × (Nat → Int32) × (Nat → Int32) × (Nat → Int32) × (Nat → Int32) × Int32 × (Nat → Int64) × Int32 × Int32 × Int32) k49 => fX11_summer_l49 (fixed 0) (fixed 1) (nI m) age skill pals (nI n) base dyke next size len codes rm rs rt rw rd ro rp 0 signs (nI k) k49 s.1 s.2.1 s.2.2.1 s.2.2.2.1 s.2.2.2.2.1 s.2.2.2.2.2.1 s.2.2.2.2.2.2.1 s.2.2.2.2.2.2.2.1 s.2.2.2.2.2.2.2.2.1 s.2.2.2.2.2.2.2.2.2.1 s.2.2.2.2.2.2.2.2.2.2.1 s.2.2.2.2.2.2.2.2.2.2.2.1 s.2.2.2.2.2.2.2.2.2.2.2.2) f1 (stack, moats, spades, tides, wall, depth, mood, place, ts, tn, nI i, 0, nI (pos i)) = fX11_summer_b156 (fixed 0) (fixed 1) (nI m) age skill pals (nI n) base dyke next size len codes st1 mo' sp' ti' wa' de' md' pl' rm rs rt rw rd ro rp 0 signs ts' tn' (nI i') (if i' = A then 0 else 1) ∧
      loopN (fun (s : Int32 × Int32 × (Nat → Int32) × (Nat → Int32) × (Nat → Int32) × (Nat → Int32) × Int32) k64 => fX12_summer_l64 0 tr (nI n) (nI m) 0 am tm 0 long undos (nI A) tw base' dyke' age' skill' friend' fixed tape code undone S O W k64 s.1 s.2.1 s.2.2.1 s.2.2.2.1 s.2.2.2.2.1 s.2.2.2.2.2.1 s.2.2.2.2.2.2) f2 (wh, lvl, now, st, as, gets, nI i) = fX12_summer_b88 0 tr (nI n) (nI m) 0 am tm 0 long undos wh' lvl' (nI A) tw base' dyke' age' skill' friend' fixed now' tape code st2 as2 undone gets' S O W (nI i') := by
  have hk := hx.1
  intro d
  induction d with
  | zero =>
    intro i T wall depth mood place moats spades tides now stack ts tn wh lvl st as gets f1 f2 hd hi hs hf1 hf2
    obtain ⟨f1, rfl⟩ : ∃ g, f1 = g + 1 := ⟨f1 - 1, by omega⟩
    obtain ⟨f2, rfl⟩ : ∃ g, f2 = g + 1 := ⟨f2 - 1, by omega⟩
    have : i = A := by omega
    subst this
    refine ⟨i, stack, moats, spades, tides, wall, depth, mood, place, ts, tn, wh, lvl, now, st, as, gets, Nat.le_refl _, hs, ?_, ?_⟩
    · refine (loopN_s _ _ _).trans ?_
      show fX11_summer_l49 (fixed 0) (fixed 1) (nI m) age skill pals (nI n) base dyke next size len codes rm rs rt rw rd ro rp 0 signs (nI k) _ stack moats spades tides wall depth mood place ts tn (nI i) 0 (nI (pos i)) = _
      rw [fX11_summer_l49, if_pos (by rw [hpA]; exact Int32.le_refl _), if_pos rfl]
    · refine (loopN_s _ _ _).trans ?_
      show fX12_summer_l64 0 tr (nI n) (nI m) 0 am tm 0 long undos (nI i) tw base' dyke' age' skill' friend' fixed tape code undone S O W _ wh lvl now st as gets (nI i) = _
      rw [fX12_summer_l64, if_pos (Int32.le_refl _)]
  | succ d ih =>
    intro i T wall depth mood place moats spades tides now stack ts tn wh lvl st as gets f1 f2 hd hi hs hf1 hf2
    obtain ⟨f1, rfl⟩ : ∃ g, f1 = g + 2 := ⟨f1 - 2, by omega⟩
    obtain ⟨f2, rfl⟩ : ∃ g, f2 = g + 1 := ⟨f2 - 1, by omega⟩
    have hiA : i < A := by omega
    obtain ⟨q1, q2, q3⟩ := hP.2 i hiA
    obtain ⟨a, st1, mo', sp', ti', wa', de', md', pl', ts', tn', wh', lvl', now', st2, as2, gets', e1, e2, hS⟩ := s_act hn h1 hm hC hM hl hc hs hx (fixed := fixed) q3 q2 (show i < 60 by omega) (next := next) (size := size) (rm := rm) (rs := rs) (rt := rt) (rw := rw) (rd := rd) (ro := ro) (rp := rp) stack ts tn (nI i) wh lvl st as gets (loopN (fun (s : (Nat → Int32) × Int32 × Int32 × Int32 × (Nat → Int32) × (Nat → Int32) × (Nat → Int32) × (Nat → Int32) × Int32 × (Nat → Int64) × Int32 × Int32 × Int32) k49 => fX11_summer_l49 (fixed 0) (fixed 1) (nI m) age skill pals (nI n) base dyke next size len codes rm rs rt rw rd ro rp 0 signs (nI k) k49 s.1 s.2.1 s.2.2.1 s.2.2.2.1 s.2.2.2.2.1 s.2.2.2.2.2.1 s.2.2.2.2.2.2.1 s.2.2.2.2.2.2.2.1 s.2.2.2.2.2.2.2.2.1 s.2.2.2.2.2.2.2.2.2.1 s.2.2.2.2.2.2.2.2.2.2.1 s.2.2.2.2.2.2.2.2.2.2.2.1 s.2.2.2.2.2.2.2.2.2.2.2.2) (f1 + 1))
    have uc : loopN (fun (s : (Nat → Int32) × Int32 × Int32 × Int32 × (Nat → Int32) × (Nat → Int32) × (Nat → Int32) × (Nat → Int32) × Int32 × (Nat → Int64) × Int32 × Int32 × Int32) k49 => fX11_summer_l49 (fixed 0) (fixed 1) (nI m) age skill pals (nI n) base dyke next size len codes rm rs rt rw rd ro rp 0 signs (nI k) k49 s.1 s.2.1 s.2.2.1 s.2.2.2.1 s.2.2.2.2.1 s.2.2.2.2.2.1 s.2.2.2.2.2.2.1 s.2.2.2.2.2.2.2.1 s.2.2.2.2.2.2.2.2.1 s.2.2.2.2.2.2.2.2.2.1 s.2.2.2.2.2.2.2.2.2.2.1 s.2.2.2.2.2.2.2.2.2.2.2.1 s.2.2.2.2.2.2.2.2.2.2.2.2) (f1 + 2) (stack, moats, spades, tides, wall, depth, mood, place, ts, tn, nI i, 0, nI (pos i)) = fX11_summer_l49 (fixed 0) (fixed 1) (nI m) age skill pals (nI n) base dyke next size len codes rm rs rt rw rd ro rp 0 signs (nI k) (loopN (fun (s : (Nat → Int32) × Int32 × Int32 × Int32 × (Nat → Int32) × (Nat → Int32) × (Nat → Int32) × (Nat → Int32) × Int32 × (Nat → Int64) × Int32 × Int32 × Int32) k49 => fX11_summer_l49 (fixed 0) (fixed 1) (nI m) age skill pals (nI n) base dyke next size len codes rm rs rt rw rd ro rp 0 signs (nI k) k49 s.1 s.2.1 s.2.2.1 s.2.2.2.1 s.2.2.2.2.1 s.2.2.2.2.2.1 s.2.2.2.2.2.2.1 s.2.2.2.2.2.2.2.1 s.2.2.2.2.2.2.2.2.1 s.2.2.2.2.2.2.2.2.2.1 s.2.2.2.2.2.2.2.2.2.2.1 s.2.2.2.2.2.2.2.2.2.2.2.1 s.2.2.2.2.2.2.2.2.2.2.2.2) (f1 + 1)) stack moats spades tides wall depth mood place ts tn (nI i) 0 (nI (pos i)) := loopN_s _ _ _
    have um : loopN (fun (s : Int32 × Int32 × (Nat → Int32) × (Nat → Int32) × (Nat → Int32) × (Nat → Int32) × Int32) k64 => fX12_summer_l64 0 tr (nI n) (nI m) 0 am tm 0 long undos (nI A) tw base' dyke' age' skill' friend' fixed tape code undone S O W k64 s.1 s.2.1 s.2.2.1 s.2.2.2.1 s.2.2.2.2.1 s.2.2.2.2.2.1 s.2.2.2.2.2.2) (f2 + 1) (wh, lvl, now, st, as, gets, nI i) = fX12_summer_l64 0 tr (nI n) (nI m) 0 am tm 0 long undos (nI A) tw base' dyke' age' skill' friend' fixed tape code undone S O W (loopN (fun (s : Int32 × Int32 × (Nat → Int32) × (Nat → Int32) × (Nat → Int32) × (Nat → Int32) × Int32) k64 => fX12_summer_l64 0 tr (nI n) (nI m) 0 am tm 0 long undos (nI A) tw base' dyke' age' skill' friend' fixed tape code undone S O W k64 s.1 s.2.1 s.2.2.1 s.2.2.2.1 s.2.2.2.2.1 s.2.2.2.2.2.1 s.2.2.2.2.2.2) f2) wh lvl now st as gets (nI i) := loopN_s _ _ _
    rw [uc, e1, um, fX12_summer_l64, if_neg (nI_ge hiA (by omega)), e2, ob_s]
    by_cases ha : (0 : Int32) ≤ a
    · rw [if_pos ha, if_pos ha, if_neg (show ¬ (1 : Int32) = 0 by decide), nI_1]
      obtain ⟨i', r1, r2, r3, r4, r5, r6, r7, r8, r9, r10, r11, r12, r13, r14, r15, r16, g1, g2, g3, g4⟩ := ih (i + 1) (T + 1) wa' de' md' pl' mo' sp' ti' now' st1 ts' tn' wh' lvl' st2 as2 gets' (f1 + 1) f2 (by omega) (by omega) hS (by omega) (by omega)
      exact ⟨i', r1, r2, r3, r4, r5, r6, r7, r8, r9, r10, r11, r12, r13, r14, r15, r16, g1, SS_mono (by omega) g2, g3, g4⟩
    · rw [if_neg ha, if_neg ha, if_pos rfl]
      refine ⟨i, st1, mo', sp', ti', wa', de', md', pl', ts', tn', wh', lvl', now', st2, as2, gets', hi, SS_mono (by omega) hS, ?_, rfl⟩
      refine (loopN_s _ _ _).trans ?_
      show fX11_summer_l49 (fixed 0) (fixed 1) (nI m) age skill pals (nI n) base dyke next size len codes rm rs rt rw rd ro rp 0 signs (nI k) (loopN (fun (s : (Nat → Int32) × Int32 × Int32 × Int32 × (Nat → Int32) × (Nat → Int32) × (Nat → Int32) × (Nat → Int32) × Int32 × (Nat → Int64) × Int32 × Int32 × Int32) k49 => fX11_summer_l49 (fixed 0) (fixed 1) (nI m) age skill pals (nI n) base dyke next size len codes rm rs rt rw rd ro rp 0 signs (nI k) k49 s.1 s.2.1 s.2.2.1 s.2.2.2.1 s.2.2.2.2.1 s.2.2.2.2.2.1 s.2.2.2.2.2.2.1 s.2.2.2.2.2.2.2.1 s.2.2.2.2.2.2.2.2.1 s.2.2.2.2.2.2.2.2.2.1 s.2.2.2.2.2.2.2.2.2.2.1 s.2.2.2.2.2.2.2.2.2.2.2.1 s.2.2.2.2.2.2.2.2.2.2.2.2) f1) st1 mo' sp' ti' wa' de' md' pl' ts' tn' (nI i) 1 (nI (pos (i + 1))) = _
      rw [fX11_summer_l49, if_neg (show ¬ (1 : Int32) = 0 by decide), if_neg (show ¬ i = A by omega)]
      by_cases h : nI k ≤ nI (pos (i + 1))
      · rw [if_pos h]
      · rw [if_neg h]
theorem c_summer {n m T : Nat} {F : Int32 → Int32 → Int32 → Int32 → Int32} {len long moats spades tides ts tr : Int32} {codes code base dyke base' dyke' age skill friend pals age' skill' friend' wall depth mood place now fixed : Nat → Int32} {tn tw : Nat → Int64} (hn : n ≤ 12) (h1 : 1 ≤ n) (hm : m ≤ 8) (hC : laC F len codes) (hM : laM F long code) (hl : laR n base dyke base' dyke') (hc : crR m age skill friend pals age' skill' friend') (hs : SS n m T wall depth mood place moats spades tides now) (ht : toR ts tn tr tw) {ln tp : Int32} {signs tape : Nat → Int32} (hx0 : txR ln signs tp tape) {next size undos : Int32} {rm rs rt undone : Nat → Int32} {rw rd ro rp : Nat → Nat → Int32} (hh : hR n m T next size rm rs rt rw rd ro rp undos undone) (stack : Nat → Int32) (thrown at_ to_ ne wh lvl acts : Int32) (st as gets S O W : Nat → Int32) :
    ∃ a next' size' st1 mo' sp' ti' wa' de' md' pl' rm' rs' rt' rw' rd' ro' rp' ts' tn' tr' am tm nm undos' wh' lvl' acts' tw' now' st' as' undone' gets' S' O' W', fX11_summer (fixed 0) (fixed 1) (nI m) age skill pals (nI n) base dyke next size len codes stack moats spades tides wall depth mood place rm rs rt rw rd ro rp ln signs ts tn = some (a, next', size', st1, mo', sp', ti', wa', de', md', pl', rm', rs', rt', rw', rd', ro', rp', 0, ts', tn') ∧
      fX12_summer thrown tr (nI n) (nI m) tp at_ to_ ne long undos wh lvl acts tw base' dyke' age' skill' friend' fixed now tape code st as undone gets S O W = some (a, 0, tr', 0, am, tm, nm, undos', wh', lvl', acts', tw', now', st', as', undone', gets', S', O', W') ∧
      SS n m (T + 60) wa' de' md' pl' mo' sp' ti' now' ∧ hR n m (T + 60) next' size' rm' rs' rt' rw' rd' ro' rp' undos' undone' ∧ toR ts' tn' tr' tw' := by
  obtain ⟨k, b, rfl, rfl, hx⟩ := tx_B hx0
  have hk := hx.1
  have ejm : jmin (nI k) 60 = nI (min k 60) := jmin_n (b := 60) (by omega) (by omega)
  have q := j_tale hx (to := min k 60) rfl (n := n) (m := m) (tr := tr) (long := long) (undos := undos) (wh := wh) (lvl := lvl) (tw := tw) (base' := base') (dyke' := dyke') (age' := age') (skill' := skill') (friend' := friend') (fixed := fixed) (now := now) (code := code) (st := st) (as := as) (undone := undone) (gets := gets) (min k 60) 0 0 S O W FUEL FUEL (fun _ => 0) (by omega) (by omega) (by omega) rfl ⟨rfl, fun j hj => absurd hj (by omega)⟩ (lt_F (by omega)) (lt_F (by omega))
  have mu : fX12_summer thrown tr (nI n) (nI m) (nI k) at_ to_ ne long undos wh lvl acts tw base' dyke' age' skill' friend' fixed now tape code st as undone gets S O W = loopN (fun (s : Int32 × Int32 × (Nat → Int32) × (Nat → Int32) × (Nat → Int32) × Int32) k19 => fX12_summer_l19 0 tr (nI n) (nI m) 0 (nI (min k 60)) 0 long undos wh lvl tw base' dyke' age' skill' friend' fixed now tape code st as undone gets (nI k) k19 s.1 s.2.1 s.2.2.1 s.2.2.2.1 s.2.2.2.2.1 s.2.2.2.2.2) FUEL (nI 0, nI 0, S, O, W, 1) := by
    rw [fX12_summer, fX12_begins, ob_s, ejm]; rfl
  have cu : fX11_faultOfTale (nI k) signs = loopN (fun (s : Int32) k15 => fX11_faultOfTale_l15 (nI k) signs (nI (min k 60)) k15 s) FUEL (nI 0) := by
    rw [fX11_faultOfTale, ejm]; rfl
  rcases q with ⟨q, at2, i', S', O', W', hq, e1, e2⟩ | ⟨A, pos, S', O', W', hA, hto, hpA, hP, e1, e2⟩
  · refine ⟨-1 - nI q, next, size, stack, moats, spades, tides, wall, depth, mood, place, rm, rs, rt, rw, rd, ro, rp, ts, tn, tr, at2, nI (min k 60), 0, undos, wh, lvl, i', tw, now, st, as, undone, gets, S', O', W', ?_, mu.trans e2, SS_mono (by omega) hs, hR_mono (by omega) hh, ht⟩
    rw [fX11_summer, cu, e1, ob_s, if_neg (n_ne1 (by omega))]
  · obtain ⟨rm', rs', rt', rw', rd', ro', rp', undone1, m1, m2, hK, -⟩ := h_mark hn hm hh hs
    rw [m2, ob_s] at e2
    obtain ⟨i', st1, mo', sp', ti', wa', de', md', pl', ts', tn', wh', lvl', now', st2, as2, gets', g1, g2, g3, g4⟩ := s_loop hn h1 hm hC hM hl hc hx (fixed := fixed) hA hpA hP (next := next) (size := size) (rm := rm') (rs := rs') (rt := rt') (rw := rw') (rd := rd') (ro := ro') (rp := rp') (tr := tr) (undos := undos) (am := nI (min k 60)) (tm := nI (min k 60)) (tw := tw) (undone := undone1) A 0 T wall depth mood place moats spades tides now stack ts tn wh lvl st as gets FUEL FUEL (by omega) (by omega) hs (lt_F (by omega)) (lt_F (by omega))
    have ew := wet_congr g2.2.2.1
    have cl : fX11_summer (fixed 0) (fixed 1) (nI m) age skill pals (nI n) base dyke next size len codes stack moats spades tides wall depth mood place rm rs rt rw rd ro rp (nI k) signs ts tn = fX11_summer_b156 (fixed 0) (fixed 1) (nI m) age skill pals (nI n) base dyke next size len codes st1 mo' sp' ti' wa' de' md' pl' rm' rs' rt' rw' rd' ro' rp' 0 signs ts' tn' (nI i') (if i' = A then 0 else 1) := by
      rw [fX11_summer, cu, e1, ob_s, if_pos rfl, m1, ob_s, ← g3, hP.1]; rfl
    have ml := mu.trans (e2.trans g4)
    have fl : (if nI A ≤ nI i' then (0 : Int32) else 1) = if i' = A then 0 else 1 := by
      by_cases h : i' = A
      · rw [if_pos h, if_pos (nI_le (by omega) (by omega))]
      · rw [if_neg h, if_neg (nI_ge (by omega) (by omega))]
    generalize hfv : (if i' = A then (0 : Int32) else 1) = fv at fl cl
    have f01 : fX12_flag fv = some fv := by
      have : fv = 0 ∨ fv = 1 := by rw [← hfv]; by_cases h : i' = A <;> simp [h]
      rcases this with rfl | rfl <;> rfl
    have ml2 : fX12_summer_b88 0 tr (nI n) (nI m) 0 (nI (min k 60)) (nI (min k 60)) 0 long undos wh' lvl' (nI A) tw base' dyke' age' skill' friend' fixed now' tape code st2 as2 undone1 gets' S' O' W' (nI i') = fX12_summer_b108 0 0 (nI n) (nI m) 0 (nI (min k 60)) (nI (min k 60)) 0 long undos wh' lvl' (nI A) tw base' dyke' age' skill' friend' fixed now' tape code st2 as2 undone1 gets' S' O' W' (nI i') fv := by
      rw [fX12_summer_b88, ← fl]
      by_cases h : nI A ≤ nI i'
      · rw [if_pos h, if_pos h]
      · rw [if_neg h, if_neg h]
    rw [ml2, fX12_summer_b108, f01, ob_s, t_ent0, ob_s, t_wetM hn, ob_s, t_bc, ob_s, t_ent1, ob_s, ew] at ml
    rw [fX11_summer_b156] at cl
    by_cases h0 : i' = 0
    · subst h0
      rw [if_pos (show nI 0 ≤ 0 by decide), fX12_summer_b146] at ml
      rw [if_pos (show nI 0 ≤ 0 by decide), fX11_summer_b167, t_wet hn, ob_s, t_bc, ob_s, t_tell2, ob_s] at cl
      exact ⟨0, next, size, st1, mo', sp', ti', wa', de', md', pl', rm', rs', rt', rw', rd', ro', rp', nI 2, _, nI 2, nI (min k 60), nI (min k 60), 0, undos, wh', lvl', nI A, _, now', st2, as2, undone1, gets', S', O', W', cl, ml, SS_mono (by omega) g2, hR_mono (by omega) (hK_R hK), to_2 _ _ _ _⟩
    · obtain ⟨next', size', undos', undone', k1, k2, hr⟩ := h_keep hn hm hK (nI i')
      rw [if_neg (nI_nle (by omega) (by omega)), k2, ob_s, fX12_summer_b146] at ml
      rw [if_neg (nI_nle (by omega) (by omega)), k1, ob_s, fX11_summer_b167, t_wet hn, ob_s, t_bc, ob_s, t_tell2, ob_s] at cl
      exact ⟨nI i', next', size', st1, mo', sp', ti', wa', de', md', pl', rm', rs', rt', rw', rd', ro', rp', nI 2, _, nI 2, nI (min k 60), nI (min k 60), 0, undos', wh', lvl', nI A, _, now', st2, as2, undone', gets', S', O', W', cl, ml, SS_mono (by omega) g2, hR_mono (by omega) hr, to_2 _ _ _ _⟩
