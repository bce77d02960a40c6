/-! ===== a thing ===== -/
theorem j_core {k : Nat} {b : Nat → Nat} {signs tape : Nat → Int32} (hx : txB k b signs tape) {to z : Nat} (ht : to = min k 40) (hz : z ≤ 4) (rec : Int32 → Int32 → Int32 → Int32 → (Nat → Int32) → Int32 → (Nat → Int32) → Int32 → RdT) (H : z < 4 → SubH k b to (z + 1) signs tape rec (fun d a t n M tp rc => fX12_readsRank d a t n M tp rc 0) 4) {p L M : Nat} (hp : p ≤ to) (neg : Bool) (hL : L + (if neg = true then 1 else 0) ≤ p) (hM : M ≤ p) (h45 : ¬ (p < to ∧ b p = 45)) (codes rc : Nat → Int32) {d : Nat} (hd : 1 + 5 * (4 - z) + (to - p) ≤ d + 1) :
    Out b to p L M z neg codes rc (fX6_readThing_b42 rec (nI L) (nI p) (sg b to p) (-1) codes (nI k) signs (nI z) (b2i neg)) (fX12_readsThing (d + 1) (nI p) (nI to) (nI z) (nI M) tape rc) := by
  have hk := hx.1
  have hb := hx.2.1
  have htk : to ≤ k := by omega
  have h40 : to ≤ 40 := by omega
  have hL' : L ≤ p := by split at hL <;> omega
  show Out b to p L M z neg codes rc _ (fX12_readsThing_s (fX12_readsThing d) (fX12_readsRank d) (nI p) (nI to) (nI z) (nI M) tape rc)
  have tk := m_takes hx htk hp 45
  rw [if_neg h45] at tk
  have tk' : fX12_takes (nI p) (nI to) tape 45 = some (0, nI p) := tk
  rw [fX12_readsThing_s, tk', ob_s, if_pos rfl, m_isDigit hx htk hp, ob_s, fX6_readThing_b42, sg_dg hb, ob_s]
  by_cases cd : p < to ∧ dg (b p) = true
  · -- a number
    have z1 : ¬ b2i (decide (p < to) && dg (b p)) = 0 := by simp [cd.1, cd.2, b2i]
    rw [if_neg z1, if_neg z1]
    have m3 := m_number hx htk hp (w := 3) (by omega)
    rw [if_pos cd] at m3
    have m3' : fX12_number (nI p) (nI to) tape 3 = _ := m3
    have hv := nmS_v (b := b) (to := to) (w := 3) (p := p) (v := 0)
    have hq : p < (nmS b to 3 p 0).2 ∧ (nmS b to 3 p 0).2 ≤ to := by
      have e : nmS b to 3 p 0 = nmS b to 2 (p + 1) (10 * 0 + (b p - 48)) := by
        show (if p < to ∧ dg (b p) = true then _ else _) = _
        rw [if_pos cd]
      rw [e]
      have := nmS_p (b := b) (to := to) (w := 2) (p := p + 1) (v := 10 * 0 + (b p - 48)) (by omega)
      omega
    have c3 : fX6_readNumber (nI L) (nI p) (sg b to p) codes (nI k) signs = some (nI (L + 1), nI (nmS b to 3 p 0).2, sg b to (nmS b to 3 p 0).2, upd codes L (nI (nmS b to 3 p 0).1)) := c_num hx ht codes (show L < 40 by omega) 3 0 p 0 FUEL rfl hp (lt_F (by omega)) (by omega)
    rw [m3', ob_s, t_codes (by omega), ob_s, c3, ob_s]
    generalize hvv : (nmS b to 3 p 0).1 = v at hv ⊢
    generalize hqq : (nmS b to 3 p 0).2 = q at hq ⊢
    have v3 : v < 1000 := by omega
    have vr : ∀ x y u w, varS (nI v) x y u w = nI v := by
      intro x y u w
      have : ∀ n : Nat, 1000 ≤ n → n < 2000 → ¬ nI v = nI n := fun n h1 h2 e => by
        rw [nI_eq (by omega) (by omega)] at e; omega
      rw [varS, if_neg (show ¬ nI v = 1000 from this 1000 (by omega) (by omega)), if_neg (show ¬ nI v = 1001 from this 1001 (by omega) (by omega)), if_neg (show ¬ nI v = 1002 from this 1002 (by omega) (by omega)), if_neg (show ¬ nI v = 1003 from this 1003 (by omega) (by omega))]
    obtain ⟨c', e1, e2, e3⟩ := e_ok rec (L := L) (L1 := L + 1) neg (by omega) (nI q) (sg b to q) (-1) (nI k) (upd codes L (nI v)) signs (fun _ _ _ _ => nI v) (by
      intro x y u w
      have q := c_pu (c := upd codes L (nI v)) (L := L) (x := x) (y := y) (u := u) (v := w) (by rw [pk_us]; exact nI_pos' (by omega))
      rw [pk_us, vr] at q; exact q)
    left
    refine ⟨q, L + 1 + (if neg = true then 1 else 0), M + 1, c', upd rc M (nI v), fun _ _ _ _ => nI v, hq.1, hq.2, by omega, by omega, fun i hi => (e1 i (by omega)).trans (pk_un (by omega)), fun i hi => pk_un (by omega), fun x y u w => ⟨e2 x y u w, ?_⟩, e3, rfl⟩
    have q := m_pu (c := upd rc M (nI v)) (L := M) (x := x) (y := y) (u := u) (v := w) (by rw [pk_us]; exact nI_pos' (by omega)) (by rw [pk_us]; exact nI_lt (b := 1004) (by omega) (by omega))
    rw [pk_us, vr] at q; exact q
  · have z1 : b2i (decide (p < to) && dg (b p)) = 0 := by
      by_cases h : p < to
      · simp [show dg (b p) = false by simpa [h] using cd, b2i]
      · simp [h, b2i]
    rw [if_pos z1, if_pos z1, m_takesOf hx htk hp (s := 0) (by omega), ob_s]
    have vE : fX6_variable (sg b to p) = some (if p < to ∧ ¬ ixS 0 (b p) = -1 then 1000 + ixS 0 (b p) else -9) := by
      unfold sg
      by_cases h : p < to
      · rw [if_pos h, var_ix (b p) (hb p)]
        by_cases h2 : ixS 0 (b p) = -1
        · rw [if_pos h2, if_neg (fun w => w.2 h2)]
        · rw [if_neg h2, if_pos ⟨h, h2⟩]
      · rw [if_neg h, if_neg (fun w => h w.1), var_m1]
    rw [vE, ob_s]
    by_cases cv : p < to ∧ ¬ ixS 0 (b p) = -1
    · -- one of the four
      rcases ix_r 0 (by omega) (b p) (hb p) with w | ⟨j, hj, ej⟩
      · exact absurd w cv.2
      have hj4 : j < 4 := hj
      have e1000 : (1000 : Int32) + nI j = nI (1000 + j) := nI_add 1000 j
      rw [if_pos cv, if_pos cv, ej, if_neg (nI_pos (by omega)), e1000]
      have z9 : ¬ nI (1000 + j) = -9 := fun w => absurd (w ▸ nI_pos' (show 1000 + j < 2 ^ 31 by omega)) (by decide)
      rw [if_neg z9, ob_s, t_put (show L < 40 by omega), ob_s, t_step hx ht (by omega), ob_s, t_codes (by omega), ob_s]
      obtain ⟨c', e1, e2, e3⟩ := e_ok rec (L := L) (L1 := L + 1) neg (by omega) (nI (p + 1)) (sg b to (p + 1)) (-1) (nI k) (upd codes L (nI (1000 + j))) signs (fun x y u w => varS (nI (1000 + j)) x y u w) (by
        intro x y u w
        have q := c_pu (c := upd codes L (nI (1000 + j))) (L := L) (x := x) (y := y) (u := u) (v := w) (by rw [pk_us]; exact nI_pos' (by omega))
        rw [pk_us] at q; exact q)
      left
      refine ⟨p + 1, L + 1 + (if neg = true then 1 else 0), M + 1, c', upd rc M (nI (1000 + j)), fun x y u w => varS (nI (1000 + j)) x y u w, by omega, by omega, by omega, by omega, fun i hi => (e1 i (by omega)).trans (pk_un (by omega)), fun i hi => pk_un (by omega), fun x y u w => ⟨e2 x y u w, ?_⟩, e3, rfl⟩
      have q := m_pu (c := upd rc M (nI (1000 + j))) (L := M) (x := x) (y := y) (u := u) (v := w) (by rw [pk_us]; exact nI_pos' (by omega)) (by rw [pk_us]; exact nI_lt (b := 1004) (by omega) (by omega))
      rw [pk_us] at q; exact q
    · rw [if_neg cv, if_neg cv, if_pos (show (-1 : Int32) < 0 by decide), if_pos rfl]
      -- a fault here
      have bad : ∀ r2, r2 = some (0, nI p, nI z, nI M, rc) → Out b to p L M z neg codes rc (fX6_readThing_b142 rec (nI L) (nI p) (sg b to p) (-1) codes (nI k) signs (b2i neg)) r2 := by
        intro r2 e
        rw [fX6_readThing_b142, f_fail0, ob_s]
        obtain ⟨L', c', h1, h2⟩ := e_no rec (show L ≤ 40 by omega) (nI p) (-1) (nI p) (nI k) codes signs neg
        right
        exact ⟨p, L', M, nI p, nI z, c', rc, by omega, hp, h1, by omega, h2, e⟩
      by_cases z4 : z = 4
      · subst z4
        rw [if_pos (show nI 4 = 4 from rfl)]
        by_cases c40 : sg b to p = 40
        · rw [if_pos c40, if_pos (show (4 : Int32) ≤ nI 4 by decide)]; exact bad _ rfl
        · rw [if_neg c40]; exact bad _ rfl
      · have n4 : ¬ nI z = 4 := fun w => z4 ((nI_eq (b := 4) (by omega) (by omega)).mp w)
        have tk := m_takes hx htk hp 40
        have tk' : fX12_takes (nI p) (nI to) tape 40 = _ := tk
        rw [if_neg n4, tk', ob_s]
        by_cases c40 : p < to ∧ b p = 40
        · have s40 : sg b to p = 40 := (sg_eq hb to p (x := 40) (by omega)).mpr c40
          rw [if_pos s40, if_pos c40, if_neg (show ¬ (1 : Int32) = 0 by decide), if_neg (show ¬ (4 : Int32) ≤ nI z from nI_ge (b := 4) (by omega) (by omega)), t_step hx ht (by omega), ob_s, nI_1]
          have O := H (by omega) (p + 1) L M codes rc d (by omega) (by omega) (by omega) (by omega)
          dsimp only at O
          rcases O with ⟨p1, L1, M1, c1, rc1, F, a1, a2, a3, a4, a5, a6, a7, a8, a9⟩ | ⟨q, L1, M1, at1, ne1, c1, rc1, a1, a2, a3, a4, a5, a6⟩
          · rw [a8, a9, ob_s, ob_s, if_neg (show ¬ (1 : Int32) = 0 by decide)]
            have tk := m_takes hx htk (p := p1) (by omega) 41
            have tk' : fX12_takes (nI p1) (nI to) tape 41 = _ := tk
            rw [tk', ob_s]
            have a3' : L1 + (p + 1) ≤ L + p1 := by simpa using a3
            by_cases c41 : p1 < to ∧ b p1 = 41
            · have s41 : sg b to p1 = 41 := (sg_eq hb to p1 (x := 41) (by omega)).mpr c41
              rw [if_pos s41, if_pos c41, if_neg (show ¬ (1 : Int32) = 0 by decide), t_step hx ht (by omega), ob_s]
              obtain ⟨c', e1, e2, e3⟩ := e_ok rec (L := L) (L1 := L1) neg (by omega) (nI (p1 + 1)) (sg b to (p1 + 1)) (-1) (nI k) c1 signs F (fun x y u w => by simpa using (a7 x y u w).1)
              left
              have hL1 := (a7 0 0 0 0).1.1
              refine ⟨p1 + 1, L1 + (if neg = true then 1 else 0), M1, c', rc1, F, by omega, by omega, by omega, by omega, fun i hi => (e1 i (by omega)).trans (a5 i hi), a6, fun x y u w => ⟨e2 x y u w, (a7 x y u w).2⟩, e3, ?_⟩
              rw [show nI (z + 1) - 1 = nI z from nI_pred z]
            · have s41 : ¬ sg b to p1 = 41 := fun w => c41 ((sg_eq hb to p1 (x := 41) (by omega)).mp w)
              rw [if_neg s41, if_neg c41, if_pos rfl, f_fail0, ob_s]
              obtain ⟨L', c', h1, h2⟩ := e_no rec (show L1 ≤ 40 by omega) (nI p1) (-1) (nI p1) (nI k) c1 signs neg
              right
              exact ⟨p1, L', M1, nI p1, nI (z + 1), c', rc1, by omega, a2, h1, by omega, h2, rfl⟩
          · rw [a5, a6, ob_s, ob_s, if_pos rfl, if_neg (show ¬ (-1 : Int32) = 41 by decide), f_failq (show q < 2 ^ 31 by omega), ob_s]
            obtain ⟨L', c', h1, h2⟩ := e_no rec a3 at1 (-1) (nI q) (nI k) c1 signs neg
            right
            exact ⟨q, L', M1, at1, ne1, c', rc1, by omega, a2, h1, by omega, h2, rfl⟩
        · have s40 : ¬ sg b to p = 40 := fun w => c40 ((sg_eq hb to p (x := 40) (by omega)).mp w)
          rw [if_neg s40, if_neg c40, if_pos rfl]
          exact bad _ rfl
theorem neg_neg32 (x : Int32) : -(-x) = x := Int32.neg_neg
theorem j_minus {k : Nat} {b : Nat → Nat} {signs tape : Nat → Int32} (hx : txB k b signs tape) {to z : Nat} (ht : to = min k 40) (hz : z ≤ 4) (rec : Int32 → Int32 → Int32 → Int32 → (Nat → Int32) → Int32 → (Nat → Int32) → Int32 → RdT) (H : z < 4 → SubH k b to (z + 1) signs tape rec (fun d a t n M tp rc => fX12_readsRank d a t n M tp rc 0) 4) {L M0 : Nat} (codes : Nat → Int32) : ∀ n p M (neg : Bool) i d f (rc : Nat → Int32), to - p = n → p ≤ to → L + (if neg = true then 1 else 0) ≤ p → M ≤ p → i ≤ p → 1 + 5 * (4 - z) + (to - p) ≤ d → n < f →
    Out b to p L M z neg codes rc (loopN (fun (s : Int32 × Int32 × Int32 × Int32) k5 => fX6_readThing_l5 rec (nI L) (-1) codes (nI k) signs (nI z) k5 s.1 s.2.1 s.2.2.1 s.2.2.2) f (nI p, sg b to p, b2i neg, nI i)) (fX12_readsThing d (nI p) (nI to) (nI z) (nI M) tape rc) := by
  have hk := hx.1
  have hb := hx.2.1
  have htk : to ≤ k := by omega
  have h40 : to ≤ 40 := by omega
  intro n
  induction n with
  | zero =>
    intro p M neg i d f rc hn hp hL hM hi hd hf
    obtain ⟨f, rfl⟩ : ∃ g, f = g + 1 := ⟨f - 1, by omega⟩
    obtain ⟨d, rfl⟩ : ∃ g, d = g + 1 := ⟨d - 1, by omega⟩
    have n45 : ¬ (p < to ∧ b p = 45) := fun w => by omega
    have s45 : ¬ sg b to p = 45 := fun w => n45 ((sg_eq hb to p (x := 45) (by omega)).mp w)
    have e : fX6_readThing_l5 rec (nI L) (-1) codes (nI k) signs (nI z) (loopN (fun (s : Int32 × Int32 × Int32 × Int32) k5 => fX6_readThing_l5 rec (nI L) (-1) codes (nI k) signs (nI z) k5 s.1 s.2.1 s.2.2.1 s.2.2.2) f) (nI p) (sg b to p) (b2i neg) (nI i) = fX6_readThing_b42 rec (nI L) (nI p) (sg b to p) (-1) codes (nI k) signs (nI z) (b2i neg) := by
      rw [fX6_readThing_l5, if_neg s45]; simp
    show Out b to p L M z neg codes rc (fX6_readThing_l5 rec (nI L) (-1) codes (nI k) signs (nI z) _ (nI p) (sg b to p) (b2i neg) (nI i)) _
    rw [e]
    exact j_core hx ht hz rec H hp neg hL hM n45 codes rc hd
  | succ n ih =>
    intro p M neg i d f rc hn hp hL hM hi hd hf
    obtain ⟨f, rfl⟩ : ∃ g, f = g + 1 := ⟨f - 1, by omega⟩
    obtain ⟨d, rfl⟩ : ∃ g, d = g + 1 := ⟨d - 1, by omega⟩
    show Out b to p L M z neg codes rc (fX6_readThing_l5 rec (nI L) (-1) codes (nI k) signs (nI z) (loopN (fun (s : Int32 × Int32 × Int32 × Int32) k5 => fX6_readThing_l5 rec (nI L) (-1) codes (nI k) signs (nI z) k5 s.1 s.2.1 s.2.2.1 s.2.2.2) f) (nI p) (sg b to p) (b2i neg) (nI i)) _
    by_cases c45 : p < to ∧ b p = 45
    · have s45 : sg b to p = 45 := (sg_eq hb to p (x := 45) (by omega)).mpr c45
      have tk := m_takes hx htk hp 45
      rw [if_pos c45] at tk
      have tk' : fX12_takes (nI p) (nI to) tape 45 = some (1, nI (p + 1)) := tk
      show Out b to p L M z neg codes rc _ (fX12_readsThing_s (fX12_readsThing d) (fX12_readsRank d) (nI p) (nI to) (nI z) (nI M) tape rc)
      rw [fX12_readsThing_s, tk', ob_s, if_neg (show ¬ (1 : Int32) = 0 by decide), fX6_readThing_l5, if_neg (show ¬ (40 : Int32) ≤ nI i from nI_ge (b := 40) (by omega) (by omega)), if_pos s45, t_step hx ht (by omega), ob_s]
      have eL : (if b2i neg = 0 then fX6_readThing_b35 rec (nI L) (nI (p + 1)) (sg b to (p + 1)) (-1) codes (nI k) signs (nI z) (nI i) 1 (loopN (fun (s : Int32 × Int32 × Int32 × Int32) k5 => fX6_readThing_l5 rec (nI L) (-1) codes (nI k) signs (nI z) k5 s.1 s.2.1 s.2.2.1 s.2.2.2) f) else fX6_readThing_b35 rec (nI L) (nI (p + 1)) (sg b to (p + 1)) (-1) codes (nI k) signs (nI z) (nI i) 0 (loopN (fun (s : Int32 × Int32 × Int32 × Int32) k5 => fX6_readThing_l5 rec (nI L) (-1) codes (nI k) signs (nI z) k5 s.1 s.2.1 s.2.2.1 s.2.2.2) f)) = loopN (fun (s : Int32 × Int32 × Int32 × Int32) k5 => fX6_readThing_l5 rec (nI L) (-1) codes (nI k) signs (nI z) k5 s.1 s.2.1 s.2.2.1 s.2.2.2) f (nI (p + 1), sg b to (p + 1), b2i (!neg), nI (i + 1)) := by
        cases neg with
        | false => rw [if_pos (show b2i false = 0 from rfl), fX6_readThing_b35, nI_1]; rfl
        | true => rw [if_neg (show ¬ b2i true = 0 by decide), fX6_readThing_b35, nI_1]; rfl
      rw [eL]
      have O := ih (p + 1) M (!neg) (i + 1) d f rc (by omega) (by omega) (by cases neg <;> simp_all <;> omega) (by omega) (by omega) (by omega) (by omega)
      rcases O with ⟨p1, L1, M1, c1, rc1, F, a1, a2, a3, a4, a5, a6, a7, a8, a9⟩ | ⟨q, L1, M1, at1, ne1, c1, rc1, a1, a2, a3, a4, a5, a6⟩
      · rw [a8, a9, ob_s, t_codes (by omega), ob_s, if_pos (Or.inr rfl)]
        left
        refine ⟨p1, L1, M1 + 1, c1, upd rc1 M1 3000, fun x y u v => -(F x y u v), by omega, a2, ?_, by omega, a5, fun i hi => (pk_un (by have := (a7 0 0 0 0).2.1; omega)).trans (a6 i hi), fun x y u v => ⟨?_, ?_⟩, rfl, rfl⟩
        · cases neg <;> simp_all <;> omega
        · have := (a7 x y u v).1
          cases neg with
          | false => simpa using this
          | true => simpa [neg_neg32] using this
        · exact m_ng pk_us (cmp_congr (a7 x y u v).2 (fun i _ hi => pk_un (by omega))) (cmp_lt (a7 x y u v).2)
      · rw [a5, a6, ob_s, t_codes (by omega), ob_s, if_pos (Or.inl rfl)]
        right
        exact ⟨q, L1, M1 + 1, at1, ne1, c1, upd rc1 M1 3000, by omega, a2, a3, by omega, rfl, rfl⟩
    · have s45 : ¬ sg b to p = 45 := fun w => c45 ((sg_eq hb to p (x := 45) (by omega)).mp w)
      have e : fX6_readThing_l5 rec (nI L) (-1) codes (nI k) signs (nI z) (loopN (fun (s : Int32 × Int32 × Int32 × Int32) k5 => fX6_readThing_l5 rec (nI L) (-1) codes (nI k) signs (nI z) k5 s.1 s.2.1 s.2.2.1 s.2.2.2) f) (nI p) (sg b to p) (b2i neg) (nI i) = fX6_readThing_b42 rec (nI L) (nI p) (sg b to p) (-1) codes (nI k) signs (nI z) (b2i neg) := by
        rw [fX6_readThing_l5, if_neg s45]; simp
      rw [e]
      exact j_core hx ht hz rec H hp neg hL hM c45 codes rc hd
theorem j_thing {k : Nat} {b : Nat → Nat} {signs tape : Nat → Int32} (hx : txB k b signs tape) {to z : Nat} (ht : to = min k 40) (hz : z ≤ 4) (rec : Int32 → Int32 → Int32 → Int32 → (Nat → Int32) → Int32 → (Nat → Int32) → Int32 → RdT) (H : z < 4 → SubH k b to (z + 1) signs tape rec (fun d a t n M tp rc => fX12_readsRank d a t n M tp rc 0) 4) : SubH k b to z signs tape (fX6_readThing rec) (fun d a t n M tp rc => fX12_readsThing d a t n M tp rc) 0 := by
  intro p L M codes rc d hp hL hM hd
  exact j_minus hx ht hz rec H (M0 := 0) codes (to - p) p M false 0 d FUEL rc rfl hp (by simpa using hL) hM (by omega) (by omega) (lt_F (by omega))
