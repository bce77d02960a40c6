/-! ===== products, sums and a comparison ===== -/
theorem loopN_s {σ R : Type} (body : σ → (σ → Option R) → Option R) (n : Nat) (s : σ) : loopN body (n + 1) s = body s (loopN body n) := rfl
theorem wj_05 (f g : Int32) : wkS (nI 0 + 5) f g = jnS (-3) f g := by
  rw [show nI 0 + 5 = (5 : Int32) by decide]
  simp [wkS, jnS]
theorem wj_15 (f g : Int32) : wkS (nI 1 + 5) f g = jnS (-4) f g := by
  rw [show nI 1 + 5 = (6 : Int32) by decide]
  simp [wkS, jnS]
theorem wj_03 (f g : Int32) : wkS (nI 0 + 3) f g = jnS (-1) f g := by
  rw [show nI 0 + 3 = (3 : Int32) by decide]
  simp [wkS, jnS]
theorem wj_13 (f g : Int32) : wkS (nI 1 + 3) f g = jnS (-2) f g := by
  rw [show nI 1 + 3 = (4 : Int32) by decide]
  simp [wkS, jnS]
theorem wj_00 (f g : Int32) : wkS (nI 0 + 0) f g = jnS (-5) f g := by
  rw [show nI 0 + 0 = (0 : Int32) by decide]
  simp [wkS, jnS]
theorem wj_10 (f g : Int32) : wkS (nI 1 + 0) f g = jnS (-6) f g := by
  rw [show nI 1 + 0 = (1 : Int32) by decide]
  simp [wkS, jnS]
theorem wj_20 (f g : Int32) : wkS (nI 2 + 0) f g = jnS (-7) f g := by
  rw [show nI 2 + 0 = (2 : Int32) by decide]
  simp [wkS, jnS]
theorem ix_3 : ∀ c, c < 256 → ixS 3 c = if c = 42 then 0 else if c = 47 then 1 else -1 := by decide +kernel
theorem ix_2 : ∀ c, c < 256 → ixS 2 c = if c = 43 then 0 else if c = 45 then 1 else -1 := by decide +kernel
theorem ix_1 : ∀ c, c < 256 → ixS 1 c = if c = 60 then 0 else if c = 62 then 1 else if c = 61 then 2 else -1 := by decide +kernel
theorem j_rank3 {k : Nat} {b : Nat → Nat} {signs tape : Nat → Int32} {to z : Nat} {A : Int32 → Int32 → Int32 → Int32 → (Nat → Int32) → Int32 → (Nat → Int32) → Int32 → RdT} (H : SubH k b to z signs tape A (fun d a t n M tp rc => fX12_readsThing d a t n M tp rc) 0) : SubH k b to z signs tape A (fun d a t n M tp rc => fX12_readsRank d a t n M tp rc 3) 1 := by
  intro p L M codes rc d hp hL hM hd
  obtain ⟨d, rfl⟩ : ∃ g, d = g + 1 := ⟨d - 1, by omega⟩
  have O := H p L M codes rc d hp hL hM (by omega)
  dsimp only at O
  show Out b to p L M z false codes rc _ (fX12_readsRank_s (fX12_readsThing d) (fX12_readsRank d) (nI p) (nI to) (nI z) (nI M) tape rc 3)
  rw [fX12_readsRank_s, if_pos rfl]
  rcases O with ⟨p2, L2, M2, c2, rc2, G, a1, a2, a3, a4, a5, a6, a7, a8, a9⟩ | ⟨q, L2, M2, at2, ne2, c2, rc2, a1, a2, a3, a4, a5, a6⟩
  · left
    exact ⟨p2, L2, M2, c2, rc2, G, a1, a2, a3, a4, a5, a6, a7, a8, by rw [a9, ob_s, if_pos (Or.inr rfl)]⟩
  · right
    exact ⟨q, L2, M2, at2, ne2, c2, rc2, a1, a2, a3, a4, a5, by rw [a6, ob_s, if_pos (Or.inl rfl)]⟩
theorem j_prodL {k : Nat} {b : Nat → Nat} {signs tape : Nat → Int32} (hx : txB k b signs tape) {to z : Nat} (ht : to = min k 40) (rec : Int32 → Int32 → Int32 → Int32 → (Nat → Int32) → Int32 → (Nat → Int32) → Int32 → RdT) {p0 L0 M0 : Nat} (hL0 : L0 ≤ p0) (hM0 : M0 ≤ p0) (codes rc : Nat → Int32) (H : SubH k b to z signs tape (fX6_readThing rec) (fun d a t n M tp rc => fX12_readsRank d a t n M tp rc 3) 1) {d : Nat} (hd : 1 + 5 * (4 - z) + (to - p0) + 1 ≤ d) : ∀ n p1 L1 M1 i f1 f2 (c1 rc1 : Nat → Int32) (F : Int32 → Int32 → Int32 → Int32 → Int32), to - p1 = n → p0 < p1 → p1 ≤ to → L1 + p0 ≤ L0 + p1 → M1 + p0 ≤ M0 + p1 → i ≤ p1 → n < f1 → n < f2 → (∀ i, i < L0 → c1 i = codes i) → (∀ i, i < M0 → rc1 i = rc i) → (∀ x y u v, Cmp (cst x y u v) 40 c1 L0 L1 (F x y u v) ∧ Cmp (mst x y u v) 80 rc1 M0 M1 (F x y u v)) →
    Out b to p0 L0 M0 z false codes rc (loopN (fun (s : Int32 × Int32 × Int32 × Int32 × (Nat → Int32) × Int32) k8 => fX6_readProduct_l8 rec (nI k) signs (nI z) k8 s.1 s.2.1 s.2.2.1 s.2.2.2.1 s.2.2.2.2.1 s.2.2.2.2.2) f1 (nI L1, nI p1, sg b to p1, -1, c1, nI i)) (loopN (fun (s : Int32 × Int32 × Int32 × (Nat → Int32) × Int32) k24 => fX12_readsRank_l24 (fX12_readsThing d) (fX12_readsRank d) (nI to) tape 2 k24 s.1 s.2.1 s.2.2.1 s.2.2.2.1 s.2.2.2.2) f2 (nI p1, nI z, nI M1, rc1, 1)) := by
  have hk := hx.1
  have hb := hx.2.1
  have htk : to ≤ k := by omega
  have h40 : to ≤ 40 := by omega
  intro n
  induction n using Nat.strongRecOn with
  | ind n ih =>
  intro p1 L1 M1 i f1 f2 c1 rc1 F hn hp01 hp1 hL1 hM1 hi hf1 hf2 hc hr hF
  obtain ⟨f1, rfl⟩ : ∃ g, f1 = g + 1 := ⟨f1 - 1, by omega⟩
  obtain ⟨f2, rfl⟩ : ∃ g, f2 = g + 1 := ⟨f2 - 1, by omega⟩
  have iv : ixS 3 (b p1) = if b p1 = 42 then 0 else if b p1 = 47 then 1 else -1 := ix_3 (b p1) (hb p1)
  have uc : loopN (fun (s : Int32 × Int32 × Int32 × Int32 × (Nat → Int32) × Int32) k8 => fX6_readProduct_l8 rec (nI k) signs (nI z) k8 s.1 s.2.1 s.2.2.1 s.2.2.2.1 s.2.2.2.2.1 s.2.2.2.2.2) (f1 + 1) (nI L1, nI p1, sg b to p1, -1, c1, nI i) = fX6_readProduct_l8 rec (nI k) signs (nI z) (loopN (fun (s : Int32 × Int32 × Int32 × Int32 × (Nat → Int32) × Int32) k8 => fX6_readProduct_l8 rec (nI k) signs (nI z) k8 s.1 s.2.1 s.2.2.1 s.2.2.2.1 s.2.2.2.2.1 s.2.2.2.2.2) f1) (nI L1) (nI p1) (sg b to p1) (-1) c1 (nI i) := loopN_s _ _ _
  have um : loopN (fun (s : Int32 × Int32 × Int32 × (Nat → Int32) × Int32) k24 => fX12_readsRank_l24 (fX12_readsThing d) (fX12_readsRank d) (nI to) tape 2 k24 s.1 s.2.1 s.2.2.1 s.2.2.2.1 s.2.2.2.2) (f2 + 1) (nI p1, nI z, nI M1, rc1, 1) = fX12_readsRank_l24 (fX12_readsThing d) (fX12_readsRank d) (nI to) tape 2 (loopN (fun (s : Int32 × Int32 × Int32 × (Nat → Int32) × Int32) k24 => fX12_readsRank_l24 (fX12_readsThing d) (fX12_readsRank d) (nI to) tape 2 k24 s.1 s.2.1 s.2.2.1 s.2.2.2.1 s.2.2.2.2) f2) (nI p1) (nI z) (nI M1) rc1 1 := loopN_s _ _ _
  rw [uc, um]
  rw [fX12_readsRank_l24, if_neg (show ¬ (1 : Int32) = 0 by decide), if_neg (show ¬ (2 : Int32) = 0 by decide), if_neg (show ¬ (2 : Int32) = 1 by decide)]
  have fin : ∀ (K : Int32 × Int32 × Int32 × Int32 × (Nat → Int32) × Int32 → RdT) (a sn bd x l : Int32) (cc : Nat → Int32), ¬ sn = 42 → ¬ sn = 47 → fX6_readProduct_l8 rec (nI k) signs (nI z) K l a sn bd cc x = some (l, a, sn, bd, cc) := by
    intro K a sn bd x l cc n1 n2
    rw [fX6_readProduct_l8, if_neg n1, if_neg n2, fX6_readProduct_b73]
    by_cases h : (40 : Int32) ≤ x
    · rw [if_pos h]
    · rw [if_neg h]
  have stp : ∀ (oc : Int32) (j : Nat), oc < 0 → ¬ oc = -8 → j < 2 → (∀ f g, wkS (nI j + 5) f g = jnS oc f g) → p1 < to → ixS 3 (b p1) = nI j → fX6_readProduct_b32 rec (nI L1) (nI p1) (sg b to p1) (-1) c1 (nI k) signs (nI z) (nI i) (loopN (fun (s : Int32 × Int32 × Int32 × Int32 × (Nat → Int32) × Int32) k8 => fX6_readProduct_l8 rec (nI k) signs (nI z) k8 s.1 s.2.1 s.2.2.1 s.2.2.2.1 s.2.2.2.2.1 s.2.2.2.2.2) f1) = (fX6_readThing rec (nI L1) (nI (p1 + 1)) (sg b to (p1 + 1)) (-1) c1 (nI k) signs (nI z)).bind (fun r3 => (fX6_put r3.1 r3.2.2.2.2 oc).bind (fun r1 => loopN (fun (s : Int32 × Int32 × Int32 × Int32 × (Nat → Int32) × Int32) k8 => fX6_readProduct_l8 rec (nI k) signs (nI z) k8 s.1 s.2.1 s.2.2.1 s.2.2.2.1 s.2.2.2.2.1 s.2.2.2.2.2) f1 (r1.1, r3.2.1, r3.2.2.1, r3.2.2.2.1, r1.2, nI i + 1))) → (if sg b to p1 = 42 then True else sg b to p1 = 47) → Out b to p0 L0 M0 z false codes rc (fX6_readProduct_l8 rec (nI k) signs (nI z) (loopN (fun (s : Int32 × Int32 × Int32 × Int32 × (Nat → Int32) × Int32) k8 => fX6_readProduct_l8 rec (nI k) signs (nI z) k8 s.1 s.2.1 s.2.2.1 s.2.2.2.1 s.2.2.2.2.1 s.2.2.2.2.2) f1) (nI L1) (nI p1) (sg b to p1) (-1) c1 (nI i)) (fX12_readsRank_b50 (fX12_readsThing d) (fX12_readsRank d) (nI p1) (nI to) (nI z) (nI M1) tape rc1 2 3 (loopN (fun (s : Int32 × Int32 × Int32 × (Nat → Int32) × Int32) k24 => fX12_readsRank_l24 (fX12_readsThing d) (fX12_readsRank d) (nI to) tape 2 k24 s.1 s.2.1 s.2.2.1 s.2.2.2.1 s.2.2.2.2) f2)) := by
    intro oc j hoc h8 hj hw hpt hix hput hsg
    have ne1 : ¬ nI j = -1 := n_ne1 (by omega)
    rw [fX12_readsRank_b50, m_takesOf hx htk hp1 (s := 3) (by omega), ob_s, hix, if_pos (show p1 < to ∧ ¬ nI j = -1 from ⟨hpt, ne1⟩), if_pos (nI_pos' (show j < 2 ^ 31 by omega))]
    have e1 : fX6_readProduct_l8 rec (nI k) signs (nI z) (loopN (fun (s : Int32 × Int32 × Int32 × Int32 × (Nat → Int32) × Int32) k8 => fX6_readProduct_l8 rec (nI k) signs (nI z) k8 s.1 s.2.1 s.2.2.1 s.2.2.2.1 s.2.2.2.2.1 s.2.2.2.2.2) f1) (nI L1) (nI p1) (sg b to p1) (-1) c1 (nI i) = fX6_readProduct_b32 rec (nI L1) (nI p1) (sg b to p1) (-1) c1 (nI k) signs (nI z) (nI i) (loopN (fun (s : Int32 × Int32 × Int32 × Int32 × (Nat → Int32) × Int32) k8 => fX6_readProduct_l8 rec (nI k) signs (nI z) k8 s.1 s.2.1 s.2.2.1 s.2.2.2.1 s.2.2.2.2.1 s.2.2.2.2.2) f1) := by
      rw [fX6_readProduct_l8, if_neg (show ¬ (40 : Int32) ≤ nI i from nI_ge (b := 40) (by omega) (by omega))]
      by_cases g : sg b to p1 = 42
      · rw [if_pos g]
      · rw [if_neg g] at hsg ⊢
        rw [if_pos hsg]
    rw [e1, hput]
    have O := H (p1 + 1) L1 M1 c1 rc1 d (by omega) (by omega) (by omega) (by omega)
    dsimp only at O ⊢
    rw [show (2 : Int32) + 1 = 3 from rfl]
    rcases O with ⟨p2, L2, M2, c2, rc2, G, a1, a2, a3, a4, a5, a6, a7, a8, a9⟩ | ⟨q, L2, M2, at2, ne2, c2, rc2, a1, a2, a3, a4, a5, a6⟩
    · have a3' : L2 + (p1 + 1) ≤ L1 + p2 := by simpa using a3
      rw [a8, a9, ob_s, ob_s, if_neg (show ¬ (1 : Int32) = 0 by decide)]
      dsimp only
      rw [t_put (show L2 < 40 by omega), ob_s, if_neg (show ¬ (2 : Int32) = 0 by decide), if_neg (show ¬ (2 : Int32) = 1 by decide), fX12_readsRank_b96, t_codes (show M2 < 80 by omega), ob_s, if_neg (show ¬ (2 : Int32) ≤ 0 by decide), fX12_readsRank_b109, nI_1]
      have k1 := (a7 0 0 0 0).1.1
      have k2 := (a7 0 0 0 0).2.1
      have k3 := (hF 0 0 0 0).1.1
      have k4 := (hF 0 0 0 0).2.1
      refine ih (to - p2) (by omega) p2 (L2 + 1) (M2 + 1) (i + 1) f1 f2 (upd c2 L2 oc) (upd rc2 M2 (2000 + nI j + 5)) (fun x y u v => jnS oc (F x y u v) (G x y u v)) rfl (by omega) a2 (by omega) (by omega) (by omega) (by omega) (by omega) (fun t ht => (pk_un (by omega)).trans ((a5 t (by omega)).trans (hc t ht))) (fun t ht => (pk_un (by omega)).trans ((a6 t (by omega)).trans (hr t ht))) ?_
      intro x y u v
      have g1 := (a7 x y u v).1
      rw [if_neg (show ¬ false = true by decide)] at g1
      constructor
      · have w := c_bi (c := upd c2 L2 oc) (L := L0) (L1 := L1) (L2 := L2) (x := x) (y := y) (u := u) (v := v) (by rw [pk_us]; exact hoc) (by rw [pk_us]; exact h8) (cmp_congr (hF x y u v).1 (fun t _ ht => (pk_un (by omega)).trans (a5 t (by omega)))) (cmp_congr g1 (fun t _ ht => pk_un (by omega)))
        rw [pk_us] at w; exact w
      · have w := m_bi (c := upd rc2 M2 (2000 + nI j + 5)) (L := M0) (L1 := M1) (L2 := M2) (x := x) (y := y) (u := u) (v := v) (w := nI j + 5) (by rw [pk_us, Int32.add_assoc]) (by rcases (show j = 0 ∨ j = 1 by omega) with rfl | rfl <;> decide) (cmp_congr (hF x y u v).2 (fun t _ ht => (pk_un (by omega)).trans (a6 t (by omega)))) (cmp_congr (a7 x y u v).2 (fun t _ ht => pk_un (by omega))) (cmp_lt (hF x y u v).2) (cmp_lt (a7 x y u v).2)
        rw [hw] at w; exact w
    · rw [a5, a6, ob_s, ob_s, if_pos rfl]
      obtain ⟨L3, c3, z1, z2⟩ := t_put' a3 c2 oc
      dsimp only
      rw [z2, ob_s, fX12_readsRank_b70]
      obtain ⟨f1, rfl⟩ : ∃ g, f1 = g + 1 := ⟨f1 - 1, by omega⟩
      right
      refine ⟨q, L3, M2, at2, ne2, c3, rc2, by omega, a2, z1, by omega, ?_, rfl⟩
      refine (loopN_s _ _ _).trans ?_
      exact fin _ _ _ _ _ _ _ (show ¬ (-1 : Int32) = 42 by decide) (show ¬ (-1 : Int32) = 47 by decide)
  by_cases c1' : p1 < to ∧ b p1 = 42
  · have s1 : sg b to p1 = 42 := (sg_eq hb to p1 (x := 42) (by omega)).mpr c1'
    exact stp (-3) 0 (by decide) (by decide) (by omega) (fun f g => wj_05 f g) c1'.1 (by rw [iv, if_pos c1'.2]; rfl) (by
      rw [fX6_readProduct_b32, t_step hx ht (by omega), ob_s]
      refine congrArg (Option.bind _) (funext fun r3 => ?_)
      rw [if_pos s1, fX6_readProduct_b64]) (by rw [if_pos s1]; trivial)
  · by_cases c2' : p1 < to ∧ b p1 = 47
    · have s1 : sg b to p1 = 47 := (sg_eq hb to p1 (x := 47) (by omega)).mpr c2'
      have s2 : ¬ sg b to p1 = 42 := fun w => c1' ((sg_eq hb to p1 (x := 42) (by omega)).mp w)
      exact stp (-4) 1 (by decide) (by decide) (by omega) (fun f g => wj_15 f g) c2'.1 (by rw [iv, if_neg (fun w => c1' ⟨c2'.1, w⟩), if_pos c2'.2]; rfl) (by
        rw [fX6_readProduct_b32, t_step hx ht (by omega), ob_s]
        refine congrArg (Option.bind _) (funext fun r3 => ?_)
        rw [if_neg s2, fX6_readProduct_b64]) (by rw [if_neg s2]; exact s1)
    · have s1 : ¬ sg b to p1 = 47 := fun w => c2' ((sg_eq hb to p1 (x := 47) (by omega)).mp w)
      have s2 : ¬ sg b to p1 = 42 := fun w => c1' ((sg_eq hb to p1 (x := 42) (by omega)).mp w)
      have nt : ¬ (p1 < to ∧ ¬ ixS 3 (b p1) = -1) := by
        rintro ⟨h1, h2⟩
        apply h2
        rw [iv, if_neg (fun w => c1' ⟨h1, w⟩), if_neg (fun w => c2' ⟨h1, w⟩)]
      rw [fX12_readsRank_b50, m_takesOf hx htk hp1 (s := 3) (by omega), ob_s, if_neg nt, if_neg (show ¬ (0 : Int32) ≤ -1 by decide), fX12_readsRank_b58, fin _ _ _ _ _ _ _ s2 s1]
      left
      exact ⟨p1, L1, M1, c1, rc1, F, hp01, hp1, by simpa using hL1, hM1, hc, hr, fun x y u v => by simpa using hF x y u v, rfl, rfl⟩
theorem j_prod {k : Nat} {b : Nat → Nat} {signs tape : Nat → Int32} (hx : txB k b signs tape) {to z : Nat} (ht : to = min k 40) (rec : Int32 → Int32 → Int32 → Int32 → (Nat → Int32) → Int32 → (Nat → Int32) → Int32 → RdT) (H : SubH k b to z signs tape (fX6_readThing rec) (fun d a t n M tp rc => fX12_readsRank d a t n M tp rc 3) 1) : SubH k b to z signs tape (fX6_readProduct rec) (fun d a t n M tp rc => fX12_readsRank d a t n M tp rc 2) 2 := by
  intro p L M codes rc d hp hL hM hd
  obtain ⟨d, rfl⟩ : ∃ g, d = g + 1 := ⟨d - 1, by omega⟩
  show Out b to p L M z false codes rc _ (fX12_readsRank_s (fX12_readsThing d) (fX12_readsRank d) (nI p) (nI to) (nI z) (nI M) tape rc 2)
  have O := H p L M codes rc d hp hL hM (by omega)
  dsimp only at O
  rw [fX12_readsRank_s, if_neg (show ¬ (2 : Int32) = 3 by decide), show (2 : Int32) + 1 = 3 from rfl, fX6_readProduct]
  have hk := hx.1
  rcases O with ⟨p2, L2, M2, c2, rc2, G, a1, a2, a3, a4, a5, a6, a7, a8, a9⟩ | ⟨q, L2, M2, at2, ne2, c2, rc2, a1, a2, a3, a4, a5, a6⟩
  · rw [a8, a9, ob_s, ob_s, if_neg (show ¬ (1 : Int32) = 0 by decide)]
    exact j_prodL hx ht rec hL hM codes rc H (d := d) (by omega) (to - p2) p2 L2 M2 0 FUEL FUEL c2 rc2 G rfl a1 a2 (by simpa using a3) a4 (by omega) (lt_F (by omega)) (lt_F (by omega)) a5 a6 (fun x y u v => by simpa using a7 x y u v)
  · rw [a5, a6, ob_s, ob_s, if_pos rfl]
    right
    refine ⟨q, L2, M2, at2, ne2, c2, rc2, a1, a2, a3, a4, ?_, rfl⟩
    show fX6_readProduct_b8 rec (nI L2) at2 (-1) (nI q) c2 (nI k) signs (nI z) 0 = _
    unfold fX6_readProduct_b8
    refine lp_up (fun _ => (nI L2, at2, (-1 : Int32), nI q, c2, (0 : Int32))) 0 (by omega) rfl (fun i hi => absurd hi (by omega)) ?_
    intro K
    show fX6_readProduct_l8 rec (nI k) signs (nI z) K (nI L2) at2 (-1) (nI q) c2 0 = _
    rw [fX6_readProduct_l8, if_neg (show ¬ (40 : Int32) ≤ 0 by decide), if_neg (show ¬ (-1 : Int32) = 42 by decide), if_neg (show ¬ (-1 : Int32) = 47 by decide), fX6_readProduct_b73]
theorem j_sumL {k : Nat} {b : Nat → Nat} {signs tape : Nat → Int32} (hx : txB k b signs tape) {to z : Nat} (ht : to = min k 40) (rec : Int32 → Int32 → Int32 → Int32 → (Nat → Int32) → Int32 → (Nat → Int32) → Int32 → RdT) {p0 L0 M0 : Nat} (hL0 : L0 ≤ p0) (hM0 : M0 ≤ p0) (codes rc : Nat → Int32) (H : SubH k b to z signs tape (fX6_readProduct rec) (fun d a t n M tp rc => fX12_readsRank d a t n M tp rc 2) 2) {d : Nat} (hd : 1 + 5 * (4 - z) + (to - p0) + 2 ≤ d) : ∀ n p1 L1 M1 i f1 f2 (c1 rc1 : Nat → Int32) (F : Int32 → Int32 → Int32 → Int32 → Int32), to - p1 = n → p0 < p1 → p1 ≤ to → L1 + p0 ≤ L0 + p1 → M1 + p0 ≤ M0 + p1 → i ≤ p1 → n < f1 → n < f2 → (∀ i, i < L0 → c1 i = codes i) → (∀ i, i < M0 → rc1 i = rc i) → (∀ x y u v, Cmp (cst x y u v) 40 c1 L0 L1 (F x y u v) ∧ Cmp (mst x y u v) 80 rc1 M0 M1 (F x y u v)) →
    Out b to p0 L0 M0 z false codes rc (loopN (fun (s : Int32 × Int32 × Int32 × Int32 × (Nat → Int32) × Int32) k8 => fX6_readSum_l8 rec (nI k) signs (nI z) k8 s.1 s.2.1 s.2.2.1 s.2.2.2.1 s.2.2.2.2.1 s.2.2.2.2.2) f1 (nI L1, nI p1, sg b to p1, -1, c1, nI i)) (loopN (fun (s : Int32 × Int32 × Int32 × (Nat → Int32) × Int32) k24 => fX12_readsRank_l24 (fX12_readsThing d) (fX12_readsRank d) (nI to) tape 1 k24 s.1 s.2.1 s.2.2.1 s.2.2.2.1 s.2.2.2.2) f2 (nI p1, nI z, nI M1, rc1, 1)) := by
  have hk := hx.1
  have hb := hx.2.1
  have htk : to ≤ k := by omega
  have h40 : to ≤ 40 := by omega
  intro n
  induction n using Nat.strongRecOn with
  | ind n ih =>
  intro p1 L1 M1 i f1 f2 c1 rc1 F hn hp01 hp1 hL1 hM1 hi hf1 hf2 hc hr hF
  obtain ⟨f1, rfl⟩ : ∃ g, f1 = g + 1 := ⟨f1 - 1, by omega⟩
  obtain ⟨f2, rfl⟩ : ∃ g, f2 = g + 1 := ⟨f2 - 1, by omega⟩
  have iv : ixS 2 (b p1) = if b p1 = 43 then 0 else if b p1 = 45 then 1 else -1 := ix_2 (b p1) (hb p1)
  have uc : loopN (fun (s : Int32 × Int32 × Int32 × Int32 × (Nat → Int32) × Int32) k8 => fX6_readSum_l8 rec (nI k) signs (nI z) k8 s.1 s.2.1 s.2.2.1 s.2.2.2.1 s.2.2.2.2.1 s.2.2.2.2.2) (f1 + 1) (nI L1, nI p1, sg b to p1, -1, c1, nI i) = fX6_readSum_l8 rec (nI k) signs (nI z) (loopN (fun (s : Int32 × Int32 × Int32 × Int32 × (Nat → Int32) × Int32) k8 => fX6_readSum_l8 rec (nI k) signs (nI z) k8 s.1 s.2.1 s.2.2.1 s.2.2.2.1 s.2.2.2.2.1 s.2.2.2.2.2) f1) (nI L1) (nI p1) (sg b to p1) (-1) c1 (nI i) := loopN_s _ _ _
  have um : loopN (fun (s : Int32 × Int32 × Int32 × (Nat → Int32) × Int32) k24 => fX12_readsRank_l24 (fX12_readsThing d) (fX12_readsRank d) (nI to) tape 1 k24 s.1 s.2.1 s.2.2.1 s.2.2.2.1 s.2.2.2.2) (f2 + 1) (nI p1, nI z, nI M1, rc1, 1) = fX12_readsRank_l24 (fX12_readsThing d) (fX12_readsRank d) (nI to) tape 1 (loopN (fun (s : Int32 × Int32 × Int32 × (Nat → Int32) × Int32) k24 => fX12_readsRank_l24 (fX12_readsThing d) (fX12_readsRank d) (nI to) tape 1 k24 s.1 s.2.1 s.2.2.1 s.2.2.2.1 s.2.2.2.2) f2) (nI p1) (nI z) (nI M1) rc1 1 := loopN_s _ _ _
  rw [uc, um]
  rw [fX12_readsRank_l24, if_neg (show ¬ (1 : Int32) = 0 by decide), if_neg (show ¬ (1 : Int32) = 0 by decide), if_pos (show (1 : Int32) = 1 from rfl)]
  have fin : ∀ (K : Int32 × Int32 × Int32 × Int32 × (Nat → Int32) × Int32 → RdT) (a sn bd x l : Int32) (cc : Nat → Int32), ¬ sn = 43 → ¬ sn = 45 → fX6_readSum_l8 rec (nI k) signs (nI z) K l a sn bd cc x = some (l, a, sn, bd, cc) := by
    intro K a sn bd x l cc n1 n2
    rw [fX6_readSum_l8, if_neg n1, if_neg n2, fX6_readSum_b72]
    by_cases h : (40 : Int32) ≤ x
    · rw [if_pos h]
    · rw [if_neg h]
  have stp : ∀ (oc : Int32) (j : Nat), oc < 0 → ¬ oc = -8 → j < 2 → (∀ f g, wkS (nI j + 3) f g = jnS oc f g) → p1 < to → ixS 2 (b p1) = nI j → fX6_readSum_b32 rec (nI L1) (nI p1) (sg b to p1) (-1) c1 (nI k) signs (nI z) (nI i) (loopN (fun (s : Int32 × Int32 × Int32 × Int32 × (Nat → Int32) × Int32) k8 => fX6_readSum_l8 rec (nI k) signs (nI z) k8 s.1 s.2.1 s.2.2.1 s.2.2.2.1 s.2.2.2.2.1 s.2.2.2.2.2) f1) = (fX6_readProduct rec (nI L1) (nI (p1 + 1)) (sg b to (p1 + 1)) (-1) c1 (nI k) signs (nI z)).bind (fun r3 => (fX6_put r3.1 r3.2.2.2.2 oc).bind (fun r1 => loopN (fun (s : Int32 × Int32 × Int32 × Int32 × (Nat → Int32) × Int32) k8 => fX6_readSum_l8 rec (nI k) signs (nI z) k8 s.1 s.2.1 s.2.2.1 s.2.2.2.1 s.2.2.2.2.1 s.2.2.2.2.2) f1 (r1.1, r3.2.1, r3.2.2.1, r3.2.2.2.1, r1.2, nI i + 1))) → (if sg b to p1 = 43 then True else sg b to p1 = 45) → Out b to p0 L0 M0 z false codes rc (fX6_readSum_l8 rec (nI k) signs (nI z) (loopN (fun (s : Int32 × Int32 × Int32 × Int32 × (Nat → Int32) × Int32) k8 => fX6_readSum_l8 rec (nI k) signs (nI z) k8 s.1 s.2.1 s.2.2.1 s.2.2.2.1 s.2.2.2.2.1 s.2.2.2.2.2) f1) (nI L1) (nI p1) (sg b to p1) (-1) c1 (nI i)) (fX12_readsRank_b50 (fX12_readsThing d) (fX12_readsRank d) (nI p1) (nI to) (nI z) (nI M1) tape rc1 1 2 (loopN (fun (s : Int32 × Int32 × Int32 × (Nat → Int32) × Int32) k24 => fX12_readsRank_l24 (fX12_readsThing d) (fX12_readsRank d) (nI to) tape 1 k24 s.1 s.2.1 s.2.2.1 s.2.2.2.1 s.2.2.2.2) f2)) := by
    intro oc j hoc h8 hj hw hpt hix hput hsg
    have ne1 : ¬ nI j = -1 := n_ne1 (by omega)
    rw [fX12_readsRank_b50, m_takesOf hx htk hp1 (s := 2) (by omega), ob_s, hix, if_pos (show p1 < to ∧ ¬ nI j = -1 from ⟨hpt, ne1⟩), if_pos (nI_pos' (show j < 2 ^ 31 by omega))]
    have e1 : fX6_readSum_l8 rec (nI k) signs (nI z) (loopN (fun (s : Int32 × Int32 × Int32 × Int32 × (Nat → Int32) × Int32) k8 => fX6_readSum_l8 rec (nI k) signs (nI z) k8 s.1 s.2.1 s.2.2.1 s.2.2.2.1 s.2.2.2.2.1 s.2.2.2.2.2) f1) (nI L1) (nI p1) (sg b to p1) (-1) c1 (nI i) = fX6_readSum_b32 rec (nI L1) (nI p1) (sg b to p1) (-1) c1 (nI k) signs (nI z) (nI i) (loopN (fun (s : Int32 × Int32 × Int32 × Int32 × (Nat → Int32) × Int32) k8 => fX6_readSum_l8 rec (nI k) signs (nI z) k8 s.1 s.2.1 s.2.2.1 s.2.2.2.1 s.2.2.2.2.1 s.2.2.2.2.2) f1) := by
      rw [fX6_readSum_l8, if_neg (show ¬ (40 : Int32) ≤ nI i from nI_ge (b := 40) (by omega) (by omega))]
      by_cases g : sg b to p1 = 43
      · rw [if_pos g]
      · rw [if_neg g] at hsg ⊢
        rw [if_pos hsg]
    rw [e1, hput]
    have O := H (p1 + 1) L1 M1 c1 rc1 d (by omega) (by omega) (by omega) (by omega)
    dsimp only at O ⊢
    rw [show (1 : Int32) + 1 = 2 from rfl]
    rcases O with ⟨p2, L2, M2, c2, rc2, G, a1, a2, a3, a4, a5, a6, a7, a8, a9⟩ | ⟨q, L2, M2, at2, ne2, c2, rc2, a1, a2, a3, a4, a5, a6⟩
    · have a3' : L2 + (p1 + 1) ≤ L1 + p2 := by simpa using a3
      rw [a8, a9, ob_s, ob_s, if_neg (show ¬ (1 : Int32) = 0 by decide)]
      dsimp only
      rw [t_put (show L2 < 40 by omega), ob_s, if_neg (show ¬ (1 : Int32) = 0 by decide), if_pos rfl, fX12_readsRank_b96, t_codes (show M2 < 80 by omega), ob_s, if_neg (show ¬ (1 : Int32) ≤ 0 by decide), fX12_readsRank_b109, nI_1]
      have k1 := (a7 0 0 0 0).1.1
      have k2 := (a7 0 0 0 0).2.1
      have k3 := (hF 0 0 0 0).1.1
      have k4 := (hF 0 0 0 0).2.1
      refine ih (to - p2) (by omega) p2 (L2 + 1) (M2 + 1) (i + 1) f1 f2 (upd c2 L2 oc) (upd rc2 M2 (2000 + nI j + 3)) (fun x y u v => jnS oc (F x y u v) (G x y u v)) rfl (by omega) a2 (by omega) (by omega) (by omega) (by omega) (by omega) (fun t ht => (pk_un (by omega)).trans ((a5 t (by omega)).trans (hc t ht))) (fun t ht => (pk_un (by omega)).trans ((a6 t (by omega)).trans (hr t ht))) ?_
      intro x y u v
      have g1 := (a7 x y u v).1
      rw [if_neg (show ¬ false = true by decide)] at g1
      constructor
      · have w := c_bi (c := upd c2 L2 oc) (L := L0) (L1 := L1) (L2 := L2) (x := x) (y := y) (u := u) (v := v) (by rw [pk_us]; exact hoc) (by rw [pk_us]; exact h8) (cmp_congr (hF x y u v).1 (fun t _ ht => (pk_un (by omega)).trans (a5 t (by omega)))) (cmp_congr g1 (fun t _ ht => pk_un (by omega)))
        rw [pk_us] at w; exact w
      · have w := m_bi (c := upd rc2 M2 (2000 + nI j + 3)) (L := M0) (L1 := M1) (L2 := M2) (x := x) (y := y) (u := u) (v := v) (w := nI j + 3) (by rw [pk_us, Int32.add_assoc]) (by rcases (show j = 0 ∨ j = 1 by omega) with rfl | rfl <;> decide) (cmp_congr (hF x y u v).2 (fun t _ ht => (pk_un (by omega)).trans (a6 t (by omega)))) (cmp_congr (a7 x y u v).2 (fun t _ ht => pk_un (by omega))) (cmp_lt (hF x y u v).2) (cmp_lt (a7 x y u v).2)
        rw [hw] at w; exact w
    · rw [a5, a6, ob_s, ob_s, if_pos rfl]
      obtain ⟨L3, c3, z1, z2⟩ := t_put' a3 c2 oc
      dsimp only
      rw [z2, ob_s, fX12_readsRank_b70]
      obtain ⟨f1, rfl⟩ : ∃ g, f1 = g + 1 := ⟨f1 - 1, by omega⟩
      right
      refine ⟨q, L3, M2, at2, ne2, c3, rc2, by omega, a2, z1, by omega, ?_, rfl⟩
      refine (loopN_s _ _ _).trans ?_
      exact fin _ _ _ _ _ _ _ (show ¬ (-1 : Int32) = 43 by decide) (show ¬ (-1 : Int32) = 45 by decide)
  by_cases c1' : p1 < to ∧ b p1 = 43
  · have s1 : sg b to p1 = 43 := (sg_eq hb to p1 (x := 43) (by omega)).mpr c1'
    exact stp (-1) 0 (by decide) (by decide) (by omega) (fun f g => wj_03 f g) c1'.1 (by rw [iv, if_pos c1'.2]; rfl) (by
      rw [fX6_readSum_b32, t_step hx ht (by omega), ob_s]
      refine congrArg (Option.bind _) (funext fun r3 => ?_)
      rw [if_pos s1, fX6_readSum_b63]) (by rw [if_pos s1]; trivial)
  · by_cases c2' : p1 < to ∧ b p1 = 45
    · have s1 : sg b to p1 = 45 := (sg_eq hb to p1 (x := 45) (by omega)).mpr c2'
      have s2 : ¬ sg b to p1 = 43 := fun w => c1' ((sg_eq hb to p1 (x := 43) (by omega)).mp w)
      exact stp (-2) 1 (by decide) (by decide) (by omega) (fun f g => wj_13 f g) c2'.1 (by rw [iv, if_neg (fun w => c1' ⟨c2'.1, w⟩), if_pos c2'.2]; rfl) (by
        rw [fX6_readSum_b32, t_step hx ht (by omega), ob_s]
        refine congrArg (Option.bind _) (funext fun r3 => ?_)
        rw [if_neg s2, fX6_readSum_b63]) (by rw [if_neg s2]; exact s1)
    · have s1 : ¬ sg b to p1 = 45 := fun w => c2' ((sg_eq hb to p1 (x := 45) (by omega)).mp w)
      have s2 : ¬ sg b to p1 = 43 := fun w => c1' ((sg_eq hb to p1 (x := 43) (by omega)).mp w)
      have nt : ¬ (p1 < to ∧ ¬ ixS 2 (b p1) = -1) := by
        rintro ⟨h1, h2⟩
        apply h2
        rw [iv, if_neg (fun w => c1' ⟨h1, w⟩), if_neg (fun w => c2' ⟨h1, w⟩)]
      rw [fX12_readsRank_b50, m_takesOf hx htk hp1 (s := 2) (by omega), ob_s, if_neg nt, if_neg (show ¬ (0 : Int32) ≤ -1 by decide), fX12_readsRank_b58, fin _ _ _ _ _ _ _ s2 s1]
      left
      exact ⟨p1, L1, M1, c1, rc1, F, hp01, hp1, by simpa using hL1, hM1, hc, hr, fun x y u v => by simpa using hF x y u v, rfl, rfl⟩
theorem j_sum {k : Nat} {b : Nat → Nat} {signs tape : Nat → Int32} (hx : txB k b signs tape) {to z : Nat} (ht : to = min k 40) (rec : Int32 → Int32 → Int32 → Int32 → (Nat → Int32) → Int32 → (Nat → Int32) → Int32 → RdT) (H : SubH k b to z signs tape (fX6_readProduct rec) (fun d a t n M tp rc => fX12_readsRank d a t n M tp rc 2) 2) : SubH k b to z signs tape (fX6_readSum rec) (fun d a t n M tp rc => fX12_readsRank d a t n M tp rc 1) 3 := by
  intro p L M codes rc d hp hL hM hd
  obtain ⟨d, rfl⟩ : ∃ g, d = g + 1 := ⟨d - 1, by omega⟩
  show Out b to p L M z false codes rc _ (fX12_readsRank_s (fX12_readsThing d) (fX12_readsRank d) (nI p) (nI to) (nI z) (nI M) tape rc 1)
  have O := H p L M codes rc d hp hL hM (by omega)
  dsimp only at O
  rw [fX12_readsRank_s, if_neg (show ¬ (1 : Int32) = 3 by decide), show (1 : Int32) + 1 = 2 from rfl, fX6_readSum]
  have hk := hx.1
  rcases O with ⟨p2, L2, M2, c2, rc2, G, a1, a2, a3, a4, a5, a6, a7, a8, a9⟩ | ⟨q, L2, M2, at2, ne2, c2, rc2, a1, a2, a3, a4, a5, a6⟩
  · rw [a8, a9, ob_s, ob_s, if_neg (show ¬ (1 : Int32) = 0 by decide)]
    exact j_sumL hx ht rec hL hM codes rc H (d := d) (by omega) (to - p2) p2 L2 M2 0 FUEL FUEL c2 rc2 G rfl a1 a2 (by simpa using a3) a4 (by omega) (lt_F (by omega)) (lt_F (by omega)) a5 a6 (fun x y u v => by simpa using a7 x y u v)
  · rw [a5, a6, ob_s, ob_s, if_pos rfl]
    right
    refine ⟨q, L2, M2, at2, ne2, c2, rc2, a1, a2, a3, a4, ?_, rfl⟩
    show fX6_readSum_b8 rec (nI L2) at2 (-1) (nI q) c2 (nI k) signs (nI z) 0 = _
    unfold fX6_readSum_b8
    refine lp_up (fun _ => (nI L2, at2, (-1 : Int32), nI q, c2, (0 : Int32))) 0 (by omega) rfl (fun i hi => absurd hi (by omega)) ?_
    intro K
    show fX6_readSum_l8 rec (nI k) signs (nI z) K (nI L2) at2 (-1) (nI q) c2 0 = _
    rw [fX6_readSum_l8, if_neg (show ¬ (40 : Int32) ≤ 0 by decide), if_neg (show ¬ (-1 : Int32) = 43 by decide), if_neg (show ¬ (-1 : Int32) = 45 by decide), fX6_readSum_b72]
