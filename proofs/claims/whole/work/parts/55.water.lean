/-! ===== water ===== -/
def stab (n : Nat) (dyke d : Nat → Int32) : Prop := ∀ c, c + 1 < n → d c - dyke c - 1 ≤ d (c + 1) ∧ d (c + 1) - dyke c - 1 ≤ d c
def rng (n : Nat) (d : Nat → Int32) : Prop := ∀ c, c < n → 0 ≤ d c ∧ d c ≤ 999
def dyOk (n : Nat) (dyke : Nat → Int32) : Prop := ∀ c, c < n → 0 ≤ dyke c ∧ dyke c ≤ 9
def leastK (n : Nat) (dyke d K : Nat → Int32) : Prop := rng n K ∧ (∀ c, c < n → d c ≤ K c) ∧ stab n dyke K ∧ ∀ D, rng n D → (∀ c, c < n → d c ≤ D c) → stab n dyke D → ∀ c, c < n → K c ≤ D c
def up1 (d dyke : Nat → Int32) : Nat → Int32
  | 0 => d 0
  | c + 1 => jmax (d (c + 1)) (up1 d dyke c - dyke c - 1)
def dn1 (e dyke : Nat → Int32) (n : Nat) : Nat → Int32
  | 0 => e (n - 1)
  | j + 1 => jmax (e (n - 2 - j)) (dn1 e dyke n j - dyke (n - 2 - j) - 1)
def spreadS (n : Nat) (d dyke : Nat → Int32) : Nat → Int32 := fun c => if c < n then dn1 (up1 d dyke) dyke n (n - 1 - c) else d c
theorem wa1 {x y dy : Int32} (h1 : 0 ≤ x) (h2 : x ≤ 999) (h3 : 0 ≤ y) (h4 : y ≤ 999) (h5 : 0 ≤ dy) (h6 : dy ≤ 9) : 0 ≤ jmax x (y - dy - 1) ∧ jmax x (y - dy - 1) ≤ 999 ∧ x ≤ jmax x (y - dy - 1) ∧ y - dy - 1 ≤ jmax x (y - dy - 1) := by
  unfold jmax; grind
theorem wsub {y E dy : Int32} (h3 : 0 ≤ y) (h2 : y ≤ E) (h4 : E ≤ 999) (h5 : 0 ≤ dy) (h6 : dy ≤ 9) : y - dy - 1 ≤ E - dy - 1 := by
  obtain ⟨a, ha, rfl⟩ := nI_of2 (x := y) (M := 999) (n := 999) rfl (by grind) (Int32.le_trans h2 h4)
  obtain ⟨b, hb, rfl⟩ := nI_of2 (x := E) (M := 999) (n := 999) rfl (by grind) h4
  obtain ⟨c, hc, rfl⟩ := nI_of2 (x := dy) (M := 9) (n := 9) rfl (by grind) h6
  have e : ∀ x : Int32, x - nI c - 1 = x - nI (c + 1) := fun x => by rw [nI_succ]; grind
  rw [nI_leI (by omega) (by omega)] at h2
  rw [e, e, Int32.le_iff_toInt_le, pk_sub_toInt (by omega) (by omega), pk_sub_toInt (by omega) (by omega)]
  omega
theorem wa2 {x y z D E dy : Int32} (h1 : x ≤ D) (h2 : y ≤ E) (h3 : 0 ≤ y) (h4 : E ≤ 999) (h5 : 0 ≤ dy) (h6 : dy ≤ 9) (h7 : E - dy - 1 ≤ D) (h8 : z = jmax x (y - dy - 1)) : z ≤ D := by
  have h9 := wsub h3 h2 h4 h5 h6
  subst h8; unfold jmax
  split
  · exact Int32.le_trans h9 h7
  · exact h1
theorem wa3 {kc kd ec ed dy : Int32} (a1 : 0 ≤ kd) (a2 : kd ≤ 999) (b1 : 0 ≤ ec) (b2 : ec ≤ 999) (c1 : 0 ≤ dy) (c2 : dy ≤ 9) (h1 : kc = jmax ec (kd - dy - 1)) (h2 : ed ≤ kd) (h3 : ec - dy - 1 ≤ ed) (d1 : 0 ≤ ed) : kc - dy - 1 ≤ kd ∧ kd - dy - 1 ≤ kc := by
  subst h1; unfold jmax; grind
theorem up_rng {n : Nat} {d dyke : Nat → Int32} (hd : rng n d) (hy : dyOk n dyke) : rng n (up1 d dyke) := by
  intro c
  induction c with
  | zero => intro h; exact hd 0 h
  | succ c ih =>
    intro h
    have := wa1 (hd (c + 1) h).1 (hd (c + 1) h).2 (ih (by omega)).1 (ih (by omega)).2 (hy c (by omega)).1 (hy c (by omega)).2
    exact ⟨this.1, this.2.1⟩
theorem up_le {n : Nat} {d dyke D : Nat → Int32} (hd : rng n d) (hy : dyOk n dyke) (hD : rng n D) (h1 : ∀ c, c < n → d c ≤ D c) (h2 : stab n dyke D) : ∀ c, c < n → up1 d dyke c ≤ D c := by
  intro c
  induction c with
  | zero => intro h; exact h1 0 h
  | succ c ih =>
    intro h
    exact wa2 (h1 (c + 1) h) (ih (by omega)) (up_rng hd hy c (by omega)).1 (hD c (by omega)).2 (hy c (by omega)).1 (hy c (by omega)).2 (h2 c h).1 rfl
theorem sp_rec {n : Nat} (d dyke : Nat → Int32) {c : Nat} (h : c + 1 < n) : spreadS n d dyke c = jmax (up1 d dyke c) (spreadS n d dyke (c + 1) - dyke c - 1) := by
  simp only [spreadS]
  rw [if_pos (by omega), if_pos h]
  have e : n - 1 - c = (n - 1 - (c + 1)) + 1 := by omega
  rw [e, dn1]
  have e2 : n - 2 - (n - 1 - (c + 1)) = c := by omega
  rw [e2]
theorem sp_top {n : Nat} (d dyke : Nat → Int32) (h : 0 < n) : spreadS n d dyke (n - 1) = up1 d dyke (n - 1) := by
  simp only [spreadS]
  rw [if_pos (by omega)]
  have e : n - 1 - (n - 1) = 0 := by omega
  rw [e, dn1]
theorem sp_ind {n : Nat} {P : Nat → Prop} (h0 : P (n - 1)) (hs : ∀ c, c + 1 < n → P (c + 1) → P c) : ∀ c, c < n → P c := by
  have : ∀ j c, c < n → n - 1 - c = j → P c := by
    intro j
    induction j with
    | zero => intro c h e; have : c = n - 1 := by omega
              subst this; exact h0
    | succ j ih => intro c h e; exact hs c (by omega) (ih (c + 1) (by omega) (by omega))
  intro c h
  exact this (n - 1 - c) c h rfl
theorem sp_least {n : Nat} {d dyke : Nat → Int32} (hd : rng n d) (hy : dyOk n dyke) : leastK n dyke d (spreadS n d dyke) := by
  have hu := up_rng hd hy
  have hr : rng n (spreadS n d dyke) := by
    rcases Nat.eq_zero_or_pos n with h0 | h0
    · intro c hc; omega
    · apply sp_ind
      · rw [sp_top _ _ h0]; exact hu _ (by omega)
      · intro c hc ih
        have := wa1 (hu c (by omega)).1 (hu c (by omega)).2 ih.1 ih.2 (hy c (by omega)).1 (hy c (by omega)).2
        rw [sp_rec _ _ hc]; exact ⟨this.1, this.2.1⟩
  have hud : ∀ c, c < n → d c ≤ up1 d dyke c := by
    intro c hc
    cases c with
    | zero => exact Int32.le_refl _
    | succ c => exact (wa1 (hd (c + 1) hc).1 (hd (c + 1) hc).2 (hu c (by omega)).1 (hu c (by omega)).2 (hy c (by omega)).1 (hy c (by omega)).2).2.2.1
  have huk : ∀ c, c < n → up1 d dyke c ≤ spreadS n d dyke c := by
    intro c hc
    by_cases e : c + 1 < n
    · rw [sp_rec _ _ e]
      exact (wa1 (hu c hc).1 (hu c hc).2 (hr (c + 1) e).1 (hr (c + 1) e).2 (hy c hc).1 (hy c hc).2).2.2.1
    · have : c = n - 1 := by omega
      subst this; rw [sp_top _ _ (by omega)]; exact Int32.le_refl _
  refine ⟨hr, fun c hc => Int32.le_trans (hud c hc) (huk c hc), ?_, ?_⟩
  · intro c hc
    have h1 : up1 d dyke c - dyke c - 1 ≤ up1 d dyke (c + 1) := (wa1 (hd (c + 1) hc).1 (hd (c + 1) hc).2 (hu c (by omega)).1 (hu c (by omega)).2 (hy c (by omega)).1 (hy c (by omega)).2).2.2.2
    exact wa3 (hr (c + 1) hc).1 (hr (c + 1) hc).2 (hu c (by omega)).1 (hu c (by omega)).2 (hy c (by omega)).1 (hy c (by omega)).2 (sp_rec d dyke hc) (huk (c + 1) hc) h1 (hu (c + 1) hc).1
  · intro D hD h1 h2
    have hl := up_le hd hy hD h1 h2
    rcases Nat.eq_zero_or_pos n with h0 | h0
    · intro c hc; omega
    · apply sp_ind
      · rw [sp_top _ _ h0]; exact hl _ (by omega)
      · intro c hc ih
        exact wa2 (hl c (by omega)) ih (hr (c + 1) hc).1 (hD (c + 1) hc).2 (hy c (by omega)).1 (hy c (by omega)).2 (h2 c hc).2 (sp_rec d dyke hc)
theorem t_spread {n : Nat} (hn : n ≤ 12) (h1 : 1 ≤ n) (d dyke : Nat → Int32) : fX9_spread d (nI n) dyke = some (spreadS n d dyke) := by
  have e66 : ∀ e : Nat → Int32, (∀ c, c < n → e c = up1 d dyke c) → (∀ c, n ≤ c → e c = d c) → fX9_spread_b66 e (nI n) dyke (nI (n - 1)) = some (spreadS n d dyke) := by
    intro e he1 he2
    unfold fX9_spread_b66
    refine lp_up (fun j => ((fun c => if n - 1 - j ≤ c ∧ c < n then dn1 (up1 d dyke) dyke n (n - 1 - c) else e c), nI (n - 1 - j))) (n - 1) (by omega) ?_ ?_ ?_
    · have : (fun c => if n - 1 - 0 ≤ c ∧ c < n then dn1 (up1 d dyke) dyke n (n - 1 - c) else e c) = e := by
        funext c
        by_cases q : n - 1 - 0 ≤ c ∧ c < n
        · rw [if_pos q]
          have : c = n - 1 := by omega
          subst this
          have z : n - 1 - (n - 1) = 0 := by omega
          rw [z, dn1, he1 _ (by omega)]
        · rw [if_neg q]
      exact Prod.ext this.symm rfl
    · intro j hj k
      have hx : n - 1 - j = (n - 1 - (j + 1)) + 1 := by omega
      have hx1 : n - 1 - (j + 1) < 12 := by omega
      have hx2 : n - 1 - (j + 1) + 1 < 12 := by omega
      have hz : ¬ nI (n - 1 - (j + 1) + 1) ≤ 0 := nI_nle (by omega) (by omega)
      have a1 : (n - 1 - j ≤ n - 1 - (j + 1) + 1 ∧ n - 1 - (j + 1) + 1 < n) := by omega
      have a2 : ¬ (n - 1 - j ≤ n - 1 - (j + 1) ∧ n - 1 - (j + 1) < n) := by omega
      have a3 : n - 1 - (n - 1 - (j + 1) + 1) = j := by omega
      have a4 : n - 2 - j = n - 1 - (j + 1) := by omega
      have v : dn1 (up1 d dyke) dyke n (j + 1) = jmax (e (n - 1 - (j + 1))) (dn1 (up1 d dyke) dyke n j - dyke (n - 1 - (j + 1)) - 1) := by
        rw [dn1, a4, he1 _ (by omega)]
      have fn : upd (fun c => if n - 1 - j ≤ c ∧ c < n then dn1 (up1 d dyke) dyke n (n - 1 - c) else e c) (n - 1 - (j + 1)) (dn1 (up1 d dyke) dyke n (j + 1)) = (fun c => if n - 1 - (j + 1) ≤ c ∧ c < n then dn1 (up1 d dyke) dyke n (n - 1 - c) else e c) := by
        funext c
        by_cases q : c = n - 1 - (j + 1)
        · have z : n - 1 - (n - 1 - (j + 1)) = j + 1 := by omega
          rw [q, pk_us, if_pos (by omega), z]
        · rw [pk_un q]
          have : (n - 1 - j ≤ c ∧ c < n) ↔ (n - 1 - (j + 1) ≤ c ∧ c < n) := by omega
          simp only [this]
      rw [← fn, v]
      show fX9_spread_l66 (nI n) dyke k (fun c => if n - 1 - j ≤ c ∧ c < n then dn1 (up1 d dyke) dyke n (n - 1 - c) else e c) (nI (n - 1 - j)) = _
      unfold fX9_spread_l66
      rw [show nI (n - 1 - j) = nI (n - 1 - (j + 1) + 1) from congrArg nI hx, if_neg hz, nI_pred, if_pos (inb_n hx1 (by omega)), if_pos (inb_n hx2 (by omega)), nI_clamp (by omega), nI_clamp (by omega), pk_m1]
      simp only [if_pos a1, if_neg a2, a3]
    · intro k
      have hz : nI (n - 1 - (n - 1)) ≤ 0 := by
        have : n - 1 - (n - 1) = 0 := by omega
        rw [this]; decide
      unfold fX9_spread_l66
      rw [if_pos hz, fX9_spread_b115]
      congr 1
      funext c
      simp only [spreadS]
      by_cases q : c < n
      · rw [if_pos (by omega), if_pos q]
      · rw [if_neg (by omega), if_neg q, he2 c (by omega)]
  unfold fX9_spread fX9_spread_b2
  refine lp_up (fun i => (fillN (up1 d dyke) d (i + 1), nI (i + 1))) (n - 1) (by omega) ?_ ?_ ?_
  · have : fillN (up1 d dyke) d (0 + 1) = d := by
      funext c
      simp only [fillN]
      split
      · have : c = 0 := by omega
        subst this; rfl
      · rfl
    simp only [this]; rfl
  · intro i hi k
    have a1 : ¬ nI n ≤ nI (i + 1) := nI_ge (by omega) (by omega)
    have fs := fill_s (up1 d dyke) d (i + 1)
    show fX9_spread_l2 (nI n) dyke k (fillN (up1 d dyke) d (i + 1)) (nI (i + 1)) = _
    unfold fX9_spread_l2
    rw [if_neg a1, nI_pred, if_pos (inb_n (show i + 1 < 12 by omega) (by omega)), if_pos (inb_n (show i < 12 by omega) (by omega)), nI_clamp (by omega), nI_clamp (by omega), nI_1, ← fs, fill_at, fill_lt _ _ (show i < i + 1 by omega)]
    rfl
  · intro k
    have e : n - 1 + 1 = n := by omega
    unfold fX9_spread_l2
    rw [e, if_pos (nI_le (Nat.le_refl n) (by omega)), fX9_spread_b56, show nI n - 1 = nI (n - 1) from pk_sub (b := 1) h1]
    exact e66 _ (fun c hc => fill_lt _ _ hc) (fun c hc => fill_ge _ _ hc)
/-! the model's: round after round, till nothing moves -/
def sumW (f : Nat → Nat) : Nat → Nat
  | 0 => 0
  | n + 1 => sumW f n + f n
theorem sumW_le {f g : Nat → Nat} : ∀ {n : Nat}, (∀ c, c < n → f c ≤ g c) → sumW f n ≤ sumW g n
  | 0, _ => Nat.le_refl _
  | n + 1, h => by
    have := sumW_le (n := n) (fun c hc => h c (by omega))
    have := h n (by omega)
    simp only [sumW]; omega
theorem sumW_lt {f g : Nat → Nat} {c : Nat} : ∀ {n : Nat}, (∀ c, c < n → f c ≤ g c) → c < n → f c < g c → sumW f n < sumW g n
  | 0, _, h, _ => by omega
  | n + 1, h, hc, h2 => by
    simp only [sumW]
    by_cases e : c = n
    · subst e
      have := sumW_le (n := c) (fun i hi => h i (by omega))
      omega
    · have := sumW_lt (n := n) (c := c) (fun i hi => h i (by omega)) (by omega) h2
      have := h n (by omega)
      omega
theorem sumW_b {f : Nat → Nat} {b : Nat} : ∀ {n : Nat}, (∀ c, c < n → f c ≤ b) → sumW f n ≤ n * b
  | 0, _ => by simp [sumW]
  | n + 1, h => by
    have := sumW_b (n := n) (fun c hc => h c (by omega))
    have := h n (by omega)
    simp only [sumW, Nat.succ_mul]; omega
theorem cl_lt {a b : Int32} (h0 : 0 ≤ a) (h : a < b) : a.toNatClampNeg < b.toNatClampNeg := by
  obtain ⟨x, hx, rfl⟩ := nI_of (x := a) (by grind)
  obtain ⟨y, hy, rfl⟩ := nI_of (x := b) (by grind)
  rw [nI_clamp hx, nI_clamp hy]
  exact (nI_ltI hx hy).mp h
theorem cl_le {a b : Int32} (h0 : 0 ≤ a) (h : a ≤ b) : a.toNatClampNeg ≤ b.toNatClampNeg := by
  obtain ⟨x, hx, rfl⟩ := nI_of (x := a) (by grind)
  obtain ⟨y, hy, rfl⟩ := nI_of (x := b) (by grind)
  rw [nI_clamp hx, nI_clamp hy]
  exact (nI_leI hx hy).mp h
theorem wl1 {a b ka kb dy : Int32} (h1 : 0 ≤ a) (h2 : a ≤ ka) (h3 : ka ≤ 999) (h4 : 0 ≤ b) (h5 : 0 ≤ dy) (h6 : dy ≤ 9) (s1 : ka - dy - 1 ≤ kb) (h : b ≤ a) : jmax a b - dy - 1 ≤ kb := by unfold jmax; grind
theorem wl2 {a b ka kb dy : Int32} (h1 : 0 ≤ a) (h4 : 0 ≤ b) (h2 : b ≤ kb) (h3 : kb ≤ 999) (h5 : 0 ≤ dy) (h6 : dy ≤ 9) (s1 : kb - dy - 1 ≤ ka) (h : ¬ b ≤ a) : jmax a b - dy - 1 ≤ ka := by unfold jmax; grind
theorem wl3 {a b dy : Int32} (h1 : 0 ≤ a) (h2 : a ≤ 999) (h4 : 0 ≤ b) (h5 : 0 ≤ dy) (h6 : dy ≤ 9) (h : b ≤ a) (s : jmax a b - dy - 1 ≤ b) : a - dy - 1 ≤ b ∧ b - dy - 1 ≤ a := by unfold jmax at s; grind
theorem wl4 {a b dy : Int32} (h1 : 0 ≤ a) (h2 : b ≤ 999) (h4 : 0 ≤ b) (h5 : 0 ≤ dy) (h6 : dy ≤ 9) (h : ¬ b ≤ a) (s : jmax a b - dy - 1 ≤ a) : a - dy - 1 ≤ b ∧ b - dy - 1 ≤ a := by unfold jmax at s; grind
def wSum (n : Nat) (q : Nat → Int32) : Nat := sumW (fun c => (q (13 + c)).toNatClampNeg) n
def wOk (n : Nat) (r K q : Nat → Int32) : Prop := (∀ j, ¬ (13 ≤ j ∧ j < 13 + n) → q j = r j) ∧ ∀ c, c < n → r (13 + c) ≤ q (13 + c) ∧ q (13 + c) ≤ K c
theorem w_upd {n : Nat} {r K q : Nat → Int32} (hK : rng n K) (hr : ∀ c, c < n → 0 ≤ r (13 + c)) (h : wOk n r K q) {c : Nat} (hc : c < n) {v : Int32} (h1 : q (13 + c) < v) (h2 : v ≤ K c) : wOk n r K (upd q (13 + c) v) ∧ wSum n q < wSum n (upd q (13 + c) v) := by
  refine ⟨⟨?_, ?_⟩, ?_⟩
  · intro j hj
    rw [pk_un (by omega)]; exact h.1 j hj
  · intro d hd
    by_cases e : d = c
    · subst e; rw [pk_us]; exact ⟨Int32.le_trans (h.2 d hd).1 (by grind), h2⟩
    · rw [pk_un (by omega)]; exact h.2 d hd
  · apply sumW_lt (c := c) _ hc
    · show (q (13 + c)).toNatClampNeg < (upd q (13 + c) v (13 + c)).toNatClampNeg
      rw [pk_us]; exact cl_lt (Int32.le_trans (hr c hc) (h.2 c hc).1) h1
    · intro d hd
      show (q (13 + d)).toNatClampNeg ≤ (upd q (13 + c) v (13 + d)).toNatClampNeg
      by_cases e : d = c
      · subst e; rw [pk_us]; exact Nat.le_of_lt (cl_lt (Int32.le_trans (hr d hd) (h.2 d hd).1) h1)
      · rw [pk_un (by omega)]; exact Nat.le_refl _
theorem t_waterGoes {n : Nat} (hn : n ≤ 12) (h1 : 1 ≤ n) {dyke r K : Nat → Int32} (hy : ∀ c, c + 1 < n → 0 ≤ dyke c ∧ dyke c ≤ 9) (hr : rng n (fun c => r (13 + c))) (hK : leastK n dyke (fun c => r (13 + c)) K) : fX12_waterGoes (nI n) dyke r = some (fun j => if 13 ≤ j ∧ j < 13 + n then K (j - 13) else r j) := by
  obtain ⟨kr, kd, ks, kl⟩ := hK
  have hr0 : ∀ c, c < n → 0 ≤ r (13 + c) := fun c hc => (hr c hc).1
  unfold fX12_waterGoes fX12_waterGoes_b2
  refine lp_inv (fun x => x = some (fun j => if 13 ≤ j ∧ j < 13 + n then K (j - 13) else r j)) (fun i s => wOk n r K s.1 ∧ ((s.2 = 1 ∧ i ≤ wSum n s.1) ∨ (s.2 = 0 ∧ stab n dyke (fun c => s.1 (13 + c)) ∧ i ≤ wSum n s.1 + 1))) 12000 (by omega) ⟨⟨fun _ _ => rfl, fun c hc => ⟨Int32.le_refl _, kd c hc⟩⟩, Or.inl ⟨rfl, Nat.zero_le _⟩⟩ ?_
  intro i s k hi hI
  obtain ⟨q, x⟩ := s
  obtain ⟨hq, hI⟩ := hI
  simp only at hq hI
  have hqr : rng n (fun c => q (13 + c)) := fun c hc => ⟨Int32.le_trans (hr0 c hc) (hq.2 c hc).1, Int32.le_trans (hq.2 c hc).2 (kr c hc).2⟩
  have hS : wSum n q ≤ 11988 := by
    have := sumW_b (f := fun c => (q (13 + c)).toNatClampNeg) (b := 999) (n := n) (fun c hc => cl_le (hqr c hc).1 (hqr c hc).2)
    have h2 : n * 999 ≤ 11988 := by omega
    exact Nat.le_trans this h2
  rcases hI with ⟨rfl, hI⟩ | ⟨rfl, hst, hI⟩
  · left
    refine ⟨by omega, ?_⟩
    show ∃ s', _ ∧ fX12_waterGoes_l2 (nI n) dyke k q 1 = k s'
    unfold fX12_waterGoes_l2
    rw [if_neg (by decide)]
    unfold fX12_waterGoes_b10
    refine lp_inv (fun x => ∃ s' : (Nat → Int32) × Int32, (wOk n r K s'.1 ∧ ((s'.2 = 1 ∧ i + 1 ≤ wSum n s'.1) ∨ (s'.2 = 0 ∧ stab n dyke (fun c => s'.1 (13 + c)) ∧ i + 1 ≤ wSum n s'.1 + 1))) ∧ x = k s') (fun j t => t.2.2 = nI j ∧ wOk n r K t.1 ∧ ((t.2.1 = 1 ∧ i + 1 ≤ wSum n t.1) ∨ (t.2.1 = 0 ∧ t.1 = q ∧ ∀ c, c < j → c + 1 < n → q (13 + c) - dyke c - 1 ≤ q (13 + (c + 1)) ∧ q (13 + (c + 1)) - dyke c - 1 ≤ q (13 + c)))) (n - 1) (by omega) ⟨rfl, hq, Or.inr ⟨rfl, rfl, fun c hc => absurd hc (by omega)⟩⟩ ?_
    intro j t k10 hj hJ
    obtain ⟨p, y, z⟩ := t
    obtain ⟨e, hp, hJ⟩ := hJ
    simp only at e hp hJ
    subst e
    have hpr : rng n (fun c => p (13 + c)) := fun c hc => ⟨Int32.le_trans (hr0 c hc) (hp.2 c hc).1, Int32.le_trans (hp.2 c hc).2 (kr c hc).2⟩
    show (_ ∧ ∃ s', _ ∧ fX12_waterGoes_l10 (nI n) dyke k k10 p y (nI j) = k10 s') ∨ ∃ s', _ ∧ fX12_waterGoes_l10 (nI n) dyke k k10 p y (nI j) = k s'
    by_cases e : j = n - 1
    · right
      refine ⟨(p, y), ⟨hp, ?_⟩, ?_⟩
      · rcases hJ with hJ | ⟨hJ1, hJ2, hJ3⟩
        · exact Or.inl hJ
        · refine Or.inr ⟨hJ1, ?_, ?_⟩
          · intro c hc
            show p (13 + c) - dyke c - 1 ≤ p (13 + (c + 1)) ∧ _
            rw [hJ2]; exact hJ3 c (by omega) hc
          · rw [hJ2]; simpa using hI
      · have : n ≤ j + 1 := by omega
        simp (disch := omega) [fX12_waterGoes_l10, fX12_waterGoes_b97, nI_leI, nI_ltI, nI_clamp, nI_pos', nI_1, nI_eq, this]
    · left
      have hjn : j + 1 < n := by omega
      refine ⟨by omega, ?_⟩
      have a1 : 13 + j < 43 := by omega
      have a2 : 13 + (j + 1) < 43 := by omega
      have a3 : j < 12 := by omega
      have a4 : ¬ n ≤ j + 1 := by omega
      have e13 : 13 + j + 1 = 13 + (j + 1) := by omega
      have y1 := hy j hjn
      have p1 := hpr j (by omega)
      have p2 := hpr (j + 1) (by omega)
      have q1 := hp.2 j (by omega)
      have q2 := hp.2 (j + 1) (by omega)
      have k1 := kr j (by omega)
      have k2 := kr (j + 1) (by omega)
      have kst := ks j hjn
      by_cases hb : p (13 + (j + 1)) ≤ p (13 + j)
      · by_cases ho : jmax (p (13 + j)) (p (13 + (j + 1))) - dyke j - 1 ≤ p (13 + (j + 1))
        · refine ⟨(p, y, nI (j + 1)), ⟨rfl, hp, ?_⟩, ?_⟩
          · rcases hJ with hJ | ⟨hJ1, hJ2, hJ3⟩
            · exact Or.inl hJ
            · refine Or.inr ⟨hJ1, hJ2, ?_⟩
              intro c hc hc2
              by_cases ec : c = j
              · subst ec; rw [← hJ2]; exact wl3 p1.1 p1.2 p2.1 y1.1 y1.2 hb ho
              · exact hJ3 c (by omega) hc2
          · simp (disch := omega) [fX12_waterGoes_l10, fX12_waterGoes_b100, fX12_waterGoes_b97, fX12_waterGoes_b91, fX12_waterGoes_b72, fX12_waterGoes_l10, fX12_waterGoes_l2, nI_leI, nI_ltI, nI_clamp, nI_pos', nI_1, nI_eq, ix_d, a1, a2, a3, a4, hb, ho, e13]
        · have ho2 := w_upd kr hr0 hp (c := j + 1) hjn (v := jmax (p (13 + j)) (p (13 + (j + 1))) - dyke j - 1) (by grind) (wl1 p1.1 q1.2 k1.2 p2.1 y1.1 y1.2 kst.1 hb)
          refine ⟨(upd p (13 + (j + 1)) (jmax (p (13 + j)) (p (13 + (j + 1))) - dyke j - 1), 1, nI (j + 1)), ⟨rfl, ho2.1, Or.inl ⟨rfl, ?_⟩⟩, ?_⟩
          · show i + 1 ≤ wSum n (upd p (13 + (j + 1)) (jmax (p (13 + j)) (p (13 + (j + 1))) - dyke j - 1))
            have h3 := ho2.2
            rcases hJ with hJ | ⟨hJ1, hJ2, hJ3⟩
            · omega
            · rw [hJ2] at h3 ⊢; omega
          · simp (disch := omega) [fX12_waterGoes_l10, fX12_waterGoes_b100, fX12_waterGoes_b97, fX12_waterGoes_b91, fX12_waterGoes_b72, fX12_waterGoes_l10, fX12_waterGoes_l2, nI_leI, nI_ltI, nI_clamp, nI_pos', nI_1, nI_eq, ix_d, a1, a2, a3, a4, hb, ho, e13]
      · by_cases ho : jmax (p (13 + j)) (p (13 + (j + 1))) - dyke j - 1 ≤ p (13 + j)
        · refine ⟨(p, y, nI (j + 1)), ⟨rfl, hp, ?_⟩, ?_⟩
          · rcases hJ with hJ | ⟨hJ1, hJ2, hJ3⟩
            · exact Or.inl hJ
            · refine Or.inr ⟨hJ1, hJ2, ?_⟩
              intro c hc hc2
              by_cases ec : c = j
              · subst ec; rw [← hJ2]; exact wl4 p1.1 p2.2 p2.1 y1.1 y1.2 hb ho
              · exact hJ3 c (by omega) hc2
          · simp (disch := omega) [fX12_waterGoes_l10, fX12_waterGoes_b100, fX12_waterGoes_b97, fX12_waterGoes_b91, fX12_waterGoes_b72, fX12_waterGoes_l10, fX12_waterGoes_l2, nI_leI, nI_ltI, nI_clamp, nI_pos', nI_1, nI_eq, ix_d, a1, a2, a3, a4, hb, ho, e13]
        · have ho2 := w_upd kr hr0 hp (c := j) (by omega) (v := jmax (p (13 + j)) (p (13 + (j + 1))) - dyke j - 1) (by grind) (wl2 p1.1 p2.1 q2.2 k2.2 y1.1 y1.2 kst.2 hb)
          refine ⟨(upd p (13 + j) (jmax (p (13 + j)) (p (13 + (j + 1))) - dyke j - 1), 1, nI (j + 1)), ⟨rfl, ho2.1, Or.inl ⟨rfl, ?_⟩⟩, ?_⟩
          · show i + 1 ≤ wSum n (upd p (13 + j) (jmax (p (13 + j)) (p (13 + (j + 1))) - dyke j - 1))
            have h3 := ho2.2
            rcases hJ with hJ | ⟨hJ1, hJ2, hJ3⟩
            · omega
            · rw [hJ2] at h3 ⊢; omega
          · simp (disch := omega) [fX12_waterGoes_l10, fX12_waterGoes_b100, fX12_waterGoes_b97, fX12_waterGoes_b91, fX12_waterGoes_b72, fX12_waterGoes_l10, fX12_waterGoes_l2, nI_leI, nI_ltI, nI_clamp, nI_pos', nI_1, nI_eq, ix_d, a1, a2, a3, a4, hb, ho, e13]
  · right
    show fX12_waterGoes_l2 (nI n) dyke k q 0 = _
    unfold fX12_waterGoes_l2
    rw [if_pos rfl, fX12_waterGoes_b100]
    congr 1
    funext j
    by_cases e : 13 ≤ j ∧ j < 13 + n
    · rw [if_pos e]
      obtain ⟨c, rfl⟩ : ∃ c, j = 13 + c := ⟨j - 13, by omega⟩
      have e2 : 13 + c - 13 = c := by omega
      rw [e2]
      have l1 := (hq.2 c (by omega)).2
      have l2 := kl (fun c => q (13 + c)) hqr (fun c hc => (hq.2 c hc).1) hst c (by omega)
      exact Int32.le_antisymm l1 l2
    · rw [if_neg e]; exact hq.1 j e
