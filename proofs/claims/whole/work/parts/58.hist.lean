/-! ===== what was before ===== -/
def riS (n m T : Nat) (rm rs rt : Nat → Int32) (rw rd ro rp : Nat → Nat → Int32) (i : Nat) (r : Nat → Int32) : Prop := SS n m T (rw i) (rd i) (ro i) (rp i) (rm i) (rs i) (rt i) r
def hR (n m T : Nat) (next size : Int32) (rm rs rt : Nat → Int32) (rw rd ro rp : Nat → Nat → Int32) (undos : Int32) (undone : Nat → Int32) : Prop :=
  ∃ nx u, nx < 16 ∧ u ≤ 15 ∧ next = nI nx ∧ size = nI u ∧ undos = nI u ∧ ∀ j, j < u → riS n m T rm rs rt rw rd ro rp ((nx + 16 - u + j) % 16) (fun k => undone (43 * j + k))
def hK (n m T : Nat) (next size : Int32) (rm rs rt : Nat → Int32) (rw rd ro rp : Nat → Nat → Int32) (undos : Int32) (undone : Nat → Int32) : Prop :=
  ∃ nx u, nx < 16 ∧ u ≤ 15 ∧ next = nI nx ∧ size = nI u ∧ undos = nI u ∧ (∀ j, j < u → riS n m T rm rs rt rw rd ro rp ((nx + 16 - u + j) % 16) (fun k => undone (43 * j + k))) ∧ riS n m T rm rs rt rw rd ro rp nx (fun k => undone (43 * u + k))
theorem hK_R {n m T : Nat} {next size : Int32} {rm rs rt : Nat → Int32} {rw rd ro rp : Nat → Nat → Int32} {undos : Int32} {undone : Nat → Int32} (h : hK n m T next size rm rs rt rw rd ro rp undos undone) : hR n m T next size rm rs rt rw rd ro rp undos undone := by
  obtain ⟨nx, u, a, b, c, d, e, f, -⟩ := h
  exact ⟨nx, u, a, b, c, d, e, f⟩
theorem hR_mono {n m T T2 : Nat} (ht : T ≤ T2) {next size : Int32} {rm rs rt : Nat → Int32} {rw rd ro rp : Nat → Nat → Int32} {undos : Int32} {undone : Nat → Int32} (h : hR n m T next size rm rs rt rw rd ro rp undos undone) : hR n m T2 next size rm rs rt rw rd ro rp undos undone := by
  obtain ⟨nx, u, a, b, c, d, e, f⟩ := h
  exact ⟨nx, u, a, b, c, d, e, fun j hj => SS_mono ht (f j hj)⟩
theorem jrem_n {a d : Nat} (ha : a < 2 ^ 31) (h0 : 0 < d) (hd : d < 2 ^ 31) : jrem (nI a) (nI d) = nI (a % d) := pk_rem ha h0 hd
theorem t_putsBy {u : Nat} (hu : u ≤ 15) (now undone : Nat → Int32) : fX12_putsBy (nI u) now undone = some (fun q => if 43 * u ≤ q ∧ q < 43 * u + 43 then now (q - 43 * u) else undone q) := by
  unfold fX12_putsBy fX12_putsBy_b2
  have e43 : (43 : Int32) * nI u = nI (43 * u) := pk_mul 43 u
  refine lp_up (fun i => ((fun q => if 43 * u ≤ q ∧ q < 43 * u + i then now (q - 43 * u) else undone q), nI i)) 43 (by omega) ?_ ?_ ?_
  · refine Prod.ext ?_ rfl
    funext q
    show _ = if 43 * u ≤ q ∧ q < 43 * u + 0 then _ else _
    rw [if_neg (by omega)]
  · intro i hi k
    have h : ¬ (43 : Int32) ≤ nI i := nI_ge (b := 43) hi (by omega)
    have h6 : 43 * u + i < 688 := by omega
    have fn : upd (fun q => if 43 * u ≤ q ∧ q < 43 * u + i then now (q - 43 * u) else undone q) (43 * u + i) (now i) = (fun q => if 43 * u ≤ q ∧ q < 43 * u + (i + 1) then now (q - 43 * u) else undone q) := by
      funext q
      by_cases e : q = 43 * u + i
      · have e2 : 43 * u + i - 43 * u = i := by omega
        subst e; rw [pk_us, if_pos (by omega), e2]
      · rw [pk_un e]
        have : (43 * u ≤ q ∧ q < 43 * u + (i + 1)) ↔ (43 * u ≤ q ∧ q < 43 * u + i) := by omega
        simp only [this]
    rw [← fn]
    simp (disch := omega) [fX12_putsBy_b34, fX12_putsBy_l2, nI_leI, nI_ltI, nI_clamp, nI_pos', nI_1, nI_eq, h, hi, e43, nI_add, h6]
  · intro k
    have h : (43 : Int32) ≤ nI 43 := by decide
    simp [fX12_putsBy_b34, fX12_putsBy_l2, h]
theorem t_adds {u : Nat} (hu : u ≤ 15) (undone : Nat → Int32) (x : Int32) : fX12_adds (nI u) undone x = if u < 15 then some (x, nI (u + 1), undone) else some (x, nI 15, fun q => if q < 645 then undone (q + 43) else undone q) := by
  by_cases h : u < 15
  · have : nI u + 1 ≤ 15 := by rw [nI_1]; exact nI_le (b := 15) (by omega) (by omega)
    rw [if_pos h]
    rw [fX12_adds, if_pos this, fX12_adds_b59, nI_1]
  · have : ¬ nI u + 1 ≤ 15 := by rw [nI_1]; exact nI_ge (a := 15) (by omega) (by omega)
    have e15 : u = 15 := by omega
    subst e15
    rw [if_neg h]
    have e21 : fX12_adds_b21 (nI 15 + 1) undone x 0 = some (x, nI 15, fun q => if q < 645 then undone (q + 43) else undone q) := by
      unfold fX12_adds_b21
      refine lp_up (fun i => (fillN (fun q => undone (q + 43)) undone i, nI i)) 645 (by omega) (by rw [fill_0]; rfl) ?_ ?_
      · intro i hi k
        have h : ¬ (645 : Int32) ≤ nI i := nI_ge (b := 645) hi (by omega)
        have a1 : i < 688 := by omega
        have a2 : i + 43 < 688 := by omega
        have ea : nI i + 43 = nI (i + 43) := nI_add i 43
        have fs := fill_s (fun q => undone (q + 43)) undone i
        have fv : fillN (fun q => undone (q + 43)) undone i (i + 43) = undone (i + 43) := fill_ge _ _ (by omega)
        rw [← fs]
        simp (disch := omega) [fX12_adds_b59, fX12_adds_b49, fX12_adds_l21, nI_leI, nI_ltI, nI_clamp, nI_pos', nI_1, nI_eq, h, ea, a1, a2, fv, hi, Nat.not_le.mpr hi]
      · intro k
        have h : (645 : Int32) ≤ nI 645 := by decide
        have e : nI 15 + 1 - 1 = nI 15 := by decide
        simp only [fX12_adds_l21, if_pos h, fX12_adds_b49, fX12_adds_b59, e]
        rfl
    simp only [fX12_adds, if_neg this, e21]
theorem h_mark {n m T : Nat} (hn : n ≤ 12) (hm : m ≤ 8) {next size : Int32} {rm rs rt : Nat → Int32} {rw rd ro rp : Nat → Nat → Int32} {undos : Int32} {undone : Nat → Int32} {wall depth mood place now : Nat → Int32} {moats spades tides : Int32} (hh : hR n m T next size rm rs rt rw rd ro rp undos undone) (hs : SS n m T wall depth mood place moats spades tides now) : ∃ rm' rs' rt' rw' rd' ro' rp' undone', fX4_mark next moats spades tides wall depth mood place rm rs rt rw rd ro rp = some (rm', rs', rt', rw', rd', ro', rp') ∧ fX12_putsBy undos now undone = some undone' ∧ hK n m T next size rm' rs' rt' rw' rd' ro' rp' undos undone' ∧ hR n m T next size rm' rs' rt' rw' rd' ro' rp' undos undone := by
  obtain ⟨nx, u, h1, h2, rfl, rfl, rfl, h3⟩ := hh
  have hin : inb (nI nx) 16 := inb_n h1 (by omega)
  have hv := j_copy hn hm hs (rw nx) (rd nx) (ro nx) (rp nx) (fun _ => 0)
  have ho : ∀ j, j < u → (nx + 16 - u + j) % 16 ≠ nx := fun j hj => by omega
  have hring : ∀ j, j < u → ∀ r, riS n m T rm rs rt rw rd ro rp ((nx + 16 - u + j) % 16) r → riS n m T (va_up rm nx moats) (va_up rs nx spades) (va_up rt nx tides) (va_up rw nx (va_cpy wall (rw nx) 0 0 12)) (va_up rd nx (va_cpy depth (rd nx) 0 0 12)) (va_up ro nx (va_cpy mood (ro nx) 0 0 8)) (va_up rp nx (va_cpy place (rp nx) 0 0 8)) ((nx + 16 - u + j) % 16) r := by
    intro j hj r hr
    unfold riS at hr ⊢
    rw [va_up_ne _ _ (ho j hj), va_up_ne _ _ (ho j hj), va_up_ne _ _ (ho j hj), va_up_ne _ _ (ho j hj), va_up_ne _ _ (ho j hj), va_up_ne _ _ (ho j hj), va_up_ne _ _ (ho j hj)]
    exact hr
  refine ⟨_, _, _, _, _, _, _, _, ?_, t_putsBy h2 now undone, ⟨nx, u, h1, h2, rfl, rfl, rfl, ?_, ?_⟩, ⟨nx, u, h1, h2, rfl, rfl, rfl, fun j hj => hring j hj _ (h3 j hj)⟩⟩
  · simp only [fX4_mark, if_pos hin, nI_clamp (show nx < 2 ^ 31 by omega), t_copy, ob_s]
  · intro j hj
    have : (fun k => (fun q => if 43 * u ≤ q ∧ q < 43 * u + 43 then now (q - 43 * u) else undone q) (43 * j + k)) = (fun k => if 43 * u ≤ 43 * j + k ∧ 43 * j + k < 43 * u + 43 then now (43 * j + k - 43 * u) else undone (43 * j + k)) := rfl
    refine hring j hj _ ?_
    exact SS_congr hn hm (h3 j hj) (fun _ _ => rfl) (fun _ _ => rfl) (fun _ _ => rfl) (fun _ _ => rfl) (fun k hk => by
      show (if 43 * u ≤ 43 * j + k ∧ 43 * j + k < 43 * u + 43 then _ else _) = _
      rw [if_neg (by omega)])
  · unfold riS
    rw [va_up_self, va_up_self, va_up_self, va_up_self, va_up_self, va_up_self, va_up_self]
    exact SS_congr hn hm hv (fun _ _ => rfl) (fun _ _ => rfl) (fun _ _ => rfl) (fun _ _ => rfl) (fun k hk => by
      have e : 43 * u + k - 43 * u = k := by omega
      show (if 43 * u ≤ 43 * u + k ∧ 43 * u + k < 43 * u + 43 then _ else _) = _
      rw [if_pos (by omega), e, fill_lt _ _ hk])
theorem h_keep {n m T : Nat} (hn : n ≤ 12) (hm : m ≤ 8) {next size : Int32} {rm rs rt : Nat → Int32} {rw rd ro rp : Nat → Nat → Int32} {undos : Int32} {undone : Nat → Int32} (hh : hK n m T next size rm rs rt rw rd ro rp undos undone) (x : Int32) : ∃ next' size' undos' undone', fX4_keepMarked next size = some (next', size') ∧ fX12_adds undos undone x = some (x, undos', undone') ∧ hR n m T next' size' rm rs rt rw rd ro rp undos' undone' := by
  obtain ⟨nx, u, h1, h2, rfl, rfl, rfl, h3, h4⟩ := hh
  have ek : fX4_keepMarked (nI nx) (nI u) = some (nI ((nx + 1) % 16), nI (min 15 (u + 1))) := by
    have e1 : jrem (nI nx + 1) 16 = nI ((nx + 1) % 16) := by rw [nI_1]; exact jrem_n (d := 16) (by omega) (by omega) (by omega)
    have e2 : jmin 15 (nI u + 1) = nI (min 15 (u + 1)) := by rw [nI_1]; exact jmin_n (a := 15) (by omega) (by omega)
    simp only [fX4_keepMarked, e1, e2]
  by_cases h : u < 15
  · have ea := t_adds h2 undone x
    rw [if_pos h] at ea
    refine ⟨_, _, _, _, ek, ea, (nx + 1) % 16, u + 1, by omega, by omega, rfl, ?_, rfl, ?_⟩
    · have : min 15 (u + 1) = u + 1 := by omega
      rw [this]
    · intro j hj
      by_cases e : j = u
      · have : ((nx + 1) % 16 + 16 - (u + 1) + j) % 16 = nx := by omega
        rw [this, e]; exact h4
      · have : ((nx + 1) % 16 + 16 - (u + 1) + j) % 16 = (nx + 16 - u + j) % 16 := by omega
        rw [this]; exact h3 j (by omega)
  · have e15 : u = 15 := by omega
    subst e15
    have ea := t_adds h2 undone x
    rw [if_neg h] at ea
    refine ⟨_, _, _, _, ek, ea, (nx + 1) % 16, 15, by omega, by omega, rfl, rfl, rfl, ?_⟩
    intro j hj
    have hf : ∀ k, k < 43 → (fun k => (fun q => if q < 645 then undone (q + 43) else undone q) (43 * j + k)) k = undone (43 * (j + 1) + k) := fun k hk => by
      have e : 43 * j + k + 43 = 43 * (j + 1) + k := by omega
      show (if 43 * j + k < 645 then undone (43 * j + k + 43) else _) = _
      rw [if_pos (by omega), e]
    by_cases e : j = 14
    · have e2 : ((nx + 1) % 16 + 16 - 15 + j) % 16 = nx := by omega
      rw [e2]
      subst e
      exact SS_congr hn hm h4 (fun _ _ => rfl) (fun _ _ => rfl) (fun _ _ => rfl) (fun _ _ => rfl) hf
    · have e2 : ((nx + 1) % 16 + 16 - 15 + j) % 16 = (nx + 16 - 15 + (j + 1)) % 16 := by omega
      rw [e2]
      exact SS_congr hn hm (h3 (j + 1) (by omega)) (fun _ _ => rfl) (fun _ _ => rfl) (fun _ _ => rfl) (fun _ _ => rfl) hf
/-! ===== undo ===== -/
theorem c_undo {n m T : Nat} (hn : n ≤ 12) (hm : m ≤ 8) {next size : Int32} {rm rs rt : Nat → Int32} {rw rd ro rp : Nat → Nat → Int32} {undos : Int32} {undone : Nat → Int32} {wall depth mood place now : Nat → Int32} {moats spades tides : Int32} (hh : hR n m T next size rm rs rt rw rd ro rp undos undone) (hs : SS n m T wall depth mood place moats spades tides now) (thrown : Int32) : ∃ a next' size' mo sp ti wa de md pl undos' now', fX11_undo next size moats spades tides wall depth mood place rm rs rt rw rd ro rp = some (a, next', size', mo, sp, ti, wa, de, md, pl) ∧ fX12_undo thrown undos now undone = some (a, 0, undos', now') ∧ SS n m T wa de md pl mo sp ti now' ∧ hR n m T next' size' rm rs rt rw rd ro rp undos' undone := by
  have hh0 := hh
  obtain ⟨nx, u, h1, h2, e1, e2, e3, h3⟩ := hh
  subst e1 e2 e3
  by_cases h : u = 0
  · subst h
    refine ⟨-1, nI nx, nI 0, moats, spades, tides, wall, depth, mood, place, nI 0, now, ?_, ?_, hs, hh0⟩
    · have z : nI 0 = 0 := rfl
      simp only [fX11_undo, fX4_takeBack, z, if_true, ob_s]
    · have z : nI 0 = 0 := rfl
      simp only [fX12_undo, z, if_true]
  · have z : ¬ nI u = 0 := nI_ne0 (by omega) (by omega)
    have ej : jrem (nI nx + 16 - 1) 16 = nI ((nx + 15) % 16) := by
      have : nI nx + 16 - 1 = nI (nx + 15) := by rw [← nI_add]; show _ = nI nx + 15; grind
      rw [this]; exact jrem_n (d := 16) (by omega) (by omega) (by omega)
    have eu : nI u - 1 = nI (u - 1) := pk_sub (b := 1) (by omega)
    have hin : inb (nI ((nx + 15) % 16)) 16 := inb_n (by omega) (by omega)
    have hcl : (nI ((nx + 15) % 16)).toNatClampNeg = (nx + 15) % 16 := nI_clamp (by omega)
    have ix : (nx + 15) % 16 = (nx + 16 - u + (u - 1)) % 16 := by omega
    have hold := h3 (u - 1) (by omega)
    rw [← ix] at hold
    have hS := j_copy hn hm hold wall depth mood place now
    have em : fX12_undo_b26 0 (nI (u - 1)) now undone 0 = some (nI (u - 1), 0, nI (u - 1), fillN (fun k => undone (43 * (u - 1) + k)) now 43) := by
      unfold fX12_undo_b26
      have e43 : (43 : Int32) * nI (u - 1) = nI (43 * (u - 1)) := pk_mul 43 (u - 1)
      refine lp_up (fun i => (fillN (fun k => undone (43 * (u - 1) + k)) now i, nI i)) 43 (by omega) (by rw [fill_0]; rfl) ?_ ?_
      · intro i hi k
        have h : ¬ (43 : Int32) ≤ nI i := nI_ge (b := 43) hi (by omega)
        have h6 : 43 * (u - 1) + i < 688 := by omega
        have fs := fill_s (fun k => undone (43 * (u - 1) + k)) now i
        rw [← fs]
        simp (disch := omega) [fX12_undo_b58, fX12_undo_l26, nI_leI, nI_ltI, nI_clamp, nI_pos', nI_1, nI_eq, h, hi, e43, nI_add, h6]
      · intro k
        have h : (43 : Int32) ≤ nI 43 := by decide
        simp [fX12_undo_b58, fX12_undo_l26, h]
    refine ⟨nI (u - 1), nI ((nx + 15) % 16), nI (u - 1), _, _, _, _, _, _, _, nI (u - 1), _, ?_, ?_, hS, ?_⟩
    · simp only [fX11_undo, fX4_takeBack, if_neg z, ej, if_pos hin, hcl, t_copy, ob_s, eu]
    · simp only [fX12_undo, if_neg z, eu, em]
    · refine ⟨(nx + 15) % 16, u - 1, by omega, by omega, rfl, rfl, rfl, ?_⟩
      intro j hj
      have : ((nx + 15) % 16 + 16 - (u - 1) + j) % 16 = (nx + 16 - u + j) % 16 := by omega
      rw [this]; exact h3 j (by omega)
