/-! ===== the text ===== -/
def txR (len : Int32) (signs : Nat → Int32) (taped : Int32) (tape : Nat → Int32) : Prop := ∃ k, k ≤ 80 ∧ len = nI k ∧ taped = nI k ∧ ∀ i, i < k → signs i = tape i ∧ ∃ b, b < 256 ∧ tape i = nI b
def bytS (x : Int32) (j : Nat) : Int32 := jshr x (24 - 8 * nI j) &&& 255
theorem byt_r (x : Int32) (j : Nat) : ∃ b, b < 256 ∧ bytS x j = nI b := pk_andE _ (m := 255) 8 (by decide)
theorem byt_c (x : Int32) (j : Nat) : vp_nar .char ((bytS x j).toUInt32 % 65536).toInt32 = bytS x j := by
  obtain ⟨b, hb, e⟩ := byt_r x j
  rw [e, pk_vc, pk_char, pk_tn (by omega), Nat.mod_eq_of_lt (by omega)]
def txS (f : Nat → Int32) (x : Int32) (k i : Nat) : Nat → Int32 := fun q => if k ≤ q ∧ q < k + i then bytS x (q - k) else f q
theorem tx_s (f : Nat → Int32) (x : Int32) (k i : Nat) : upd (txS f x k i) (k + i) (bytS x i) = txS f x k (i + 1) := by
  funext q
  by_cases e : q = k + i
  · have e2 : k + i - k = i := by omega
    subst e; rw [pk_us]; simp only [txS]; rw [if_pos (by omega), e2]
  · rw [pk_un e]
    simp only [txS]
    have : (k ≤ q ∧ q < k + (i + 1)) ↔ (k ≤ q ∧ q < k + i) := by omega
    simp only [this]
theorem tx_0 (f : Nat → Int32) (x : Int32) (k : Nat) : txS f x k 0 = f := by
  funext q; simp only [txS]; rw [if_neg (by omega)]
theorem c_sign {len taped : Int32} {signs tape : Nat → Int32} (hx : txR len signs taped tape) (thrown x : Int32) : ∃ a len' signs' taped' tape', fX11_sign len signs x = some (a, len', signs') ∧ fX12_sign thrown taped tape x = some (a, 0, taped', tape') ∧ txR len' signs' taped' tape' := by
  have hx0 := hx
  obtain ⟨k, hk, rfl, rfl, hs⟩ := hx
  by_cases h : k ≤ 76
  · have c1 : nI k + 4 ≤ 80 := by
      rw [show nI k + 4 = nI (k + 4) from nI_add k 4]; exact nI_le (b := 80) (by omega) (by omega)
    have c2 : nI k ≤ 76 := nI_le (b := 76) h (by omega)
    have e1 : fX10_add_b16 (nI k) signs x 24 = some (1, nI (k + 4), txS signs x k 4) := by
      unfold fX10_add_b16
      refine lp_up (fun i => (nI (k + i), txS signs x k i, 24 - 8 * nI i)) 4 (by omega) (by rw [tx_0]; rfl) ?_ ?_
      · intro i hi q
        have z : ¬ (24 - 8 * nI i : Int32) < 0 := (by decide +kernel : ∀ i, i < 4 → ¬ (24 - 8 * nI i : Int32) < 0) i hi
        have z2 : (24 - 8 * nI i : Int32) + (-8) = 24 - 8 * nI (i + 1) := by rw [nI_succ]; grind
        have h80 : k + i < 80 := by omega
        show fX10_add_l16 x q (nI (k + i)) (txS signs x k i) (24 - 8 * nI i) = _
        rw [fX10_add_l16, if_neg z, if_pos (inb_n h80 (by omega)), nI_clamp (by omega), z2, nI_1, ← tx_s, ← byt_c x i]
        rfl
      · intro q
        have z : (24 - 8 * nI 4 : Int32) < 0 := by decide
        show fX10_add_l16 x q (nI (k + 4)) (txS signs x k 4) (24 - 8 * nI 4) = _
        rw [fX10_add_l16, if_pos z, fX10_add_b53]
    have e2 : fX12_sign_b18 0 (nI k) tape x 0 = some (nI (k + 4), 0, nI (k + 4), txS tape x k 4) := by
      unfold fX12_sign_b18
      refine lp_up (fun i => (txS tape x k i, nI i)) 4 (by omega) (by rw [tx_0]; rfl) ?_ ?_
      · intro i hi q
        have z : ¬ (4 : Int32) ≤ nI i := nI_ge (b := 4) hi (by omega)
        have h80 : k + i < 80 := by omega
        show fX12_sign_l18 0 (nI k) x q (txS tape x k i) (nI i) = _
        rw [fX12_sign_l18, if_neg z, nI_add, if_pos (inb_n h80 (by omega)), nI_clamp (by omega), nI_1, ← tx_s]
        rfl
      · intro q
        have z : (4 : Int32) ≤ nI 4 := by decide
        show fX12_sign_l18 0 (nI k) x q (txS tape x k 4) (nI 4) = _
        rw [fX12_sign_l18, if_pos z, fX12_sign_b53, show nI k + 4 = nI (k + 4) from nI_add k 4]
    refine ⟨nI (k + 4), nI (k + 4), txS signs x k 4, nI (k + 4), txS tape x k 4, ?_, ?_, k + 4, by omega, rfl, rfl, ?_⟩
    · have z : ¬ (1 : Int32) = 0 := by decide
      simp only [fX11_sign, fX10_add, if_pos c1, e1, ob_s, if_neg z, fX11_sign_b22]
    · simp only [fX12_sign, if_pos c2, e2]
    · intro i hi
      simp only [txS]
      by_cases e : k ≤ i ∧ i < k + 4
      · rw [if_pos e, if_pos e]; exact ⟨rfl, byt_r x _⟩
      · rw [if_neg e, if_neg e]; exact hs i (by omega)
  · have c1 : ¬ nI k + 4 ≤ 80 := by
      rw [show nI k + 4 = nI (k + 4) from nI_add k 4]; exact nI_ge (a := 80) (by omega) (by omega)
    have c2 : ¬ nI k ≤ 76 := nI_ge (a := 76) (by omega) (by omega)
    refine ⟨-1, nI k, signs, nI k, tape, ?_, ?_, hx0⟩
    · simp only [fX11_sign, fX10_add, if_neg c1, ob_s, fX11_sign_b22, if_true]
    · simp only [fX12_sign, if_neg c2]
theorem c_end {len taped : Int32} {signs tape : Nat → Int32} (hx : txR len signs taped tape) (thrown x : Int32) : ∃ a len' taped', fX11_end len x = some (a, len') ∧ fX12_end thrown taped x = some (a, 0, taped') ∧ txR len' signs taped' tape ∧ (a = 0 ∨ a = 1) := by
  have hx0 := hx
  obtain ⟨k, hk, rfl, rfl, hs⟩ := hx
  have ein := t_in x (L := 0) (H := (nI k).toInt64) 0 (nI k) rfl rfl
  by_cases h : 0 ≤ x ∧ x ≤ nI k
  · obtain ⟨j, -, hj, rfl⟩ := rng_n (a := 0) (b := k) (by omega) (by omega) h
    have z : ¬ nI j < 0 := nI_pos (by omega)
    refine ⟨1, nI j, nI j, ?_, ?_, ⟨j, by omega, rfl, rfl, fun i hi => hs i (by omega)⟩, Or.inr rfl⟩
    · simp [fX11_end, fX10_cut, z, h.2]
    · simp [fX12_end, ein, h, b2i]
  · refine ⟨0, nI k, nI k, ?_, ?_, hx0, Or.inl rfl⟩
    · by_cases z : x < 0
      · simp [fX11_end, fX10_cut, fX10_cut_b12, z]
      · have z2 : ¬ x ≤ nI k := fun w => h ⟨i_nlt z, w⟩
        simp [fX11_end, fX10_cut, fX10_cut_b12, z, z2]
    · simp [fX12_end, ein, h, b2i]
/-! ===== set ===== -/
def fxR (fixed : Nat → Int32) : Prop := ∃ L, L ≤ 8 ∧ fixed 1 = nI L
theorem bc_nn {n : Nat} (hn : n ≤ 12) {x : Int32} (h : isW n x) : bcS x = nI (ctN (bitB x) n) := by
  have := t_cntB (bitB x) hn
  rw [← isW_bits (by omega) h] at this
  exact this
theorem c_set {n m T : Nat} {wall depth mood place now fixed : Nat → Int32} {moats spades tides : Int32} (hn : n ≤ 12) (hm : m ≤ 8) (hs : SS n m T wall depth mood place moats spades tides now) (hf : fxR fixed) (thrown x y : Int32) : ∃ a w l fixed', fX11_set (fixed 0) (fixed 1) spades x y = some (a, w, l) ∧ fX12_set thrown fixed now x y = some (a, 0, fixed') ∧ fixed' 0 = w ∧ fixed' 1 = l ∧ fxR fixed' := by
  have i41 : inb (41 : Int32) 43 := inb_n (i := 41) (by omega) (by omega)
  have n41 : (41 : Int32).toNatClampNeg = 41 := rfl
  have i0 : inb (0 : Int32) 2 := inb_n (i := 0) (by omega) (by omega)
  have i1 : inb (1 : Int32) 2 := inb_n (i := 1) (by omega) (by omega)
  have n0 : (0 : Int32).toNatClampNeg = 0 := rfl
  have n1 : (1 : Int32).toNatClampNeg = 1 := rfl
  have e41 : now 41 = spades := hs.2.2.2.2.2.2.1
  have eb := bc_nn (show m ≤ 12 by omega) hs.1.2.2.2.2.2.1
  have z01 : ¬ (0 : Int32) = 1 := by decide
  have z10 : ¬ (1 : Int32) = 0 := by decide
  by_cases h0 : x = 0
  · subst h0
    have q1 := t_in 0 (L := 0) (H := 1) 0 1 rfl rfl
    have q2 := t_in y (L := (0 : Int32).toInt64) (H := 9) 0 9 rfl rfl
    have q3 : (0 : Int32) ≤ 0 ∧ (0 : Int32) ≤ 1 := by decide
    by_cases hy : 0 ≤ y ∧ y ≤ 9
    · refine ⟨fixed 0, y, fixed 1, upd fixed 0 y, ?_, ?_, pk_us, pk_un (by omega), ?_⟩
      · simp [fX11_set, t_within, hy, b2i]
      · simp only [fX12_set, if_neg z01, fX12_set_b24, q1, q3, decide_true, b2i_t, ob_s, if_neg z10, fX12_set_b53, q2, hy, if_pos i0, n0]
        rfl
      · obtain ⟨L, hL, e⟩ := hf
        exact ⟨L, hL, by rw [pk_un (by omega)]; exact e⟩
    · refine ⟨-1, fixed 0, fixed 1, fixed, ?_, ?_, rfl, rfl, hf⟩
      · simp [fX11_set, fX11_set_b26, fX11_set_b62, t_within, hy, b2i]
      · simp only [fX12_set, if_neg z01, fX12_set_b24, q1, q3, decide_true, b2i_t, ob_s, if_neg z10, fX12_set_b53, q2, hy, decide_false, b2i_f, fX12_set_b59]
        rfl
  · by_cases h1 : x = 1
    · subst h1
      have q1 := t_in 1 (L := 0) (H := 1) 0 1 rfl rfl
      have q2 := t_in y (L := (bcS spades).toInt64) (H := 8) (bcS spades) 8 rfl rfl
      have q3 : (0 : Int32) ≤ 1 ∧ (1 : Int32) ≤ 1 := by decide
      by_cases hy : bcS spades ≤ y ∧ y ≤ 8
      · refine ⟨fixed 1, fixed 0, y, upd fixed 1 y, ?_, ?_, pk_un (by omega), pk_us, ?_⟩
        · simp only [fX11_set, fX11_set_b26, if_neg z10, if_true, t_bc, ob_s, t_within, hy, decide_true, b2i_t, and_self]
        · simp only [fX12_set, if_true, if_pos i41, n41, e41, t_bc, fX12_set_b24, q1, q3, decide_true, b2i_t, ob_s, if_neg z10, fX12_set_b53, q2, hy, if_pos i1, n1]
          rfl
        · rw [eb] at hy
          have hc := ctN_le (bitB spades) m
          obtain ⟨j, -, hj, e⟩ := rng_n (x := y) (a := ctN (bitB spades) m) (b := 8) (by omega) (by omega) hy
          exact ⟨j, hj, by rw [pk_us]; exact e⟩
      · refine ⟨-1, fixed 0, fixed 1, fixed, ?_, ?_, rfl, rfl, hf⟩
        · simp [fX11_set, fX11_set_b26, fX11_set_b62, t_bc, t_within, hy, b2i]
        · simp only [fX12_set, if_true, if_pos i41, n41, e41, t_bc, fX12_set_b24, q1, q3, decide_true, b2i_t, ob_s, if_neg z10, fX12_set_b53, q2, hy, decide_false, b2i_f, fX12_set_b59]
          rfl
    · have q1 := t_in x (L := 0) (H := 1) 0 1 rfl rfl
      have q3 : ¬ ((0 : Int32) ≤ x ∧ x ≤ 1) := by grind
      refine ⟨-1, fixed 0, fixed 1, fixed, ?_, ?_, rfl, rfl, hf⟩
      · simp [fX11_set, fX11_set_b26, fX11_set_b62, h0, h1]
      · simp only [fX12_set, if_neg h1, fX12_set_b24, q1, q3, decide_false, b2i_f, ob_s, fX12_set_b59]
        rfl
/-! ===== seen, forget ===== -/
def guR (n : Nat) (cells : Int32) (amount : Nat → Int32) (sights : Int32) (sightOf : Nat → Int32) : Prop := sights = cells ∧ isW n cells ∧ ctN (bitB cells) n ≤ 4 ∧ ∀ c, c < n → bitB cells c = true → sightOf c = amount c ∧ 0 ≤ amount c ∧ amount c ≤ 99
theorem gu_0 (n : Nat) (amount sightOf : Nat → Int32) : n ≤ 12 → guR n 0 amount 0 sightOf := fun hn => ⟨rfl, isW_0 n, by
  have : ctN (bitB 0) n = 0 := by
    rw [ctN_congr (q := fun _ => false) (fun i hi => bitB_z rfl i (by omega))]
    clear hn
    induction n with
    | zero => rfl
    | succ n ih => simp [ctN, ih]
  omega, fun c hc h => by rw [bitB_z rfl c (by omega)] at h; cases h⟩
theorem c_forget {n : Nat} (hn : n ≤ 12) {cells sights : Int32} {amount sightOf : Nat → Int32} (hg : guR n cells amount sights sightOf) (thrown : Int32) : ∃ a, fX11_forget cells = some (a, 0) ∧ fX12_forget thrown sights = some (a, 0, 0) ∧ guR n 0 amount 0 sightOf := by
  obtain ⟨rfl, -⟩ := hg
  exact ⟨bcS sights, by simp only [fX11_forget, t_bc, ob_s, fX3_clear], by simp only [fX12_forget, t_bc, ob_s], gu_0 n amount sightOf hn⟩
theorem bitB_or1 (x : Int32) {k i : Nat} (hk : k < 32) (hi : i < 32) : bitB (x ||| jshl 1 (nI k)) i = (bitB x i || decide (i = k)) := by
  rw [bitB_t _ hi, b_or, b_sh1 k hk hi, bitB_t _ hi]
theorem ct_or1 {p : Nat → Bool} {k : Nat} : ∀ {n : Nat}, k < n → p k = false → ctN (fun i => p i || decide (i = k)) n = ctN p n + 1
  | 0, h, _ => by omega
  | n + 1, h, hp => by
    simp only [ctN]
    by_cases e : k = n
    · subst e
      have : ctN (fun i => p i || decide (i = k)) k = ctN p k := ctN_congr (fun i hi => by
        have : ¬ i = k := by omega
        simp [this])
      simp [this, hp]
    · have e2 : ¬ n = k := by omega
      rw [ct_or1 (by omega) hp]
      simp [e2]; omega
theorem c_seen {n : Nat} (hn : n ≤ 12) {cells sights : Int32} {amount sightOf : Nat → Int32} (hg : guR n cells amount sights sightOf) (thrown x y : Int32) : ∃ a cells' amount' sights' sightOf', fX11_seen (nI n) cells amount x y = some (a, cells', amount') ∧ fX12_seen thrown (nI n) sights sightOf x y = some (a, 0, sights', sightOf') ∧ guR n cells' amount' sights' sightOf' := by
  have hg0 := hg
  obtain ⟨rfl, hw, h4, hv⟩ := hg
  have q2 := t_in y (L := 0) (H := 99) 0 99 rfl rfl
  by_cases hx : 0 ≤ x ∧ x < nI n
  · by_cases hy : 0 ≤ y ∧ y ≤ 99
    · obtain ⟨k, hk, rfl⟩ := ix_of (by omega) hx
      have h12 : k < 12 := by omega
      have i12 : inb (nI k) 12 := inb_n h12 (by omega)
      have cl : (nI k).toNatClampNeg = k := nI_clamp (by omega)
      have hw' := isW_or1 (show n ≤ 32 by omega) hk hw
      have eb := bc_nn hn hw
      have eb' := bc_nn hn hw'
      have ec : ctN (bitB (sights ||| jshl 1 (nI k))) n = ctN (fun i => bitB sights i || decide (i = k)) n := ctN_congr (fun i hi => bitB_or1 _ (by omega) (by omega))
      have good : ctN (bitB (sights ||| jshl 1 (nI k))) n ≤ 4 → guR n (sights ||| jshl 1 (nI k)) (upd amount k y) (sights ||| jshl 1 (nI k)) (upd sightOf k y) := by
        intro hc
        refine ⟨rfl, hw', hc, ?_⟩
        intro c hcn hb
        by_cases e : c = k
        · subst e; rw [pk_us, pk_us]; exact ⟨rfl, hy⟩
        · rw [pk_un e, pk_un e]
          rw [bitB_or1 _ (by omega) (by omega)] at hb
          simp [e] at hb
          exact hv c hcn hb
      cases hb : bitB sights k
      · rw [ct_or1 hk hb] at ec
        by_cases hc : ctN (bitB sights) n = 4
        · have z1 : ¬ bcS (sights ||| jshl 1 (nI k)) ≤ 4 := by rw [eb', ec]; exact nI_ge (a := 4) (by omega) (by have := ctN_le (bitB sights) n; omega)
          have z2 : bcS sights = 4 := by rw [eb, hc]; rfl
          refine ⟨-1, sights, amount, sights, sightOf, ?_, ?_, hg0⟩
          · simp [fX11_seen, t_has5, hx, b2i, t_within, hy, fX3_note, t_bc, z1]
          · simp [fX12_seen, fX12_seen_b47, t_isCell hn, hx, b2i, q2, hy, t_hasM, hb, t_bc, z2]
        · have z1 : bcS (sights ||| jshl 1 (nI k)) ≤ 4 := by rw [eb', ec]; exact nI_le (b := 4) (by omega) (by omega)
          have z2 : ¬ bcS sights = 4 := by
            rw [eb]; show ¬ _ = nI 4
            rw [nI_eq (by have := ctN_le (bitB sights) n; omega) (by omega)]; exact hc
          refine ⟨bcS (sights ||| jshl 1 (nI k)), _, _, _, _, ?_, ?_, good (by omega)⟩
          · simp [fX11_seen, t_has5, hx, b2i, t_within, hy, fX3_note, t_bc, z1, h12, cl, nI_leI, nI_ltI, nI_clamp, nI_pos', nI_1, nI_eq]
          · simp [fX12_seen, fX12_seen_b49, t_isCell hn, hx, b2i, q2, hy, t_hasM, hb, t_bc, z2, h12, cl, nI_leI, nI_ltI, nI_clamp, nI_pos', nI_1, nI_eq]
      · have ec2 : ctN (bitB (sights ||| jshl 1 (nI k))) n = ctN (bitB sights) n := by
          rw [ec]
          apply ctN_congr
          intro i hi
          by_cases e : i = k
          · subst e; simp [hb]
          · simp [e]
        have z1 : bcS (sights ||| jshl 1 (nI k)) ≤ 4 := by rw [eb', ec2]; exact nI_le (b := 4) (by omega) (by omega)
        refine ⟨bcS (sights ||| jshl 1 (nI k)), _, _, _, _, ?_, ?_, good (by omega)⟩
        · simp [fX11_seen, t_has5, hx, b2i, t_within, hy, fX3_note, t_bc, z1, h12, cl, nI_leI, nI_ltI, nI_clamp, nI_pos', nI_1, nI_eq]
        · simp [fX12_seen, fX12_seen_b49, t_isCell hn, hx, b2i, q2, hy, t_hasM, hb, t_bc, h12, cl, nI_leI, nI_ltI, nI_clamp, nI_pos', nI_1, nI_eq]
    · refine ⟨-1, sights, amount, sights, sightOf, ?_, ?_, hg0⟩
      · simp [fX11_seen, fX11_seen_b21, t_has5, hx, b2i, t_within, hy]
      · simp [fX12_seen, fX12_seen_b47, t_isCell hn, hx, b2i, q2, hy]
  · refine ⟨-1, sights, amount, sights, sightOf, ?_, ?_, hg0⟩
    · simp [fX11_seen, fX11_seen_b21, t_has5, hx, b2i]
    · simp [fX12_seen, fX12_seen_b47, t_isCell hn, hx, b2i]
/-! ===== count ===== -/
theorem c_count {n m T : Nat} {wall depth mood place now fixed : Nat → Int32} {moats spades tides : Int32} (hn : n ≤ 12) (hm : m ≤ 8) (hs : SS n m T wall depth mood place moats spades tides now) {cells sights size undos len taped ts tr : Int32} (e1 : sights = cells) (e2 : undos = size) (e3 : taped = len) (e4 : tr = ts) (thrown x : Int32) : ∃ a, fX11_count (fixed 0) (fixed 1) (nI m) (nI n) cells size moats spades tides wall depth place len ts x = some a ∧ fX12_count thrown tr (nI n) (nI m) taped undos sights fixed now x = some (a, 0) := by
  subst e1 e2 e3 e4
  have i41 : inb (41 : Int32) 43 := inb_n (i := 41) (by omega) (by omega)
  have n41 : (41 : Int32).toNatClampNeg = 41 := rfl
  have i42 : inb (42 : Int32) 43 := inb_n (i := 42) (by omega) (by omega)
  have n42 : (42 : Int32).toNatClampNeg = 42 := rfl
  have i12 : inb (12 : Int32) 43 := inb_n (i := 12) (by omega) (by omega)
  have n12 : (12 : Int32).toNatClampNeg = 12 := rfl
  have i0 : inb (0 : Int32) 2 := inb_n (i := 0) (by omega) (by omega)
  have i1 : inb (1 : Int32) 2 := inb_n (i := 1) (by omega) (by omega)
  have n0 : (0 : Int32).toNatClampNeg = 0 := rfl
  have n1 : (1 : Int32).toNatClampNeg = 1 := rfl
  have ew := wet_congr hs.2.2.1
  have es : sumN now n = sumN wall n := sumN_congr hs.2.1
  have eh : bitsN (fun k => decide (now (25 + 2 * k) = -1)) m = bitsN (fun k => decide (place k = -1)) m := bitsN_congr (fun k hk => by rw [hs.2.2.2.2.1 k hk])
  by_cases h0 : x = 0
  · subst h0
    exact ⟨nI n, by simp only [fX11_count, if_true, t_wet hn, t_atHome hm, t_sand hn, ob_s], by simp only [fX12_count, if_true, if_pos i41, n41, if_pos i42, n42, if_pos i12, n12, if_pos i0, if_pos i1, n0, n1, hs.2.2.2.2.2.1, hs.2.2.2.2.2.2.1, hs.2.2.2.2.2.2.2, t_wetM hn, ew, t_childrenAtM hm, eh, t_wallAll hn, es, ob_s]⟩
  by_cases h1 : x = 1
  · subst h1
    exact ⟨nI m, by simp only [fX11_count, if_neg (show ¬ (1 : Int32) = 0 by decide), if_true, t_wet hn, t_atHome hm, t_sand hn, ob_s], by simp only [fX12_count, if_neg (show ¬ (1 : Int32) = 0 by decide), if_true, if_pos i41, n41, if_pos i42, n42, if_pos i12, n12, if_pos i0, if_pos i1, n0, n1, hs.2.2.2.2.2.1, hs.2.2.2.2.2.2.1, hs.2.2.2.2.2.2.2, t_wetM hn, ew, t_childrenAtM hm, eh, t_wallAll hn, es, ob_s]⟩
  by_cases h2 : x = 2
  · subst h2
    exact ⟨tides, by simp only [fX11_count, if_neg (show ¬ (2 : Int32) = 0 by decide), if_neg (show ¬ (2 : Int32) = 1 by decide), if_true, t_wet hn, t_atHome hm, t_sand hn, ob_s], by simp only [fX12_count, if_neg (show ¬ (2 : Int32) = 0 by decide), if_neg (show ¬ (2 : Int32) = 1 by decide), if_true, if_pos i41, n41, if_pos i42, n42, if_pos i12, n12, if_pos i0, if_pos i1, n0, n1, hs.2.2.2.2.2.1, hs.2.2.2.2.2.2.1, hs.2.2.2.2.2.2.2, t_wetM hn, ew, t_childrenAtM hm, eh, t_wallAll hn, es, ob_s]⟩
  by_cases h3 : x = 3
  · subst h3
    exact ⟨fixed 0, by simp only [fX11_count, if_neg (show ¬ (3 : Int32) = 0 by decide), if_neg (show ¬ (3 : Int32) = 1 by decide), if_neg (show ¬ (3 : Int32) = 2 by decide), if_true, t_wet hn, t_atHome hm, t_sand hn, ob_s], by simp only [fX12_count, if_neg (show ¬ (3 : Int32) = 0 by decide), if_neg (show ¬ (3 : Int32) = 1 by decide), if_neg (show ¬ (3 : Int32) = 2 by decide), if_true, if_pos i41, n41, if_pos i42, n42, if_pos i12, n12, if_pos i0, if_pos i1, n0, n1, hs.2.2.2.2.2.1, hs.2.2.2.2.2.2.1, hs.2.2.2.2.2.2.2, t_wetM hn, ew, t_childrenAtM hm, eh, t_wallAll hn, es, ob_s]⟩
  by_cases h4 : x = 4
  · subst h4
    exact ⟨fixed 1, by simp only [fX11_count, if_neg (show ¬ (4 : Int32) = 0 by decide), if_neg (show ¬ (4 : Int32) = 1 by decide), if_neg (show ¬ (4 : Int32) = 2 by decide), if_neg (show ¬ (4 : Int32) = 3 by decide), if_true, t_wet hn, t_atHome hm, t_sand hn, ob_s], by simp only [fX12_count, if_neg (show ¬ (4 : Int32) = 0 by decide), if_neg (show ¬ (4 : Int32) = 1 by decide), if_neg (show ¬ (4 : Int32) = 2 by decide), if_neg (show ¬ (4 : Int32) = 3 by decide), if_true, if_pos i41, n41, if_pos i42, n42, if_pos i12, n12, if_pos i0, if_pos i1, n0, n1, hs.2.2.2.2.2.1, hs.2.2.2.2.2.2.1, hs.2.2.2.2.2.2.2, t_wetM hn, ew, t_childrenAtM hm, eh, t_wallAll hn, es, ob_s]⟩
  by_cases h5 : x = 5
  · subst h5
    exact ⟨spades, by simp only [fX11_count, if_neg (show ¬ (5 : Int32) = 0 by decide), if_neg (show ¬ (5 : Int32) = 1 by decide), if_neg (show ¬ (5 : Int32) = 2 by decide), if_neg (show ¬ (5 : Int32) = 3 by decide), if_neg (show ¬ (5 : Int32) = 4 by decide), if_true, t_wet hn, t_atHome hm, t_sand hn, ob_s], by simp only [fX12_count, if_neg (show ¬ (5 : Int32) = 0 by decide), if_neg (show ¬ (5 : Int32) = 1 by decide), if_neg (show ¬ (5 : Int32) = 2 by decide), if_neg (show ¬ (5 : Int32) = 3 by decide), if_neg (show ¬ (5 : Int32) = 4 by decide), if_true, if_pos i41, n41, if_pos i42, n42, if_pos i12, n12, if_pos i0, if_pos i1, n0, n1, hs.2.2.2.2.2.1, hs.2.2.2.2.2.2.1, hs.2.2.2.2.2.2.2, t_wetM hn, ew, t_childrenAtM hm, eh, t_wallAll hn, es, ob_s]⟩
  by_cases h6 : x = 6
  · subst h6
    exact ⟨moats, by simp only [fX11_count, if_neg (show ¬ (6 : Int32) = 0 by decide), if_neg (show ¬ (6 : Int32) = 1 by decide), if_neg (show ¬ (6 : Int32) = 2 by decide), if_neg (show ¬ (6 : Int32) = 3 by decide), if_neg (show ¬ (6 : Int32) = 4 by decide), if_neg (show ¬ (6 : Int32) = 5 by decide), if_true, t_wet hn, t_atHome hm, t_sand hn, ob_s], by simp only [fX12_count, if_neg (show ¬ (6 : Int32) = 0 by decide), if_neg (show ¬ (6 : Int32) = 1 by decide), if_neg (show ¬ (6 : Int32) = 2 by decide), if_neg (show ¬ (6 : Int32) = 3 by decide), if_neg (show ¬ (6 : Int32) = 4 by decide), if_neg (show ¬ (6 : Int32) = 5 by decide), if_true, if_pos i41, n41, if_pos i42, n42, if_pos i12, n12, if_pos i0, if_pos i1, n0, n1, hs.2.2.2.2.2.1, hs.2.2.2.2.2.2.1, hs.2.2.2.2.2.2.2, t_wetM hn, ew, t_childrenAtM hm, eh, t_wallAll hn, es, ob_s]⟩
  by_cases h7 : x = 7
  · subst h7
    exact ⟨bitsN (fun c => !decide (depth c ≤ 0)) n, by simp only [fX11_count, if_neg (show ¬ (7 : Int32) = 0 by decide), if_neg (show ¬ (7 : Int32) = 1 by decide), if_neg (show ¬ (7 : Int32) = 2 by decide), if_neg (show ¬ (7 : Int32) = 3 by decide), if_neg (show ¬ (7 : Int32) = 4 by decide), if_neg (show ¬ (7 : Int32) = 5 by decide), if_neg (show ¬ (7 : Int32) = 6 by decide), if_true, t_wet hn, t_atHome hm, t_sand hn, ob_s], by simp only [fX12_count, if_neg (show ¬ (7 : Int32) = 0 by decide), if_neg (show ¬ (7 : Int32) = 1 by decide), if_neg (show ¬ (7 : Int32) = 2 by decide), if_neg (show ¬ (7 : Int32) = 3 by decide), if_neg (show ¬ (7 : Int32) = 4 by decide), if_neg (show ¬ (7 : Int32) = 5 by decide), if_neg (show ¬ (7 : Int32) = 6 by decide), if_true, if_pos i41, n41, if_pos i42, n42, if_pos i12, n12, if_pos i0, if_pos i1, n0, n1, hs.2.2.2.2.2.1, hs.2.2.2.2.2.2.1, hs.2.2.2.2.2.2.2, t_wetM hn, ew, t_childrenAtM hm, eh, t_wallAll hn, es, ob_s]⟩
  by_cases h8 : x = 8
  · subst h8
    exact ⟨bitsN (fun k => decide (place k = -1)) m, by simp only [fX11_count, if_neg (show ¬ (8 : Int32) = 0 by decide), if_neg (show ¬ (8 : Int32) = 1 by decide), if_neg (show ¬ (8 : Int32) = 2 by decide), if_neg (show ¬ (8 : Int32) = 3 by decide), if_neg (show ¬ (8 : Int32) = 4 by decide), if_neg (show ¬ (8 : Int32) = 5 by decide), if_neg (show ¬ (8 : Int32) = 6 by decide), if_neg (show ¬ (8 : Int32) = 7 by decide), if_true, t_wet hn, t_atHome hm, t_sand hn, ob_s], by simp only [fX12_count, if_neg (show ¬ (8 : Int32) = 0 by decide), if_neg (show ¬ (8 : Int32) = 1 by decide), if_neg (show ¬ (8 : Int32) = 2 by decide), if_neg (show ¬ (8 : Int32) = 3 by decide), if_neg (show ¬ (8 : Int32) = 4 by decide), if_neg (show ¬ (8 : Int32) = 5 by decide), if_neg (show ¬ (8 : Int32) = 6 by decide), if_neg (show ¬ (8 : Int32) = 7 by decide), if_true, if_pos i41, n41, if_pos i42, n42, if_pos i12, n12, if_pos i0, if_pos i1, n0, n1, hs.2.2.2.2.2.1, hs.2.2.2.2.2.2.1, hs.2.2.2.2.2.2.2, t_wetM hn, ew, t_childrenAtM hm, eh, t_wallAll hn, es, ob_s]⟩
  by_cases h9 : x = 9
  · subst h9
    exact ⟨sumN wall n, by simp only [fX11_count, if_neg (show ¬ (9 : Int32) = 0 by decide), if_neg (show ¬ (9 : Int32) = 1 by decide), if_neg (show ¬ (9 : Int32) = 2 by decide), if_neg (show ¬ (9 : Int32) = 3 by decide), if_neg (show ¬ (9 : Int32) = 4 by decide), if_neg (show ¬ (9 : Int32) = 5 by decide), if_neg (show ¬ (9 : Int32) = 6 by decide), if_neg (show ¬ (9 : Int32) = 7 by decide), if_neg (show ¬ (9 : Int32) = 8 by decide), if_true, t_wet hn, t_atHome hm, t_sand hn, ob_s], by simp only [fX12_count, if_neg (show ¬ (9 : Int32) = 0 by decide), if_neg (show ¬ (9 : Int32) = 1 by decide), if_neg (show ¬ (9 : Int32) = 2 by decide), if_neg (show ¬ (9 : Int32) = 3 by decide), if_neg (show ¬ (9 : Int32) = 4 by decide), if_neg (show ¬ (9 : Int32) = 5 by decide), if_neg (show ¬ (9 : Int32) = 6 by decide), if_neg (show ¬ (9 : Int32) = 7 by decide), if_neg (show ¬ (9 : Int32) = 8 by decide), if_true, if_pos i41, n41, if_pos i42, n42, if_pos i12, n12, if_pos i0, if_pos i1, n0, n1, hs.2.2.2.2.2.1, hs.2.2.2.2.2.2.1, hs.2.2.2.2.2.2.2, t_wetM hn, ew, t_childrenAtM hm, eh, t_wallAll hn, es, ob_s]⟩
  by_cases h10 : x = 10
  · subst h10
    exact ⟨sights, by simp only [fX11_count, if_neg (show ¬ (10 : Int32) = 0 by decide), if_neg (show ¬ (10 : Int32) = 1 by decide), if_neg (show ¬ (10 : Int32) = 2 by decide), if_neg (show ¬ (10 : Int32) = 3 by decide), if_neg (show ¬ (10 : Int32) = 4 by decide), if_neg (show ¬ (10 : Int32) = 5 by decide), if_neg (show ¬ (10 : Int32) = 6 by decide), if_neg (show ¬ (10 : Int32) = 7 by decide), if_neg (show ¬ (10 : Int32) = 8 by decide), if_neg (show ¬ (10 : Int32) = 9 by decide), if_true, t_wet hn, t_atHome hm, t_sand hn, ob_s], by simp only [fX12_count, if_neg (show ¬ (10 : Int32) = 0 by decide), if_neg (show ¬ (10 : Int32) = 1 by decide), if_neg (show ¬ (10 : Int32) = 2 by decide), if_neg (show ¬ (10 : Int32) = 3 by decide), if_neg (show ¬ (10 : Int32) = 4 by decide), if_neg (show ¬ (10 : Int32) = 5 by decide), if_neg (show ¬ (10 : Int32) = 6 by decide), if_neg (show ¬ (10 : Int32) = 7 by decide), if_neg (show ¬ (10 : Int32) = 8 by decide), if_neg (show ¬ (10 : Int32) = 9 by decide), if_true, if_pos i41, n41, if_pos i42, n42, if_pos i12, n12, if_pos i0, if_pos i1, n0, n1, hs.2.2.2.2.2.1, hs.2.2.2.2.2.2.1, hs.2.2.2.2.2.2.2, t_wetM hn, ew, t_childrenAtM hm, eh, t_wallAll hn, es, ob_s]⟩
  by_cases h11 : x = 11
  · subst h11
    exact ⟨undos, by simp only [fX11_count, if_neg (show ¬ (11 : Int32) = 0 by decide), if_neg (show ¬ (11 : Int32) = 1 by decide), if_neg (show ¬ (11 : Int32) = 2 by decide), if_neg (show ¬ (11 : Int32) = 3 by decide), if_neg (show ¬ (11 : Int32) = 4 by decide), if_neg (show ¬ (11 : Int32) = 5 by decide), if_neg (show ¬ (11 : Int32) = 6 by decide), if_neg (show ¬ (11 : Int32) = 7 by decide), if_neg (show ¬ (11 : Int32) = 8 by decide), if_neg (show ¬ (11 : Int32) = 9 by decide), if_neg (show ¬ (11 : Int32) = 10 by decide), if_true, t_wet hn, t_atHome hm, t_sand hn, ob_s], by simp only [fX12_count, if_neg (show ¬ (11 : Int32) = 0 by decide), if_neg (show ¬ (11 : Int32) = 1 by decide), if_neg (show ¬ (11 : Int32) = 2 by decide), if_neg (show ¬ (11 : Int32) = 3 by decide), if_neg (show ¬ (11 : Int32) = 4 by decide), if_neg (show ¬ (11 : Int32) = 5 by decide), if_neg (show ¬ (11 : Int32) = 6 by decide), if_neg (show ¬ (11 : Int32) = 7 by decide), if_neg (show ¬ (11 : Int32) = 8 by decide), if_neg (show ¬ (11 : Int32) = 9 by decide), if_neg (show ¬ (11 : Int32) = 10 by decide), if_true, if_pos i41, n41, if_pos i42, n42, if_pos i12, n12, if_pos i0, if_pos i1, n0, n1, hs.2.2.2.2.2.1, hs.2.2.2.2.2.2.1, hs.2.2.2.2.2.2.2, t_wetM hn, ew, t_childrenAtM hm, eh, t_wallAll hn, es, ob_s]⟩
  by_cases h12 : x = 12
  · subst h12
    exact ⟨tr, by simp only [fX11_count, if_neg (show ¬ (12 : Int32) = 0 by decide), if_neg (show ¬ (12 : Int32) = 1 by decide), if_neg (show ¬ (12 : Int32) = 2 by decide), if_neg (show ¬ (12 : Int32) = 3 by decide), if_neg (show ¬ (12 : Int32) = 4 by decide), if_neg (show ¬ (12 : Int32) = 5 by decide), if_neg (show ¬ (12 : Int32) = 6 by decide), if_neg (show ¬ (12 : Int32) = 7 by decide), if_neg (show ¬ (12 : Int32) = 8 by decide), if_neg (show ¬ (12 : Int32) = 9 by decide), if_neg (show ¬ (12 : Int32) = 10 by decide), if_neg (show ¬ (12 : Int32) = 11 by decide), if_true, t_wet hn, t_atHome hm, t_sand hn, ob_s], by simp only [fX12_count, if_neg (show ¬ (12 : Int32) = 0 by decide), if_neg (show ¬ (12 : Int32) = 1 by decide), if_neg (show ¬ (12 : Int32) = 2 by decide), if_neg (show ¬ (12 : Int32) = 3 by decide), if_neg (show ¬ (12 : Int32) = 4 by decide), if_neg (show ¬ (12 : Int32) = 5 by decide), if_neg (show ¬ (12 : Int32) = 6 by decide), if_neg (show ¬ (12 : Int32) = 7 by decide), if_neg (show ¬ (12 : Int32) = 8 by decide), if_neg (show ¬ (12 : Int32) = 9 by decide), if_neg (show ¬ (12 : Int32) = 10 by decide), if_neg (show ¬ (12 : Int32) = 11 by decide), if_true, if_pos i41, n41, if_pos i42, n42, if_pos i12, n12, if_pos i0, if_pos i1, n0, n1, hs.2.2.2.2.2.1, hs.2.2.2.2.2.2.1, hs.2.2.2.2.2.2.2, t_wetM hn, ew, t_childrenAtM hm, eh, t_wallAll hn, es, ob_s]⟩
  by_cases h13 : x = 13
  · subst h13
    exact ⟨taped, by simp only [fX11_count, if_neg (show ¬ (13 : Int32) = 0 by decide), if_neg (show ¬ (13 : Int32) = 1 by decide), if_neg (show ¬ (13 : Int32) = 2 by decide), if_neg (show ¬ (13 : Int32) = 3 by decide), if_neg (show ¬ (13 : Int32) = 4 by decide), if_neg (show ¬ (13 : Int32) = 5 by decide), if_neg (show ¬ (13 : Int32) = 6 by decide), if_neg (show ¬ (13 : Int32) = 7 by decide), if_neg (show ¬ (13 : Int32) = 8 by decide), if_neg (show ¬ (13 : Int32) = 9 by decide), if_neg (show ¬ (13 : Int32) = 10 by decide), if_neg (show ¬ (13 : Int32) = 11 by decide), if_neg (show ¬ (13 : Int32) = 12 by decide), if_true, t_wet hn, t_atHome hm, t_sand hn, ob_s], by simp only [fX12_count, if_neg (show ¬ (13 : Int32) = 0 by decide), if_neg (show ¬ (13 : Int32) = 1 by decide), if_neg (show ¬ (13 : Int32) = 2 by decide), if_neg (show ¬ (13 : Int32) = 3 by decide), if_neg (show ¬ (13 : Int32) = 4 by decide), if_neg (show ¬ (13 : Int32) = 5 by decide), if_neg (show ¬ (13 : Int32) = 6 by decide), if_neg (show ¬ (13 : Int32) = 7 by decide), if_neg (show ¬ (13 : Int32) = 8 by decide), if_neg (show ¬ (13 : Int32) = 9 by decide), if_neg (show ¬ (13 : Int32) = 10 by decide), if_neg (show ¬ (13 : Int32) = 11 by decide), if_neg (show ¬ (13 : Int32) = 12 by decide), if_true, if_pos i41, n41, if_pos i42, n42, if_pos i12, n12, if_pos i0, if_pos i1, n0, n1, hs.2.2.2.2.2.1, hs.2.2.2.2.2.2.1, hs.2.2.2.2.2.2.2, t_wetM hn, ew, t_childrenAtM hm, eh, t_wallAll hn, es, ob_s]⟩
  exact ⟨-100, by simp only [fX11_count, if_neg h0, if_neg h1, if_neg h2, if_neg h3, if_neg h4, if_neg h5, if_neg h6, if_neg h7, if_neg h8, if_neg h9, if_neg h10, if_neg h11, if_neg h12, if_neg h13], by simp only [fX12_count, if_neg h0, if_neg h1, if_neg h2, if_neg h3, if_neg h4, if_neg h5, if_neg h6, if_neg h7, if_neg h8, if_neg h9, if_neg h10, if_neg h11, if_neg h12, if_neg h13]⟩
