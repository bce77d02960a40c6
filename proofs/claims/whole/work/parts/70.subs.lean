/-! ===== parts of a set, one by one ===== -/
def smL (l : List Nat) (g : Nat → Nat) : Nat := match l with
  | [] => 0
  | a :: l => g a + smL l g
theorem smL_app (g : Nat → Nat) : ∀ l r : List Nat, smL (l ++ r) g = smL l g + smL r g
  | [], r => by simp [smL]
  | a :: l, r => by simp only [List.cons_append, smL]; rw [smL_app g l r]; omega
theorem smL_map (f : Nat → Nat) (g : Nat → Nat) : ∀ l : List Nat, smL (l.map f) g = smL l (fun T => g (f T))
  | [] => rfl
  | a :: l => by simp only [List.map_cons, smL]; rw [smL_map f g l]
theorem smL_add (f g : Nat → Nat) : ∀ l : List Nat, smL l (fun T => f T + g T) = smL l f + smL l g
  | [] => rfl
  | a :: l => by simp only [smL]; rw [smL_add f g l]; omega
theorem smL_congr {f g : Nat → Nat} : ∀ {l : List Nat}, (∀ T, T ∈ l → f T = g T) → smL l f = smL l g
  | [], _ => rfl
  | a :: l, h => by
    simp only [smL]
    rw [h a (by simp), smL_congr (fun T hT => h T (by simp [hT]))]
theorem smL_le {f g : Nat → Nat} : ∀ {l : List Nat}, (∀ T, T ∈ l → f T ≤ g T) → smL l f ≤ smL l g
  | [], _ => Nat.le_refl _
  | a :: l, h => by
    have h1 := h a (by simp)
    have h2 := smL_le (l := l) (fun T hT => h T (by simp [hT]))
    simp only [smL]; omega
theorem smL_mul (f : Nat → Nat) (c : Nat) : ∀ l : List Nat, smL l (fun T => c * f T) = c * smL l f
  | [] => by simp [smL]
  | a :: l => by simp only [smL]; rw [smL_mul f c l, Nat.mul_add]
theorem smL_z : ∀ l : List Nat, smL l (fun _ => 0) = 0
  | [] => rfl
  | a :: l => by simp only [smL]; rw [smL_z l]
theorem smL_sumW (h : Nat → Nat → Nat) (l : List Nat) : ∀ n, smL l (fun T => sumW (fun c => h T c) n) = sumW (fun c => smL l (fun T => h T c)) n
  | 0 => by simp only [sumW]; exact smL_z l
  | n + 1 => by simp only [sumW]; rw [smL_add, smL_sumW h l n]
def subL : Nat → Nat → List Nat
  | 0, _ => [0]
  | K + 1, R => if R.testBit K then (subL K R).map (fun T => T ||| 2 ^ K) ++ subL K R else subL K R
def itL : Nat → Nat → Nat → List Nat
  | 0, _, _ => []
  | f + 1, R, T => T :: (if T = 0 then [] else itL f R ((T - 1) &&& R))
theorem it_tab : (List.range 256).all (fun R => decide (itL 256 R R = subL 8 R)) = true := by decide +kernel
theorem it_sub {R : Nat} (h : R < 256) : itL 256 R R = subL 8 R := of_decide_eq_true (List.all_eq_true.mp it_tab R (List.mem_range.mpr h))
theorem sub_mem : ∀ K R T, T ∈ subL K R → ∀ i, T.testBit i = true → R.testBit i = true ∧ i < K
  | 0, R, T, h, i, hb => by
    simp [subL] at h
    subst h; simp at hb
  | K + 1, R, T, h, i, hb => by
    simp only [subL] at h
    by_cases e : R.testBit K = true
    · rw [if_pos e, List.mem_append, List.mem_map] at h
      rcases h with ⟨U, h1, rfl⟩ | h
      · rw [or2_tb] at hb
        by_cases ei : i = K
        · subst ei; exact ⟨e, by omega⟩
        · simp [ei] at hb
          have := sub_mem K R U h1 i hb
          exact ⟨this.1, by omega⟩
      · have := sub_mem K R T h i hb
        exact ⟨this.1, by omega⟩
    · rw [if_neg e] at h
      have := sub_mem K R T h i hb
      exact ⟨this.1, by omega⟩
theorem sub_congr {R U : Nat} : ∀ K, (∀ i, i < K → R.testBit i = U.testBit i) → subL K R = subL K U
  | 0, _ => rfl
  | K + 1, h => by
    simp only [subL]
    rw [sub_congr K (fun i hi => h i (by omega)), h K (by omega)]
theorem or_com3 (T a b : Nat) : T ||| a ||| b = T ||| b ||| a := by
  rw [Nat.or_assoc, Nat.or_comm a b, ← Nat.or_assoc]
theorem sub_add {F k : Nat} : ∀ K, k < K → F.testBit k = false → ∀ g : Nat → Nat, smL (subL K (F ||| 2 ^ k)) g = smL (subL K F) g + smL (subL K F) (fun T => g (T ||| 2 ^ k))
  | 0, h, _, _ => by omega
  | K + 1, h, hb, g => by
    by_cases e : k = K
    · subst e
      have hc : subL k (F ||| 2 ^ k) = subL k F := sub_congr k (fun i hi => by
        rw [or2_tb]
        have : ¬ i = k := by omega
        simp [this])
      have h1 : (F ||| 2 ^ k).testBit k = true := by rw [or2_tb]; simp
      simp only [subL, h1, if_true, hb, hc]
      rw [smL_app, smL_map]
      simp only [Bool.false_eq_true, if_false]
      omega
    · have hk : k < K := by omega
      have h1 : (F ||| 2 ^ k).testBit K = F.testBit K := by
        rw [or2_tb]
        have : ¬ K = k := by omega
        simp [this]
      simp only [subL, h1]
      cases hK : F.testBit K
      · simp only [Bool.false_eq_true, if_false]
        exact sub_add K hk hb g
      · simp only [if_true]
        rw [smL_app, smL_app, smL_app, smL_map, smL_map, smL_map, sub_add K hk hb g, sub_add K hk hb (fun T => g (T ||| 2 ^ K))]
        simp only [or_com3 _ (2 ^ k) (2 ^ K)]
        omega
def dfN (R T : Nat) : Nat := bW (fun i => R.testBit i && !T.testBit i) 8
theorem df_tb (R T i : Nat) : (dfN R T).testBit i = (decide (i < 8) && (R.testBit i && !T.testBit i)) := bW_tb _ _ _
theorem df_lt (R T : Nat) : dfN R T < 256 := bW_lt _ 8
theorem df_I {R : Nat} (T : Nat) (hR : R < 256) : nI R &&& (nI T ^^^ (-1)) = nI (dfN R T) := by
  apply b_ext
  intro i hi
  rw [b_and, b_not _ hi, b_nI _ hi, b_nI _ hi, b_nI _ hi, df_tb]
  by_cases h : i < 8
  · simp [h]
  · rw [tb_lt (n := 8) hR (by omega)]; simp
def sm8 (s : Nat → Nat) (T : Nat) : Nat := sumW (fun i => if T.testBit i then s i else 0) 8
theorem sumW_upd {f g : Nat → Nat} {k x : Nat} : ∀ {n : Nat}, k < n → (∀ i, i < n → i ≠ k → g i = f i) → g k = f k + x → sumW g n = sumW f n + x
  | 0, h, _, _ => by omega
  | n + 1, h, h1, h2 => by
    simp only [sumW]
    by_cases e : k = n
    · subst e
      rw [sumW_congr (f := g) (g := f) (fun i hi => h1 i (by omega) (by omega)), h2]; omega
    · rw [sumW_upd (n := n) (by omega) (fun i hi hne => h1 i (by omega) hne) h2, h1 n (by omega) (by omega)]; omega
theorem sm_or (s : Nat → Nat) {T k : Nat} (hk : k < 8) (hb : T.testBit k = false) : sm8 s (T ||| 2 ^ k) = sm8 s T + s k := by
  apply sumW_upd hk
  · intro i hi hne
    rw [or2_tb]; simp [hne]
  · rw [or2_tb, hb]; simp
/-- ways to fill the last j cells out of R -/
def nF (q : Nat → Bool) (P : Nat → Nat → Bool) (s : Nat → Nat) : Nat → Nat → Nat
  | 0, _ => 1
  | j + 1, R => if q (11 - j) then smL (subL 8 R) (fun T => if P (11 - j) (sm8 s T) then nF q P s j (dfN R T) else 0) else nF q P s j R
def shP (P : Nat → Nat → Bool) (c x : Nat) : Nat → Nat → Bool := fun d y => if d = c then P d (y + x) else P d y
theorem nF_congr {q : Nat → Bool} {P Q : Nat → Nat → Bool} {s : Nat → Nat} : ∀ {j R : Nat}, j ≤ 12 → (∀ c, 12 - j ≤ c → c < 12 → P c = Q c) → nF q P s j R = nF q Q s j R
  | 0, _, _, _ => rfl
  | j + 1, R, hj, h => by
    simp only [nF]
    rw [h (11 - j) (by omega) (by omega)]
    cases q (11 - j)
    · simp only [Bool.false_eq_true, if_false]
      exact nF_congr (by omega) (fun c h1 h2 => h c (by omega) h2)
    · simp only [if_true]
      apply smL_congr
      intro T _
      rw [nF_congr (R := dfN R T) (by omega) (fun c h1 h2 => h c (by omega) h2)]
theorem df_or1 {F T k : Nat} (hk : k < 8) (hF : F.testBit k = false) (hT : T.testBit k = false) : dfN (F ||| 2 ^ k) T = dfN F T ||| 2 ^ k := by
  apply Nat.eq_of_testBit_eq
  intro i
  rw [df_tb, or2_tb, or2_tb, df_tb]
  by_cases e : i = k
  · subst e; simp [hk, hT]
  · simp [e]
theorem df_or2 {F T k : Nat} (hF : F.testBit k = false) : dfN (F ||| 2 ^ k) (T ||| 2 ^ k) = dfN F T := by
  apply Nat.eq_of_testBit_eq
  intro i
  rw [df_tb, or2_tb, or2_tb, df_tb]
  by_cases e : i = k
  · subst e; simp [hF]
  · simp [e]
theorem df_k {F T k : Nat} (hF : F.testBit k = false) : (dfN F T).testBit k = false := by rw [df_tb, hF]; simp
/-- one child more -/
theorem nF_add {q : Nat → Bool} {s : Nat → Nat} {k : Nat} (hk : k < 8) : ∀ {j : Nat} {P : Nat → Nat → Bool} {F : Nat}, j ≤ 12 → F.testBit k = false → nF q P s j (F ||| 2 ^ k) = nF q P s j F + sumW (fun c => if 12 - j ≤ c ∧ q c = true then nF q (shP P c (s k)) s j F else 0) 12
  | 0, P, F, _, _ => by
    simp only [nF]
    rw [sumW_congr (g := fun _ => 0) (fun c hc => by rw [if_neg (by omega)]), sumW_z]
  | j + 1, P, F, hj, hF => by
    by_cases hq : q (11 - j) = true
    · have hT : ∀ T, T ∈ subL 8 F → T.testBit k = false := fun T hm => by
        cases e : T.testBit k
        · rfl
        · have := (sub_mem 8 F T hm k e).1
          rw [hF] at this; cases this
      have hc0 : 11 - j < 12 := by omega
      simp only [nF, hq, if_true]
      rw [sub_add 8 hk hF]
      have e1 : smL (subL 8 F) (fun T => if P (11 - j) (sm8 s T) then nF q P s j (dfN (F ||| 2 ^ k) T) else 0) = smL (subL 8 F) (fun T => if P (11 - j) (sm8 s T) then nF q P s j (dfN F T) else 0) + smL (subL 8 F) (fun T => sumW (fun c => if 12 - j ≤ c ∧ q c = true then (if P (11 - j) (sm8 s T) then nF q (shP P c (s k)) s j (dfN F T) else 0) else 0) 12) := by
        rw [← smL_add]
        apply smL_congr
        intro T hm
        rw [df_or1 hk hF (hT T hm)]
        cases P (11 - j) (sm8 s T)
        · simp only [Bool.false_eq_true, if_false]
          rw [sumW_congr (g := fun _ => 0) (fun c hc => by split <;> rfl), sumW_z]
        · simp only [if_true]
          exact nF_add hk (by omega) (df_k hF)
      have e2 : smL (subL 8 F) (fun T => if P (11 - j) (sm8 s (T ||| 2 ^ k)) then nF q P s j (dfN (F ||| 2 ^ k) (T ||| 2 ^ k)) else 0) = smL (subL 8 F) (fun T => if shP P (11 - j) (s k) (11 - j) (sm8 s T) then nF q (shP P (11 - j) (s k)) s j (dfN F T) else 0) := by
        apply smL_congr
        intro T hm
        rw [df_or2 hF, sm_or s hk (hT T hm)]
        have hs : shP P (11 - j) (s k) (11 - j) (sm8 s T) = P (11 - j) (sm8 s T + s k) := by unfold shP; rw [if_pos rfl]
        rw [hs]
        have hn : nF q (shP P (11 - j) (s k)) s j (dfN F T) = nF q P s j (dfN F T) := nF_congr (by omega) (fun c h1 h2 => by
          funext y; unfold shP; rw [if_neg (by omega)])
        rw [hn]
      rw [e1, e2, smL_sumW]
      -- the right side
      have e3 : sumW (fun c => if 12 - (j + 1) ≤ c ∧ q c = true then smL (subL 8 F) (fun T => if shP P c (s k) (11 - j) (sm8 s T) then nF q (shP P c (s k)) s j (dfN F T) else 0) else 0) 12 = sumW (fun c => smL (subL 8 F) (fun T => if 12 - j ≤ c ∧ q c = true then (if P (11 - j) (sm8 s T) then nF q (shP P c (s k)) s j (dfN F T) else 0) else 0)) 12 + smL (subL 8 F) (fun T => if shP P (11 - j) (s k) (11 - j) (sm8 s T) then nF q (shP P (11 - j) (s k)) s j (dfN F T) else 0) := by
        apply sumW_upd (k := 11 - j) hc0
        · intro c hc hne
          by_cases h1 : 12 - j ≤ c ∧ q c = true
          · rw [if_pos ⟨by have := h1.1; omega, h1.2⟩]
            apply smL_congr
            intro T _
            rw [if_pos h1]
            have : shP P c (s k) (11 - j) (sm8 s T) = P (11 - j) (sm8 s T) := by unfold shP; rw [if_neg (by omega)]
            rw [this]
          · rw [if_neg (fun z => h1 ⟨by have := z.1; omega, z.2⟩)]
            rw [smL_congr (g := fun _ => 0) (fun T _ => by rw [if_neg h1]), smL_z]
        · rw [if_pos ⟨by omega, hq⟩]
          rw [smL_congr (f := fun T => if 12 - j ≤ 11 - j ∧ q (11 - j) = true then (if P (11 - j) (sm8 s T) then nF q (shP P (11 - j) (s k)) s j (dfN F T) else 0) else 0) (g := fun _ => 0) (fun T _ => by rw [if_neg (by omega)]), smL_z]
          omega
      rw [e3]
      omega
    · simp only [nF, if_neg hq]
      rw [nF_add hk (by omega) hF]
      congr 1
      apply sumW_congr
      intro c hc
      by_cases e : c = 11 - j
      · subst e
        rw [if_neg (by omega), if_neg (fun z => hq z.2)]
      · have : (12 - (j + 1) ≤ c ∧ q c = true) ↔ (12 - j ≤ c ∧ q c = true) := ⟨fun z => ⟨by have := z.1; omega, z.2⟩, fun z => ⟨by have := z.1; omega, z.2⟩⟩
        simp only [this]
/-! how many at most -/
def nU (q : Nat → Bool) (s : Nat → Nat) (j R : Nat) : Nat := nF q (fun _ _ => true) s j R
theorem nF_le (q : Nat → Bool) (P : Nat → Nat → Bool) (s : Nat → Nat) : ∀ j R, nF q P s j R ≤ nU q s j R
  | 0, _ => Nat.le_refl _
  | j + 1, R => by
    unfold nU
    simp only [nF]
    cases q (11 - j)
    · simp only [Bool.false_eq_true, if_false]; exact nF_le q P s j R
    · simp only [if_true]
      apply smL_le
      intro T _
      have := nF_le q P s j (dfN R T)
      unfold nU at this
      split <;> omega
def ctT (q : Nat → Bool) (j : Nat) : Nat := sumW (fun c => if 12 - j ≤ c ∧ q c = true then 1 else 0) 12
theorem nU_add {q : Nat → Bool} {s : Nat → Nat} {k j F : Nat} (hk : k < 8) (hj : j ≤ 12) (hF : F.testBit k = false) : nU q s j (F ||| 2 ^ k) = nU q s j F * (1 + ctT q j) := by
  unfold nU
  rw [nF_add hk hj hF, Nat.mul_add, Nat.mul_one]
  congr 1
  unfold ctT
  rw [Nat.mul_comm, ← sumW_mulc]
  apply sumW_congr
  intro c _
  have : shP (fun _ _ => true) c (s k) = (fun _ _ => true) := by funext d y; unfold shP; split <;> rfl
  rw [this]
  split <;> simp
theorem nU_0 {q : Nat → Bool} {s : Nat → Nat} : ∀ j, nU q s j 0 = 1
  | 0 => rfl
  | j + 1 => by
    unfold nU
    simp only [nF]
    have h0 : subL 8 0 = [0] := by decide
    have hd : dfN 0 0 = 0 := by decide
    have ih := nU_0 (q := q) (s := s) j
    unfold nU at ih
    rw [h0]
    cases q (11 - j) <;> simp [smL, hd, ih]
theorem nU_b {q : Nat → Bool} {s : Nat → Nat} {j : Nat} (hj : j ≤ 12) : ∀ K R, K ≤ 8 → R < 2 ^ K → nU q s j R ≤ (1 + ctT q j) ^ K
  | 0, R, _, h => by
    have : R = 0 := by simp at h; omega
    subst this; rw [nU_0]; exact Nat.le_refl _
  | K + 1, R, hK, h => by
    cases hb : R.testBit K
    · have hR : R < 2 ^ K := by
        apply Nat.lt_pow_two_of_testBit
        intro i hi
        by_cases e : i = K
        · subst e; exact hb
        · exact tb_lt h (by omega)
      have := nU_b (q := q) (s := s) hj K R (by omega) hR
      rw [Nat.pow_succ]
      exact Nat.le_trans this (Nat.le_mul_of_pos_right _ (by omega))
    · have hR : R = dfN R (2 ^ K) ||| 2 ^ K := by
        apply Nat.eq_of_testBit_eq
        intro i
        rw [or2_tb, df_tb, Nat.testBit_two_pow]
        by_cases e : i = K
        · subst e; simp [hb]
        · have e2 : ¬ K = i := by omega
          by_cases h8 : i < 8
          · simp [e, e2, h8]
          · rw [tb_lt h (by omega)]; simp [e]
      have hbit : (dfN R (2 ^ K)).testBit K = false := by rw [df_tb, Nat.testBit_two_pow]; simp
      have hlt : dfN R (2 ^ K) < 2 ^ K := by
        apply Nat.lt_pow_two_of_testBit
        intro i hi
        by_cases e : i = K
        · subst e; exact hbit
        · rw [df_tb, tb_lt h (by omega)]; simp
      rw [hR, nU_add (by omega) hj hbit, Nat.pow_succ]
      exact Nat.mul_le_mul_right _ (nU_b (q := q) (s := s) hj K _ (by omega) hlt)
