/-! ===== how the class counts the ways ===== -/
theorem nI_or (a b : Nat) : nI a ||| nI b = nI (a ||| b) := by
  apply b_ext
  intro i hi
  rw [b_or, b_nI _ hi, b_nI _ hi, b_nI _ hi, Nat.testBit_or]
theorem nI_and (a b : Nat) : nI a &&& nI b = nI (a &&& b) := by
  apply b_ext
  intro i hi
  rw [b_and, b_nI _ hi, b_nI _ hi, b_nI _ hi, Nat.testBit_and]
theorem sh_n {i : Nat} (h : i < 13) : jshl 1 (nI i) = nI (2 ^ i) := (by decide +kernel : ∀ k, k < 13 → jshl 1 (nI k) = nI (2 ^ k)) i h
theorem or_lo {i j : Nat} (h : j < 2 ^ i) : 2 ^ i ||| j = 2 ^ i + j := by
  have := Nat.two_pow_add_eq_or_of_lt h 1
  rw [Nat.mul_one] at this
  exact this.symm
theorem t_begin {m : Nat} (hm : m ≤ 8) {skill : Nat → Int32} {s : Nat → Nat} (hs : ∀ i, i < m → skill i = nI (s i)) (amount open_ sums : Nat → Int32) : ∃ sums', fX3_begin amount open_ sums (nI m) skill = some (va_cpy amount open_ 0 0 12, sums') ∧ ∀ T, T < 2 ^ m → sums' T = nI (sm8 s T) := by
  have i0 : inb (0 : Int32) 256 := inb_n (i := 0) (by omega) (by omega)
  have n0 : (0 : Int32).toNatClampNeg = 0 := rfl
  have e12 : (12 : Int32).toNatClampNeg = 12 := rfl
  unfold fX3_begin
  rw [if_pos i0, n0, e12]
  unfold fX3_begin_b24
  generalize va_cpy amount open_ 0 0 12 = op
  refine lp_inv (s := (upd sums 0 0, (0 : Int32))) (fun r => ∃ sums' : Nat → Int32, r = some (op, sums') ∧ ∀ T, T < 2 ^ m → sums' T = nI (sm8 s T)) (fun i (t : (Nat → Int32) × Int32) => t.2 = nI i ∧ ∀ T, T < 2 ^ i → t.1 T = nI (sm8 s T)) m (by omega) ⟨rfl, ?_⟩ ?_
  · intro T hT
    have : T = 0 := by simp at hT; omega
    subst this
    show upd sums 0 0 0 = _
    rw [pk_us]
    have : sm8 s 0 = 0 := by
      unfold sm8
      rw [sumW_congr (g := fun _ => 0) (fun i _ => by simp), sumW_z]
    rw [this]; rfl
  · intro i t k24 hi hI
    obtain ⟨su, x⟩ := t
    obtain ⟨e1, e2⟩ := hI
    simp only at e1 e2
    subst e1
    by_cases e : i = m
    · right
      have hle : nI m ≤ nI i := nI_le (by omega) (by omega)
      exact ⟨su, by simp only [fX3_begin_l24, if_pos hle, fX3_begin_b82], by rw [← e]; exact e2⟩
    · have hi2 : i < m := by omega
      have cc : ¬ nI m ≤ nI i := nI_ge hi2 (by omega)
      have p2 : 2 ^ i ≤ 128 := Nat.pow_le_pow_right (n := 2) (by decide) (show i ≤ 7 by omega)
      left
      refine ⟨hi2, ?_⟩
      show ∃ s', _ ∧ fX3_begin_l24 amount op (nI m) skill k24 su (nI i) = k24 s'
      rw [fX3_begin_l24, if_neg cc, sh_n (by omega)]
      unfold fX3_begin_b41
      refine lp_inv (s := (su, (0 : Int32))) (fun r => ∃ s' : (Nat → Int32) × Int32, (s'.2 = nI (i + 1) ∧ ∀ T, T < 2 ^ (i + 1) → s'.1 T = nI (sm8 s T)) ∧ r = k24 s') (fun j (t : (Nat → Int32) × Int32) => t.2 = nI j ∧ ∀ T, T < 2 ^ i + j → t.1 T = nI (sm8 s T)) (2 ^ i) (by omega) ⟨rfl, fun T hT => e2 T (by omega)⟩ ?_
      intro j t k41 hj hJ
      obtain ⟨su2, y⟩ := t
      obtain ⟨f1, f2⟩ := hJ
      simp only at f1 f2
      subst f1
      show (_ ∧ ∃ s', _ ∧ fX3_begin_l41 amount op (nI m) skill (nI i) (nI (2 ^ i)) k24 k41 su2 (nI j) = k41 s') ∨ ∃ s', _ ∧ fX3_begin_l41 amount op (nI m) skill (nI i) (nI (2 ^ i)) k24 k41 su2 (nI j) = k24 s'
      by_cases ej : j = 2 ^ i
      · right
        have hle : nI (2 ^ i) ≤ nI j := nI_le (by omega) (by omega)
        refine ⟨(su2, nI (i + 1)), ⟨rfl, fun T hT => f2 T (by rw [Nat.pow_succ] at hT; omega)⟩, ?_⟩
        simp only [fX3_begin_l41, if_pos hle, fX3_begin_b76, nI_1]
      · left
        have hj2 : j < 2 ^ i := by omega
        have cj : ¬ nI (2 ^ i) ≤ nI j := nI_ge hj2 (by omega)
        have h256 : 2 ^ i + j < 256 := by omega
        have eo : nI (2 ^ i) ||| nI j = nI (2 ^ i + j) := by rw [nI_or, or_lo hj2]
        refine ⟨hj2, (upd su2 (2 ^ i + j) (nI (sm8 s (2 ^ i + j))), nI (j + 1)), ⟨rfl, ?_⟩, ?_⟩
        · intro T hT
          show upd su2 (2 ^ i + j) _ T = _
          by_cases e : T = 2 ^ i + j
          · subst e; rw [pk_us]
          · rw [pk_un e]; exact f2 T (by omega)
        · have ev : nI (sm8 s j) + nI (s i) = nI (sm8 s (2 ^ i + j)) := by
            rw [nI_add, ← sm_or s (by omega) (tb_lt hj2 (Nat.le_refl i)), Nat.or_comm, or_lo hj2]
          simp only [fX3_begin_l41, if_neg cj, if_pos (inb_n (show j < 256 by omega) (by omega)), if_pos (inb_n (show i < 8 by omega) (by omega)), eo, if_pos (inb_n h256 (by omega)), nI_clamp (show j < 2 ^ 31 by omega), nI_clamp (show i < 2 ^ 31 by omega), nI_clamp (show 2 ^ i + j < 2 ^ 31 by omega), f2 j (by omega), hs i hi2, ev, nI_1]
def Wf (g G : Nat → Nat) : Nat := sumW (fun U => g U * G U) 256
def rr (f : Nat → Int32) (g : Nat → Nat) : Prop := ∀ U, U < 256 → f U = nI (g U)
theorem Wf_upd (g G : Nat → Nat) {u w : Nat} (hu : u < 256) : Wf (fun U => if U = u then g u + w else g U) G = Wf g G + w * G u := by
  unfold Wf
  apply sumW_upd hu
  · intro i _ hne
    show (if i = u then g u + w else g i) * G i = _
    rw [if_neg hne]
  · show (if u = u then g u + w else g u) * G u = _
    rw [if_pos rfl, Nat.add_mul]
theorem it_last : ∀ K R, (subL K R).getLast? = some 0
  | 0, _ => rfl
  | K + 1, R => by
    simp only [subL]
    split
    · rw [List.getLast?_append, it_last K R]; rfl
    · exact it_last K R
theorem sub_0 : ∀ K R, 0 ∈ subL K R
  | 0, _ => by simp [subL]
  | K + 1, R => by
    simp only [subL]
    split
    · rw [List.mem_append]; exact Or.inr (sub_0 K R)
    · exact sub_0 K R
theorem sub_lt {R T : Nat} (h : T ∈ subL 8 R) : T < 256 := by
  show T < 2 ^ 8
  apply Nat.lt_pow_two_of_testBit
  intro i hi
  cases e : T.testBit i
  · rfl
  · have := (sub_mem 8 R T h i e).2
    omega
theorem or_256 {a b : Nat} (ha : a < 256) (hb : b < 256) : a ||| b < 256 := Nat.or_lt_two_pow (n := 8) ha hb
theorem t_addTeams {R t w : Nat} (hR : R < 256) (ht : t < 256) {sums ways next : Nat → Int32} {sm : Nat → Nat} {nx : Nat → Nat} (hs : ∀ T, T ∈ subL 8 R → sums T = nI (sm T)) (hw : ways t = nI w) (hn : rr next nx) (due : Int32) : ∃ next' nx', fX3_addTeams sums ways next (nI t) (nI R) due = some next' ∧ rr next' nx' ∧ ∀ G, Wf nx' G = Wf nx G + w * smL (subL 8 R) (fun T => if nI (sm T) = due then G (t ||| T) else 0) := by
  unfold fX3_addTeams fX3_addTeams_b6
  refine lp_inv (fun r => ∃ next' nx', r = some next' ∧ rr next' nx' ∧ ∀ G, Wf nx' G = Wf nx G + w * smL (subL 8 R) (fun T => if nI (sm T) = due then G (t ||| T) else 0)) (fun j s => s.2.2 = nI j ∧ ∃ T nx1, s.2.1 = nI T ∧ rr s.1 nx1 ∧ (∀ x, x ∈ itL (256 - j) R T → x ∈ subL 8 R) ∧ (itL (256 - j) R T).getLast? = some 0 ∧ ∀ G, Wf nx1 G + w * smL (itL (256 - j) R T) (fun T => if nI (sm T) = due then G (t ||| T) else 0) = Wf nx G + w * smL (subL 8 R) (fun T => if nI (sm T) = due then G (t ||| T) else 0)) 255 (by omega) ⟨rfl, R, nx, rfl, hn, by rw [it_sub hR]; exact fun x h => h, by rw [it_sub hR]; exact it_last 8 R, fun G => by rw [it_sub hR]⟩ ?_
  intro j s k6 hj hI
  obtain ⟨f, team, x⟩ := s
  obtain ⟨e1, T, nx1, e2, e3, e4, e5, e6⟩ := hI
  simp only at e1 e2 e3
  subst e1 e2
  obtain ⟨fu, hfu⟩ : ∃ fu, 256 - j = fu + 1 := ⟨255 - j, by omega⟩
  rw [hfu] at e4 e5 e6
  simp only [itL] at e4 e5 e6
  have hTm : T ∈ subL 8 R := e4 T (by simp)
  have hT := sub_lt hTm
  have hor := or_256 ht hT
  have c256 : ¬ (256 : Int32) ≤ nI j := nI_ge (b := 256) (by omega) (by omega)
  have clT : (nI T).toNatClampNeg = T := nI_clamp (by omega)
  have clt : (nI t).toNatClampNeg = t := nI_clamp (by omega)
  have clo : (nI (t ||| T)).toNatClampNeg = t ||| T := nI_clamp (by omega)
  -- what is in the row behind this team
  have put : ∃ f2 nx2, rr f2 nx2 ∧ (∀ G, Wf nx2 G = Wf nx1 G + w * (if nI (sm T) = due then G (t ||| T) else 0)) ∧ fX3_addTeams_l6 sums ways (nI t) (nI R) due k6 f (nI T) (nI j) = fX3_addTeams_b43 sums ways f2 (nI t) (nI R) due (nI T) (nI j) k6 := by
    by_cases hd : nI (sm T) = due
    · refine ⟨upd f (t ||| T) (f (t ||| T) + ways t), fun U => if U = t ||| T then nx1 (t ||| T) + w else nx1 U, ?_, ?_, ?_⟩
      · intro U hU
        show _ = nI (if U = t ||| T then nx1 (t ||| T) + w else nx1 U)
        by_cases e : U = t ||| T
        · rw [if_pos e, e, pk_us, e3 _ hor, hw, nI_add]
        · rw [pk_un e, if_neg e]; exact e3 U hU
      · intro G; rw [Wf_upd _ _ hor, if_pos hd]
      · simp only [fX3_addTeams_l6, if_neg c256, if_pos (inb_n hT (by omega)), clT, hs T hTm, if_pos hd, nI_or, if_pos (inb_n hor (by omega)), if_pos (inb_n ht (by omega)), clt, clo]
    · refine ⟨f, nx1, e3, fun G => by rw [if_neg hd]; simp, ?_⟩
      simp only [fX3_addTeams_l6, if_neg c256, if_pos (inb_n hT (by omega)), clT, hs T hTm, if_neg hd]
  obtain ⟨f2, nx2, g1, g2, g3⟩ := put
  show (_ ∧ ∃ s', _ ∧ fX3_addTeams_l6 sums ways (nI t) (nI R) due k6 f (nI T) (nI j) = k6 s') ∨ ∃ next' nx', fX3_addTeams_l6 sums ways (nI t) (nI R) due k6 f (nI T) (nI j) = some next' ∧ _
  rw [g3]
  by_cases hT0 : T = 0
  · right
    have z : nI T = 0 := by rw [hT0]; rfl
    refine ⟨f2, nx2, by simp only [fX3_addTeams_b43, if_pos z, fX3_addTeams_b48], g1, fun G => ?_⟩
    have := e6 G
    rw [if_pos hT0] at this
    simp only [smL, Nat.add_zero] at this
    rw [g2 G, ← this]
  · left
    have z : ¬ nI T = 0 := nI_ne0 (by omega) (by omega)
    rw [if_neg hT0] at e4 e5 e6
    have hfu0 : fu ≠ 0 := fun w0 => by
      rw [w0] at e5
      simp [itL] at e5
      exact hT0 e5
    have etm : nI T - 1 &&& nI R = nI ((T - 1) &&& R) := by
      rw [show nI T - 1 = nI (T - 1) from pk_sub (b := 1) (by omega), nI_and]
    have hfu2 : 256 - (j + 1) = fu := by omega
    refine ⟨by omega, (f2, nI ((T - 1) &&& R), nI (j + 1)), ⟨rfl, (T - 1) &&& R, nx2, rfl, g1, ?_, ?_, ?_⟩, ?_⟩
    · rw [hfu2]; exact fun x hx => e4 x (by simp [hx])
    · rw [hfu2]
      obtain ⟨f', rfl⟩ : ∃ f', fu = f' + 1 := ⟨fu - 1, by omega⟩
      simp only [itL] at e5 ⊢
      rw [List.getLast?_cons_cons] at e5
      exact e5
    · intro G
      rw [hfu2]
      have := e6 G
      simp only [smL] at this
      rw [g2 G, ← this, Nat.mul_add]
      omega
    · simp only [fX3_addTeams_b43, if_neg z, etm, nI_1]
theorem sumW_ext {f : Nat → Nat} {a : Nat} : ∀ {b : Nat}, a ≤ b → (∀ i, a ≤ i → i < b → f i = 0) → sumW f b = sumW f a
  | 0, h, _ => by have : a = 0 := by omega
                  subst this; rfl
  | b + 1, h, hz => by
    by_cases e : a = b + 1
    · subst e; rfl
    · simp only [sumW]
      rw [sumW_ext (b := b) (by omega) (fun i h1 h2 => hz i h1 (by omega)), hz b (by omega) (by omega)]
      omega
theorem Wf_z (g : Nat → Nat) : Wf (fun _ => 0) g = 0 := by
  unfold Wf
  rw [sumW_congr (g := fun _ => 0) (fun i _ => by simp), sumW_z]
theorem t_fillCell {m Fr : Nat} (hm : m ≤ 8) (hFr : Fr < 2 ^ m) {sums ways next : Nat → Int32} {sm wy : Nat → Nat} (hs : ∀ T, T < 2 ^ m → sums T = nI (sm T)) (hw : rr ways wy) (hwb : ∀ U, U < 256 → wy U < 2 ^ 31) (due : Int32) : ∃ next' nx', fX3_fillCell sums ways next (nI Fr) due = some (next', ways) ∧ rr next' nx' ∧ ∀ G, Wf nx' G = sumW (fun t => wy t * smL (subL 8 (dfN Fr t)) (fun T => if nI (sm T) = due then G (t ||| T) else 0)) (Fr + 1) := by
  have p2 : 2 ^ m ≤ 256 := Nat.pow_le_pow_right (n := 2) (by decide) (show m ≤ 8 by omega)
  have hTm : ∀ t T, T ∈ subL 8 (dfN Fr t) → T < 2 ^ m := fun t T h => by
    apply Nat.lt_pow_two_of_testBit
    intro i hi
    cases e : T.testBit i
    · rfl
    · have := (sub_mem 8 _ T h i e).1
      rw [df_tb, tb_lt hFr hi] at this
      simp at this
  have e10 : ∃ next' nx', fX3_fillCell_b10 sums ways (fillN (fun _ => 0) next 256) (nI Fr) due 0 = some (next', ways) ∧ rr next' nx' ∧ ∀ G, Wf nx' G = sumW (fun t => wy t * smL (subL 8 (dfN Fr t)) (fun T => if nI (sm T) = due then G (t ||| T) else 0)) (Fr + 1) := by
    unfold fX3_fillCell_b10
    refine lp_inv (fun r => ∃ next' nx', r = some (next', ways) ∧ rr next' nx' ∧ ∀ G, Wf nx' G = sumW (fun t => wy t * smL (subL 8 (dfN Fr t)) (fun T => if nI (sm T) = due then G (t ||| T) else 0)) (Fr + 1)) (fun i s => s.2 = nI i ∧ ∃ nx, rr s.1 nx ∧ ∀ G, Wf nx G = sumW (fun t => wy t * smL (subL 8 (dfN Fr t)) (fun T => if nI (sm T) = due then G (t ||| T) else 0)) i) (Fr + 1) (by omega) ⟨rfl, fun _ => 0, fun U hU => by show fillN (fun _ => (0 : Int32)) next 256 U = nI 0; rw [fill_lt _ _ hU]; rfl, fun G => Wf_z G⟩ ?_
    intro i s k10 hi hI
    obtain ⟨f, x⟩ := s
    obtain ⟨e1, nx, e2, e3⟩ := hI
    simp only at e1 e2
    subst e1
    by_cases e : i = Fr + 1
    · right
      have hle : nI Fr < nI i := nI_lt (by omega) (by omega)
      exact ⟨f, nx, by simp only [fX3_fillCell_l10, if_pos hle, fX3_fillCell_b41], e2, by rw [← e]; exact e3⟩
    · left
      have hi2 : i ≤ Fr := by omega
      have cc : ¬ nI Fr < nI i := nI_nlt hi2 (by omega)
      have hi256 : i < 256 := by omega
      have cl : (nI i).toNatClampNeg = i := nI_clamp (by omega)
      refine ⟨by omega, ?_⟩
      by_cases hz : wy i = 0
      · have z : ways i = 0 := by rw [hw i hi256, hz]; rfl
        refine ⟨(f, nI (i + 1)), ⟨rfl, nx, e2, fun G => ?_⟩, ?_⟩
        · simp only [sumW]
          rw [e3 G, hz]; simp
        · simp only [fX3_fillCell_l10, if_neg cc, if_pos (inb_n hi256 (by omega)), cl, if_pos z, fX3_fillCell_b35, nI_1]
      · have z : ¬ ways i = 0 := by rw [hw i hi256]; exact nI_ne0 (by omega) (hwb i hi256)
        obtain ⟨f2, nx2, g1, g2, g3⟩ := t_addTeams (R := dfN Fr i) (t := i) (w := wy i) (df_lt _ _) hi256 (sums := sums) (ways := ways) (next := f) (sm := sm) (nx := nx) (fun T hT => hs T (hTm i T hT)) (hw i hi256) e2 due
        refine ⟨(f2, nI (i + 1)), ⟨rfl, nx2, g2, fun G => ?_⟩, ?_⟩
        · simp only [sumW]
          rw [g3 G, e3 G]
        · simp only [fX3_fillCell_l10, if_neg cc, if_pos (inb_n hi256 (by omega)), cl, if_neg z, df_I i (show Fr < 256 by omega), g1, ob_s, fX3_fillCell_b35, nI_1]
  obtain ⟨next', nx', g1, g2, g3⟩ := e10
  refine ⟨next', nx', ?_, g2, g3⟩
  simp only [fX3_fillCell, t_fill (show 256 < 1000 by omega), ob_s, g1]
theorem df_df (F t T : Nat) : dfN F (t ||| T) = dfN (dfN F t) T := by
  apply Nat.eq_of_testBit_eq
  intro i
  rw [df_tb, df_tb, df_tb, Nat.testBit_or]
  by_cases h : i < 8
  · simp [h]
    cases F.testBit i <;> cases t.testBit i <;> cases T.testBit i <;> rfl
  · simp [h]
theorem df_0 {F : Nat} (h : F < 256) : dfN F 0 = F := by
  apply Nat.eq_of_testBit_eq
  intro i
  rw [df_tb]
  by_cases hi : i < 8
  · simp [hi]
  · rw [tb_lt (n := 8) h (by omega)]; simp
theorem smL_mem {g : Nat → Nat} : ∀ {l : List Nat} {x : Nat}, x ∈ l → g x ≤ smL l g
  | a :: l, x, h => by
    simp only [smL]
    rcases List.mem_cons.mp h with h | h
    · subst h; omega
    · have := smL_mem (g := g) h
      omega
theorem nU_pos (q : Nat → Bool) (s : Nat → Nat) : ∀ j R, 1 ≤ nU q s j R
  | 0, _ => Nat.le_refl _
  | j + 1, R => by
    unfold nU
    simp only [nF]
    cases q (11 - j)
    · simp only [Bool.false_eq_true, if_false]; exact nU_pos q s j R
    · simp only [if_true]
      have h1 := smL_mem (g := fun T => nF q (fun _ _ => true) s j (dfN R T)) (sub_0 8 R)
      have h2 := nU_pos q s j (dfN R 0)
      unfold nU at h2
      exact Nat.le_trans h2 h1
theorem Wf_ge {g G : Nat → Nat} (hG : ∀ U, 1 ≤ G U) {U : Nat} (hU : U < 256) : g U ≤ Wf g G := by
  have h1 : g U * G U ≤ Wf g G := by
    unfold Wf
    have : ∀ n, U < n → g U * G U ≤ sumW (fun U => g U * G U) n := by
      intro n
      induction n with
      | zero => intro h; omega
      | succ n ih =>
        intro h
        simp only [sumW]
        by_cases e : U = n
        · subst e; omega
        · have := ih (by omega)
          omega
    exact this 256 hU
  exact Nat.le_trans (Nat.le_mul_of_pos_right _ (hG U)) h1
theorem sub_le_of {U F : Nat} (h : ∀ i, U.testBit i = true → F.testBit i = true) : U ≤ F := by
  refine Classical.byContradiction fun hne => ?_
  obtain ⟨i, h1, h2⟩ : ∃ i, U.testBit i = true ∧ F.testBit i = false := by
    refine Classical.byContradiction fun hno => ?_
    have hUF : ∀ i, U.testBit i = (U &&& F).testBit i := fun i => by
      rw [Nat.testBit_and]
      cases e : U.testBit i
      · rfl
      · rw [h i e]; rfl
    have : U = U &&& F := Nat.eq_of_testBit_eq hUF
    have := Nat.and_le_right (n := U) (m := F)
    omega
  rw [h i h1] at h2; cases h2
theorem nF_step {q : Nat → Bool} {P : Nat → Nat → Bool} {s : Nat → Nat} {c : Nat} (hc : c < 12) (hb : q c = true) (R : Nat) : nF q P s (12 - c) R = smL (subL 8 R) (fun T => if P c (sm8 s T) then nF q P s (12 - (c + 1)) (dfN R T) else 0) := by
  obtain ⟨j, hj⟩ : ∃ j, j = 12 - (c + 1) := ⟨_, rfl⟩
  have e12c : 12 - c = j + 1 := by omega
  have e11 : 11 - j = c := by omega
  rw [e12c, ← hj]
  simp only [nF, e11, hb, if_true]
theorem nF_skip {q : Nat → Bool} {P : Nat → Nat → Bool} {s : Nat → Nat} {c : Nat} (hc : c < 12) (hb : q c = false) (R : Nat) : nF q P s (12 - c) R = nF q P s (12 - (c + 1)) R := by
  obtain ⟨j, hj⟩ : ∃ j, j = 12 - (c + 1) := ⟨_, rfl⟩
  have e12c : 12 - c = j + 1 := by omega
  have e11 : 11 - j = c := by omega
  rw [e12c, ← hj]
  simp only [nF, e11, hb]
  rfl
theorem t_fitting0 {m Fr : Nat} (hm : m ≤ 8) (hFr : Fr < 2 ^ m) {cells : Int32} {op sums ways next : Nat → Int32} {sm : Nat → Nat} (hs : ∀ T, T < 2 ^ m → sums T = nI (sm T)) (N M : Nat → Nat → Nat) (hN1 : ∀ c, c < 12 → bitB cells c = true → ∀ R, N c R = smL (subL 8 R) (fun T => if nI (sm T) = op c then N (c + 1) (dfN R T) else 0)) (hN0 : ∀ c, c < 12 → bitB cells c = false → ∀ R, N c R = N (c + 1) R) (hNe : ∀ R, N 12 R = 1) (hM1 : ∀ c, c < 12 → bitB cells c = true → ∀ R, M c R = smL (subL 8 R) (fun T => M (c + 1) (dfN R T))) (hM0 : ∀ c, c < 12 → bitB cells c = false → ∀ R, M c R = M (c + 1) R) (hMp : ∀ c R, 1 ≤ M c R) (hMb : M 0 Fr < 2 ^ 31) : ∃ ways' next', fX3_fitting cells op sums ways next (nI Fr) = some (nI (N 0 Fr), ways', next') := by
  have p2 : 2 ^ m ≤ 256 := Nat.pow_le_pow_right (n := 2) (by decide) (show m ≤ 8 by omega)
  have hF256 : Fr < 256 := by omega
  have i0 : inb (0 : Int32) 256 := inb_n (i := 0) (by omega) (by omega)
  have n0 : (0 : Int32).toNatClampNeg = 0 := rfl
  have e17 : ∃ ways' next', fX3_fitting_b17 cells op sums (upd (fillN (fun _ => 0) ways 256) 0 1) next (nI Fr) 0 = some (nI (N 0 Fr), ways', next') := by
    unfold fX3_fitting_b17
    refine lp_inv (fun r => ∃ ways' next', r = some (nI (N 0 Fr), ways', next')) (fun c t => t.2.2 = nI c ∧ ∃ wy, rr t.1 wy ∧ Wf wy (fun U => N c (dfN Fr U)) = N 0 Fr ∧ (∀ U, U < 256 → wy U ≠ 0 → ∀ i, U.testBit i = true → Fr.testBit i = true) ∧ Wf wy (fun U => M c (dfN Fr U)) ≤ M 0 Fr) 12 (by omega) ⟨rfl, fun U => if U = 0 then 1 else 0, ?_, ?_, ?_, ?_⟩ ?_
    · intro U hU
      show upd (fillN (fun _ => 0) ways 256) 0 1 U = nI (if U = 0 then 1 else 0)
      by_cases e : U = 0
      · subst e; rw [pk_us]; rfl
      · rw [pk_un e, fill_lt _ _ hU, if_neg e]; rfl
    · have := Wf_upd (fun _ => 0) (fun U => N 0 (dfN Fr U)) (u := 0) (w := 1) (by omega)
      rw [Wf_z, df_0 hF256] at this
      simp only [Nat.zero_add, Nat.one_mul] at this
      exact this
    · intro U _ hne i hi
      by_cases e : U = 0
      · subst e; simp at hi
      · simp [e] at hne
    · have := Wf_upd (fun _ => 0) (fun U => M 0 (dfN Fr U)) (u := 0) (w := 1) (by omega)
      rw [Wf_z, df_0 hF256] at this
      simp only [Nat.zero_add, Nat.one_mul] at this
      exact Nat.le_of_eq this
    · intro c t k17 hc hI
      obtain ⟨wa, nw, x⟩ := t
      obtain ⟨e1, wy, e2, e3, e4, e5⟩ := hI
      simp only at e1 e2
      subst e1
      have hwb : ∀ U, U < 256 → wy U < 2 ^ 31 := fun U hU => by
        have := Wf_ge (g := wy) (G := fun U => M c (dfN Fr U)) (fun U => hMp c _) hU
        omega
      have hsum : ∀ G : Nat → Nat, sumW (fun t => wy t * G t) (Fr + 1) = Wf wy G := fun G => by
        unfold Wf
        symm
        apply sumW_ext (by omega)
        intro i h1 h2
        have : wy i = 0 := by
          refine Classical.byContradiction fun hne => ?_
          have := sub_le_of (e4 i h2 hne)
          omega
        rw [this]; simp
      by_cases e : c = 12
      · subst e
        right
        have c12 : (12 : Int32) ≤ nI 12 := by decide
        have e55 : fX3_fitting_b55 cells op sums wa nw (nI Fr) 0 0 = some (nI (N 0 Fr), wa, nw) := by
          unfold fX3_fitting_b55
          refine lp_up (fun j => (nI (sumW wy j), nI j)) (Fr + 1) (by omega) rfl ?_ ?_
          · intro j hj k55
            have cj : ¬ nI Fr < nI j := nI_nlt (by omega) (by omega)
            simp only [fX3_fitting_l55, if_neg cj, if_pos (inb_n (show j < 256 by omega) (by omega)), nI_clamp (show j < 2 ^ 31 by omega), e2 j (by omega), nI_add, nI_1]
            rfl
          · intro k55
            have cj : nI Fr < nI (Fr + 1) := nI_lt (by omega) (by omega)
            have ev : sumW wy (Fr + 1) = N 0 Fr := by
              rw [← e3, ← hsum]
              apply sumW_congr
              intro i _
              rw [hNe, Nat.mul_one]
            simp only [fX3_fitting_l55, if_pos cj, fX3_fitting_b75, ev]
        exact ⟨wa, nw, by simp only [fX3_fitting_l17, if_pos c12, fX3_fitting_b51, e55]⟩
      · left
        have hc2 : c < 12 := by omega
        have c12 : ¬ (12 : Int32) ≤ nI c := nI_ge (b := 12) hc2 (by omega)
        refine ⟨hc2, ?_⟩
        cases hb : bitB cells c
        · have z : jshr cells (nI c) &&& 1 = 0 := (bitB_0 _ _).mpr hb
          refine ⟨(wa, nw, nI (c + 1)), ⟨rfl, wy, e2, ?_, e4, ?_⟩, ?_⟩
          · rw [← e3]
            unfold Wf
            apply sumW_congr
            intro U _
            show wy U * N (c + 1) (dfN Fr U) = wy U * N c (dfN Fr U)
            rw [hN0 c hc2 hb]
          · refine Nat.le_trans (Nat.le_of_eq ?_) e5
            unfold Wf
            apply sumW_congr
            intro U _
            show wy U * M (c + 1) (dfN Fr U) = wy U * M c (dfN Fr U)
            rw [hM0 c hc2 hb]
          · simp only [fX3_fitting_l17, if_neg c12, if_pos z, fX3_fitting_b45, nI_1]
        · have z : ¬ jshr cells (nI c) &&& 1 = 0 := by rw [bitB_0, hb]; simp
          obtain ⟨nx', nn', g1, g2, g3⟩ := t_fillCell hm hFr (next := nw) hs e2 hwb (op c)
          refine ⟨(nx', wa, nI (c + 1)), ⟨rfl, nn', g2, ?_, ?_, ?_⟩, ?_⟩
          · rw [g3, ← e3, ← hsum]
            apply sumW_congr
            intro t _
            rw [hN1 c hc2 hb]
            have : smL (subL 8 (dfN Fr t)) (fun T => if nI (sm T) = op c then N (c + 1) (dfN Fr (t ||| T)) else 0) = smL (subL 8 (dfN Fr t)) (fun T => if nI (sm T) = op c then N (c + 1) (dfN (dfN Fr t) T) else 0) := smL_congr (fun T _ => by rw [df_df])
            rw [this]
          · intro U hU hne i hi
            have h0 := g3 (fun V => if V = U then 1 else 0)
            have hpos : nn' U ≤ Wf nn' (fun V => if V = U then 1 else 0) := by
              have hh := Wf_upd (fun V => if V = U then 0 else nn' V) (fun V => if V = U then 1 else 0) (u := U) (w := nn' U) hU
              have ef : (fun V => if V = U then (if U = U then 0 else nn' U) + nn' U else if V = U then 0 else nn' V) = nn' := by
                funext V
                by_cases e : V = U
                · subst e; simp
                · simp [e]
              rw [ef] at hh
              simp at hh
              omega
            cases hbF : Fr.testBit i
            · exfalso
              have hz : sumW (fun t => wy t * smL (subL 8 (dfN Fr t)) (fun T => if nI (sm T) = op c then (if t ||| T = U then 1 else 0) else 0)) (Fr + 1) = 0 := by
                rw [sumW_congr (g := fun _ => 0) (fun t ht => by
                  by_cases hw0 : wy t = 0
                  · rw [hw0]; simp
                  · rw [smL_congr (g := fun _ => 0) (fun T hT => by
                      have hne2 : ¬ t ||| T = U := fun he => by
                        rw [← he, Nat.testBit_or] at hi
                        rcases Bool.or_eq_true _ _ ▸ hi with h | h
                        · rw [e4 t (by omega) hw0 i h] at hbF; cases hbF
                        · have := (sub_mem 8 _ T hT i h).1
                          rw [df_tb, hbF] at this; simp at this
                      rw [if_neg hne2]; split <;> rfl), smL_z]; simp), sumW_z]
              rw [hz] at h0
              omega
            · rfl
          · rw [g3]
            refine Nat.le_trans ?_ e5
            rw [← hsum]
            apply sumW_le
            intro t _
            apply Nat.mul_le_mul_left
            rw [hM1 c hc2 hb]
            apply smL_le
            intro T _
            rw [df_df]
            split <;> omega
          · simp only [fX3_fitting_l17, if_neg c12, if_neg z, if_pos (inb_n hc2 (by omega)), nI_clamp (show c < 2 ^ 31 by omega), g1, ob_s, fX3_fitting_b45, nI_1]
  obtain ⟨w', n', e⟩ := e17
  refine ⟨w', n', ?_⟩
  simp only [fX3_fitting, t_fill (show 256 < 1000 by omega), ob_s, if_pos i0, n0, e]
/-- ways in which those of R fit what is open -/
def wyN (cells : Int32) (s : Nat → Nat) (op : Nat → Int32) (R : Nat) : Nat := nF (bitB cells) (fun c x => decide (nI x = op c)) s 12 R
theorem wy_b {cells : Int32} {s : Nat → Nat} (h4 : ctT (bitB cells) 12 ≤ 4) (op : Nat → Int32) {R : Nat} (hR : R < 256) : wyN cells s op R ≤ 390625 := by
  have h1 := nF_le (bitB cells) (fun c x => decide (nI x = op c)) s 12 R
  have h2 := nU_b (q := bitB cells) (s := s) (j := 12) (Nat.le_refl _) 8 R (Nat.le_refl _) hR
  have h3 : (1 + ctT (bitB cells) 12) ^ 8 ≤ 5 ^ 8 := Nat.pow_le_pow_left (by omega) 8
  exact Nat.le_trans h1 (Nat.le_trans h2 h3)
theorem t_fitting {m Fr : Nat} (hm : m ≤ 8) (hFr : Fr < 2 ^ m) {cells : Int32} {op sums ways next : Nat → Int32} {s : Nat → Nat} (hs : ∀ T, T < 2 ^ m → sums T = nI (sm8 s T)) (h4 : ctT (bitB cells) 12 ≤ 4) : ∃ ways' next', fX3_fitting cells op sums ways next (nI Fr) = some (nI (wyN cells s op Fr), ways', next') := by
  have p2 : 2 ^ m ≤ 256 := Nat.pow_le_pow_right (n := 2) (by decide) (show m ≤ 8 by omega)
  have h2 := nU_b (q := bitB cells) (s := s) (j := 12) (Nat.le_refl _) 8 Fr (Nat.le_refl _) (by show Fr < 256; omega)
  have h3 : (1 + ctT (bitB cells) 12) ^ 8 ≤ 5 ^ 8 := Nat.pow_le_pow_left (by omega) 8
  have h5 : (5 : Nat) ^ 8 < 2 ^ 31 := by decide
  exact t_fitting0 hm hFr hs (fun c R => nF (bitB cells) (fun c x => decide (nI x = op c)) s (12 - c) R) (fun c R => nU (bitB cells) s (12 - c) R) (fun c hc hb R => by
    rw [nF_step hc hb]
    apply smL_congr
    intro T _
    by_cases e : nI (sm8 s T) = op c
    · rw [if_pos e, if_pos (by simp [e])]
    · rw [if_neg e, if_neg (by simp [e])]) (fun c hc hb R => nF_skip hc hb R) (fun R => rfl) (fun c hc hb R => by
    unfold nU
    rw [nF_step hc hb]
    simp only [if_true]) (fun c hc hb R => nF_skip hc hb R) (fun c R => nU_pos _ _ _ _) (Nat.lt_of_le_of_lt (Nat.le_trans h2 h3) h5)
