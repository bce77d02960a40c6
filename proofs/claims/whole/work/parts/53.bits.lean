/-! ===== bits of an int ===== -/
def bt (x : Int32) (i : Nat) : Bool := x.toBitVec.getLsbD i
theorem b_ext {x y : Int32} (h : ∀ i, i < 32 → bt x i = bt y i) : x = y := Int32.toBitVec_inj.mp (BitVec.eq_of_getLsbD_eq (fun i hi => h i hi))
theorem b_or (x y : Int32) (i : Nat) : bt (x ||| y) i = (bt x i || bt y i) := by unfold bt; rw [Int32.toBitVec_or, BitVec.getLsbD_or]
theorem b_and (x y : Int32) (i : Nat) : bt (x &&& y) i = (bt x i && bt y i) := by unfold bt; rw [Int32.toBitVec_and, BitVec.getLsbD_and]
theorem b_xor (x y : Int32) (i : Nat) : bt (x ^^^ y) i = (bt x i ^^ bt y i) := by unfold bt; rw [Int32.toBitVec_xor, BitVec.getLsbD_xor]
theorem b_big {x : Int32} {i : Nat} (h : 32 ≤ i) : bt x i = false := BitVec.getLsbD_of_ge _ _ h
theorem b_m1 : ∀ i, i < 32 → bt (-1) i = true := by decide +kernel
theorem b_0 (i : Nat) : bt 0 i = false := BitVec.getLsbD_zero
theorem b_one : ∀ i, i < 32 → bt 1 i = decide (i = 0) := by decide +kernel
theorem s_l : ∀ n, n < 32 → ((nI n &&& 31).toBitVec.smod 32).toNat = n := by decide +kernel
theorem b_shl (n : Nat) (hn : n < 32) (x : Int32) {i : Nat} (hi : i < 32) : bt (jshl x (nI n)) i = (decide (n ≤ i) && bt x (i - n)) := by
  unfold bt jshl
  rw [Int32.toBitVec_shiftLeft]
  show (x.toBitVec <<< ((nI n &&& 31).toBitVec.smod 32).toNat).getLsbD i = _
  rw [s_l n hn, BitVec.getLsbD_shiftLeft]
  rcases Nat.lt_or_ge i n with h | h
  · simp [h, Nat.not_le.mpr h]
  · simp [hi, h, Nat.not_lt.mpr h]
theorem b_sshr (n : Nat) (hn : n < 32) (x : Int32) {i : Nat} (hi : i < 32) : bt (jshr x (nI n)) i = if n + i < 32 then bt x (n + i) else bt x 31 := by
  unfold bt jshr
  rw [Int32.toBitVec_shiftRight]
  show (x.toBitVec.sshiftRight ((nI n &&& 31).toBitVec.smod 32).toNat).getLsbD i = _
  rw [s_l n hn, BitVec.getLsbD_sshiftRight, BitVec.msb_eq_getLsbD_last]
  simp [hi]
theorem b_sh1 (n : Nat) (hn : n < 32) {i : Nat} (hi : i < 32) : bt (jshl 1 (nI n)) i = decide (i = n) := by
  rw [b_shl n hn 1 hi]
  by_cases h : n ≤ i
  · rw [b_one (i - n) (by omega)]
    have : (i - n = 0) ↔ (i = n) := by omega
    simp [h, this]
  · have : ¬ i = n := by omega
    simp [h, this]
theorem b_not (x : Int32) {i : Nat} (hi : i < 32) : bt (x ^^^ (-1)) i = !bt x i := by
  rw [b_xor, b_m1 i hi]; cases bt x i <;> rfl
theorem b_nI (w : Nat) {i : Nat} (hi : i < 32) : bt (nI w) i = w.testBit i := by
  show (BitVec.ofNat 32 w).getLsbD i = _
  rw [BitVec.getLsbD_ofNat]; simp [hi]
theorem bitB_t (x : Int32) {k : Nat} (hk : k < 32) : bitB x k = bt x k := by
  have e : (jshr x (nI k) &&& 1 = 1) ↔ bt x k = true := by
    constructor
    · intro h
      have z : bt (jshr x (nI k) &&& 1) 0 = true := by rw [h]; rfl
      rw [b_and, b_sshr k hk x (by omega)] at z
      simp [hk] at z
      exact z.1
    · intro h
      apply b_ext
      intro i hi
      rw [b_and, b_one i hi, b_sshr k hk x hi]
      by_cases z : i = 0
      · subst z; simp [hk, h]
      · simp [z]
  unfold bitB
  rw [Bool.eq_iff_iff]
  simp [e]
theorem b_bits (p : Nat → Bool) : ∀ n, n ≤ 32 → ∀ i, i < 32 → bt (bitsN p n) i = (decide (i < n) && p i) := by
  intro n
  induction n with
  | zero => intro _ i _; rw [bitsN_0, b_0]; simp
  | succ n ih =>
    intro hn i hi
    rw [bitsN_s]
    by_cases e : i = n
    · subst e
      cases h : p i
      · rw [if_neg (by simp), ih (by omega) i hi]; simp [h]
      · rw [if_pos rfl, b_or, ih (by omega) i hi, b_sh1 i (by omega) hi]; simp
    · have z : (i < n + 1) ↔ (i < n) := by omega
      cases h : p n
      · rw [if_neg (by simp), ih (by omega) i hi]; simp [z]
      · rw [if_pos rfl, b_or, ih (by omega) i hi, b_sh1 n (by omega) hi]; simp [e, z]
theorem bitB_bits (p : Nat → Bool) {n : Nat} (hn : n ≤ 32) {i : Nat} (hi : i < n) : bitB (bitsN p n) i = p i := by
  rw [bitB_t _ (by omega), b_bits p n hn i (by omega)]; simp [hi]
theorem bits_andn (p q : Nat → Bool) {n : Nat} (hn : n ≤ 32) : bitsN p n &&& (bitsN q n ^^^ (-1)) = bitsN (fun i => p i && !q i) n := by
  apply b_ext
  intro i hi
  rw [b_and, b_not _ hi, b_bits p n hn i hi, b_bits q n hn i hi, b_bits _ n hn i hi]
  by_cases h : i < n <;> simp [h]
theorem bits_eq {p q : Nat → Bool} {n : Nat} (hn : n ≤ 32) (h : bitsN p n = bitsN q n) {i : Nat} (hi : i < n) : p i = q i := by
  rw [← bitB_bits p hn hi, h, bitB_bits q hn hi]
theorem bits_0 {p : Nat → Bool} {n : Nat} (hn : n ≤ 32) : bitsN p n = 0 ↔ ∀ i, i < n → p i = false := by
  constructor
  · intro h i hi
    rw [← bitB_bits p hn hi, h, bitB_z rfl i (by omega)]
  · intro h
    apply b_ext
    intro i hi
    rw [b_bits p n hn i hi, b_0]
    by_cases z : i < n
    · simp [z, h i z]
    · simp [z]
/-- an int whose bits stand below n -/
def isW (n : Nat) (x : Int32) : Prop := ∃ w : Nat, w < 2 ^ n ∧ x = nI w
theorem tb_lt {w n : Nat} (h : w < 2 ^ n) {i : Nat} (hi : n ≤ i) : w.testBit i = false :=
  Nat.testBit_lt_two_pow (Nat.lt_of_lt_of_le h (Nat.pow_le_pow_right (by decide) hi))
theorem w_bits {w n : Nat} (hn : n ≤ 32) (h : w < 2 ^ n) : nI w = bitsN (fun i => w.testBit i) n := by
  apply b_ext
  intro i hi
  rw [b_nI w hi, b_bits _ n hn i hi]
  by_cases z : i < n
  · simp [z]
  · rw [tb_lt h (by omega)]; simp [z]
def bW (p : Nat → Bool) : Nat → Nat
  | 0 => 0
  | n + 1 => 2 ^ n * (if p n then 1 else 0) + bW p n
theorem bW_lt (p : Nat → Bool) : ∀ n, bW p n < 2 ^ n
  | 0 => by show 0 < 1; decide
  | n + 1 => by
    have := bW_lt p n
    show 2 ^ n * (if p n then 1 else 0) + bW p n < 2 ^ (n + 1)
    rw [Nat.pow_succ]
    split <;> omega
theorem bW_tb (p : Nat → Bool) : ∀ n i, (bW p n).testBit i = (decide (i < n) && p i)
  | 0, i => by simp [bW]
  | n + 1, i => by
    have ih := bW_tb p n
    have hl := bW_lt p n
    show (2 ^ n * (if p n then 1 else 0) + bW p n).testBit i = _
    cases h : p n
    · simp only [Bool.false_eq_true, if_false, Nat.mul_zero, Nat.zero_add, ih]
      by_cases e : i = n
      · subst e; simp [h]
      · have z : (i < n + 1) ↔ (i < n) := by omega
        simp [z]
    · simp only [if_true, Nat.mul_one]
      rcases Nat.lt_trichotomy i n with e | e | e
      · rw [Nat.testBit_two_pow_add_gt e, ih]
        have z : i < n + 1 := by omega
        simp [e, z]
      · subst e; rw [Nat.testBit_two_pow_add_eq, ih]; simp [h]
      · rw [Nat.testBit_lt_two_pow]
        · have z : ¬ i < n + 1 := by omega
          simp [z]
        · have h2 : 2 ^ (n + 1) ≤ 2 ^ i := Nat.pow_le_pow_right (by decide) e
          rw [Nat.pow_succ] at h2
          omega
theorem bits_W (p : Nat → Bool) {n : Nat} (hn : n ≤ 32) : bitsN p n = nI (bW p n) := by
  apply b_ext
  intro i hi
  rw [b_bits p n hn i hi, b_nI _ hi, bW_tb]
theorem bits_isW (p : Nat → Bool) {n : Nat} (hn : n ≤ 32) : isW n (bitsN p n) := ⟨bW p n, bW_lt p n, bits_W p hn⟩
theorem isW_bits {n : Nat} (hn : n ≤ 32) {x : Int32} (h : isW n x) : x = bitsN (bitB x) n := by
  obtain ⟨w, h1, h2⟩ := h
  subst h2
  rw [w_bits hn h1]
  apply bitsN_congr
  intro i hi
  rw [← w_bits hn h1, bitB_t _ (by omega), b_nI w (by omega)]
theorem isW_and {n : Nat} (hn : n ≤ 32) {x : Int32} (y : Int32) (h : isW n x) : isW n (x &&& y) := by
  have : x &&& y = bitsN (fun i => bitB x i && bitB y i) n := by
    apply b_ext
    intro i hi
    have e := congrArg (fun z => bt z i) (isW_bits hn h)
    simp only [b_bits _ n hn i hi] at e
    rw [b_and, b_bits _ n hn i hi, e]
    by_cases z : i < n
    · simp [z, bitB_t y hi]
    · simp [z]
  rw [this]; exact bits_isW _ hn
theorem isW_xor1 {n : Nat} (hn : n ≤ 32) {x : Int32} {k : Nat} (hk : k < n) (h : isW n x) : isW n (x ^^^ jshl 1 (nI k)) := by
  have : x ^^^ jshl 1 (nI k) = bitsN (fun i => (bitB x i ^^ decide (i = k))) n := by
    apply b_ext
    intro i hi
    have e := congrArg (fun z => bt z i) (isW_bits hn h)
    simp only [b_bits _ n hn i hi] at e
    rw [b_xor, b_bits _ n hn i hi, e, b_sh1 k (by omega) hi]
    by_cases z : i < n
    · simp [z]
    · have : ¬ i = k := by omega
      simp [z, this]
  rw [this]; exact bits_isW _ hn
theorem isW_or1 {n : Nat} (hn : n ≤ 32) {x : Int32} {k : Nat} (hk : k < n) (h : isW n x) : isW n (x ||| jshl 1 (nI k)) := by
  have : x ||| jshl 1 (nI k) = bitsN (fun i => (bitB x i || decide (i = k))) n := by
    apply b_ext
    intro i hi
    have e := congrArg (fun z => bt z i) (isW_bits hn h)
    simp only [b_bits _ n hn i hi] at e
    rw [b_or, b_bits _ n hn i hi, e, b_sh1 k (by omega) hi]
    by_cases z : i < n
    · simp [z]
    · have : ¬ i = k := by omega
      simp [z, this]
  rw [this]; exact bits_isW _ hn
theorem isW_0 (n : Nat) : isW n 0 := ⟨0, Nat.two_pow_pos n, rfl⟩
theorem isW_mono {n k : Nat} (h : n ≤ k) {x : Int32} (hx : isW n x) : isW k x := by
  obtain ⟨w, h1, h2⟩ := hx
  exact ⟨w, Nat.lt_of_lt_of_le h1 (Nat.pow_le_pow_right (by decide) h), h2⟩
/-! ===== how many ===== -/
def bcS (x : Int32) : Int32 := (fJ6_bitCount_0f7a4 x).getD 0
theorem t_bc (x : Int32) : fJ6_bitCount_0f7a4 x = some (bcS x) := rfl
def ctN (p : Nat → Bool) : Nat → Nat
  | 0 => 0
  | n + 1 => ctN p n + (if p n then 1 else 0)
theorem ctN_congr {p q : Nat → Bool} {n : Nat} (h : ∀ i, i < n → p i = q i) : ctN p n = ctN q n := by
  induction n with
  | zero => rfl
  | succ n ih => simp only [ctN]; rw [ih (fun i hi => h i (by omega)), h n (by omega)]
theorem ctN_le (p : Nat → Bool) : ∀ n, ctN p n ≤ n
  | 0 => Nat.le_refl _
  | n + 1 => by
    have := ctN_le p n
    show ctN p n + _ ≤ n + 1
    split <;> omega
theorem bc_tab : (List.range 4096).all (fun w => decide (bcS (nI w) = nI (ctN (fun i => w.testBit i) 12))) = true := by decide +kernel
theorem t_cnt {w : Nat} (h : w < 4096) : bcS (nI w) = nI (ctN (fun i => w.testBit i) 12) := by
  have := List.all_eq_true.mp bc_tab w (List.mem_range.mpr h)
  exact of_decide_eq_true this
theorem ctN_ext {p q : Nat → Bool} {n k : Nat} (h : n ≤ k) (h1 : ∀ i, i < n → p i = q i) (h2 : ∀ i, n ≤ i → q i = false) : ctN q k = ctN p n := by
  induction k with
  | zero => have : n = 0 := by omega
            subst this; rfl
  | succ k ih =>
    by_cases e : n = k + 1
    · subst e; exact (ctN_congr h1).symm
    · show ctN q k + _ = _
      rw [ih (by omega), h2 k (by omega)]; simp
theorem t_cntB (p : Nat → Bool) {n : Nat} (hn : n ≤ 12) : bcS (bitsN p n) = nI (ctN p n) := by
  rw [bits_W p (by omega), t_cnt (Nat.lt_of_lt_of_le (bW_lt p n) (Nat.pow_le_pow_right (n := 2) (by decide) hn))]
  congr 1
  apply ctN_ext hn
  · intro i hi; rw [bW_tb]; simp [hi]
  · intro i hi
    have : ¬ i < n := by omega
    rw [bW_tb]; simp [this]
