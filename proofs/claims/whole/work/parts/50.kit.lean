/-! ===== the pure part: loops, folds, bits ===== -/
theorem lt_F {n : Nat} (h : n < 20000) : n < FUEL := h
/-- a loop whose states are told one by one -/
theorem lp_up {σ R : Type} {body : σ → (σ → Option R) → Option R} {s : σ} {r : Option R} (st : Nat → σ) (n : Nat) (hn : n < 20000) (h0 : s = st 0) (hs : ∀ i, i < n → ∀ k, body (st i) k = k (st (i + 1))) (he : ∀ k, body (st n) k = r) : loopN body FUEL s = r := by
  have key : ∀ fuel j, j ≤ n → n - j < fuel → loopN body fuel (st j) = r := by
    intro fuel
    induction fuel with
    | zero => intro j _ h; omega
    | succ f ih =>
      intro j hj h
      show body (st j) (loopN body f) = r
      by_cases e : j = n
      · subst e; exact he _
      · rw [hs j (by omega)]; exact ih (j + 1) (by omega) (by omega)
  rw [h0]
  exact key FUEL 0 (Nat.zero_le _) (lt_F (by omega))
/-- a loop by an invariant, which may end at any step -/
theorem lp_inv {σ R : Type} {body : σ → (σ → Option R) → Option R} {s : σ} (Q : Option R → Prop) (I : Nat → σ → Prop) (n : Nat) (hn : n < 20000) (h0 : I 0 s) (hs : ∀ i s k, i ≤ n → I i s → (i < n ∧ ∃ s', I (i + 1) s' ∧ body s k = k s') ∨ Q (body s k)) : Q (loopN body FUEL s) := by
  have key : ∀ fuel j s, j ≤ n → n - j < fuel → I j s → Q (loopN body fuel s) := by
    intro fuel
    induction fuel with
    | zero => intro j s _ h; omega
    | succ f ih =>
      intro j s hj h hI
      show Q (body s (loopN body f))
      rcases hs j s (loopN body f) hj hI with ⟨h1, s', h2, h3⟩ | h1
      · rw [h3]; exact ih (j + 1) s' (by omega) (by omega) h2
      · exact h1
  exact key FUEL 0 s (Nat.zero_le _) (lt_F (by omega)) h0
def upT {α : Type} (g : Nat → α → α) : Nat → α → α
  | 0, a => a
  | n + 1, a => g n (upT g n a)
theorem upT_congr {α : Type} {g h : Nat → α → α} : ∀ {n : Nat} {a : α}, (∀ i, i < n → ∀ x, g i x = h i x) → upT g n a = upT h n a := by
  intro n
  induction n with
  | zero => intro a _; rfl
  | succ n ih => intro a e; show g n _ = h n _; rw [ih (fun i hi => e i (by omega)), e n (by omega)]
def bitsN (p : Nat → Bool) (n : Nat) : Int32 := upT (fun i a => if p i then a ||| jshl 1 (nI i) else a) n 0
theorem bitsN_0 (p : Nat → Bool) : bitsN p 0 = 0 := rfl
theorem bitsN_s (p : Nat → Bool) (n : Nat) : bitsN p (n + 1) = if p n then bitsN p n ||| jshl 1 (nI n) else bitsN p n := rfl
theorem bitsN_congr {p q : Nat → Bool} {n : Nat} (h : ∀ i, i < n → p i = q i) : bitsN p n = bitsN q n := upT_congr (fun i hi x => by rw [h i hi])
def sumN (f : Nat → Int32) (n : Nat) : Int32 := upT (fun i a => a + f i) n 0
theorem sumN_0 (f : Nat → Int32) : sumN f 0 = 0 := rfl
theorem sumN_s (f : Nat → Int32) (n : Nat) : sumN f (n + 1) = sumN f n + f n := rfl
theorem sumN_congr {f g : Nat → Int32} {n : Nat} (h : ∀ i, i < n → f i = g i) : sumN f n = sumN g n := upT_congr (fun i hi x => by rw [h i hi])
theorem inb_n {i N : Nat} (h : i < N) (hN : N < 2 ^ 31) : inb (nI i) N := nI_in h hN
theorem nI_nb {i N : Nat} (h : i < N) (hN : N < 2 ^ 31) : ((nI i < 0 ∨ N ≤ (nI i).toNatClampNeg) ↔ False) := iff_of_false (nI_in h hN) id
def topS (base wall : Nat → Int32) (c : Nat) : Int32 := 10 * base c + wall c
