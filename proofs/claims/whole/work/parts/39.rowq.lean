theorem arrV_congr {cA : ClassId} {n : Nat} {f g : Nat → Value} (h : ∀ j, j < n → f j = g j) : arrV cA n f = arrV cA n g := by
  unfold arrV
  congr 1
  apply Array.ext
  · simp
  · intro i h1 h2
    simp at h1
    simp [h i h1]
/-- a row of references told otherwise, alike below its length -/
theorem a_rowq {X : cxT} {cs sl pc : Nat} {L : List (Option Value)} {ws : va_W} {st : List Value} {a n : Nat} {cA : ClassId} {f : Nat → Option Nat} (q0 : Nat) (g : Nat → Option Nat) (he : ws[q0]? = some (a, .inl (cA, n, .inr (.inr (.inr (.inr f)))))) (h : ∀ j, j < n → f j = g j) (kk : ax X cs sl pc L (ws.set q0 (a, .inl (cA, n, .inr (.inr (.inr (.inr g)))))) st) : ax X cs sl pc L ws st := by
  obtain ⟨p, l9, e, R, s, m, args, below, meth, c, Q, D9, A, n9, Y9⟩ := X
  intro H locs ls hP hD hS hl
  refine kk H locs ls (hP.set hD he ?_ (fun _ _ => rfl)) (hD.set he) hS hl
  have h1 : H[a]? = some (vp_cell cA (n, .inr (.inr (.inr (.inr f))))) := hP q0 _ he
  show H[a]? = some (vp_cell cA (n, .inr (.inr (.inr (.inr g)))))
  rw [h1, vp_cell_q, vp_cell_q, arrV_congr (f := fun j => va_rf (f j)) (g := fun j => va_rf (g j)) (fun j hj => by rw [h j hj])]
