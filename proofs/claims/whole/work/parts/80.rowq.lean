theorem arrV_congr {cA : ClassId} {n : Nat} {f g : Nat → Value} (h : ∀ j, j < n → f j = g j) : arrV cA n f = arrV cA n g := by
  unfold arrV
  congr 1
  apply Array.ext
  · simp
  · intro i h1 h2
    simp at h1
    simp [h i h1]
/-- a row of references told otherwise, alike below its length -/
theorem a_rowq {X : cxT} {cs sl pc : Nat} {L : List (Option Value)} {ws : va_W} {st : List Value} {a n : Nat} {cA : ClassId} {f : Nat → Option Nat} (q0 : Nat) (g : Nat → Option Nat) (he : ws[q0]? = some (a, .inl (cA, n, .inr (.inr (.inr (.inr f)))))) (h : ∀ j, j < n → f j = g j) (kk : ax X cs sl pc L (ws.set q0 (a, .inl (cA, n, .inr (.inr (.inr (.inr g)))))) st) : ax X cs sl pc L ws st := by
  obtain ⟨p, l9, e, R, s, m, args, below, meth, c, Q, D9, A, n9, Y9⟩ := X
  intro H locs ls hP hD hS hl
  refine kk H locs ls (hP.set hD he ?_ (fun _ _ => rfl)) (hD.set he) hS hl
  have h1 : H[a]? = some (vp_cell cA (n, .inr (.inr (.inr (.inr f))))) := hP q0 _ he
  show H[a]? = some (vp_cell cA (n, .inr (.inr (.inr (.inr g)))))
  rw [h1, vp_cell_q, vp_cell_q, arrV_congr (f := fun j => va_rf (f j)) (g := fun j => va_rf (g j)) (fun j hj => by rw [h j hj])]
theorem a_iincV {X : cxT} {l : Launch} {D : va_G} {Y : Nat → ClassId} {cc : ByteArray} {nL : Nat} {own : String} {Ts : List Cond} {rm : Room} {rt : Option FieldType} {cs sl pc : Nat} {L : List (Option Value)} {ws : va_W} {st : List Value} (C : axC X l D Y cc nL own Ts rm rt) {i0 : Nat} {n : Int} {x : Int32} (d v : Int32) (hd : decode cc pc = .ok (.iinc i0 n, 3)) (hv : Int32.ofInt n = d) (hx : x + d = v) (hj : L[i0]? = some (some (.int x))) (hn : i0 < nL) (hok : lvk L i0 = true) (k : ax X cs sl (pc + 3) (L.set i0 (some (.int v))) ws st) : ax X cs sl pc L ws st := by
  subst hx
  exact a_iinc C d hd hv hj hn hok k
