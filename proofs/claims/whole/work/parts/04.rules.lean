def jmax (x y : Int32) : Int32 := if x < y then y else x
def jmin (x y : Int32) : Int32 := if y < x then y else x
def jabs (x : Int32) : Int32 := if 0 ≤ x then x else 0 - x
def jrem (x y : Int32) : Int32 := x - x / y * y
def jlrem (x y : Int64) : Int64 := x - x / y * y
def jshl (x y : Int32) : Int32 := x <<< (y &&& 31)
def jshr (x y : Int32) : Int32 := x >>> (y &&& 31)
def jushr (x y : Int32) : Int32 := (x.toUInt32 >>> (y.toUInt32 &&& Int32.toUInt32 31)).toInt32
section AXR
variable {X : cxT} {l : Launch} {D : va_G} {Y : Nat → ClassId} {cc : ByteArray} {nL : Nat} {own : String} {Ts : List Cond} {rm : Room} {rt : Option FieldType} {cs sl pc : Nat} {L : List (Option Value)} {ws : va_W} {st : List Value}
theorem a_iconst (C : axC X l D Y cc nL own Ts rm rt) {n : Int} (v : Int32) (hd : decode cc pc = .ok (.iconst n, 1)) (hv : Int32.ofInt n = v) (k : ax X cs sl (pc + 1) L ws (.int v :: st)) : ax X cs sl pc L ws (st) := by
  obtain ⟨p, l9, e, R, s, m, args, below, meth, c, Q, D9, A, n9, Y9⟩ := X
  obtain ⟨⟨hx, hb, hml, hown, hts⟩, ⟨rfl, rfl, rfl, rfl, rfl, hr, hlocks⟩, hK, hA⟩ := C
  intro H locs ls hP hD hS hl
  exact lv_iconst hx hb hd hv (k H locs ls hP hD hS hl)
theorem a_bipush (C : axC X l D Y cc nL own Ts rm rt) {n : Int} (v : Int32) (hd : decode cc pc = .ok (.bipush n, 2)) (hv : (Int8.ofInt n).toInt32 = v) (k : ax X cs sl (pc + 2) L ws (.int v :: st)) : ax X cs sl pc L ws (st) := by
  obtain ⟨p, l9, e, R, s, m, args, below, meth, c, Q, D9, A, n9, Y9⟩ := X
  obtain ⟨⟨hx, hb, hml, hown, hts⟩, ⟨rfl, rfl, rfl, rfl, rfl, hr, hlocks⟩, hK, hA⟩ := C
  intro H locs ls hP hD hS hl
  exact lv_bipush hx hb hd hv (k H locs ls hP hD hS hl)
theorem a_sipush (C : axC X l D Y cc nL own Ts rm rt) {n : Int} (v : Int32) (hd : decode cc pc = .ok (.sipush n, 3)) (hv : (Int16.ofInt n).toInt32 = v) (k : ax X cs sl (pc + 3) L ws (.int v :: st)) : ax X cs sl pc L ws (st) := by
  obtain ⟨p, l9, e, R, s, m, args, below, meth, c, Q, D9, A, n9, Y9⟩ := X
  obtain ⟨⟨hx, hb, hml, hown, hts⟩, ⟨rfl, rfl, rfl, rfl, rfl, hr, hlocks⟩, hK, hA⟩ := C
  intro H locs ls hP hD hS hl
  exact lv_sipush hx hb hd hv (k H locs ls hP hD hS hl)
theorem a_lconst (C : axC X l D Y cc nL own Ts rm rt) {n : Fin 2} (v : Int64) (hd : decode cc pc = .ok (.lconst n, 1)) (hv : Int64.ofNat (n : Nat) = v) (k : ax X cs sl (pc + 1) L ws (.long v :: st)) : ax X cs sl pc L ws (st) := by
  obtain ⟨p, l9, e, R, s, m, args, below, meth, c, Q, D9, A, n9, Y9⟩ := X
  obtain ⟨⟨hx, hb, hml, hown, hts⟩, ⟨rfl, rfl, rfl, rfl, rfl, hr, hlocks⟩, hK, hA⟩ := C
  intro H locs ls hP hD hS hl
  exact lv_lconst hx hb hd hv (k H locs ls hP hD hS hl)
theorem a_iload_n (C : axC X l D Y cc nL own Ts rm rt) {k0 : Fin 4} {x : Int32} (hd : decode cc pc = .ok (.iload_n k0, 1)) (hj : L[(k0 : Nat)]? = some (some (.int x))) (k : ax X cs sl (pc + 1) L ws (.int x :: st)) : ax X cs sl pc L ws (st) := by
  obtain ⟨p, l9, e, R, s, m, args, below, meth, c, Q, D9, A, n9, Y9⟩ := X
  obtain ⟨⟨hx, hb, hml, hown, hts⟩, ⟨rfl, rfl, rfl, rfl, rfl, hr, hlocks⟩, hK, hA⟩ := C
  intro H locs ls hP hD hS hl
  exact lv_iload_n hx hb hd rfl (ax_at hl hj) (k H locs ls hP hD hS hl)
theorem a_iload (C : axC X l D Y cc nL own Ts rm rt) {i0 : Nat} {x : Int32} (hd : decode cc pc = .ok (.iload i0, 2)) (hj : L[i0]? = some (some (.int x))) (k : ax X cs sl (pc + 2) L ws (.int x :: st)) : ax X cs sl pc L ws (st) := by
  obtain ⟨p, l9, e, R, s, m, args, below, meth, c, Q, D9, A, n9, Y9⟩ := X
  obtain ⟨⟨hx, hb, hml, hown, hts⟩, ⟨rfl, rfl, rfl, rfl, rfl, hr, hlocks⟩, hK, hA⟩ := C
  intro H locs ls hP hD hS hl
  exact lv_iload hx hb hd (ax_at hl hj) (k H locs ls hP hD hS hl)
theorem a_lload_n (C : axC X l D Y cc nL own Ts rm rt) {k0 : Fin 4} {x : Int64} (hd : decode cc pc = .ok (.lload_n k0, 1)) (hj : L[(k0 : Nat)]? = some (some (.long x))) (k : ax X cs sl (pc + 1) L ws (.long x :: st)) : ax X cs sl pc L ws (st) := by
  obtain ⟨p, l9, e, R, s, m, args, below, meth, c, Q, D9, A, n9, Y9⟩ := X
  obtain ⟨⟨hx, hb, hml, hown, hts⟩, ⟨rfl, rfl, rfl, rfl, rfl, hr, hlocks⟩, hK, hA⟩ := C
  intro H locs ls hP hD hS hl
  exact lv_lload_n hx hb hd rfl (ax_at hl hj) (k H locs ls hP hD hS hl)
theorem a_lload (C : axC X l D Y cc nL own Ts rm rt) {i0 : Nat} {x : Int64} (hd : decode cc pc = .ok (.lload i0, 2)) (hj : L[i0]? = some (some (.long x))) (k : ax X cs sl (pc + 2) L ws (.long x :: st)) : ax X cs sl pc L ws (st) := by
  obtain ⟨p, l9, e, R, s, m, args, below, meth, c, Q, D9, A, n9, Y9⟩ := X
  obtain ⟨⟨hx, hb, hml, hown, hts⟩, ⟨rfl, rfl, rfl, rfl, rfl, hr, hlocks⟩, hK, hA⟩ := C
  intro H locs ls hP hD hS hl
  exact lv_lload hx hb hd (ax_at hl hj) (k H locs ls hP hD hS hl)
theorem a_aload_n (C : axC X l D Y cc nL own Ts rm rt) {k0 : Fin 4} {x : Nat} (hd : decode cc pc = .ok (.aload_n k0, 1)) (hj : L[(k0 : Nat)]? = some (some (.ref x))) (k : ax X cs sl (pc + 1) L ws (.ref x :: st)) : ax X cs sl pc L ws (st) := by
  obtain ⟨p, l9, e, R, s, m, args, below, meth, c, Q, D9, A, n9, Y9⟩ := X
  obtain ⟨⟨hx, hb, hml, hown, hts⟩, ⟨rfl, rfl, rfl, rfl, rfl, hr, hlocks⟩, hK, hA⟩ := C
  intro H locs ls hP hD hS hl
  exact lv_aload_n hx hb hd rfl (ax_at hl hj) (k H locs ls hP hD hS hl)
theorem a_aload (C : axC X l D Y cc nL own Ts rm rt) {i0 : Nat} {x : Nat} (hd : decode cc pc = .ok (.aload i0, 2)) (hj : L[i0]? = some (some (.ref x))) (k : ax X cs sl (pc + 2) L ws (.ref x :: st)) : ax X cs sl pc L ws (st) := by
  obtain ⟨p, l9, e, R, s, m, args, below, meth, c, Q, D9, A, n9, Y9⟩ := X
  obtain ⟨⟨hx, hb, hml, hown, hts⟩, ⟨rfl, rfl, rfl, rfl, rfl, hr, hlocks⟩, hK, hA⟩ := C
  intro H locs ls hP hD hS hl
  exact lv_aload hx hb hd (ax_at hl hj) (k H locs ls hP hD hS hl)
theorem a_istore_n (C : axC X l D Y cc nL own Ts rm rt) {k0 : Fin 4} {x : Int32} (hd : decode cc pc = .ok (.istore_n k0, 1)) (hn : (k0 : Nat) < nL) (hok : lvk L k0 = true) (k : ax X cs sl (pc + 1) (L.set k0 (some (.int x))) ws st) : ax X cs sl pc L ws (.int x :: st) := by
  obtain ⟨p, l9, e, R, s, m, args, below, meth, c, Q, D9, A, n9, Y9⟩ := X
  obtain ⟨⟨hx, hb, hml, hown, hts⟩, ⟨rfl, rfl, rfl, rfl, rfl, hr, hlocks⟩, hK, hA⟩ := C
  intro H locs ls hP hD hS hl
  exact lv_istore_n hx hb hd rfl hl hn rfl (fun ls' h' => k H locs ls' hP hD hS (ax_st1 h' hok))
theorem a_istore (C : axC X l D Y cc nL own Ts rm rt) {i0 : Nat} {x : Int32} (hd : decode cc pc = .ok (.istore i0, 2)) (hn : i0 < nL) (hok : lvk L i0 = true) (k : ax X cs sl (pc + 2) (L.set i0 (some (.int x))) ws st) : ax X cs sl pc L ws (.int x :: st) := by
  obtain ⟨p, l9, e, R, s, m, args, below, meth, c, Q, D9, A, n9, Y9⟩ := X
  obtain ⟨⟨hx, hb, hml, hown, hts⟩, ⟨rfl, rfl, rfl, rfl, rfl, hr, hlocks⟩, hK, hA⟩ := C
  intro H locs ls hP hD hS hl
  exact lv_istore hx hb hd hl hn rfl (fun ls' h' => k H locs ls' hP hD hS (ax_st1 h' hok))
theorem a_astore_n (C : axC X l D Y cc nL own Ts rm rt) {k0 : Fin 4} {x : Nat} (hd : decode cc pc = .ok (.astore_n k0, 1)) (hn : (k0 : Nat) < nL) (hok : lvk L k0 = true) (k : ax X cs sl (pc + 1) (L.set k0 (some (.ref x))) ws st) : ax X cs sl pc L ws (.ref x :: st) := by
  obtain ⟨p, l9, e, R, s, m, args, below, meth, c, Q, D9, A, n9, Y9⟩ := X
  obtain ⟨⟨hx, hb, hml, hown, hts⟩, ⟨rfl, rfl, rfl, rfl, rfl, hr, hlocks⟩, hK, hA⟩ := C
  intro H locs ls hP hD hS hl
  exact lv_astore_n hx hb hd rfl hl hn rfl (fun ls' h' => k H locs ls' hP hD hS (ax_st1 h' hok))
theorem a_astore (C : axC X l D Y cc nL own Ts rm rt) {i0 : Nat} {x : Nat} (hd : decode cc pc = .ok (.astore i0, 2)) (hn : i0 < nL) (hok : lvk L i0 = true) (k : ax X cs sl (pc + 2) (L.set i0 (some (.ref x))) ws st) : ax X cs sl pc L ws (.ref x :: st) := by
  obtain ⟨p, l9, e, R, s, m, args, below, meth, c, Q, D9, A, n9, Y9⟩ := X
  obtain ⟨⟨hx, hb, hml, hown, hts⟩, ⟨rfl, rfl, rfl, rfl, rfl, hr, hlocks⟩, hK, hA⟩ := C
  intro H locs ls hP hD hS hl
  exact lv_astore hx hb hd hl hn rfl (fun ls' h' => k H locs ls' hP hD hS (ax_st1 h' hok))
theorem a_lstore_n (C : axC X l D Y cc nL own Ts rm rt) {k0 : Fin 4} {x : Int64} (hd : decode cc pc = .ok (.lstore_n k0, 1)) (hn : (k0 : Nat) + 1 < nL) (hok : lvk L k0 = true) (k : ax X cs sl (pc + 1) ((L.set k0 (some (.long x))).set (k0 + 1) none) ws st) : ax X cs sl pc L ws (.long x :: st) := by
  obtain ⟨p, l9, e, R, s, m, args, below, meth, c, Q, D9, A, n9, Y9⟩ := X
  obtain ⟨⟨hx, hb, hml, hown, hts⟩, ⟨rfl, rfl, rfl, rfl, rfl, hr, hlocks⟩, hK, hA⟩ := C
  intro H locs ls hP hD hS hl
  exact lv_lstore_n hx hb hd rfl hl hn rfl (fun ls' h' => k H locs ls' hP hD hS (ax_st2 h' hok))
theorem a_lstore (C : axC X l D Y cc nL own Ts rm rt) {i0 : Nat} {x : Int64} (hd : decode cc pc = .ok (.lstore i0, 2)) (hn : i0 + 1 < nL) (hok : lvk L i0 = true) (k : ax X cs sl (pc + 2) ((L.set i0 (some (.long x))).set (i0 + 1) none) ws st) : ax X cs sl pc L ws (.long x :: st) := by
  obtain ⟨p, l9, e, R, s, m, args, below, meth, c, Q, D9, A, n9, Y9⟩ := X
  obtain ⟨⟨hx, hb, hml, hown, hts⟩, ⟨rfl, rfl, rfl, rfl, rfl, hr, hlocks⟩, hK, hA⟩ := C
  intro H locs ls hP hD hS hl
  exact lv_lstore hx hb hd hl hn rfl (fun ls' h' => k H locs ls' hP hD hS (ax_st2 h' hok))
theorem a_iinc (C : axC X l D Y cc nL own Ts rm rt) {i0 : Nat} {n : Int} {x : Int32} (d : Int32) (hd : decode cc pc = .ok (.iinc i0 n, 3)) (hv : Int32.ofInt n = d) (hj : L[i0]? = some (some (.int x))) (hn : i0 < nL) (hok : lvk L i0 = true) (k : ax X cs sl (pc + 3) (L.set i0 (some (.int (x + d)))) ws st) : ax X cs sl pc L ws st := by
  subst hv
  obtain ⟨p, l9, e, R, s, m, args, below, meth, c, Q, D9, A, n9, Y9⟩ := X
  obtain ⟨⟨hx, hb, hml, hown, hts⟩, ⟨rfl, rfl, rfl, rfl, rfl, hr, hlocks⟩, hK, hA⟩ := C
  intro H locs ls hP hD hS hl
  have hmem := lvOf_mem (i := 0) hj
  rw [Nat.zero_add] at hmem
  obtain ⟨j9, hj9⟩ := List.getElem?_of_mem hmem
  exact lv_iinc hx hb hd hl hj9 rfl hn rfl (fun ls' h' => k H locs ls' hP hD hS (ax_st1 h' hok))
theorem a_iadd (C : axC X l D Y cc nL own Ts rm rt) {x y : Int32} (hd : decode cc pc = .ok (.iadd, 1)) (k : ax X cs sl (pc + 1) L ws (.int (x + y) :: st)) : ax X cs sl pc L ws (.int y :: .int x :: st) := by
  obtain ⟨p, l9, e, R, s, m, args, below, meth, c, Q, D9, A, n9, Y9⟩ := X
  obtain ⟨⟨hx, hb, hml, hown, hts⟩, ⟨rfl, rfl, rfl, rfl, rfl, hr, hlocks⟩, hK, hA⟩ := C
  intro H locs ls hP hD hS hl
  exact lv_iadd hx hb hd (k H locs ls hP hD hS hl)
theorem a_isub (C : axC X l D Y cc nL own Ts rm rt) {x y : Int32} (hd : decode cc pc = .ok (.isub, 1)) (k : ax X cs sl (pc + 1) L ws (.int (x - y) :: st)) : ax X cs sl pc L ws (.int y :: .int x :: st) := by
  obtain ⟨p, l9, e, R, s, m, args, below, meth, c, Q, D9, A, n9, Y9⟩ := X
  obtain ⟨⟨hx, hb, hml, hown, hts⟩, ⟨rfl, rfl, rfl, rfl, rfl, hr, hlocks⟩, hK, hA⟩ := C
  intro H locs ls hP hD hS hl
  exact lv_isub hx hb hd (k H locs ls hP hD hS hl)
theorem a_imul (C : axC X l D Y cc nL own Ts rm rt) {x y : Int32} (hd : decode cc pc = .ok (.imul, 1)) (k : ax X cs sl (pc + 1) L ws (.int (x * y) :: st)) : ax X cs sl pc L ws (.int y :: .int x :: st) := by
  obtain ⟨p, l9, e, R, s, m, args, below, meth, c, Q, D9, A, n9, Y9⟩ := X
  obtain ⟨⟨hx, hb, hml, hown, hts⟩, ⟨rfl, rfl, rfl, rfl, rfl, hr, hlocks⟩, hK, hA⟩ := C
  intro H locs ls hP hD hS hl
  exact lv_imul hx hb hd (k H locs ls hP hD hS hl)
theorem a_iand (C : axC X l D Y cc nL own Ts rm rt) {x y : Int32} (hd : decode cc pc = .ok (.iand, 1)) (k : ax X cs sl (pc + 1) L ws (.int (x &&& y) :: st)) : ax X cs sl pc L ws (.int y :: .int x :: st) := by
  obtain ⟨p, l9, e, R, s, m, args, below, meth, c, Q, D9, A, n9, Y9⟩ := X
  obtain ⟨⟨hx, hb, hml, hown, hts⟩, ⟨rfl, rfl, rfl, rfl, rfl, hr, hlocks⟩, hK, hA⟩ := C
  intro H locs ls hP hD hS hl
  exact lv_iand hx hb hd (k H locs ls hP hD hS hl)
theorem a_ior (C : axC X l D Y cc nL own Ts rm rt) {x y : Int32} (hd : decode cc pc = .ok (.ior, 1)) (k : ax X cs sl (pc + 1) L ws (.int (x ||| y) :: st)) : ax X cs sl pc L ws (.int y :: .int x :: st) := by
  obtain ⟨p, l9, e, R, s, m, args, below, meth, c, Q, D9, A, n9, Y9⟩ := X
  obtain ⟨⟨hx, hb, hml, hown, hts⟩, ⟨rfl, rfl, rfl, rfl, rfl, hr, hlocks⟩, hK, hA⟩ := C
  intro H locs ls hP hD hS hl
  exact lv_ior hx hb hd (k H locs ls hP hD hS hl)
theorem a_ixor (C : axC X l D Y cc nL own Ts rm rt) {x y : Int32} (hd : decode cc pc = .ok (.ixor, 1)) (k : ax X cs sl (pc + 1) L ws (.int (x ^^^ y) :: st)) : ax X cs sl pc L ws (.int y :: .int x :: st) := by
  obtain ⟨p, l9, e, R, s, m, args, below, meth, c, Q, D9, A, n9, Y9⟩ := X
  obtain ⟨⟨hx, hb, hml, hown, hts⟩, ⟨rfl, rfl, rfl, rfl, rfl, hr, hlocks⟩, hK, hA⟩ := C
  intro H locs ls hP hD hS hl
  exact lv_ixor hx hb hd (k H locs ls hP hD hS hl)
theorem a_ishl (C : axC X l D Y cc nL own Ts rm rt) {x y : Int32} (hd : decode cc pc = .ok (.ishl, 1)) (k : ax X cs sl (pc + 1) L ws (.int (jshl x y) :: st)) : ax X cs sl pc L ws (.int y :: .int x :: st) := by
  obtain ⟨p, l9, e, R, s, m, args, below, meth, c, Q, D9, A, n9, Y9⟩ := X
  obtain ⟨⟨hx, hb, hml, hown, hts⟩, ⟨rfl, rfl, rfl, rfl, rfl, hr, hlocks⟩, hK, hA⟩ := C
  intro H locs ls hP hD hS hl
  exact lv_ishl hx hb hd (k H locs ls hP hD hS hl)
theorem a_ishr (C : axC X l D Y cc nL own Ts rm rt) {x y : Int32} (hd : decode cc pc = .ok (.ishr, 1)) (k : ax X cs sl (pc + 1) L ws (.int (jshr x y) :: st)) : ax X cs sl pc L ws (.int y :: .int x :: st) := by
  obtain ⟨p, l9, e, R, s, m, args, below, meth, c, Q, D9, A, n9, Y9⟩ := X
  obtain ⟨⟨hx, hb, hml, hown, hts⟩, ⟨rfl, rfl, rfl, rfl, rfl, hr, hlocks⟩, hK, hA⟩ := C
  intro H locs ls hP hD hS hl
  exact lv_ishr hx hb hd (k H locs ls hP hD hS hl)
theorem a_idiv (C : axC X l D Y cc nL own Ts rm rt) {x y : Int32} (hd : decode cc pc = .ok (.idiv, 1)) (hne : ¬ y = 0) (k : ax X cs sl (pc + 1) L ws (.int (x / y) :: st)) : ax X cs sl pc L ws (.int y :: .int x :: st) := by
  obtain ⟨p, l9, e, R, s, m, args, below, meth, c, Q, D9, A, n9, Y9⟩ := X
  obtain ⟨⟨hx, hb, hml, hown, hts⟩, ⟨rfl, rfl, rfl, rfl, rfl, hr, hlocks⟩, hK, hA⟩ := C
  intro H locs ls hP hD hS hl
  exact lv_idiv hx hb hd hne (k H locs ls hP hD hS hl)
theorem a_irem (C : axC X l D Y cc nL own Ts rm rt) {x y : Int32} (hd : decode cc pc = .ok (.irem, 1)) (hne : ¬ y = 0) (k : ax X cs sl (pc + 1) L ws (.int (jrem x y) :: st)) : ax X cs sl pc L ws (.int y :: .int x :: st) := by
  obtain ⟨p, l9, e, R, s, m, args, below, meth, c, Q, D9, A, n9, Y9⟩ := X
  obtain ⟨⟨hx, hb, hml, hown, hts⟩, ⟨rfl, rfl, rfl, rfl, rfl, hr, hlocks⟩, hK, hA⟩ := C
  intro H locs ls hP hD hS hl
  exact lv_irem hx hb hd hne (k H locs ls hP hD hS hl)
theorem a_iushr (C : axC X l D Y cc nL own Ts rm rt) {x y : Int32} (hd : decode cc pc = .ok (.iushr, 1)) (k : ax X cs sl (pc + 1) L ws (.int (jushr x y) :: st)) : ax X cs sl pc L ws (.int y :: .int x :: st) := by
  obtain ⟨p, l9, e, R, s, m, args, below, meth, c, Q, D9, A, n9, Y9⟩ := X
  obtain ⟨⟨hx, hb, hml, hown, hts⟩, ⟨rfl, rfl, rfl, rfl, rfl, hr, hlocks⟩, hK, hA⟩ := C
  intro H locs ls hP hD hS hl
  exact lv_iushr hx hb hd rfl (k H locs ls hP hD hS hl)
theorem a_ineg (C : axC X l D Y cc nL own Ts rm rt) {x : Int32} (hd : decode cc pc = .ok (.ineg, 1)) (k : ax X cs sl (pc + 1) L ws (.int (-x) :: st)) : ax X cs sl pc L ws (.int x :: st) := by
  obtain ⟨p, l9, e, R, s, m, args, below, meth, c, Q, D9, A, n9, Y9⟩ := X
  obtain ⟨⟨hx, hb, hml, hown, hts⟩, ⟨rfl, rfl, rfl, rfl, rfl, hr, hlocks⟩, hK, hA⟩ := C
  intro H locs ls hP hD hS hl
  exact lv_ineg hx hb hd (k H locs ls hP hD hS hl)
theorem a_ladd (C : axC X l D Y cc nL own Ts rm rt) {x y : Int64} (hd : decode cc pc = .ok (.ladd, 1)) (k : ax X cs sl (pc + 1) L ws (.long (x + y) :: st)) : ax X cs sl pc L ws (.long y :: .long x :: st) := by
  obtain ⟨p, l9, e, R, s, m, args, below, meth, c, Q, D9, A, n9, Y9⟩ := X
  obtain ⟨⟨hx, hb, hml, hown, hts⟩, ⟨rfl, rfl, rfl, rfl, rfl, hr, hlocks⟩, hK, hA⟩ := C
  intro H locs ls hP hD hS hl
  exact lv_ladd hx hb hd (k H locs ls hP hD hS hl)
theorem a_lsub (C : axC X l D Y cc nL own Ts rm rt) {x y : Int64} (hd : decode cc pc = .ok (.lsub, 1)) (k : ax X cs sl (pc + 1) L ws (.long (x - y) :: st)) : ax X cs sl pc L ws (.long y :: .long x :: st) := by
  obtain ⟨p, l9, e, R, s, m, args, below, meth, c, Q, D9, A, n9, Y9⟩ := X
  obtain ⟨⟨hx, hb, hml, hown, hts⟩, ⟨rfl, rfl, rfl, rfl, rfl, hr, hlocks⟩, hK, hA⟩ := C
  intro H locs ls hP hD hS hl
  exact lv_lsub hx hb hd (k H locs ls hP hD hS hl)
theorem a_lmul (C : axC X l D Y cc nL own Ts rm rt) {x y : Int64} (hd : decode cc pc = .ok (.lmul, 1)) (k : ax X cs sl (pc + 1) L ws (.long (x * y) :: st)) : ax X cs sl pc L ws (.long y :: .long x :: st) := by
  obtain ⟨p, l9, e, R, s, m, args, below, meth, c, Q, D9, A, n9, Y9⟩ := X
  obtain ⟨⟨hx, hb, hml, hown, hts⟩, ⟨rfl, rfl, rfl, rfl, rfl, hr, hlocks⟩, hK, hA⟩ := C
  intro H locs ls hP hD hS hl
  exact lv_lmul hx hb hd (k H locs ls hP hD hS hl)
theorem a_ldiv (C : axC X l D Y cc nL own Ts rm rt) {x y : Int64} (hd : decode cc pc = .ok (.ldiv, 1)) (hne : ¬ y = 0) (k : ax X cs sl (pc + 1) L ws (.long (x / y) :: st)) : ax X cs sl pc L ws (.long y :: .long x :: st) := by
  obtain ⟨p, l9, e, R, s, m, args, below, meth, c, Q, D9, A, n9, Y9⟩ := X
  obtain ⟨⟨hx, hb, hml, hown, hts⟩, ⟨rfl, rfl, rfl, rfl, rfl, hr, hlocks⟩, hK, hA⟩ := C
  intro H locs ls hP hD hS hl
  exact lv_ldiv hx hb hd hne (k H locs ls hP hD hS hl)
theorem a_lrem (C : axC X l D Y cc nL own Ts rm rt) {x y : Int64} (hd : decode cc pc = .ok (.lrem, 1)) (hne : ¬ y = 0) (k : ax X cs sl (pc + 1) L ws (.long (jlrem x y) :: st)) : ax X cs sl pc L ws (.long y :: .long x :: st) := by
  obtain ⟨p, l9, e, R, s, m, args, below, meth, c, Q, D9, A, n9, Y9⟩ := X
  obtain ⟨⟨hx, hb, hml, hown, hts⟩, ⟨rfl, rfl, rfl, rfl, rfl, hr, hlocks⟩, hK, hA⟩ := C
  intro H locs ls hP hD hS hl
  exact lv_lrem hx hb hd hne (k H locs ls hP hD hS hl)
theorem a_lcmp (C : axC X l D Y cc nL own Ts rm rt) {x y : Int64} (hd : decode cc pc = .ok (.lcmp, 1)) (k : ax X cs sl (pc + 1) L ws (.int (lg_cmp x y) :: st)) : ax X cs sl pc L ws (.long y :: .long x :: st) := by
  obtain ⟨p, l9, e, R, s, m, args, below, meth, c, Q, D9, A, n9, Y9⟩ := X
  obtain ⟨⟨hx, hb, hml, hown, hts⟩, ⟨rfl, rfl, rfl, rfl, rfl, hr, hlocks⟩, hK, hA⟩ := C
  intro H locs ls hP hD hS hl
  exact W.lcmp hx hb hd (k H locs ls hP hD hS hl)
theorem a_i2l (C : axC X l D Y cc nL own Ts rm rt) {x : Int32} (hd : decode cc pc = .ok (.i2l, 1)) (k : ax X cs sl (pc + 1) L ws (.long (x.toInt64) :: st)) : ax X cs sl pc L ws (.int x :: st) := by
  obtain ⟨p, l9, e, R, s, m, args, below, meth, c, Q, D9, A, n9, Y9⟩ := X
  obtain ⟨⟨hx, hb, hml, hown, hts⟩, ⟨rfl, rfl, rfl, rfl, rfl, hr, hlocks⟩, hK, hA⟩ := C
  intro H locs ls hP hD hS hl
  exact lv_i2l hx hb hd rfl (k H locs ls hP hD hS hl)
theorem a_i2b (C : axC X l D Y cc nL own Ts rm rt) {x : Int32} (hd : decode cc pc = .ok (.i2b, 1)) (k : ax X cs sl (pc + 1) L ws (.int (x.toInt8.toInt32) :: st)) : ax X cs sl pc L ws (.int x :: st) := by
  obtain ⟨p, l9, e, R, s, m, args, below, meth, c, Q, D9, A, n9, Y9⟩ := X
  obtain ⟨⟨hx, hb, hml, hown, hts⟩, ⟨rfl, rfl, rfl, rfl, rfl, hr, hlocks⟩, hK, hA⟩ := C
  intro H locs ls hP hD hS hl
  exact lv_i2b hx hb hd rfl (k H locs ls hP hD hS hl)
theorem a_i2s (C : axC X l D Y cc nL own Ts rm rt) {x : Int32} (hd : decode cc pc = .ok (.i2s, 1)) (k : ax X cs sl (pc + 1) L ws (.int (x.toInt16.toInt32) :: st)) : ax X cs sl pc L ws (.int x :: st) := by
  obtain ⟨p, l9, e, R, s, m, args, below, meth, c, Q, D9, A, n9, Y9⟩ := X
  obtain ⟨⟨hx, hb, hml, hown, hts⟩, ⟨rfl, rfl, rfl, rfl, rfl, hr, hlocks⟩, hK, hA⟩ := C
  intro H locs ls hP hD hS hl
  exact lv_i2s hx hb hd rfl (k H locs ls hP hD hS hl)
theorem a_i2c (C : axC X l D Y cc nL own Ts rm rt) {x : Int32} (hd : decode cc pc = .ok (.i2c, 1)) (k : ax X cs sl (pc + 1) L ws (.int ((x.toUInt32 % 65536).toInt32) :: st)) : ax X cs sl pc L ws (.int x :: st) := by
  obtain ⟨p, l9, e, R, s, m, args, below, meth, c, Q, D9, A, n9, Y9⟩ := X
  obtain ⟨⟨hx, hb, hml, hown, hts⟩, ⟨rfl, rfl, rfl, rfl, rfl, hr, hlocks⟩, hK, hA⟩ := C
  intro H locs ls hP hD hS hl
  exact lv_i2c hx hb hd rfl (k H locs ls hP hD hS hl)
theorem a_dup (C : axC X l D Y cc nL own Ts rm rt) {va : Value} (hd : decode cc pc = .ok (.dup, 1)) (hva : va.category = 1) (k : ax X cs sl (pc + 1) L ws (va :: va :: st)) : ax X cs sl pc L ws (va :: st) := by
  obtain ⟨p, l9, e, R, s, m, args, below, meth, c, Q, D9, A, n9, Y9⟩ := X
  obtain ⟨⟨hx, hb, hml, hown, hts⟩, ⟨rfl, rfl, rfl, rfl, rfl, hr, hlocks⟩, hK, hA⟩ := C
  intro H locs ls hP hD hS hl
  exact lv_dup hx hb hd hva (k H locs ls hP hD hS hl)
theorem a_pop (C : axC X l D Y cc nL own Ts rm rt) {va : Value} (hd : decode cc pc = .ok (.pop, 1)) (hva : va.category = 1) (k : ax X cs sl (pc + 1) L ws (st)) : ax X cs sl pc L ws (va :: st) := by
  obtain ⟨p, l9, e, R, s, m, args, below, meth, c, Q, D9, A, n9, Y9⟩ := X
  obtain ⟨⟨hx, hb, hml, hown, hts⟩, ⟨rfl, rfl, rfl, rfl, rfl, hr, hlocks⟩, hK, hA⟩ := C
  intro H locs ls hP hD hS hl
  exact lv_pop hx hb hd hva (k H locs ls hP hD hS hl)
theorem a_dup2 (C : axC X l D Y cc nL own Ts rm rt) {va vb : Value} (hd : decode cc pc = .ok (.dup2, 1)) (hva : va.category = 1) (hvb : vb.category = 1) (k : ax X cs sl (pc + 1) L ws (va :: vb :: va :: vb :: st)) : ax X cs sl pc L ws (va :: vb :: st) := by
  obtain ⟨p, l9, e, R, s, m, args, below, meth, c, Q, D9, A, n9, Y9⟩ := X
  obtain ⟨⟨hx, hb, hml, hown, hts⟩, ⟨rfl, rfl, rfl, rfl, rfl, hr, hlocks⟩, hK, hA⟩ := C
  intro H locs ls hP hD hS hl
  exact lv_dup2_11 hx hb hd hva hvb (k H locs ls hP hD hS hl)
theorem a_if_eq (C : axC X l D Y cc nL own Ts rm rt) {x : Int32} {off : Int} (tgt : Nat) (hd : decode cc pc = .ok (.ifCond .eq off, 3)) (ht : (pc : Int) + off = (tgt : Int)) (kt : x = 0 → ax X cs sl tgt L ws st) (kf : ¬ x = 0 → ax X cs sl (pc + 3) L ws st) : ax X cs sl pc L ws (.int x :: st) := by
  obtain ⟨p, l9, e, R, s, m, args, below, meth, c, Q, D9, A, n9, Y9⟩ := X
  obtain ⟨⟨hx, hb, hml, hown, hts⟩, ⟨rfl, rfl, rfl, rfl, rfl, hr, hlocks⟩, hK, hA⟩ := C
  intro H locs ls hP hD hS hl
  exact lv_if_eq hx hb hd ht (fun z => kt z H locs ls hP hD hS hl) (fun z => kf z H locs ls hP hD hS hl)
theorem a_icmp_eq (C : axC X l D Y cc nL own Ts rm rt) {x y : Int32} {off : Int} (tgt : Nat) (hd : decode cc pc = .ok (.if_icmp .eq off, 3)) (ht : (pc : Int) + off = (tgt : Int)) (kt : x = y → ax X cs sl tgt L ws st) (kf : ¬ x = y → ax X cs sl (pc + 3) L ws st) : ax X cs sl pc L ws (.int y :: .int x :: st) := by
  obtain ⟨p, l9, e, R, s, m, args, below, meth, c, Q, D9, A, n9, Y9⟩ := X
  obtain ⟨⟨hx, hb, hml, hown, hts⟩, ⟨rfl, rfl, rfl, rfl, rfl, hr, hlocks⟩, hK, hA⟩ := C
  intro H locs ls hP hD hS hl
  exact lv_icmp_eq hx hb hd ht (fun z => kt z H locs ls hP hD hS hl) (fun z => kf z H locs ls hP hD hS hl)
theorem a_if_ne (C : axC X l D Y cc nL own Ts rm rt) {x : Int32} {off : Int} (tgt : Nat) (hd : decode cc pc = .ok (.ifCond .ne off, 3)) (ht : (pc : Int) + off = (tgt : Int)) (kt : ¬ x = 0 → ax X cs sl tgt L ws st) (kf : x = 0 → ax X cs sl (pc + 3) L ws st) : ax X cs sl pc L ws (.int x :: st) := by
  obtain ⟨p, l9, e, R, s, m, args, below, meth, c, Q, D9, A, n9, Y9⟩ := X
  obtain ⟨⟨hx, hb, hml, hown, hts⟩, ⟨rfl, rfl, rfl, rfl, rfl, hr, hlocks⟩, hK, hA⟩ := C
  intro H locs ls hP hD hS hl
  exact lv_if_ne hx hb hd ht (fun z => kt z H locs ls hP hD hS hl) (fun z => kf z H locs ls hP hD hS hl)
theorem a_icmp_ne (C : axC X l D Y cc nL own Ts rm rt) {x y : Int32} {off : Int} (tgt : Nat) (hd : decode cc pc = .ok (.if_icmp .ne off, 3)) (ht : (pc : Int) + off = (tgt : Int)) (kt : ¬ x = y → ax X cs sl tgt L ws st) (kf : x = y → ax X cs sl (pc + 3) L ws st) : ax X cs sl pc L ws (.int y :: .int x :: st) := by
  obtain ⟨p, l9, e, R, s, m, args, below, meth, c, Q, D9, A, n9, Y9⟩ := X
  obtain ⟨⟨hx, hb, hml, hown, hts⟩, ⟨rfl, rfl, rfl, rfl, rfl, hr, hlocks⟩, hK, hA⟩ := C
  intro H locs ls hP hD hS hl
  exact lv_icmp_ne hx hb hd ht (fun z => kt z H locs ls hP hD hS hl) (fun z => kf z H locs ls hP hD hS hl)
theorem a_if_lt (C : axC X l D Y cc nL own Ts rm rt) {x : Int32} {off : Int} (tgt : Nat) (hd : decode cc pc = .ok (.ifCond .lt off, 3)) (ht : (pc : Int) + off = (tgt : Int)) (kt : x < 0 → ax X cs sl tgt L ws st) (kf : ¬ x < 0 → ax X cs sl (pc + 3) L ws st) : ax X cs sl pc L ws (.int x :: st) := by
  obtain ⟨p, l9, e, R, s, m, args, below, meth, c, Q, D9, A, n9, Y9⟩ := X
  obtain ⟨⟨hx, hb, hml, hown, hts⟩, ⟨rfl, rfl, rfl, rfl, rfl, hr, hlocks⟩, hK, hA⟩ := C
  intro H locs ls hP hD hS hl
  exact lv_if_lt hx hb hd ht (fun z => kt z H locs ls hP hD hS hl) (fun z => kf z H locs ls hP hD hS hl)
theorem a_icmp_lt (C : axC X l D Y cc nL own Ts rm rt) {x y : Int32} {off : Int} (tgt : Nat) (hd : decode cc pc = .ok (.if_icmp .lt off, 3)) (ht : (pc : Int) + off = (tgt : Int)) (kt : x < y → ax X cs sl tgt L ws st) (kf : ¬ x < y → ax X cs sl (pc + 3) L ws st) : ax X cs sl pc L ws (.int y :: .int x :: st) := by
  obtain ⟨p, l9, e, R, s, m, args, below, meth, c, Q, D9, A, n9, Y9⟩ := X
  obtain ⟨⟨hx, hb, hml, hown, hts⟩, ⟨rfl, rfl, rfl, rfl, rfl, hr, hlocks⟩, hK, hA⟩ := C
  intro H locs ls hP hD hS hl
  exact lv_icmp_lt hx hb hd ht (fun z => kt z H locs ls hP hD hS hl) (fun z => kf z H locs ls hP hD hS hl)
theorem a_if_ge (C : axC X l D Y cc nL own Ts rm rt) {x : Int32} {off : Int} (tgt : Nat) (hd : decode cc pc = .ok (.ifCond .ge off, 3)) (ht : (pc : Int) + off = (tgt : Int)) (kt : 0 ≤ x → ax X cs sl tgt L ws st) (kf : ¬ 0 ≤ x → ax X cs sl (pc + 3) L ws st) : ax X cs sl pc L ws (.int x :: st) := by
  obtain ⟨p, l9, e, R, s, m, args, below, meth, c, Q, D9, A, n9, Y9⟩ := X
  obtain ⟨⟨hx, hb, hml, hown, hts⟩, ⟨rfl, rfl, rfl, rfl, rfl, hr, hlocks⟩, hK, hA⟩ := C
  intro H locs ls hP hD hS hl
  exact lv_if_ge hx hb hd ht (fun z => kt z H locs ls hP hD hS hl) (fun z => kf z H locs ls hP hD hS hl)
theorem a_icmp_ge (C : axC X l D Y cc nL own Ts rm rt) {x y : Int32} {off : Int} (tgt : Nat) (hd : decode cc pc = .ok (.if_icmp .ge off, 3)) (ht : (pc : Int) + off = (tgt : Int)) (kt : y ≤ x → ax X cs sl tgt L ws st) (kf : ¬ y ≤ x → ax X cs sl (pc + 3) L ws st) : ax X cs sl pc L ws (.int y :: .int x :: st) := by
  obtain ⟨p, l9, e, R, s, m, args, below, meth, c, Q, D9, A, n9, Y9⟩ := X
  obtain ⟨⟨hx, hb, hml, hown, hts⟩, ⟨rfl, rfl, rfl, rfl, rfl, hr, hlocks⟩, hK, hA⟩ := C
  intro H locs ls hP hD hS hl
  exact lv_icmp_ge hx hb hd ht (fun z => kt z H locs ls hP hD hS hl) (fun z => kf z H locs ls hP hD hS hl)
theorem a_if_gt (C : axC X l D Y cc nL own Ts rm rt) {x : Int32} {off : Int} (tgt : Nat) (hd : decode cc pc = .ok (.ifCond .gt off, 3)) (ht : (pc : Int) + off = (tgt : Int)) (kt : 0 < x → ax X cs sl tgt L ws st) (kf : ¬ 0 < x → ax X cs sl (pc + 3) L ws st) : ax X cs sl pc L ws (.int x :: st) := by
  obtain ⟨p, l9, e, R, s, m, args, below, meth, c, Q, D9, A, n9, Y9⟩ := X
  obtain ⟨⟨hx, hb, hml, hown, hts⟩, ⟨rfl, rfl, rfl, rfl, rfl, hr, hlocks⟩, hK, hA⟩ := C
  intro H locs ls hP hD hS hl
  exact lv_if_gt hx hb hd ht (fun z => kt z H locs ls hP hD hS hl) (fun z => kf z H locs ls hP hD hS hl)
theorem a_icmp_gt (C : axC X l D Y cc nL own Ts rm rt) {x y : Int32} {off : Int} (tgt : Nat) (hd : decode cc pc = .ok (.if_icmp .gt off, 3)) (ht : (pc : Int) + off = (tgt : Int)) (kt : y < x → ax X cs sl tgt L ws st) (kf : ¬ y < x → ax X cs sl (pc + 3) L ws st) : ax X cs sl pc L ws (.int y :: .int x :: st) := by
  obtain ⟨p, l9, e, R, s, m, args, below, meth, c, Q, D9, A, n9, Y9⟩ := X
  obtain ⟨⟨hx, hb, hml, hown, hts⟩, ⟨rfl, rfl, rfl, rfl, rfl, hr, hlocks⟩, hK, hA⟩ := C
  intro H locs ls hP hD hS hl
  exact lv_icmp_gt hx hb hd ht (fun z => kt z H locs ls hP hD hS hl) (fun z => kf z H locs ls hP hD hS hl)
theorem a_if_le (C : axC X l D Y cc nL own Ts rm rt) {x : Int32} {off : Int} (tgt : Nat) (hd : decode cc pc = .ok (.ifCond .le off, 3)) (ht : (pc : Int) + off = (tgt : Int)) (kt : x ≤ 0 → ax X cs sl tgt L ws st) (kf : ¬ x ≤ 0 → ax X cs sl (pc + 3) L ws st) : ax X cs sl pc L ws (.int x :: st) := by
  obtain ⟨p, l9, e, R, s, m, args, below, meth, c, Q, D9, A, n9, Y9⟩ := X
  obtain ⟨⟨hx, hb, hml, hown, hts⟩, ⟨rfl, rfl, rfl, rfl, rfl, hr, hlocks⟩, hK, hA⟩ := C
  intro H locs ls hP hD hS hl
  exact lv_if_le hx hb hd ht (fun z => kt z H locs ls hP hD hS hl) (fun z => kf z H locs ls hP hD hS hl)
theorem a_icmp_le (C : axC X l D Y cc nL own Ts rm rt) {x y : Int32} {off : Int} (tgt : Nat) (hd : decode cc pc = .ok (.if_icmp .le off, 3)) (ht : (pc : Int) + off = (tgt : Int)) (kt : x ≤ y → ax X cs sl tgt L ws st) (kf : ¬ x ≤ y → ax X cs sl (pc + 3) L ws st) : ax X cs sl pc L ws (.int y :: .int x :: st) := by
  obtain ⟨p, l9, e, R, s, m, args, below, meth, c, Q, D9, A, n9, Y9⟩ := X
  obtain ⟨⟨hx, hb, hml, hown, hts⟩, ⟨rfl, rfl, rfl, rfl, rfl, hr, hlocks⟩, hK, hA⟩ := C
  intro H locs ls hP hD hS hl
  exact lv_icmp_le hx hb hd ht (fun z => kt z H locs ls hP hD hS hl) (fun z => kf z H locs ls hP hD hS hl)
theorem a_goto (C : axC X l D Y cc nL own Ts rm rt) {off : Int} (tgt : Nat) (hd : decode cc pc = .ok (.goto off, 3)) (ht : (pc : Int) + off = (tgt : Int)) (k : ax X cs sl tgt L ws st) : ax X cs sl pc L ws st := by
  obtain ⟨p, l9, e, R, s, m, args, below, meth, c, Q, D9, A, n9, Y9⟩ := X
  obtain ⟨⟨hx, hb, hml, hown, hts⟩, ⟨rfl, rfl, rfl, rfl, rfl, hr, hlocks⟩, hK, hA⟩ := C
  intro H locs ls hP hD hS hl
  exact lv_goto hx hb hd ht (k H locs ls hP hD hS hl)
theorem a_tableIn (C : axC X l D Y cc nL own Ts rm rt) {dflt lo hi : Int} {offs : Array Int} {len : Nat} {x : Int32} {off : Int} (tgt : Nat) (hd : decode cc pc = .ok (.tableswitch dflt lo hi offs, len)) (h1 : ¬ x.toInt < lo) (h2 : ¬ hi < x.toInt) (ho : offs[(x.toInt - lo).toNat]? = some off) (ht : (pc : Int) + off = (tgt : Int)) (k : ax X cs sl tgt L ws st) : ax X cs sl pc L ws (.int x :: st) := by
  obtain ⟨p, l9, e, R, s, m, args, below, meth, c, Q, D9, A, n9, Y9⟩ := X
  obtain ⟨⟨hx, hb, hml, hown, hts⟩, ⟨rfl, rfl, rfl, rfl, rfl, hr, hlocks⟩, hK, hA⟩ := C
  intro H locs ls hP hD hS hl
  exact lv_tableIn hx hb hd h1 h2 ho ht (k H locs ls hP hD hS hl)
theorem a_tableOut (C : axC X l D Y cc nL own Ts rm rt) {dflt lo hi : Int} {offs : Array Int} {len : Nat} {x : Int32} (tgt : Nat) (hd : decode cc pc = .ok (.tableswitch dflt lo hi offs, len)) (h : x.toInt < lo ∨ hi < x.toInt) (ht : (pc : Int) + dflt = (tgt : Int)) (k : ax X cs sl tgt L ws st) : ax X cs sl pc L ws (.int x :: st) := by
  obtain ⟨p, l9, e, R, s, m, args, below, meth, c, Q, D9, A, n9, Y9⟩ := X
  obtain ⟨⟨hx, hb, hml, hown, hts⟩, ⟨rfl, rfl, rfl, rfl, rfl, hr, hlocks⟩, hK, hA⟩ := C
  intro H locs ls hP hD hS hl
  exact lv_tableOut hx hb hd h ht (k H locs ls hP hD hS hl)
theorem a_lookup (C : axC X l D Y cc nL own Ts rm rt) {dflt : Int} {ps : Array (Int × Int)} {len : Nat} {x : Int32} {off : Int} (tgt : Nat) (hd : decode cc pc = .ok (.lookupswitch dflt ps, len)) (hp : (ps.toList.zip (ps.toList.drop 1)).all (fun (a, next) => a.1 < next.1) = true) (ho : Op.lookupswitch.offset ps.toList dflt x.toInt = off) (ht : (pc : Int) + off = (tgt : Int)) (k : ax X cs sl tgt L ws st) : ax X cs sl pc L ws (.int x :: st) := by
  obtain ⟨p, l9, e, R, s, m, args, below, meth, c, Q, D9, A, n9, Y9⟩ := X
  obtain ⟨⟨hx, hb, hml, hown, hts⟩, ⟨rfl, rfl, rfl, rfl, rfl, hr, hlocks⟩, hK, hA⟩ := C
  intro H locs ls hP hD hS hl
  exact lv_lookup hx hb hd hp ho ht (k H locs ls hP hD hS hl)
theorem a_ldc (C : axC X l D Y cc nL own Ts rm rt) {index : Nat} (v : Int32) (hd : decode cc pc = .ok (.ldc index, 2)) (hc : Cond.constant own index v ∈ Ts) (k : ax X cs sl (pc + 2) L ws (.int v :: st)) : ax X cs sl pc L ws st := by
  obtain ⟨p, l9, e, R, s, m, args, below, meth, c, Q, D9, A, n9, Y9⟩ := X
  obtain ⟨⟨hx, hb, hml, hown, hts⟩, ⟨rfl, rfl, rfl, rfl, rfl, hr, hlocks⟩, hK, hA⟩ := C
  intro H locs ls hP hD hS hl
  exact lv_ldc hx hb hown (hts _ hc) hd (k H locs ls hP hD hS hl)
theorem a_ldc2 (C : axC X l D Y cc nL own Ts rm rt) {index : Nat} (v : Int64) (hd : decode cc pc = .ok (.ldc2_w index, 3)) (hc : Cond.constantLong own index v ∈ Ts) (k : ax X cs sl (pc + 3) L ws (.long v :: st)) : ax X cs sl pc L ws st := by
  obtain ⟨p, l9, e, R, s, m, args, below, meth, c, Q, D9, A, n9, Y9⟩ := X
  obtain ⟨⟨hx, hb, hml, hown, hts⟩, ⟨rfl, rfl, rfl, rfl, rfl, hr, hlocks⟩, hK, hA⟩ := C
  intro H locs ls hP hD hS hl
  exact lv_ldc2 hx hb hown (hts _ hc) hd (k H locs ls hP hD hS hl)
theorem a_ldcw (C : axC X l D Y cc nL own Ts rm rt) {index : Nat} (v : Int32) (hd : decode cc pc = .ok (.ldc_w index, 3)) (hc : Cond.constant own index v ∈ Ts) (k : ax X cs sl (pc + 3) L ws (.int v :: st)) : ax X cs sl pc L ws st := by
  obtain ⟨p, l9, e, R, s, m, args, below, meth, c, Q, D9, A, n9, Y9⟩ := X
  obtain ⟨⟨hx, hb, hml, hown, hts⟩, ⟨rfl, rfl, rfl, rfl, rfl, hr, hlocks⟩, hK, hA⟩ := C
  intro H locs ls hP hD hS hl
  exact lv_ldcw hx hb hown (hts _ hc) hd (k H locs ls hP hD hS hl)
theorem a_copyi (C : axC X l D Y cc nL own Ts rm rt) {index : Nat} (hd : decode cc pc = .ok (.invokestatic index, 3)) (hlk : ∀ w ∈ ([.methodLink own index arraycopyName, .native arraycopyName, .static arraycopyName, .initialized "java/lang/System"] : List Cond), w ∈ Ts) (hroom : 1 ≤ rm.frames ∧ 8 + (nativeFrameWords "java/lang/System" "arraycopy" 5 + 11) ≤ rm.locals) (hW : (st.map fun v => v.category).sum ≤ 8) {a a0 n0 n1 : Nat} {f g : Nat → Int32} {sp dp n : Int32} (q0 q1 : Nat) (ha0 : ws[q0]? = some (a0, .inl (Y 1, n0, .inl f))) (ha1 : ws[q1]? = some (a, .inl (Y 1, n1, .inl g)))
    (h1 : ¬ sp < 0) (h2 : ¬ dp < 0) (h3 : ¬ n < 0) (h4 : sp.toNatClampNeg + n.toNatClampNeg ≤ n0) (h5 : dp.toNatClampNeg + n.toNatClampNeg ≤ n1)
    (kk : ax X cs sl (pc + 3) L (ws.set q1 (a, .inl (Y 1, n1, .inl (va_cpy f g sp.toNatClampNeg dp.toNatClampNeg n.toNatClampNeg)))) st) : ax X cs sl pc L ws (.int n :: .int dp :: .ref a :: .int sp :: .ref a0 :: st) := by
  obtain ⟨p, l9, e, R, s, m, args, below, meth, c, Q, D9, A, n9, Y9⟩ := X
  obtain ⟨⟨hx, hb, hml, hown, hts⟩, ⟨rfl, rfl, rfl, rfl, rfl, hr, hlocks⟩, hK, hA⟩ := C
  intro H locs ls hP hD hS hl
  refine va_copyi hx hb (by rw [hml]; exact hl.1.symm) hown (hts _ (hlk _ (by simp))) (hts _ (hlk _ (by simp))) (hts _ (hlk _ (by simp))) (hts _ (hlk _ (by simp))) hK.1 hP hD hS q0 q1 1 1 ha0 ha1 rfl rfl rfl h1 h2 h3 h4 h5 (fun i _ => rfl) hroom.1 (by have := hroom.2; omega) hd (fun H1 locs1 hP1 hD1 hS1 => kk H1 locs1 ls hP1 hD1 hS1 hl)
/-- a field: the words of its class and its link are among the method's -/
def aF (Ts : List Cond) (own : String) (index ci k : Nat) : Prop := ∃ (Cn : String) (T : u_T) (N : Nat), vwCl[ci]? = some (Cn, T, N) ∧ (∀ w ∈ u_ws Cn T N, w ∈ Ts) ∧ k < N ∧ Cond.fieldLink own index (T k).1 (T k).2.1 (T k).2.2.1 ∈ Ts
/-- a field's type, and whether it is final -/
def aG (ci k : Nat) (ty : FieldType) (fin : Bool) : Prop := ∃ (Cn : String) (T : u_T) (N : Nat) (ty0 : Nat → FieldType), vwCl[ci]? = some (Cn, T, N) ∧ (∀ k, k < N → parseFieldDescriptor (T k).2.2.1 = some (ty0 k)) ∧ (∀ a, a < N → ∀ b, b < N → a ≠ b → (T a).2.1 ≠ (T b).2.1) ∧ (T k).2.2.2 = fin ∧ parseFieldDescriptor (T k).2.2.1 = some ty ∧ (T k).1 = Cn
theorem a_get (C : axC X l D Y cc nL own Ts rm rt) {index ci k a : Nat} {fs : List Value} {v : Value} (hF : aF Ts own index ci k) (hd : decode cc pc = .ok (.getfield index, 3)) (q0 : Nat) (he : ws[q0]? = some (a, .inr (ci, fs))) (hv : fs[k]? = some v) (kk : ax X cs sl (pc + 3) L ws (v :: st)) : ax X cs sl pc L ws (.ref a :: st) := by
  obtain ⟨p, l9, e, R, s, m, args, below, meth, c, Q, D9, A, n9, Y9⟩ := X
  obtain ⟨⟨hx, hb, hml, hown, hts⟩, ⟨rfl, rfl, rfl, rfl, rfl, hr, hlocks⟩, hK, hA⟩ := C
  intro H locs ls hP hD hS hl
  obtain ⟨Cn, T, N, h1, h2, h3, h4⟩ := hF
  exact va_get hx hb hts h2 hown hK.1 hP q0 he h1 k h3 (hts _ h4) (fun _ h9 => h9) hv hd (kk H locs ls hP hD hS hl)
theorem a_put (C : axC X l D Y cc nL own Ts rm rt) {index ci k a : Nat} {fs : List Value} {v : Value} {ty : FieldType} (hF : aF Ts own index ci k) (hG : aG ci k ty false) (hd : decode cc pc = .ok (.putfield index, 3)) (q0 : Nat) (he : ws[q0]? = some (a, .inr (ci, fs))) (hn : narrow ty v = v) (hfit : fits ty v = true) (hlen : k < fs.length) (kk : ax X cs sl (pc + 3) L (ws.set q0 (a, .inr (ci, fs.set k v))) st) : ax X cs sl pc L ws (v :: .ref a :: st) := by
  obtain ⟨p, l9, e, R, s, m, args, below, meth, c, Q, D9, A, n9, Y9⟩ := X
  obtain ⟨⟨hx, hb, hml, hown, hts⟩, ⟨rfl, rfl, rfl, rfl, rfl, hr, hlocks⟩, hK, hA⟩ := C
  intro H locs ls hP hD hS hl
  obtain ⟨Cn, T, N, h1, h2, h3, h4⟩ := hF
  obtain ⟨Cn', T', N', ty0, g1, g2, g3, g4, g5, g6⟩ := hG
  cases Option.some.inj (h1.symm.trans g1)
  exact va_put hx hb hts h2 ty0 g2 g3 hown hK.1 hP hD hS q0 he h1 k h3 (hts _ h4) (fun _ h9 => h9) g4 g5 hn hfit hlen hd (fun H1 locs1 hP1 hD1 hS1 => kk H1 locs1 ls hP1 hD1 hS1 hl)
theorem a_iald (C : axC X l D Y cc nL own Ts rm rt) {a n : Nat} {f : Nat → Int32} {i : Int32} (hd : decode cc pc = .ok (.iaload, 1)) (q0 : Nat) (he : ws[q0]? = some (a, .inl (Y 1, n, .inl f))) (hin : vp_in i n) (kk : ax X cs sl (pc + 1) L ws (.int (f i.toNatClampNeg) :: st)) : ax X cs sl pc L ws (.int i :: .ref a :: st) := by
  obtain ⟨p, l9, e, R, s, m, args, below, meth, c, Q, D9, A, n9, Y9⟩ := X
  obtain ⟨⟨hx, hb, hml, hown, hts⟩, ⟨rfl, rfl, rfl, rfl, rfl, hr, hlocks⟩, hK, hA⟩ := C
  intro H locs ls hP hD hS hl
  exact va_iald hx hb hK.1 hP q0 1 he rfl hin hd (kk H locs ls hP hD hS hl)
theorem a_cald (C : axC X l D Y cc nL own Ts rm rt) {a n : Nat} {f : Nat → Int32} {i : Int32} (hd : decode cc pc = .ok (.caload, 1)) (q0 : Nat) (he : ws[q0]? = some (a, .inl (Y 0, n, .inl f))) (hin : vp_in i n) (kk : ax X cs sl (pc + 1) L ws (.int (f i.toNatClampNeg) :: st)) : ax X cs sl pc L ws (.int i :: .ref a :: st) := by
  obtain ⟨p, l9, e, R, s, m, args, below, meth, c, Q, D9, A, n9, Y9⟩ := X
  obtain ⟨⟨hx, hb, hml, hown, hts⟩, ⟨rfl, rfl, rfl, rfl, rfl, hr, hlocks⟩, hK, hA⟩ := C
  intro H locs ls hP hD hS hl
  exact va_cald hx hb hK.1 hP q0 0 he rfl hin hd (kk H locs ls hP hD hS hl)
theorem a_zald (C : axC X l D Y cc nL own Ts rm rt) {a n : Nat} {f : Nat → Int32} {i : Int32} (hd : decode cc pc = .ok (.baload, 1)) (q0 : Nat) (he : ws[q0]? = some (a, .inl (Y 3, n, .inl f))) (hin : vp_in i n) (kk : ax X cs sl (pc + 1) L ws (.int (f i.toNatClampNeg) :: st)) : ax X cs sl pc L ws (.int i :: .ref a :: st) := by
  obtain ⟨p, l9, e, R, s, m, args, below, meth, c, Q, D9, A, n9, Y9⟩ := X
  obtain ⟨⟨hx, hb, hml, hown, hts⟩, ⟨rfl, rfl, rfl, rfl, rfl, hr, hlocks⟩, hK, hA⟩ := C
  intro H locs ls hP hD hS hl
  exact va_zald hx hb hK.1 hP q0 3 he rfl hin hd (kk H locs ls hP hD hS hl)
theorem a_lald (C : axC X l D Y cc nL own Ts rm rt) {a n : Nat} {f : Nat → Int64} {i : Int32} (hd : decode cc pc = .ok (.laload, 1)) (q0 : Nat) (he : ws[q0]? = some (a, .inl (Y 2, n, .inr (.inl f)))) (hin : vp_in i n) (kk : ax X cs sl (pc + 1) L ws (.long (f i.toNatClampNeg) :: st)) : ax X cs sl pc L ws (.int i :: .ref a :: st) := by
  obtain ⟨p, l9, e, R, s, m, args, below, meth, c, Q, D9, A, n9, Y9⟩ := X
  obtain ⟨⟨hx, hb, hml, hown, hts⟩, ⟨rfl, rfl, rfl, rfl, rfl, hr, hlocks⟩, hK, hA⟩ := C
  intro H locs ls hP hD hS hl
  exact va_lald hx hb hK.1 hP q0 2 he rfl hin hd (kk H locs ls hP hD hS hl)
theorem a_iast (C : axC X l D Y cc nL own Ts rm rt) {a n : Nat} {f : Nat → Int32} {i x : Int32} (hd : decode cc pc = .ok (.iastore, 1)) (q0 : Nat) (he : ws[q0]? = some (a, .inl (Y 1, n, .inl f))) (hin : vp_in i n) (kk : ax X cs sl (pc + 1) L (ws.set q0 (a, .inl (Y 1, n, .inl (upd f i.toNatClampNeg x)))) st) : ax X cs sl pc L ws (.int x :: .int i :: .ref a :: st) := by
  obtain ⟨p, l9, e, R, s, m, args, below, meth, c, Q, D9, A, n9, Y9⟩ := X
  obtain ⟨⟨hx, hb, hml, hown, hts⟩, ⟨rfl, rfl, rfl, rfl, rfl, hr, hlocks⟩, hK, hA⟩ := C
  intro H locs ls hP hD hS hl
  exact va_iast hx hb hK.1 hP hD hS q0 1 he rfl hin hd (fun H1 locs1 hP1 hD1 hS1 => kk H1 locs1 ls hP1 hD1 hS1 hl)
theorem a_cast (C : axC X l D Y cc nL own Ts rm rt) {a n : Nat} {f : Nat → Int32} {i x : Int32} (hd : decode cc pc = .ok (.castore, 1)) (q0 : Nat) (he : ws[q0]? = some (a, .inl (Y 0, n, .inl f))) (hin : vp_in i n) (kk : ax X cs sl (pc + 1) L (ws.set q0 (a, .inl (Y 0, n, .inl (upd f i.toNatClampNeg (vp_nar .char x))))) st) : ax X cs sl pc L ws (.int x :: .int i :: .ref a :: st) := by
  obtain ⟨p, l9, e, R, s, m, args, below, meth, c, Q, D9, A, n9, Y9⟩ := X
  obtain ⟨⟨hx, hb, hml, hown, hts⟩, ⟨rfl, rfl, rfl, rfl, rfl, hr, hlocks⟩, hK, hA⟩ := C
  intro H locs ls hP hD hS hl
  exact va_cast hx hb hK.1 hP hD hS q0 0 he rfl hin hd (fun H1 locs1 hP1 hD1 hS1 => kk H1 locs1 ls hP1 hD1 hS1 hl)
theorem a_zast (C : axC X l D Y cc nL own Ts rm rt) {a n : Nat} {f : Nat → Int32} {i x : Int32} (hd : decode cc pc = .ok (.bastore, 1)) (q0 : Nat) (he : ws[q0]? = some (a, .inl (Y 3, n, .inl f))) (hin : vp_in i n) (kk : ax X cs sl (pc + 1) L (ws.set q0 (a, .inl (Y 3, n, .inl (upd f i.toNatClampNeg (vp_nar .boolean x))))) st) : ax X cs sl pc L ws (.int x :: .int i :: .ref a :: st) := by
  obtain ⟨p, l9, e, R, s, m, args, below, meth, c, Q, D9, A, n9, Y9⟩ := X
  obtain ⟨⟨hx, hb, hml, hown, hts⟩, ⟨rfl, rfl, rfl, rfl, rfl, hr, hlocks⟩, hK, hA⟩ := C
  intro H locs ls hP hD hS hl
  exact va_zast hx hb hK.1 hP hD hS q0 3 he rfl hin hd (fun H1 locs1 hP1 hD1 hS1 => kk H1 locs1 ls hP1 hD1 hS1 hl)
theorem a_last (C : axC X l D Y cc nL own Ts rm rt) {a n : Nat} {f : Nat → Int64} {i : Int32} {x : Int64} (hd : decode cc pc = .ok (.lastore, 1)) (q0 : Nat) (he : ws[q0]? = some (a, .inl (Y 2, n, .inr (.inl f)))) (hin : vp_in i n) (kk : ax X cs sl (pc + 1) L (ws.set q0 (a, .inl (Y 2, n, .inr (.inl (vp_updL f i.toNatClampNeg x))))) st) : ax X cs sl pc L ws (.long x :: .int i :: .ref a :: st) := by
  obtain ⟨p, l9, e, R, s, m, args, below, meth, c, Q, D9, A, n9, Y9⟩ := X
  obtain ⟨⟨hx, hb, hml, hown, hts⟩, ⟨rfl, rfl, rfl, rfl, rfl, hr, hlocks⟩, hK, hA⟩ := C
  intro H locs ls hP hD hS hl
  exact va_last hx hb hK.1 hP hD hS q0 2 he rfl hin hd (fun H1 locs1 hP1 hD1 hS1 => kk H1 locs1 ls hP1 hD1 hS1 hl)
theorem a_alen (C : axC X l D Y cc nL own Ts rm rt) {a t0 : Nat} {cA : ClassId} {x : vp_A} {ty : FieldType} (hd : decode cc pc = .ok (.arraylength, 1)) (q0 : Nat) (he : ws[q0]? = some (a, .inl (cA, x))) (ht : (tysOf Y)[t0]? = some (cA, ty)) (kk : ax X cs sl (pc + 1) L ws (.int (Int32.ofNat x.1) :: st)) : ax X cs sl pc L ws (.ref a :: st) := by
  obtain ⟨p, l9, e, R, s, m, args, below, meth, c, Q, D9, A, n9, Y9⟩ := X
  obtain ⟨⟨hx, hb, hml, hown, hts⟩, ⟨rfl, rfl, rfl, rfl, rfl, hr, hlocks⟩, hK, hA⟩ := C
  intro H locs ls hP hD hS hl
  exact va_alen hx hb hK.1 hP q0 t0 he ht rfl hd (kk H locs ls hP hD hS hl)
theorem a_aldq (C : axC X l D Y cc nL own Ts rm rt) {a n v : Nat} {f : Nat → Option Nat} {i : Int32} (hd : decode cc pc = .ok (.aaload, 1)) (q0 : Nat) (he : ws[q0]? = some (a, .inl (Y 4, n, .inr (.inr (.inr (.inr f)))))) (hin : vp_in i n) (hv : f i.toNatClampNeg = some v) (kk : ax X cs sl (pc + 1) L ws (.ref v :: st)) : ax X cs sl pc L ws (.int i :: .ref a :: st) := by
  obtain ⟨p, l9, e, R, s, m, args, below, meth, c, Q, D9, A, n9, Y9⟩ := X
  obtain ⟨⟨hx, hb, hml, hown, hts⟩, ⟨rfl, rfl, rfl, rfl, rfl, hr, hlocks⟩, hK, hA⟩ := C
  intro H locs ls hP hD hS hl
  refine va_aldq hx hb hK.1 hP q0 4 he rfl hin hd ?_
  rw [hv]
  exact kk H locs ls hP hD hS hl
theorem a_mmax (C : axC X l D Y cc nL own Ts rm rt) {index : Nat} {x y : Int32} (hd : decode cc pc = .ok (.invokestatic index, 3)) (hlk : ∀ w ∈ ([.methodLink own index Lib.Math.max.name, .static Lib.Math.max.name, .initialized "java/lang/Math", .code Lib.Math.max.name Lib.Math.max.code 2 (some .int)] : List Cond), w ∈ Ts) (hroom : (1 ≤ rm.frames ∧ 21 ≤ rm.locals) ∧ (cs ≤ rm.cells ∧ sl ≤ rm.slots)) (hW : (st.map fun v => v.category).sum ≤ 8) (kk : ax X cs sl (pc + 3) L ws (.int (jmax x y) :: st)) : ax X cs sl pc L ws (.int y :: .int x :: st) := by
  obtain ⟨p, l9, e, R, s, m, args, below, meth, c, Q, D9, A, n9, Y9⟩ := X
  obtain ⟨⟨hx, hb, hml, hown, hts⟩, ⟨rfl, rfl, rfl, rfl, rfl, hr, hlocks⟩, hK, hA⟩ := C
  intro H locs ls hP hD hS hl
  refine va_mmax hx hb (by rw [hml]; exact hl.1.symm) hown (hts _ (hlk _ (by simp))) (hts _ (hlk _ (by simp))) (hts _ (hlk _ (by simp))) (hts _ (hlk _ (by simp))) hroom.1.1 (by have := hroom.1.2; omega) hroom.2.1 hroom.2.2 hd (kk H locs ls hP hD hS hl)
theorem a_mmin (C : axC X l D Y cc nL own Ts rm rt) {index : Nat} {x y : Int32} (hd : decode cc pc = .ok (.invokestatic index, 3)) (hlk : ∀ w ∈ ([.methodLink own index Lib.Math.min.name, .static Lib.Math.min.name, .initialized "java/lang/Math", .code Lib.Math.min.name Lib.Math.min.code 2 (some .int)] : List Cond), w ∈ Ts) (hroom : (1 ≤ rm.frames ∧ 21 ≤ rm.locals) ∧ (cs ≤ rm.cells ∧ sl ≤ rm.slots)) (hW : (st.map fun v => v.category).sum ≤ 8) (kk : ax X cs sl (pc + 3) L ws (.int (jmin x y) :: st)) : ax X cs sl pc L ws (.int y :: .int x :: st) := by
  obtain ⟨p, l9, e, R, s, m, args, below, meth, c, Q, D9, A, n9, Y9⟩ := X
  obtain ⟨⟨hx, hb, hml, hown, hts⟩, ⟨rfl, rfl, rfl, rfl, rfl, hr, hlocks⟩, hK, hA⟩ := C
  intro H locs ls hP hD hS hl
  refine va_mmin hx hb (by rw [hml]; exact hl.1.symm) hown (hts _ (hlk _ (by simp))) (hts _ (hlk _ (by simp))) (hts _ (hlk _ (by simp))) (hts _ (hlk _ (by simp))) hroom.1.1 (by have := hroom.1.2; omega) hroom.2.1 hroom.2.2 hd (kk H locs ls hP hD hS hl)
theorem a_mabs (C : axC X l D Y cc nL own Ts rm rt) {index : Nat} {x : Int32} (hd : decode cc pc = .ok (.invokestatic index, 3)) (hlk : ∀ w ∈ ([.methodLink own index Lib.Math.abs.name, .static Lib.Math.abs.name, .initialized "java/lang/Math", .code Lib.Math.abs.name Lib.Math.abs.code 1 (some .int)] : List Cond), w ∈ Ts) (hroom : (1 ≤ rm.frames ∧ 21 ≤ rm.locals) ∧ (cs ≤ rm.cells ∧ sl ≤ rm.slots)) (hW : (st.map fun v => v.category).sum ≤ 8) (kk : ax X cs sl (pc + 3) L ws (.int (jabs x) :: st)) : ax X cs sl pc L ws (.int x :: st) := by
  obtain ⟨p, l9, e, R, s, m, args, below, meth, c, Q, D9, A, n9, Y9⟩ := X
  obtain ⟨⟨hx, hb, hml, hown, hts⟩, ⟨rfl, rfl, rfl, rfl, rfl, hr, hlocks⟩, hK, hA⟩ := C
  intro H locs ls hP hD hS hl
  refine va_mabs hx hb (by rw [hml]; exact hl.1.symm) hown (hts _ (hlk _ (by simp))) (hts _ (hlk _ (by simp))) (hts _ (hlk _ (by simp))) (hts _ (hlk _ (by simp))) hroom.1.1 (by have := hroom.1.2; omega) hroom.2.1 hroom.2.2 hd (kk H locs ls hP hD hS hl)
theorem a_iret (C : axC X l D Y cc nL own Ts rm (some .int)) {post : Option Value → va_W → Prop} (hQ : axQ X cs sl post) {v : Int32} (hd : decode cc pc = .ok (.ireturn, 1)) (hp : post (some (.int v)) ws) : ax X cs sl pc L ws [.int v] := by
  obtain ⟨p, l9, e, R, s, m, args, below, meth, c, Q, D9, A, n9, Y9⟩ := X
  obtain ⟨⟨hx, hb, hml, hown, hts⟩, ⟨rfl, rfl, rfl, rfl, rfl, hr, hlocks⟩, hK, hA⟩ := C
  intro H locs ls hP hD hS hl
  subst hQ
  exact W.iret hx hb hr (fun t ht hW => ⟨⟨_, _, hp, rfl, by rw [ht]; exact hP, hD⟩, hS.F ht⟩) hS.2.2 hd hlocks
theorem a_lret (C : axC X l D Y cc nL own Ts rm (some .long)) {post : Option Value → va_W → Prop} (hQ : axQ X cs sl post) {v : Int64} (hd : decode cc pc = .ok (.lreturn, 1)) (hp : post (some (.long v)) ws) : ax X cs sl pc L ws [.long v] := by
  obtain ⟨p, l9, e, R, s, m, args, below, meth, c, Q, D9, A, n9, Y9⟩ := X
  obtain ⟨⟨hx, hb, hml, hown, hts⟩, ⟨rfl, rfl, rfl, rfl, rfl, hr, hlocks⟩, hK, hA⟩ := C
  intro H locs ls hP hD hS hl
  subst hQ
  exact W.lret hx hb hr (fun t ht hW => ⟨⟨_, _, hp, rfl, by rw [ht]; exact hP, hD⟩, hS.F ht⟩) hS.2.2 hd hlocks
theorem a_zret (C : axC X l D Y cc nL own Ts rm (some .boolean)) {post : Option Value → va_W → Prop} (hQ : axQ X cs sl post) {v : Int32} (hv : v = 0 ∨ v = 1) (hd : decode cc pc = .ok (.ireturn, 1)) (hp : post (some (.int v)) ws) : ax X cs sl pc L ws [.int v] := by
  obtain ⟨p, l9, e, R, s, m, args, below, meth, c, Q, D9, A, n9, Y9⟩ := X
  obtain ⟨⟨hx, hb, hml, hown, hts⟩, ⟨rfl, rfl, rfl, rfl, rfl, hr, hlocks⟩, hK, hA⟩ := C
  intro H locs ls hP hD hS hl
  subst hQ
  exact W.zret hx hb hr (by rcases hv with rfl | rfl <;> rfl) (fun t ht hW => ⟨⟨_, _, hp, rfl, by rw [ht]; exact hP, hD⟩, hS.F ht⟩) hS.2.2 hd hlocks
theorem a_vret (C : axC X l D Y cc nL own Ts rm none) {post : Option Value → va_W → Prop} (hQ : axQ X cs sl post) (hd : decode cc pc = .ok (.return_, 1)) (hp : post none ws) : ax X cs sl pc L ws [] := by
  obtain ⟨p, l9, e, R, s, m, args, below, meth, c, Q, D9, A, n9, Y9⟩ := X
  obtain ⟨⟨hx, hb, hml, hown, hts⟩, ⟨rfl, rfl, rfl, rfl, rfl, hr, hlocks⟩, hK, hA⟩ := C
  intro H locs ls hP hD hS hl
  subst hQ
  exact W.vret hx hb hr (fun t ht hW => ⟨⟨_, _, hp, rfl, by rw [ht]; exact hP, hD⟩, hS.F ht⟩) hS.2.2 hd hlocks
theorem kill_at : ∀ {is : List Nat} {L : List (Option Value)} {k : Nat} {v : Value}, (is.foldl (fun L i => L.set i none) L)[k]? = some (some v) → L[k]? = some (some v) := by
  intro is
  induction is with
  | nil => intro L k v h; exact h
  | cons i is ih =>
    intro L k v h
    have h1 := ih (L := L.set i none) h
    by_cases hk : i = k
    · subst hk
      have hlt : i < L.length := by
        have := (List.getElem?_eq_some_iff.mp h1).1
        simpa using this
      rw [List.getElem?_set_self hlt] at h1
      cases h1
    · rw [List.getElem?_set_ne hk] at h1
      exact h1
theorem a_kill (is : List Nat) (k : ax X cs sl pc (is.foldl (fun L i => L.set i none) L) ws st) : ax X cs sl pc L ws st := by
  obtain ⟨p, l9, e, R, s, m, args, below, meth, c, Q, D9, A, n9, Y9⟩ := X
  intro H locs ls hP hD hS hl
  refine k H locs ls hP hD hS ⟨hl.1, hl.2.1, fun q hq => ?_⟩
  obtain ⟨k0, h1, h2⟩ := lvOf_inv hq
  have h3 := lvOf_mem (i := 0) (kill_at h2)
  rw [← h1] at h3
  exact hl.2.2 q h3
theorem ax_ws {ws' : va_W} (h : ws = ws') (k : ax X cs sl pc L ws' st) : ax X cs sl pc L ws st := by
  subst h; exact k
end AXR
