/-! ===== the law: its script, small facts of the relations ===== -/
abbrev LWS : List Cond := Cond.initialized RX11 :: BIG
/-- the law's script, which nobody writes -/
def axS : cxT → Nat → Nat → (Nat → Int32) → Prop := fun ⟨_, _, _, _, s, _, _, _, _, _, _, _, A, _, _⟩ b Ln xs => va_X b Ln xs s s.heap ∧ b < s.heap.size ∧ ¬ A b
section AXL
variable {X : cxT} {l : Launch} {D : va_G} {Y : Nat → ClassId} {cc : ByteArray} {nL : Nat} {own : String} {Ts : List Cond} {rm : Room} {rt : Option FieldType} {cs sl pc : Nat} {L : List (Option Value)} {ws : va_W} {st : List Value}
theorem a_sld (C : axC X l D Y cc nL own Ts rm rt) {b Ln : Nat} {xs : Nat → Int32} {i : Int32} (hX : axS X b Ln xs) (hin : vp_in i Ln) (hd : decode cc pc = .ok (.iaload, 1)) (kk : ax X cs sl (pc + 1) L ws (.int (xs i.toNatClampNeg) :: st)) : ax X cs sl pc L ws (.int i :: .ref b :: st) := by
  obtain ⟨p, l9, e, R, s, m, args, below, meth, c, Q, D9, A, n9, Y9⟩ := X
  obtain ⟨⟨hx, hb, hml, hown, hts⟩, ⟨rfl, rfl, rfl, rfl, rfl, hr, hlocks⟩, hK, hA⟩ := C
  obtain ⟨h1, h2, h3⟩ := hX
  intro H locs ls hP hD hS hl
  exact va_sld hx hb h1 h2 h3 hS hin hd (kk H locs ls hP hD hS hl)
theorem a_scrlen (C : axC X l D Y cc nL own Ts rm rt) {b Ln : Nat} {xs : Nat → Int32} (hX : axS X b Ln xs) (hd : decode cc pc = .ok (.arraylength, 1)) (kk : ax X cs sl (pc + 1) L ws (.int (nI Ln) :: st)) : ax X cs sl pc L ws (.ref b :: st) := by
  obtain ⟨p, l9, e, R, s, m, args, below, meth, c, Q, D9, A, n9, Y9⟩ := X
  obtain ⟨⟨hx, hb, hml, hown, hts⟩, ⟨rfl, rfl, rfl, rfl, rfl, hr, hlocks⟩, hK, hA⟩ := C
  obtain ⟨h1, h2, h3⟩ := hX
  intro H locs ls hP hD hS hl
  exact va_slen hx hb h1 h2 h3 hS hd (kk H locs ls hP hD hS hl)
end AXL
theorem gu_eq {n : Nat} {cells sights : Int32} {amount sightOf : Nat → Int32} (h : guR n cells amount sights sightOf) : sights = cells := h.1
theorem hi_eq {n m T : Nat} {next size undos : Int32} {rm rs rt : Nat → Int32} {rw rd ro rp : Nat → Nat → Int32} {undone : Nat → Int32} (h : hR n m T next size rm rs rt rw rd ro rp undos undone) : undos = size := by
  obtain ⟨nx, u, -, -, -, e1, e2, -⟩ := h
  rw [e1, e2]
theorem tx_eq {len taped : Int32} {signs tape : Nat → Int32} (h : txR len signs taped tape) : taped = len := by
  obtain ⟨k, -, e1, e2, -⟩ := h
  rw [e1, e2]
theorem to_eq {s s' : Int32} {a a' : Nat → Int64} (h : toR s a s' a') : s' = s := by
  obtain ⟨k, -, e1, e2, -⟩ := h
  rw [e1, e2]
theorem laR_dk {n : Nat} (hn : n ≤ 12) {base dyke base' dyke' dk : Nat → Int32} (h : laR n base dyke base' dyke') (hd : ∀ c, c < 12 → dk c = dyke' c) : laR n base dyke base' dk := ⟨fun c hc => ⟨(h.1 c hc).1, (hd c (by omega)).trans (h.1 c hc).2⟩, h.2⟩
theorem ss_0 : SS 1 0 0 (fun _ => 0) (fun _ => 0) (fun _ => 0) (fun _ => 0) 0 0 0 (fun _ => 0) := by
  refine ⟨⟨fun c _ => ⟨Int32.le_refl _, show (0 : Int32) ≤ 999 by decide⟩, fun c _ => ⟨Int32.le_refl _, show (0 : Int32) ≤ 999 by decide⟩, fun k hk => absurd hk (by omega), fun k hk => absurd hk (by omega), ⟨0, by omega, rfl⟩, ⟨0, by omega, rfl⟩, 0, by omega, rfl⟩, fun c _ => rfl, fun c _ => rfl, fun c _ => rfl, fun c _ => rfl, rfl, rfl, rfl⟩
