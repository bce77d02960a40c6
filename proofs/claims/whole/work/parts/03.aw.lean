/-! ===== the walk's own words: one context X, one judgement ax; locals by their places; worlds as lists ===== -/
abbrev cxT : Type := Program × Launch × Env × Room × State × MethodId × Array Value × List Frame × Method × Code × (State → Prop) × va_G × (Nat → Prop) × Nat × (Nat → ClassId)
/-- the array classes: char, int, long, boolean, State -/
abbrev tysOf (Y : Nat → ClassId) : List (ClassId × FieldType) := [(Y 0, .char), (Y 1, .int), (Y 2, .long), (Y 3, .boolean), (Y 4, .object "SandKeepsSea$State")]
/-- the links to private members of nest mates -/
def nestT : List (String × Nat × MethodName × String) := [(RX11, 105, yX0_init, RX11), (RX11, 18, yX8_init, RX11), (RX11, 25, yX5_init, RX11), (RX11, 32, yX2_init, RX11), (RX11, 9, yX10_init, RX11), (RX2, 45, yX11_isDigit, RX11), (RX2, 49, yX11_within, RX11), (RX5, 37, yX11_isDigit, RX11), (RX6, 67, yX11_isDigit, RX11), (RX6, 93, yX11_clamp, RX11), (RX7, 64, yX11_wash, RX11), (RX9, 112, yX11_wash, RX11), (RX9, 128, yX11_within, RX11)]
/-- the String constants: their class, place, text; the address of number i is Y (20 + i) -/
def strT : List (String × Nat × String) := [(RX11, 148, "no such cell"), (RX11, 175, "nothing such is told of a cell"), (RX11, 178, "no such child"), (RX11, 201, "nothing such is told of a child"), (RX11, 385, "the row has no such number"), (RX12, 224, "nwcm"), (RX12, 232, "<>="), (RX12, 234, "+-"), (RX12, 236, "*/"), (RX12, 377, "ghstmbw"), (RX12, 379, "abcdefgh"), (RX12, 381, "abcdefghijkl")]
/-- the model's seven texts, numbers 5 .. 11 -/
def lenM : List Nat := [4, 3, 2, 2, 7, 8, 12]
def bytM : List (List Int32) := [[110, 119, 99, 109], [60, 62, 61], [43, 45], [42, 47], [103, 104, 115, 116, 109, 98, 119], [97, 98, 99, 100, 101, 102, 103, 104], [97, 98, 99, 100, 101, 102, 103, 104, 105, 106, 107, 108]]
/-- Law.PLAIN -/
def plainL : List Int32 := [30, 1001, 10, -3, -1, 1000, 5, -3, -1]
def plainF (j : Nat) : Int32 := plainL.getD j 0
/-- what lies in the heap ahead of the law and is never written: A says what may be written -/
def vE (Y : Nat → ClassId) (A : Nat → Prop) (U : State) (H : Heap) : Prop :=
  (va_Z RX6 "PLAIN" "[I" (.ref (Y 10)) A U H ∧ va_T .int (Y 10) 9 (fun j => .int (plainF j)) A U H) ∧
  (va_Z "java/lang/String" "COMPACT_STRINGS" "Z" (.int 1) A U H ∧ va_Zq "jdk/internal/util/Preconditions" "SIOOBE_FORMATTER" "Ljava/util/function/BiFunction;" A U H ∧ vk_S 7 lenM bytM (fun i => Y (25 + i)) (fun i => Y (40 + i)) A U H) ∧
  (vx_Zq Bundle.tN "UNASSIGNED_STACK" Bundle.steD A U H ∧ vx_Zq Bundle.tN "SUPPRESSED_SENTINEL" Bundle.listD A U H)
theorem vE.moved {Y : Nat → ClassId} {A : Nat → Prop} {u U : State} {H : Heap} (hvm : u.vm.Alike U.vm) (h : vE Y A u H) : vE Y A U H := by
  obtain ⟨⟨h1, h2⟩, ⟨h3, h4, h5⟩, h6, h7⟩ := h
  exact ⟨⟨h1.moved hvm, h2.moved hvm⟩, ⟨h3.moved hvm, h4.moved hvm, h5.moved hvm⟩, h6.moved hvm, h7.moved hvm⟩
theorem vE.kept {Y : Nat → ClassId} {A : Nat → Prop} {U : State} {H H1 : Heap} (h : vE Y A U H) (hq : ∀ a : Nat, a < H.size → ¬ A a → H1[a]? = H[a]?) : vE Y A U H1 := by
  obtain ⟨⟨h1, h2⟩, ⟨h3, h4, h5⟩, h6, h7⟩ := h
  exact ⟨⟨h1.kept hq, h2.kept hq⟩, ⟨h3.kept hq, h4.kept hq, h5.kept hq⟩, h6.kept hq, h7.kept hq⟩
theorem vE.narrow {Y : Nat → ClassId} {A B : Nat → Prop} {U : State} {H : Heap} (h : vE Y A U H) (hAB : ∀ q, B q → A q) : vE Y B U H := by
  obtain ⟨⟨h1, h2⟩, ⟨h3, h4, h5⟩, h6, h7⟩ := h
  exact ⟨⟨h1.narrow hAB, h2.narrow hAB⟩, ⟨h3.narrow hAB, h4.narrow hAB, h5.narrow hAB⟩, h6.narrow hAB, h7.narrow hAB⟩
def vR (Y : Nat → ClassId) (U : State) : Prop := ∀ (i : Nat) (t : String × Nat × String), strT[i]? = some t → vk_R t.1 t.2.1 t.2.2 (Y (20 + i)) U
/-- what every method may take as given: the tables' classes, the links to nest mates, what lies outside -/
def vK (D : va_G) (Y : Nat → ClassId) (A : Nat → Prop) (U : State) : Prop := va_K D vwCl (tysOf Y) U ∧ (∀ t ∈ nestT, va_Nw (.methodLinkNest t.1 t.2.1 t.2.2.1 t.2.2.2) U) ∧ vE Y A U U.heap ∧ vR Y U ∧ va_AO "SandKeepsSea$State" U
theorem vK.call {D : va_G} {Y : Nat → ClassId} {A B : Nat → Prop} {s U : State} {H : Heap} {locs : List Loc} (hW : s.WarmedH U.vm) (hU : U.heap = H) (hS : va_S A s.heap H locs) (hB : ∀ q, B q → A q) (h : vK D Y A s) : vK D Y B U := by
  obtain ⟨h1, h2, h3, h4, h5⟩ := h
  refine ⟨va_K.moved hW.alike h1, fun t ht => va_Nw.warmM hW (h2 t ht), ?_, fun i t hi => vk_R.warm hW (h4 i t hi), va_AO.moved hW.alike h5⟩
  rw [hU]
  exact vE.moved hW.alike ((h3.kept hS.2.1).narrow hB)
theorem vK.calling {D : va_G} {Y : Nat → ClassId} {A : Nat → Prop} {U : State} (g : JFrame) (mk : MethodId) (a : Array Value) (h : vK D Y A U) : vK D Y A (U.calling g mk a) := by
  obtain ⟨h1, h2, h3, h4, h5⟩ := h
  exact ⟨va_K.moved (u := U) (U := U.calling g mk a) (Vm.Alike.refl U.vm) h1, fun t ht => va_Nw.same rfl rfl (h2 t ht), vE.moved (u := U) (U := U.calling g mk a) (Vm.Alike.refl U.vm) h3, fun i t hi => vk_R.same rfl (h4 i t hi), va_AO.moved (u := U) (U := U.calling g mk a) (Vm.Alike.refl U.vm) h5⟩
def lvOf : Nat → List (Option Value) → List (Nat × Value)
  | _, [] => []
  | i, some v :: t => (i, v) :: lvOf (i + 1) t
  | i, none :: t => lvOf (i + 1) t
theorem lvOf_mem : ∀ {L : List (Option Value)} {i k : Nat} {v : Value}, L[k]? = some (some v) → (i + k, v) ∈ lvOf i L := by
  intro L
  induction L with
  | nil => intro i k v h; simp at h
  | cons x t ih =>
    intro i k v h
    cases k with
    | zero =>
      simp at h
      subst h
      exact List.mem_cons_self
    | succ k =>
      rw [List.getElem?_cons_succ] at h
      have h1 := ih (i := i + 1) h
      have e : i + 1 + k = i + (k + 1) := by omega
      rw [e] at h1
      cases x with
      | none => exact h1
      | some w => exact List.mem_cons_of_mem _ h1
theorem lvOf_inv : ∀ {L : List (Option Value)} {i : Nat} {q : Nat × Value}, q ∈ lvOf i L → ∃ k, q.1 = i + k ∧ L[k]? = some (some q.2) := by
  intro L
  induction L with
  | nil => intro i q h; cases h
  | cons x t ih =>
    intro i q h
    cases x with
    | none =>
      obtain ⟨k, h1, h2⟩ := ih (i := i + 1) h
      exact ⟨k + 1, by omega, by rw [List.getElem?_cons_succ]; exact h2⟩
    | some w =>
      rcases List.mem_cons.mp h with h | h
      · subst h
        exact ⟨0, rfl, rfl⟩
      · obtain ⟨k, h1, h2⟩ := ih (i := i + 1) h
        exact ⟨k + 1, by omega, by rw [List.getElem?_cons_succ]; exact h2⟩
theorem ax_at {ls : Array Slot} {nL : Nat} {L : List (Option Value)} {k : Nat} {v : Value} (hl : lv_has ls nL (lvOf 0 L)) (hk : L[k]? = some (some v)) : ls[k]? = some (.val v) := by
  have h := hl.2.2 (0 + k, v) (lvOf_mem hk)
  rw [Nat.zero_add] at h
  exact h
/-- no long lies just ahead of place i -/
def lvk (L : List (Option Value)) (i : Nat) : Bool := match i with
  | 0 => true
  | k + 1 => match L[k]? with
    | some (some w) => w.category == 1
    | _ => true
theorem ax_st1 {ls : Array Slot} {nL i : Nat} {v : Value} {L : List (Option Value)} (hl : lv_has ls nL ((i, v) :: (lvOf 0 L).filter (fun q => !(q.1 == i) && !(q.1 + 1 == i && q.2.category == 2)))) (hok : lvk L i = true) : lv_has ls nL (lvOf 0 (L.set i (some v))) := by
  refine ⟨hl.1, hl.2.1, fun q hq => ?_⟩
  obtain ⟨k, h1, h2⟩ := lvOf_inv hq
  rw [Nat.zero_add] at h1
  refine hl.2.2 q ?_
  by_cases hk : i = k
  · subst hk
    have hlt : i < L.length := by
      have := (List.getElem?_eq_some_iff.mp h2).1
      simpa using this
    rw [List.getElem?_set_self hlt] at h2
    have e : v = q.2 := Option.some.inj (Option.some.inj h2)
    rw [e, ← h1]
    exact List.mem_cons_self
  · rw [List.getElem?_set_ne hk] at h2
    refine List.mem_cons_of_mem _ (List.mem_filter.mpr ⟨?_, ?_⟩)
    · have h3 := lvOf_mem (i := 0) h2
      rw [Nat.zero_add, ← h1] at h3
      exact h3
    · have hne : ¬ q.1 = i := by rw [h1]; exact fun z => hk z.symm
      have hc : ¬ (q.1 + 1 = i ∧ q.2.category = 2) := by
        rintro ⟨z1, z2⟩
        subst z1
        rw [h1] at hok
        simp [lvk, h2, z2] at hok
      simp only [Bool.and_eq_true, Bool.not_eq_true', beq_eq_false_iff_ne, ne_eq, Bool.and_eq_false_iff]
      refine ⟨hne, ?_⟩
      by_cases z : q.1 + 1 = i
      · exact Or.inr (fun z2 => hc ⟨z, z2⟩)
      · exact Or.inl z
theorem ax_st2 {ls : Array Slot} {nL i : Nat} {v : Value} {L : List (Option Value)} (hl : lv_has ls nL ((i, v) :: (lvOf 0 L).filter (fun q => !(q.1 == i) && (!(q.1 == i + 1) && !(q.1 + 1 == i && q.2.category == 2))))) (hok : lvk L i = true) : lv_has ls nL (lvOf 0 ((L.set i (some v)).set (i + 1) none)) := by
  refine ⟨hl.1, hl.2.1, fun q hq => ?_⟩
  obtain ⟨k, h1, h2⟩ := lvOf_inv hq
  rw [Nat.zero_add] at h1
  refine hl.2.2 q ?_
  have hk2 : ¬ i + 1 = k := by
    intro z
    subst z
    have hlt : i + 1 < (L.set i (some v)).length := by
      have := (List.getElem?_eq_some_iff.mp h2).1
      simpa using this
    rw [List.getElem?_set_self hlt] at h2
    cases h2
  rw [List.getElem?_set_ne hk2] at h2
  by_cases hk : i = k
  · subst hk
    have hlt : i < L.length := by
      have := (List.getElem?_eq_some_iff.mp h2).1
      simpa using this
    rw [List.getElem?_set_self hlt] at h2
    have e : v = q.2 := Option.some.inj (Option.some.inj h2)
    rw [e, ← h1]
    exact List.mem_cons_self
  · rw [List.getElem?_set_ne hk] at h2
    refine List.mem_cons_of_mem _ (List.mem_filter.mpr ⟨?_, ?_⟩)
    · have h3 := lvOf_mem (i := 0) h2
      rw [Nat.zero_add, ← h1] at h3
      exact h3
    · have hne : ¬ q.1 = i := by rw [h1]; exact fun z => hk z.symm
      have hne2 : ¬ q.1 = i + 1 := by rw [h1]; exact fun z => hk2 z.symm
      have hc : ¬ (q.1 + 1 = i ∧ q.2.category = 2) := by
        rintro ⟨z1, z2⟩
        subst z1
        rw [h1] at hok
        simp [lvk, h2, z2] at hok
      simp only [Bool.and_eq_true, Bool.not_eq_true', beq_eq_false_iff_ne, ne_eq, Bool.and_eq_false_iff]
      refine ⟨hne, hne2, ?_⟩
      by_cases z : q.1 + 1 = i
      · exact Or.inr (fun z2 => hc ⟨z, z2⟩)
      · exact Or.inl z
/-- the machine at pc with locals L, world ws, operands st comes to its contract's end -/
def ax : cxT → Nat → Nat → Nat → List (Option Value) → va_W → List Value → Prop :=
  fun ⟨p, l, e, R, s, m, args, below, meth, c, Q, D, A, nL, _⟩ cs sl pc L ws st => ∀ (H : Heap) (locs : List Loc) (ls : Array Slot), va_P D vwCl ws H → va_D A ws → va_S A s.heap H locs → lv_has ls nL (lvOf 0 L) → W p l e R s m args below meth c H locs cs sl Q (F0 m pc ls st)
/-- what a method's context says -/
def axC : cxT → Launch → va_G → (Nat → ClassId) → ByteArray → Nat → String → List Cond → Room → Option FieldType → Prop :=
  fun ⟨p, l, _, R, s, m, args, _, meth, c, _, D, A, n, Y⟩ l' D' Y' cc nL own Ts rm rt => CallFix p m c cc nL s args Ts own ∧ (l = l' ∧ D = D' ∧ Y = Y' ∧ n = nL ∧ R = rm ∧ meth.sig.returnType = rt ∧ meth.locks = false) ∧ vK D Y A s ∧ (∀ q, s.heap.size ≤ q → A q)
/-- what its end is: an answer and a world of a kind -/
def amQ (D : va_G) (A : Nat → Prop) (post : Option Value → va_W → Prop) : Array Value → State → Outcome → State → Prop := fun _ st oc t => (∃ (r : Option Value) (w' : va_W), post r w' ∧ oc = .returned r ∧ va_P D vwCl w' t.heap ∧ va_D A w') ∧ va_F A st t
def axQ : cxT → Nat → Nat → (Option Value → va_W → Prop) → Prop :=
  fun ⟨_, _, _, _, s, _, args, below, _, _, Q, D, A, _, _⟩ mc ms post => Q = MQ below (amQ D A post) args s mc ms A
/-- a method's contract: from the world w, with these arguments, to an answer and a world of 'post' -/
def am (l : Launch) (D : va_G) (Y : Nat → ClassId) (y : MethodName) (wy : List Cond) (rm : Room) (av : List Value) (w : va_W) (mc ms : Nat) (post : Option Value → va_W → Prop) : Prop :=
  ∀ sz : Nat, Met l y wy rm (va_Pc av (fun U => U.heap.size = sz ∧ va_P D vwCl w U.heap ∧ vK D Y (va_A w sz) U ∧ va_D (fun _ => True) w)) (amQ D (va_A w sz) post) mc ms (va_A w sz)
theorem lvOf_args {av : List Value} {L0 : List (Option Value)} {ls : Array Slot} {nL : Nat} (h : lv_has ls nL (lv_args 0 av)) (hs : ∀ q ∈ lvOf 0 L0, q ∈ lv_args 0 av) : lv_has ls nL (lvOf 0 L0) := ⟨h.1, h.2.1, fun q hq => h.2.2 q (hs q hq)⟩
/-- a contract out of its walk -/
theorem am.of {l : Launch} {D : va_G} {Y : Nat → ClassId} {y : MethodName} {wy wy' : List Cond} {rm : Room} {av : List Value} {w : va_W} {mc ms : Nat} {post : Option Value → va_W → Prop} {cc : ByteArray} {maxL : Nat} {rt : Option FieldType}
    (hy : plainName y.cls = true) (hw : wy = Cond.code y cc maxL rt :: wy') (own : String) (hown : y.cls = own) (hn : (lg_sl av).length ≤ maxL) (L0 : List (Option Value)) (hL : lvOf 0 L0 = lv_args 0 av)
    (body : ∀ X : cxT, axC X l D Y cc maxL own wy rm rt → axQ X mc ms post → ax X 0 0 0 L0 w []) : am l D Y y wy rm av w mc ms post := by
  intro sz
  refine Met.ofW (cc := cc) (maxL := maxL) (ret := rt) hy hw ?_
  intro p e s m args below meth c s₁ B hml hv
  obtain ⟨rfl, hsz, hP, hK, hD0⟩ := hv
  subst hsz
  have hts := atoms_spec (ws := wy) B.pre
  have hown' : s.vm.findClass own = some m.cls := by rw [← hown]; exact findClass_of_methodNamed B.named
  have hl := lv_entry av (n := maxL) hn
  rw [lg_entry_eq]
  have hb := body (p, l, e, (headSpec wy rm).room, s, m, av.toArray, below, meth, c, MQ below (amQ D (va_A w s.heap.size) post) av.toArray s mc ms (va_A w s.heap.size), D, va_A w s.heap.size, maxL, Y) ⟨⟨B.exec, B.bytes, hml, hown', hts⟩, ⟨rfl, rfl, rfl, rfl, rfl, B.returns, B.notSynchronized⟩, hK, fun q h => Or.inr h⟩ rfl
  exact hb s.heap [] _ hP (hD0.self) va_S.rf (lvOf_args hl (fun q hq => by rw [hL] at hq; exact hq))
/-- a constructor's context -/
def axI : cxT → Prop := fun ⟨_, _, _, _, _, _, _, _, meth, _, _, _, _, _, _⟩ => meth.name = "<init>"
theorem am.ofI {l : Launch} {D : va_G} {Y : Nat → ClassId} {y : MethodName} {wy wy' : List Cond} {rm : Room} {av : List Value} {w : va_W} {mc ms : Nat} {post : Option Value → va_W → Prop} {cc : ByteArray} {maxL : Nat} {rt : Option FieldType}
    (hy : plainName y.cls = true) (hw : wy = Cond.code y cc maxL rt :: wy') (own : String) (hown : y.cls = own) (hi : y.name = "<init>") (hn : (lg_sl av).length ≤ maxL) (L0 : List (Option Value)) (hL : lvOf 0 L0 = lv_args 0 av)
    (body : ∀ X : cxT, axC X l D Y cc maxL own wy rm rt → axQ X mc ms post → axI X → ax X 0 0 0 L0 w []) : am l D Y y wy rm av w mc ms post := by
  intro sz
  refine Met.ofW (cc := cc) (maxL := maxL) (ret := rt) hy hw ?_
  intro p e s m args below meth c s₁ B hml hv
  obtain ⟨rfl, hsz, hP, hK, hD0⟩ := hv
  subst hsz
  have hts := atoms_spec (ws := wy) B.pre
  have hown' : s.vm.findClass own = some m.cls := by rw [← hown]; exact findClass_of_methodNamed B.named
  have hl := lv_entry av (n := maxL) hn
  rw [lg_entry_eq]
  have hb := body (p, l, e, (headSpec wy rm).room, s, m, av.toArray, below, meth, c, MQ below (amQ D (va_A w s.heap.size) post) av.toArray s mc ms (va_A w s.heap.size), D, va_A w s.heap.size, maxL, Y) ⟨⟨B.exec, B.bytes, hml, hown', hts⟩, ⟨rfl, rfl, rfl, rfl, rfl, B.returns, B.notSynchronized⟩, hK, fun q h => Or.inr h⟩ rfl ((name_of_methodNamed B.named B.method).1.trans hi)
  exact hb s.heap [] _ hP (hD0.self) va_S.rf (lvOf_args hl (fun q hq => by rw [hL] at hq; exact hq))
