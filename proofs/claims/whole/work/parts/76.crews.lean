/-! ===== the model's crews ===== -/
theorem t_crewHolds {n m T : Nat} {F : Int32 → Int32 → Int32 → Int32 → Int32} {long moats spades tides : Int32} {code base dyke base' dyke' age skill friend pals age' skill' friend' wall depth mood place now fixed : Nat → Int32} (hn : n ≤ 12) (hm : m ≤ 8) (hM : laM F long code) (hl : laR n base dyke base' dyke') (hc : crR m age skill friend pals age' skill' friend') (hs : SS n m T wall depth mood place moats spades tides now) {f : Nat → Int32} (hf : plOk f n m) {N : Nat} (hN : N ≤ 100) (wh : Int32) (th st as gets : Nat → Int32) : ∃ wh' th' st' as' gets', fX12_crewHolds (nI n) (nI m) long wh base' age' skill' friend' fixed now th code st as gets f (nI N) = some (b2i (hoB n m age skill friend base wall mood spades (levS F (fixed 0) (nI n) moats tides) N f), wh', th', st', as', gets') := by
  have hS0 : SS n m T wall depth mood place moats spades tides (fillN now th 43) := SS_congr hn hm hs (fun _ _ => rfl) (fun _ _ => rfl) (fun _ _ => rfl) (fun _ _ => rfl) (fun j hj => fill_lt _ _ hj)
  have e6 : ∃ wh' th' st' as' gets', fX12_crewHolds_b6 (nI n) (nI m) long wh base' age' skill' friend' fixed now (fillN now th 43) code st as gets f (nI N) 0 = some (b2i (hoB n m age skill friend base wall mood spades (levS F (fixed 0) (nI n) moats tides) N f), wh', th', st', as', gets') := by
    unfold fX12_crewHolds_b6
    refine lp_inv (fun r => ∃ wh' th' st' as' gets', r = some (b2i (hoB n m age skill friend base wall mood spades (levS F (fixed 0) (nI n) moats tides) N f), wh', th', st', as', gets')) (fun i t => t.2 = nI i ∧ SS n m T wall depth mood (fillN f place i) moats spades tides t.1) m (by omega) ⟨rfl, by rw [fill_0]; exact hS0⟩ ?_
    intro i t k hi hI
    obtain ⟨r, x⟩ := t
    obtain ⟨e1, hS⟩ := hI
    simp only at e1 hS
    subst e1
    by_cases e : i = m
    · right
      have hle : nI m ≤ nI i := nI_le (by omega) (by omega)
      subst e
      have hpf : plOk (fillN f place i) n i := fun j hj => by rw [fill_lt _ _ hj]; exact hf j hj
      have hsk : ∀ k, k < i → 1 ≤ skill k ∧ skill k ≤ 9 := fun k hk => (hc.2.1 k hk).2.2
      obtain ⟨wall', mood', place', wh', gets', now', b1, b2, hS', -, -⟩ := j_builds hn hm hc hS (N := N) hN gets wh
      have b3 := t_buildOn hn hm (age := age) (mood := mood) (spades := spades) hc.2.2.1 hsk hs.1.1 hpf hN
      rw [b1] at b3
      have hwl : wall' = (spI n i age skill friend spades N (wall, mood, fillN f place i)).1 := by
        have := Option.some.inj b3
        rw [← this]
      obtain ⟨st3, as3, e4⟩ := t_isHigh hn hM base' fixed st as now'
      rw [hS'.2.2.2.2.2.1, hS'.2.2.2.2.2.2.2] at e4
      have eb : bitsN (fun c => !decide (levS F (fixed 0) (nI n) moats tides ≤ topS base' now' c)) n = bitsN (fun c => !decide (levS F (fixed 0) (nI n) moats tides ≤ topS base (spI n i age skill friend spades N (wall, mood, fillN f place i)).1 c)) n := bitsN_congr (fun c hcn => by
        have : topS base' now' c = topS base (spI n i age skill friend spades N (wall, mood, fillN f place i)).1 c := by
          unfold topS
          rw [(hl.1 c hcn).1, hS'.2.1 c hcn, hwl]
        rw [this])
      rw [eb] at e4
      have eh : decide (bitsN (fun c => !decide (levS F (fixed 0) (nI n) moats tides ≤ topS base (spI n i age skill friend spades N (wall, mood, fillN f place i)).1 c)) n = 0) = hoB n i age skill friend base wall mood spades (levS F (fixed 0) (nI n) moats tides) N f := ho_congr hn (fun k hk => fill_lt _ _ hk)
      rw [eh] at e4
      refine ⟨wh', now', st3, as3, gets', ?_⟩
      simp only [fX12_crewHolds_l6, if_pos hle, fX12_crewHolds_b39, b2, ob_s, e4, b01, if_true]
    · left
      have hi2 : i < m := by omega
      have cc : ¬ nI m ≤ nI i := nI_ge hi2 (by omega)
      have hS' := SS_place hn hm hS hi2 (hf i hi2)
      rw [fill_s] at hS'
      have h43 : 25 + 2 * i < 43 := by omega
      refine ⟨hi2, (upd r (25 + 2 * i) (f i), nI (i + 1)), ⟨rfl, hS'⟩, ?_⟩
      simp only [fX12_crewHolds_l6, if_neg cc, if_pos (inb_n (show i < 8 by omega) (by omega)), ix_p, if_pos (inb_n h43 (by omega)), nI_clamp (show 25 + 2 * i < 2 ^ 31 by omega), nI_clamp (show i < 2 ^ 31 by omega), nI_1]
  obtain ⟨wh', th', st', as', gets', e⟩ := e6
  refine ⟨wh', th', st', as', gets', ?_⟩
  simp only [fX12_crewHolds, t_puts, ob_s, e]
/-! ===== the search: exactly s of those from k on ===== -/
def fnd (n : Nat) (ab : Nat → Bool) (Hd : (Nat → Int32) → Bool) : Nat → Nat → (Nat → Int32) → Nat → Bool
  | 0, _, f, s => decide (s = 0) && Hd f
  | r + 1, k, f, s => fnd n ab Hd r (k + 1) (upd f k (-1)) s || (decide (0 < s) && ab k && anyN (fun c => fnd n ab Hd r (k + 1) (upd f k (nI c)) (s - 1)) n)
def roF (n : Nat) (ab : Nat → Bool) (Hd : (Nat → Int32) → Bool) : Nat → Nat → (Nat → Int32) → Nat → Nat → Int32
  | 0, _, f, _ => f
  | r + 1, k, f, s => if fnd n ab Hd r (k + 1) (upd f k (-1)) s then roF n ab Hd r (k + 1) (upd f k (-1)) s else roF n ab Hd r (k + 1) (upd f k (nI (fstN (fun c => fnd n ab Hd r (k + 1) (upd f k (nI c)) (s - 1)) n))) (s - 1)
theorem fnd_congr {n m : Nat} {ab : Nat → Bool} {Hd : (Nat → Int32) → Bool} (hH : ∀ f g : Nat → Int32, (∀ k, k < m → f k = g k) → Hd f = Hd g) : ∀ {r k : Nat} {f g : Nat → Int32}, k + r = m → (∀ j, j < k → f j = g j) → ∀ s, fnd n ab Hd r k f s = fnd n ab Hd r k g s ∧ ∀ j, j < m → roF n ab Hd r k f s j = roF n ab Hd r k g s j
  | 0, k, f, g, hk, h, s => by
    refine ⟨?_, fun j hj => h j (by omega)⟩
    simp only [fnd]
    rw [hH f g (fun j hj => h j (by omega))]
  | r + 1, k, f, g, hk, h, s => by
    have hu : ∀ v, ∀ j, j < k + 1 → upd f k v j = upd g k v j := fun v j hj => by
      by_cases e : j = k
      · subst e; rw [pk_us, pk_us]
      · rw [pk_un e, pk_un e]; exact h j (by omega)
    have ih := fun v s => fnd_congr (n := n) (ab := ab) hH (r := r) (k := k + 1) (f := upd f k v) (g := upd g k v) (by omega) (hu v) s
    have hany : anyN (fun c => fnd n ab Hd r (k + 1) (upd f k (nI c)) (s - 1)) n = anyN (fun c => fnd n ab Hd r (k + 1) (upd g k (nI c)) (s - 1)) n := anyN_congr (fun c _ => (ih (nI c) (s - 1)).1)
    have hfst : fstN (fun c => fnd n ab Hd r (k + 1) (upd f k (nI c)) (s - 1)) n = fstN (fun c => fnd n ab Hd r (k + 1) (upd g k (nI c)) (s - 1)) n := fst_congr (fun c _ => (ih (nI c) (s - 1)).1)
    refine ⟨?_, fun j hj => ?_⟩
    · simp only [fnd]
      rw [(ih (-1) s).1, hany]
    · simp only [roF]
      rw [(ih (-1) s).1, hfst]
      split
      · exact (ih (-1) s).2 j hj
      · exact (ih _ (s - 1)).2 j hj
/-- what the model's search leaves behind: the fewest, the first of them -/
def crP (m : Nat) (S : Nat → Bool) (row : Nat → Nat → Int32) (many B B' : Nat) (bp bp' : Nat → Int32) : Prop := ((∀ s, many + s < B → S s = false) ∧ B' = B ∧ ∀ j, j < m → bp' j = bp j) ∨ ∃ s, many + s < B ∧ S s = true ∧ (∀ s', s' < s → S s' = false) ∧ B' = many + s ∧ ∀ j, j < m → bp' j = row s j
theorem t_crews {n m T : Nat} {F : Int32 → Int32 → Int32 → Int32 → Int32} {long moats spades tides : Int32} {code base dyke base' dyke' age skill friend pals age' skill' friend' wall depth mood place now fixed : Nat → Int32} (hn : n ≤ 12) (h1 : 1 ≤ n) (hm : m ≤ 8) (hM : laM F long code) (hl : laR n base dyke base' dyke') (hc : crR m age skill friend pals age' skill' friend') (hs : SS n m T wall depth mood place moats spades tides now) {N : Nat} (hN : N ≤ 100) (those : Int32) {Hd : (Nat → Int32) → Bool} {ab : Nat → Bool} (hHd : Hd = hoB n m age skill friend base wall mood spades (levS F (fixed 0) (nI n) moats tides) N) (hab : ∀ k, k < m → ab k = (bitB those k && !decide (mood k ≤ 0))) : ∀ (d k many B : Nat) (wh : Int32) (th st as gets post bp : Nat → Int32), k ≤ m → m - k < d → (∀ j, j < k → -1 ≤ post j ∧ post j < nI n) → many ≤ k → B ≤ 1000000 → ∃ wh' B' th' st' as' gets' post' bp', fX12_crewsFrom d (nI n) (nI m) long wh (nI B) base' age' skill' friend' fixed now th code st as gets post bp (nI k) those (nI many) (nI N) = some (wh', nI B', th', st', as', gets', post', bp') ∧ B' ≤ B ∧ (∀ j, j < k → post' j = post j) ∧ crP m (fnd n ab Hd (m - k) k post) (roF n ab Hd (m - k) k post) many B B' bp bp'
  | 0, k, many, B, wh, th, st, as, gets, post, bp, hk, hd, _, _, _ => by omega
  | d + 1, k, many, B, wh, th, st, as, gets, post, bp, hk, hd, hpo, hmk, hB => by
    have hH : ∀ f g : Nat → Int32, (∀ k, k < m → f k = g k) → Hd f = Hd g := fun f g h => by rw [hHd]; exact ho_congr hn h
    show ∃ wh' B' th' st' as' gets' post' bp', fX12_crewsFrom_s (fX12_crewsFrom d) (nI n) (nI m) long wh (nI B) base' age' skill' friend' fixed now th code st as gets post bp (nI k) those (nI many) (nI N) = _ ∧ _
    by_cases hmB : many < B
    · have zB : nI many < nI B := nI_lt hmB (by omega)
      by_cases ekm : k = m
      · subst ekm
        have z0 : k - k = 0 := by omega
        obtain ⟨wh', th', st', as', gets', e1⟩ := t_crewHolds hn hm hM hl hc hs (fixed := fixed) (f := post) hpo hN wh th st as gets
        rw [← hHd] at e1
        cases hh : Hd post
        · rw [hh, b2i_f] at e1
          refine ⟨wh', B, th', st', as', gets', post, bp, ?_, Nat.le_refl _, fun _ _ => rfl, Or.inl ⟨fun s _ => ?_, rfl, fun _ _ => rfl⟩⟩
          · simp only [fX12_crewsFrom_s, if_pos zB, if_true, e1, ob_s, fX12_crewsFrom_b63]
          · rw [z0]; simp [fnd, hh]
        · have z10 : ¬ (1 : Int32) = 0 := by decide
          rw [hh, b2i_t] at e1
          have e34 : fX12_crewsFrom_b34 (fX12_crewsFrom d) (nI n) (nI k) long wh' (nI many) base' age' skill' friend' fixed now th' code st' as' gets' post bp 0 = some (wh', nI many, th', st', as', gets', post, fillN post bp k) := by
            unfold fX12_crewsFrom_b34
            refine lp_up (fun i => (fillN post bp i, nI i)) k (by omega) (by rw [fill_0]; rfl) ?_ ?_
            · intro i hi q
              have cc : ¬ nI k ≤ nI i := nI_ge hi (by omega)
              have fs := fill_s post bp i
              simp only [fX12_crewsFrom_l34, if_neg cc, if_pos (inb_n (show i < 8 by omega) (by omega)), nI_clamp (show i < 2 ^ 31 by omega), nI_1, ← fs]
            · intro q
              have hle : nI k ≤ nI k := nI_le (Nat.le_refl k) (by omega)
              simp only [fX12_crewsFrom_l34, if_pos hle, fX12_crewsFrom_b63]
          refine ⟨wh', many, th', st', as', gets', post, fillN post bp k, ?_, by omega, fun _ _ => rfl, Or.inr ⟨0, by omega, ?_, fun s' hs' => absurd hs' (by omega), rfl, fun j hj => ?_⟩⟩
          · simp only [fX12_crewsFrom_s, if_pos zB, if_true, e1, ob_s, if_neg z10, e34]
          · rw [z0]; simp [fnd, hh]
          · rw [z0, fill_lt _ _ hj]; rfl
      · have hk2 : k < m := by omega
        have hk8 : k < 8 := by omega
        have zk : ¬ nI k = nI m := by rw [nI_eq (by omega) (by omega)]; omega
        have cl : (nI k).toNatClampNeg = k := nI_clamp (by omega)
        obtain ⟨r, hr⟩ : ∃ r, m - k = r + 1 := ⟨m - k - 1, by omega⟩
        have hr2 : m - (k + 1) = r := by omega
        have hpk : ∀ (pp : Nat → Int32) (v : Int32), (∀ j, j < k → pp j = post j) → (-1 ≤ v ∧ v < nI n) → ∀ j, j < k + 1 → -1 ≤ upd pp k v j ∧ upd pp k v j < nI n := fun pp v hpp hv j hj => by
          by_cases e : j = k
          · subst e; rw [pk_us]; exact hv
          · rw [pk_un e, hpp j (by omega)]; exact hpo j (by omega)
        have hm1 : (-1 : Int32) < nI n := by
          have := nI_pos' (n := n) (by omega)
          grind
        obtain ⟨wh1, B1, th1, st1, as1, g1, po1, bp1, r1, r2, r3, r4⟩ := t_crews hn h1 hm hM hl hc hs (fixed := fixed) hN those hHd hab d (k + 1) many B wh th st as gets (upd post k (-1)) bp (by omega) (by omega) (hpk post (-1) (fun _ _ => rfl) ⟨Int32.le_refl _, hm1⟩) (by omega) hB
        rw [hr2] at r4
        let F0 : Nat → Bool := fnd n ab Hd r (k + 1) (upd post k (-1))
        let Fc : Nat → Nat → Bool := fun c => fnd n ab Hd r (k + 1) (upd post k (nI c))
        let Sc : Nat → Nat → Bool := fun c s => F0 s || (decide (0 < s) && anyN (fun c' => Fc c' (s - 1)) c)
        let row : Nat → Nat → Int32 := fun s => roF n ab Hd (r + 1) k post s
        have hrow0 : ∀ s, F0 s = true → row s = roF n ab Hd r (k + 1) (upd post k (-1)) s := fun s h => by
          show (if fnd n ab Hd r (k + 1) (upd post k (-1)) s then _ else _) = _
          have h' : fnd n ab Hd r (k + 1) (upd post k (-1)) s = true := h
          rw [if_pos h']
        have hrowc : ∀ s c, c < n → F0 (s + 1) = false → (∀ c', c' < c → Fc c' s = false) → Fc c s = true → row (s + 1) = roF n ab Hd r (k + 1) (upd post k (nI c)) s := fun s c hc h0 hlt hct => by
          have h0' : ¬ fnd n ab Hd r (k + 1) (upd post k (-1)) (s + 1) = true := by
            show ¬ F0 (s + 1) = true
            rw [h0]; simp
          have hf : fstN (fun c => fnd n ab Hd r (k + 1) (upd post k (nI c)) (s + 1 - 1)) n = c := by
            apply fst_uniq (by omega)
            · exact hlt
            · exact fun _ => hct
          show (if fnd n ab Hd r (k + 1) (upd post k (-1)) (s + 1) then _ else roF n ab Hd r (k + 1) (upd post k (nI (fstN (fun c => fnd n ab Hd r (k + 1) (upd post k (nI c)) (s + 1 - 1)) n))) (s + 1 - 1)) = _
          rw [if_neg h0', hf]; rfl
        have hSc0 : ∀ s, Sc 0 s = F0 s := fun s => by
          show (F0 s || (decide (0 < s) && false)) = F0 s
          simp
        have start : crP m (Sc 0) row many B B1 bp bp1 := by
          rcases r4 with ⟨q1, q2, q3⟩ | ⟨s, q1, q2, q3, q4, q5⟩
          · exact Or.inl ⟨fun s hs => by rw [hSc0]; exact q1 s hs, q2, q3⟩
          · exact Or.inr ⟨s, q1, by rw [hSc0]; exact q2, fun s' hs' => by rw [hSc0]; exact q3 s' hs', q4, fun j hj => by rw [q5 j hj, hrow0 s q2]⟩
        have hbound : B1 ≤ B := r2
        have em : fX12_moodOf now (nI k) = some (mood k) := by rw [t_moodOf hk8, hs.2.2.2.1 k hk2]
        have z10 : ¬ (1 : Int32) = 0 := by decide
        have fin : ∀ (Sx : Nat → Bool), (∀ s, fnd n ab Hd (r + 1) k post s = Sx s) → ∀ B' bp', crP m Sx row many B B' bp bp' → crP m (fnd n ab Hd (m - k) k post) (roF n ab Hd (m - k) k post) many B B' bp bp' := by
          intro Sx hx B' bp' h
          rw [hr]
          rcases h with ⟨q1, q2, q3⟩ | ⟨s, q1, q2, q3, q4, q5⟩
          · exact Or.inl ⟨fun s hs => by rw [hx]; exact q1 s hs, q2, q3⟩
          · exact Or.inr ⟨s, q1, by rw [hx]; exact q2, fun s' hs' => by rw [hx]; exact q3 s' hs', q4, q5⟩
        cases hak : ab k
        · -- nobody can be sent
          have e85 : fX12_crewsFrom_b85 (fX12_crewsFrom d) (nI n) (nI m) long wh1 (nI B1) base' age' skill' friend' fixed now th1 code st1 as1 g1 po1 bp1 (nI k) those (nI many) (nI N) 0 = some (wh1, nI B1, th1, st1, as1, g1, po1, bp1) := by
            unfold fX12_crewsFrom_b85
            refine lp_up (fun _ => (wh1, nI B1, th1, st1, as1, g1, po1, bp1, (0 : Int32))) 0 (by omega) rfl (fun i hi => absurd hi (by omega)) ?_
            intro q
            have cc : ¬ nI n ≤ 0 := nI_nle (by omega) (by omega)
            rw [hab k hk2] at hak
            cases hb : bitB those k
            · simp only [fX12_crewsFrom_l85, if_neg cc, t_hasM, hb, b2i_f, ob_s, if_true, fX12_crewsFrom_b140]
            · rw [hb] at hak
              have zm : mood k ≤ 0 := by simpa using hak
              simp only [fX12_crewsFrom_l85, if_neg cc, t_hasM, hb, b2i_t, ob_s, if_neg z10, em, if_pos zm, fX12_crewsFrom_b140]
          refine ⟨wh1, B1, th1, st1, as1, g1, po1, bp1, ?_, hbound, fun j hj => by rw [r3 j (by omega), pk_un (by omega)], fin (Sc 0) (fun s => ?_) B1 bp1 start⟩
          · simp only [fX12_crewsFrom_s, if_pos zB, if_neg zk, if_pos (inb_n hk8 (by omega)), cl, nI_1, r1, ob_s, e85]
          · rw [hSc0]
            simp only [fnd, hak]
            show (F0 s || (decide (0 < s) && false && _)) = F0 s
            simp
        · have hbk : bitB those k = true ∧ ¬ mood k ≤ 0 := by
            rw [hab k hk2] at hak
            simpa using hak
          have key : ∃ wh' B' th' st' as' gets' post' bp', fX12_crewsFrom_b85 (fX12_crewsFrom d) (nI n) (nI m) long wh1 (nI B1) base' age' skill' friend' fixed now th1 code st1 as1 g1 po1 bp1 (nI k) those (nI many) (nI N) 0 = some (wh', nI B', th', st', as', gets', post', bp') ∧ B' ≤ B ∧ (∀ j, j < k → post' j = post j) ∧ crP m (Sc n) row many B B' bp bp' := by
            unfold fX12_crewsFrom_b85
            refine lp_inv (s := (wh1, nI B1, th1, st1, as1, g1, po1, bp1, (0 : Int32))) (fun r => ∃ (wh' : Int32) (B' : Nat) (th' st' as' gets' post' bp' : Nat → Int32), r = some (wh', nI B', th', st', as', gets', post', bp') ∧ B' ≤ B ∧ (∀ j, j < k → post' j = post j) ∧ crP m (Sc n) row many B B' bp bp') (fun c (t : Int32 × Int32 × (Nat → Int32) × (Nat → Int32) × (Nat → Int32) × (Nat → Int32) × (Nat → Int32) × (Nat → Int32) × Int32) => t.2.2.2.2.2.2.2.2 = nI c ∧ ∃ Bc, t.2.1 = nI Bc ∧ Bc ≤ B ∧ (∀ j, j < k → t.2.2.2.2.2.2.1 j = post j) ∧ crP m (Sc c) row many B Bc bp t.2.2.2.2.2.2.2.1) n (by omega) ⟨rfl, B1, rfl, hbound, fun j hj => by show po1 j = post j; rw [r3 j (by omega), pk_un (by omega)], start⟩ ?_
            intro c t q hc2 hI
            obtain ⟨wc, bcI, tc, sc, ac, gc, pc, bc, x⟩ := t
            obtain ⟨f1, Bc, f2, f3, f4, f5⟩ := hI
            simp only at f1 f2 f4 f5
            subst f1 f2
            by_cases e : c = n
            · right
              have hle : nI n ≤ nI c := nI_le (by omega) (by omega)
              subst e
              exact ⟨wc, Bc, tc, sc, ac, gc, pc, bc, by simp only [fX12_crewsFrom_l85, if_pos hle, fX12_crewsFrom_b140], f3, f4, f5⟩
            · left
              have hcn : c < n := by omega
              have cc : ¬ nI n ≤ nI c := nI_ge hcn (by omega)
              obtain ⟨wh2, B2, th2, st2, as2, g2, po2, bp2, q1, q2, q3, q4⟩ := t_crews hn h1 hm hM hl hc hs (fixed := fixed) hN those hHd hab d (k + 1) (many + 1) Bc wc tc sc ac gc (upd pc k (nI c)) bc (by omega) (by omega) (hpk pc (nI c) f4 ⟨by have := nI_pos' (n := c) (by omega); grind, nI_lt hcn (by omega)⟩) (by omega) (by omega)
              rw [hr2] at q4
              have hfc : ∀ s, fnd n ab Hd r (k + 1) (upd pc k (nI c)) s = Fc c s ∧ ∀ j, j < m → roF n ab Hd r (k + 1) (upd pc k (nI c)) s j = roF n ab Hd r (k + 1) (upd post k (nI c)) s j := fun s => fnd_congr hH (by omega) (fun j hj => by
                by_cases e : j = k
                · subst e; rw [pk_us, pk_us]
                · rw [pk_un e, pk_un e]; exact f4 j (by omega)) s
              have hScs : ∀ s, Sc (c + 1) (s + 1) = (Sc c (s + 1) || Fc c s) := fun s => by
                show (F0 (s + 1) || (decide (0 < s + 1) && (anyN (fun c' => Fc c' (s + 1 - 1)) c || Fc c (s + 1 - 1)))) = ((F0 (s + 1) || (decide (0 < s + 1) && anyN (fun c' => Fc c' (s + 1 - 1)) c)) || Fc c s)
                have e1 : decide (0 < s + 1) = true := by simp
                have e2 : s + 1 - 1 = s := by omega
                rw [e1, e2, Bool.true_and, Bool.true_and, Bool.or_assoc]
              have hScz : Sc (c + 1) 0 = Sc c 0 := by
                show (F0 0 || (decide (0 < 0) && _)) = (F0 0 || (decide (0 < 0) && _))
                simp
              have hScf : ∀ s, Sc c (s + 1) = false → F0 (s + 1) = false ∧ ∀ c', c' < c → Fc c' s = false := fun s h => by
                have h' : (F0 (s + 1) || (decide (0 < s + 1) && anyN (fun c' => Fc c' (s + 1 - 1)) c)) = false := h
                rw [Bool.or_eq_false_iff] at h'
                refine ⟨h'.1, ?_⟩
                have h2 := h'.2
                have e1 : decide (0 < s + 1) = true := by simp
                rw [e1, Bool.true_and, anyN_f] at h2
                exact h2
              refine ⟨hcn, (wh2, nI B2, th2, st2, as2, g2, po2, bp2, nI (c + 1)), ⟨rfl, B2, rfl, by omega, fun j hj => by show po2 j = post j; rw [q3 j (by omega), pk_un (by omega), f4 j hj], ?_⟩, ?_⟩
              · -- the fewest so far
                show crP m (Sc (c + 1)) row many B B2 bp bp2
                rcases q4 with ⟨a1, a2, a3⟩ | ⟨s1, a1, a2, a3, a4, a5⟩
                · have none_ : ∀ s, many + s < Bc → Sc (c + 1) s = Sc c s := fun s hs => by
                    cases s with
                    | zero => exact hScz
                    | succ s =>
                      rw [hScs, ← (hfc s).1, a1 s (by omega), Bool.or_false]
                  rcases f5 with ⟨b1, b2, b3⟩ | ⟨s0, b1, b2, b3, b4, b5⟩
                  · subst a2
                    exact Or.inl ⟨fun s hs => by rw [none_ s (by omega)]; exact b1 s hs, b2, fun j hj => by rw [a3 j hj, b3 j hj]⟩
                  · refine Or.inr ⟨s0, b1, ?_, fun s' hs' => by rw [none_ s' (by omega)]; exact b3 s' hs', by omega, fun j hj => by rw [a3 j hj, b5 j hj]⟩
                    cases s0 with
                    | zero => rw [hScz]; exact b2
                    | succ s => rw [hScs, b2, Bool.true_or]
                · have a2' : Fc c s1 = true := by rw [← (hfc s1).1]; exact a2
                  have hold : ∀ s, s ≤ s1 + 1 → Sc c s = false := fun s hs => by
                    rcases f5 with ⟨b1, b2, b3⟩ | ⟨s0, b1, b2, b3, b4, b5⟩
                    · exact b1 s (by omega)
                    · exact b3 s (by omega)
                  have hz := hScf s1 (hold (s1 + 1) (Nat.le_refl _))
                  refine Or.inr ⟨s1 + 1, by omega, ?_, fun s' hs' => ?_, by omega, fun j hj => ?_⟩
                  · rw [hScs, a2', Bool.or_true]
                  · cases s' with
                    | zero => rw [hScz]; exact hold 0 (by omega)
                    | succ s => rw [hScs, hold (s + 1) (by omega), ← (hfc s).1, a3 s (by omega)]; rfl
                  · rw [a5 j hj, (hfc s1).2 j hj, hrowc s1 c hcn hz.1 hz.2 a2']
              · simp only [fX12_crewsFrom_l85, if_neg cc, t_hasM, hbk.1, b2i_t, ob_s, if_neg z10, em, if_neg hbk.2, if_pos (inb_n hk8 (by omega)), cl, nI_1, q1]
          obtain ⟨wh2, B2, th2, st2, as2, g2, po2, bp2, k1, k2, k3, k4⟩ := key
          refine ⟨wh2, B2, th2, st2, as2, g2, po2, bp2, ?_, k2, k3, fin (Sc n) (fun s => ?_) B2 bp2 k4⟩
          · simp only [fX12_crewsFrom_s, if_pos zB, if_neg zk, if_pos (inb_n hk8 (by omega)), cl, nI_1, r1, ob_s, k1]
          · simp only [fnd, hak]
            show (F0 s || (decide (0 < s) && true && anyN (fun c => Fc c (s - 1)) n)) = (F0 s || (decide (0 < s) && anyN (fun c' => Fc c' (s - 1)) n))
            rw [Bool.and_true]
    · have zB : ¬ nI many < nI B := nI_nlt (by omega) (by omega)
      refine ⟨wh, B, th, st, as, gets, post, bp, by simp only [fX12_crewsFrom_s, if_neg zB], Nat.le_refl _, fun _ _ => rfl, Or.inl ⟨fun s hs => by omega, rfl, fun _ _ => rfl⟩⟩
