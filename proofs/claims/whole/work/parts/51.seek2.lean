/-! ===== pure part: seek and know of the class's Products ===== -/
theorem t_and0 : ∀ a b : Fin 64, (nI a.val &&& nI b.val = 0) ↔ a.val &&& b.val = 0 := by decide +kernel
theorem f_seek {N : Nat} {F : Int64} {co : Nat → Int32} (hX : CX N F) (hK : PK F (2 ^ N) co) (ro le : Nat → Int64) (ld re : Int64) (c : Int32) (lf rg : Nat → Int64) (er : Nat → Int32) :
    ∃ (ro' le' : Nat → Int64) (ld' re' : Int64) (c' : Int32) (lf' rg' : Nat → Int64) (er' : Nat → Int32), f_X3_seek co (nI N) F ro le ld re c lf rg er = some (tf (FO N F).isSome, ro', le', ld', re', c', lf', rg', er') ∧ ∀ j l a b, FO N F = some (j, l, a, b) → ER F er' j l a b := by
  have hN := hX.2.1
  have h64 := pow_le64 hN
  have inner : ∀ (kk : Int64 → Int32 → Int32 → (Nat → Int64) → (Nat → Int64) → (Int64) → (Int64) → (Int32) → (Nat → Int64) → (Nat → Int64) → (Nat → Int32) → Option (Int32 × (Nat → Int64) × (Nat → Int64) × Int64 × Int64 × Int32 × (Nat → Int64) × (Nat → Int64) × (Nat → Int32))) (j : Nat), j < 2 ^ N → ∀ d l m (ro le : Nat → Int64) (ld re : Int64) (c : Int32) (lf rg : Nat → Int64) (er : Nat → Int32), l + d = 2 ^ N → d < m →
      ∃ (ro' le' : Nat → Int64) (ld' re' : Int64) (c' : Int32) (lf' rg' : Nat → Int64), (fL F j d l = none ∧ f_X3_seek_21 co kk m F (nI (2 ^ N)) (nI j) (nI l) ro le ld re c lf rg er = kk F (nI (2 ^ N)) (nI j + 1) ro' le' ld' re' c' lf' rg' er) ∨ (∃ l' a b, fL F j d l = some (l', a, b) ∧ ∃ er' : Nat → Int32, f_X3_seek_21 co kk m F (nI (2 ^ N)) (nI j) (nI l) ro le ld re c lf rg er = some (1, ro', le', ld', re', c', lf', rg', er') ∧ ER F er' j l' a b) := by
    intro kk j hj d
    induction d with
    | zero =>
      intro l m ro le ld re c lf rg er h1 h2
      obtain ⟨m, rfl⟩ : ∃ m', m = m' + 1 := ⟨m - 1, by omega⟩
      have e : l = 2 ^ N := by omega
      subst e
      refine ⟨ro, le, ld, re, c, lf, rg, Or.inl ⟨rfl, ?_⟩⟩
      rw [f_X3_seek_21, if_pos (nI_le (Nat.le_refl _) (by omega))]
    | succ d ih =>
      intro l m ro le ld re c lf rg er h1 h2
      obtain ⟨m, rfl⟩ : ∃ m', m = m' + 1 := ⟨m - 1, by omega⟩
      have hl : l < 2 ^ N := by omega
      rw [f_X3_seek_21, if_neg (nI_ge hl (by omega)), nI_1]
      by_cases hjl : j &&& l = 0
      · rw [if_pos ((t_and0 ⟨j, by omega⟩ ⟨l, by omega⟩).mpr hjl)]
        obtain ⟨ro1, le1, ld1, re1, c1, lf1, rg1, ⟨e1, e2⟩ | ⟨a, b, e1, er', e2, hE⟩⟩ := f_seekIn hX hK hj hl hjl ro le ld re c lf rg er
        · rw [sbg e2, if_pos rfl]
          have e3 : fL F j (d + 1) l = fL F j d (l + 1) := by simp only [fL]; rw [if_pos hjl, e1]
          rw [e3]
          exact ih (l + 1) m _ _ _ _ _ _ _ er (by omega) (by omega)
        · have e3 : fL F j (d + 1) l = some (l, a, b) := by simp only [fL]; rw [if_pos hjl, e1]
          rw [sbg e2, if_neg (show ¬ (1 : Int32) = 0 by decide)]
          exact ⟨ro1, le1, ld1, re1, c1, lf1, rg1, Or.inr ⟨l, a, b, e3, er', rfl, hE⟩⟩
      · rw [if_neg (fun h => hjl ((t_and0 ⟨j, by omega⟩ ⟨l, by omega⟩).mp h))]
        have e3 : fL F j (d + 1) l = fL F j d (l + 1) := by simp only [fL]; rw [if_neg hjl]
        rw [e3]
        exact ih (l + 1) m ro le ld re c lf rg er (by omega) (by omega)
  have outer : ∀ d j m (ro le : Nat → Int64) (ld re : Int64) (c : Int32) (lf rg : Nat → Int64) (er : Nat → Int32), j + d = 2 ^ N → d < m →
      ∃ (ro' le' : Nat → Int64) (ld' re' : Int64) (c' : Int32) (lf' rg' : Nat → Int64) (er' : Nat → Int32), f_X3_seek_8 co m F (nI (2 ^ N)) (nI j) ro le ld re c lf rg er = some (tf (fJ F (2 ^ N) d j).isSome, ro', le', ld', re', c', lf', rg', er') ∧ ∀ j' l a b, fJ F (2 ^ N) d j = some (j', l, a, b) → ER F er' j' l a b := by
    intro d
    induction d with
    | zero =>
      intro j m ro le ld re c lf rg er h1 h2
      obtain ⟨m, rfl⟩ : ∃ m', m = m' + 1 := ⟨m - 1, by omega⟩
      have e : j = 2 ^ N := by omega
      subst e
      refine ⟨ro, le, ld, re, c, lf, rg, er, ?_, fun j' l a b h => by cases h⟩
      rw [f_X3_seek_8, if_pos (nI_le (Nat.le_refl _) (by omega))]
      rfl
    | succ d ih =>
      intro j m ro le ld re c lf rg er h1 h2
      obtain ⟨m, rfl⟩ : ∃ m', m = m' + 1 := ⟨m - 1, by omega⟩
      have hj : j < 2 ^ N := by omega
      rw [f_X3_seek_8, if_neg (nI_ge hj (by omega)), nI_1]
      obtain ⟨ro1, le1, ld1, re1, c1, lf1, rg1, ⟨e1, e2⟩ | ⟨l', a, b, e1, er', e2, hE⟩⟩ := inner (f_X3_seek_8 co m) j hj (2 ^ N - j - 1) (j + 1) FU ro le ld re c lf rg er (by omega) (Nat.lt_of_le_of_lt (show 2 ^ N - j - 1 ≤ 64 by omega) (by decide))
      · have e3 : fJ F (2 ^ N) (d + 1) j = fJ F (2 ^ N) d (j + 1) := by simp only [fJ]; rw [e1]
        rw [e2, nI_1, e3]
        exact ih (j + 1) m _ _ _ _ _ _ _ er (by omega) (by omega)
      · have e3 : fJ F (2 ^ N) (d + 1) j = some (j, l', a, b) := by simp only [fJ]; rw [e1]
        rw [e2, e3]
        refine ⟨ro1, le1, ld1, re1, c1, lf1, rg1, er', rfl, fun j2 l2 a2 b2 h => ?_⟩
        cases h
        exact hE
  have hpos : 0 < 2 ^ N := Nat.pow_pos (by decide)
  have h := outer (2 ^ N - 1) 1 FU ro le ld re c lf rg er (by omega) (Nat.lt_of_le_of_lt (show 2 ^ N - 1 ≤ 64 by omega) (by decide))
  unfold f_X3_seek f_X3_seek_0
  rw [f_pow hN]
  exact h
/-- what Products holds: nothing yet, or THE FIRST of some complex -/
def QI3 (er : Nat → Int32) (pl kp : Int32) (kf : Int64) : Prop := kp = 0 ∨ ∃ N, kp = nI N ∧ CX N kf ∧ pl = tf (!(FO N kf).isSome) ∧ ∀ j l a b, FO N kf = some (j, l, a, b) → ER kf er j l a b
theorem isb_tf (b : Bool) : isb (tf b) = true := by cases b <;> decide
theorem f_know3 {N : Nat} {F : Int64} (hX : CX N F) (co bo : Nat → Int32) (pro ple : Nat → Int64) (pld pre : Int64) (pc pkp : Int32) (pkf : Int64) (ro le : Nat → Int64) (ld re : Int64) (c : Int32) (lf rg : Nat → Int64) (er : Nat → Int32) (pl kp : Int32) (kf : Int64) (hP : PI co pkp pkf) (hQ : QI3 er pl kp kf) :
    ∃ (co' bo' : Nat → Int32) (pro' ple' : Nat → Int64) (pld' pre' : Int64) (pc' pkp' : Int32) (pkf' : Int64) (ro' le' : Nat → Int64) (ld' re' : Int64) (c' : Int32) (lf' rg' : Nat → Int64) (er' : Nat → Int32), f_X3_know (nI N) F co bo pro ple pld pre pc pkp pkf ro le ld re c lf rg er pl kp kf = some (co', bo', pro', ple', pld', pre', pc', pkp', pkf', ro', le', ld', re', c', lf', rg', er', tf (!(FO N F).isSome), nI N, F) ∧ PI co' pkp' pkf' ∧ ∀ j l a b, FO N F = some (j, l, a, b) → ER F er' j l a b := by
  have hN := hX.2.1
  have go : ∃ (co' bo' : Nat → Int32) (pro' ple' : Nat → Int64) (pld' pre' : Int64) (pc' pkp' : Int32) (pkf' : Int64) (ro' le' : Nat → Int64) (ld' re' : Int64) (c' : Int32) (lf' rg' : Nat → Int64) (er' : Nat → Int32), f_X3_know_18 (nI N) F co bo pro ple pld pre pc pkp pkf ro le ld re c lf rg er pl kp kf = some (co', bo', pro', ple', pld', pre', pc', pkp', pkf', ro', le', ld', re', c', lf', rg', er', tf (!(FO N F).isSome), nI N, F) ∧ PI co' pkp' pkf' ∧ ∀ j l a b, FO N F = some (j, l, a, b) → ER F er' j l a b := by
    obtain ⟨co1, bo1, ro1, le1, ld1, re1, c1, e1, hK⟩ := f_know hX co bo pro ple pld pre pc pkp pkf hP
    obtain ⟨ro2, le2, ld2, re2, c2, lf2, rg2, er2, e2, hE⟩ := f_seek hX hK ro le ld re c lf rg er
    unfold f_X3_know_18
    rw [sbg e1]
    simp only
    rw [sbg e2]
    simp only
    refine ⟨co1, bo1, ro1, le1, ld1, re1, c1, nI N, F, ro2, le2, ld2, re2, c2, lf2, rg2, er2, ?_, Or.inr ⟨N, rfl, hX, hK⟩, hE⟩
    cases hs : (FO N F).isSome
    · rw [if_pos (show tf false = 0 from rfl)]; rfl
    · rw [if_neg (show ¬ tf true = 0 by decide)]; rfl
  unfold f_X3_know f_X3_know_0
  by_cases h1 : nI N = kp
  · rw [if_pos h1]
    by_cases h2 : F = kf
    · rw [if_pos h2]
      subst h1; subst h2
      rcases hQ with h0 | ⟨N', e, hX2, hpl, hE⟩
      · exact absurd h0 (nI_ne_0 hX.1 hN)
      · have e2 : N = N' := (nI_inj (by omega) (by have := hX2.2.1; omega)).mp e
        subst e2
        exact ⟨co, bo, pro, ple, pld, pre, pc, pkp, pkf, ro, le, ld, re, c, lf, rg, er, by rw [hpl], hP, hE⟩
    · rw [if_neg h2]; exact go
  · rw [if_neg h1]; exact go
