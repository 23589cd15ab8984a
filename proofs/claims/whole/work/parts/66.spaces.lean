/-! holes, space, tower -/
theorem hol_both {N s : Nat} {F : Int64} {co : Nat → Int32} (hX : CX N F) (hK : PK F (2 ^ N) co) (hs : s < 2 ^ N) (k : Int32) (base : Nat → Int64) : ∃ h, f_X2_holesOf co (nI s) k = some h ∧ ((f_X9_isIn k (-1) 5 = some 0 ∧ h = 0) ∨ (f_X9_isIn k (-1) 5 = some 1 ∧ ∃ b', f_X9_holesOf (nI N) F (nI s) k base = some (h, b'))) := by
  have h64 := pow_le64 hX.2.1
  rcases dim_cases k with ⟨n, hn, rfl, e1, e2⟩ | ⟨hk, e1, e2⟩
  · obtain ⟨b', e⟩ := f_holesOf9 hX (show s < 64 by omega) (show n < 19 by omega) base
    exact ⟨_, f_holesOf2 hK h64 hs hn, Or.inr ⟨e2, b', e⟩⟩
  · exact ⟨0, f_holesOf2x (show s < 64 by omega) hk, Or.inl ⟨e2, rfl⟩⟩
theorem w_holes {N : Nat} {F : Int64} (hX : CX N F) (a1 a2 : Int32) {co bo : Nat → Int32} {ro le : Nat → Int64} {ld re : Int64} {c kp : Int32} {kf : Int64} (hI : PI co kp kf) (base : Nat → Int64) :
    ∃ R1 R2, f_X8_holes (nI N) F a1 a2 co bo ro le ld re c kp kf = some R1 ∧ f_X9_holes (nI N) F a1 a2 base = some R2 ∧ R1.1 = R2.1 ∧ PI R1.2.1 R1.2.2.2.2.2.2.2.2.1 R1.2.2.2.2.2.2.2.2.2 := by
  unfold f_X8_holes f_X8_holes_0 f_X9_holes f_X9_holes_0
  rcases set_cases hX.2.1 a1 with ⟨s, hs, rfl, e1, e2⟩ | ⟨e1, e2⟩
  · rw [sbg e1, sbg e2, if_neg (by decide), if_neg (by decide)]
    rcases dim_cases a2 with ⟨n, hn, rfl, d1, d2⟩ | ⟨_, d1, d2⟩
    · obtain ⟨co', bo', ro', le', ld', re', c', k1, k2⟩ := f_know hX co bo ro le ld re c kp kf hI
      have h64 := pow_le64 hX.2.1
      obtain ⟨b', e⟩ := f_holesOf9 hX (show s < 64 by omega) (show n < 19 by omega) base
      rw [sbg d1, sbg d2, if_neg (by decide), if_neg (by decide), sbg k1, sbg e]
      simp only
      rw [sbg (f_holesOf2 k2 h64 hs hn)]
      exact ⟨_, _, rfl, rfl, rfl, Or.inr ⟨N, rfl, hX, k2⟩⟩
    · rw [sbg d1, sbg d2, if_pos rfl, if_pos rfl]
      exact ⟨_, _, rfl, rfl, rfl, hI⟩
  · rw [sbg e1, sbg e2, if_pos rfl, if_pos rfl]
    exact ⟨_, _, rfl, rfl, rfl, hI⟩
theorem space_loop {N : Nat} {F : Int64} {co bo : Nat → Int32} {ro le : Nat → Int64} {ld re : Int64} {c kp : Int32} {kf : Int64} (hX : CX N F) (hK : PK F (2 ^ N) co) (a1 a2 : Int32) : ∀ d i m m' (acc : Int32) (base : Nat → Int64), i + d = 2 ^ N → d < m → d < m' →
    ∃ r b', f_X8_space_41 (nI N) F m a1 a2 acc (nI i) co bo ro le ld re c kp kf = some (r, co, bo, ro, le, ld, re, c, kp, kf) ∧ f_X9_space_26 (nI N) F m' a1 a2 acc (nI i) base = some (r, b') := by
  have h6 := hX.2.1
  have h64 := pow_le64 h6
  intro d
  induction d with
  | zero =>
    intro i m m' acc base g1 g2 g3
    obtain ⟨m, rfl⟩ : ∃ x, m = x + 1 := ⟨m - 1, by omega⟩
    obtain ⟨m', rfl⟩ : ∃ x, m' = x + 1 := ⟨m' - 1, by omega⟩
    have e : i = 2 ^ N := by omega
    subst e
    exact ⟨acc, base, by rw [f_X8_space_41, sbg (f_all8 h6), if_pos (all_end h6)], by rw [f_X9_space_26, sbg (f_all h6), if_pos (all_end h6)]⟩
  | succ d ih =>
    intro i m m' acc base g1 g2 g3
    obtain ⟨m, rfl⟩ : ∃ x, m = x + 1 := ⟨m - 1, by omega⟩
    obtain ⟨m', rfl⟩ : ∃ x, m' = x + 1 := ⟨m' - 1, by omega⟩
    have hi : i < 2 ^ N := by omega
    have stp : ∀ k1 k2 : Int32, k1 = k2 → ∃ r b', ((f_X2_holesOf co (nI i) k1).bind (fun R1 => (f_X8_space_41 (nI N) F m) a1 a2 (acc + R1) (nI i + 1) co bo ro le ld re c kp kf)) = some (r, co, bo, ro, le, ld, re, c, kp, kf) ∧ f_X9_space_54 (nI N) F (f_X9_space_26 (nI N) F m') a1 a2 acc (nI i) k2 base = some (r, b') := by
      intro k1 k2 hk
      subst hk
      unfold f_X9_space_54
      simp only [f_X9_space_79]
      obtain ⟨h, e1, e2 | ⟨e2, b', e3⟩⟩ := hol_both hX hK hi k1 base
      · rw [sbg e1, sbg e2.1, if_pos rfl, e2.2, nI_1]
        exact ih (i + 1) m m' _ _ (by omega) (by omega) (by omega)
      · rw [sbg e1, sbg e2, if_neg (by decide), sbg e3, nI_1]
        exact ih (i + 1) m m' _ _ (by omega) (by omega) (by omega)
    rw [f_X8_space_41, f_X9_space_26, sbg (f_all8 h6), sbg (f_all h6), if_neg (all_lt h6 hi), if_neg (all_lt h6 hi), sbg (f_size8 (show i < 64 by omega)), sbg (f_size (show i < 64 by omega))]
    unfold f_X8_space_63
    by_cases c2 : a2 = 0
    · rw [if_pos c2, if_pos c2]
      exact stp _ _ rfl
    · rw [if_neg c2, if_neg c2]
      exact stp _ _ (by rw [Int32.sub_zero])
theorem in_cases (a : Int32) {b : Int32} : (f_X9_isIn a 0 b = some 1 ∧ ¬ a < 0 ∧ ¬ b < a) ∨ (f_X9_isIn a 0 b = some 0 ∧ (a < 0 ∨ (¬ a < 0 ∧ b < a))) := by
  unfold f_X9_isIn f_X9_isIn_0
  by_cases c1 : a < 0
  · rw [if_pos c1]; exact Or.inr ⟨rfl, Or.inl c1⟩
  · rw [if_neg c1]
    by_cases c2 : b < a
    · rw [if_pos c2]; exact Or.inr ⟨rfl, Or.inr ⟨c1, c2⟩⟩
    · rw [if_neg c2]; exact Or.inl ⟨rfl, c1, c2⟩
theorem nlt_le {a b : Int32} (h : ¬ b < a) : a ≤ b := by
  rw [Int32.lt_iff_toInt_lt] at h
  rw [Int32.le_iff_toInt_le]
  omega
theorem lt_nle {a b : Int32} (h : b < a) : ¬ a ≤ b := by
  rw [Int32.lt_iff_toInt_lt] at h
  rw [Int32.le_iff_toInt_le]
  omega
theorem w_space {N : Nat} {F : Int64} (hX : CX N F) (a1 a2 : Int32) {co bo : Nat → Int32} {ro le : Nat → Int64} {ld re : Int64} {c kp : Int32} {kf : Int64} (hI : PI co kp kf) (base : Nat → Int64) :
    ∃ R1 R2, f_X8_space (nI N) F a1 a2 co bo ro le ld re c kp kf = some R1 ∧ f_X9_space (nI N) F a1 a2 base = some R2 ∧ R1.1 = R2.1 ∧ PI R1.2.1 R1.2.2.2.2.2.2.2.2.1 R1.2.2.2.2.2.2.2.2.2 := by
  have h64 := pow_le64 hX.2.1
  unfold f_X8_space f_X8_space_0 f_X9_space f_X9_space_0
  rcases in_cases a1 (b := 12) with ⟨e, p1, p2⟩ | ⟨e, p1 | ⟨p1, p2⟩⟩
  · rw [sbg e, if_neg p1, if_neg p2, if_neg (show ¬ (1 : Int32) = 0 by decide)]
    rcases in_cases a2 (b := 1) with ⟨e, q1, q2⟩ | ⟨e, q1 | ⟨q1, q2⟩⟩
    · obtain ⟨co', bo', ro', le', ld', re', c', k1, k2⟩ := f_know hX co bo ro le ld re c kp kf hI
      obtain ⟨r, b', l1, l2⟩ := space_loop (bo := bo') (ro := ro') (le := le') (ld := ld') (re := re') (c := c') (kp := nI N) (kf := F) hX k2 a1 a2 (2 ^ N) 0 FU FU 0 base (by omega) (Nat.lt_of_le_of_lt h64 (by decide)) (Nat.lt_of_le_of_lt h64 (by decide))
      rw [sbg e, if_neg q1, if_pos (nlt_le q2), if_neg (show ¬ (1 : Int32) = 0 by decide), sbg k1]
      exact ⟨_, _, l1, l2, rfl, Or.inr ⟨N, rfl, hX, k2⟩⟩
    · rw [sbg e, if_pos q1, if_pos rfl]
      exact ⟨_, _, rfl, rfl, rfl, hI⟩
    · rw [sbg e, if_neg q1, if_neg (lt_nle q2), if_pos rfl]
      exact ⟨_, _, rfl, rfl, rfl, hI⟩
  · rw [sbg e, if_pos p1, if_pos rfl]
    exact ⟨_, _, rfl, rfl, rfl, hI⟩
  · rw [sbg e, if_neg p1, if_pos p2, if_pos rfl]
    exact ⟨_, _, rfl, rfl, rfl, hI⟩
theorem tower_loop {N : Nat} {F : Int64} {co bo : Nat → Int32} {ro le : Nat → Int64} {ld re : Int64} {c kp : Int32} {kf : Int64} (hX : CX N F) (hK : PK F (2 ^ N) co) (a1 a2 : Int32) : ∀ d i m m' (acc : Int32) (base : Nat → Int64), i + d = 2 ^ N → d < m → d < m' →
    ∃ r b', f_X8_tower_42 (nI N) F m a1 a2 acc (nI i) co bo ro le ld re c kp kf = some (r, co, bo, ro, le, ld, re, c, kp, kf) ∧ f_X9_tower_27 (nI N) F m' a1 a2 acc (nI i) base = some (r, b') := by
  have h6 := hX.2.1
  have h64 := pow_le64 h6
  intro d
  induction d with
  | zero =>
    intro i m m' acc base g1 g2 g3
    obtain ⟨m, rfl⟩ : ∃ x, m = x + 1 := ⟨m - 1, by omega⟩
    obtain ⟨m', rfl⟩ : ∃ x, m' = x + 1 := ⟨m' - 1, by omega⟩
    have e : i = 2 ^ N := by omega
    subst e
    exact ⟨acc, base, by rw [f_X8_tower_42, sbg (f_all8 h6), if_pos (all_end h6)], by rw [f_X9_tower_27, sbg (f_all h6), if_pos (all_end h6)]⟩
  | succ d ih =>
    intro i m m' acc base g1 g2 g3
    obtain ⟨m, rfl⟩ : ∃ x, m = x + 1 := ⟨m - 1, by omega⟩
    obtain ⟨m', rfl⟩ : ∃ x, m' = x + 1 := ⟨m' - 1, by omega⟩
    have hi : i < 2 ^ N := by omega
    rw [f_X8_tower_42, f_X9_tower_27, sbg (f_all8 h6), sbg (f_all h6), if_neg (all_lt h6 hi), if_neg (all_lt h6 hi), sbg (f_size8 (show i < 64 by omega)), sbg (f_size (show i < 64 by omega))]
    unfold f_X9_tower_73
    simp only [f_X9_tower_74]
    by_cases c2 : nI (sz i) = a2
    · rw [if_pos c2, if_pos c2]
      obtain ⟨h, e1, e2 | ⟨e2, b', e3⟩⟩ := hol_both hX hK hi ((a2 - a1) - (1 : Int32)) base
      · rw [sbg e1, sbg e2.1, if_pos rfl, e2.2, nI_1]
        exact ih (i + 1) m m' _ _ (by omega) (by omega) (by omega)
      · rw [sbg e1, sbg e2, if_neg (by decide), sbg e3, nI_1]
        exact ih (i + 1) m m' _ _ (by omega) (by omega) (by omega)
    · rw [if_neg c2, if_neg c2, nI_1, Int32.add_zero]
      exact ih (i + 1) m m' _ _ (by omega) (by omega) (by omega)
theorem w_tower {N : Nat} {F : Int64} (hX : CX N F) (a1 a2 : Int32) {co bo : Nat → Int32} {ro le : Nat → Int64} {ld re : Int64} {c kp : Int32} {kf : Int64} (hI : PI co kp kf) (base : Nat → Int64) :
    ∃ R1 R2, f_X8_tower (nI N) F a1 a2 co bo ro le ld re c kp kf = some R1 ∧ f_X9_tower (nI N) F a1 a2 base = some R2 ∧ R1.1 = R2.1 ∧ PI R1.2.1 R1.2.2.2.2.2.2.2.2.1 R1.2.2.2.2.2.2.2.2.2 := by
  have h64 := pow_le64 hX.2.1
  unfold f_X8_tower f_X8_tower_0 f_X9_tower f_X9_tower_0
  rcases in_cases a1 (b := 6) with ⟨e, p1, p2⟩ | ⟨e, p1 | ⟨p1, p2⟩⟩
  · rw [sbg e, if_neg p1, if_neg p2, if_neg (show ¬ (1 : Int32) = 0 by decide)]
    rcases in_cases a2 (b := 6) with ⟨e, q1, q2⟩ | ⟨e, q1 | ⟨q1, q2⟩⟩
    · obtain ⟨co', bo', ro', le', ld', re', c', k1, k2⟩ := f_know hX co bo ro le ld re c kp kf hI
      obtain ⟨r, b', l1, l2⟩ := tower_loop (bo := bo') (ro := ro') (le := le') (ld := ld') (re := re') (c := c') (kp := nI N) (kf := F) hX k2 a1 a2 (2 ^ N) 0 FU FU 0 base (by omega) (Nat.lt_of_le_of_lt h64 (by decide)) (Nat.lt_of_le_of_lt h64 (by decide))
      rw [sbg e, if_neg q1, if_pos (nlt_le q2), if_neg (show ¬ (1 : Int32) = 0 by decide), sbg k1]
      exact ⟨_, _, l1, l2, rfl, Or.inr ⟨N, rfl, hX, k2⟩⟩
    · rw [sbg e, if_pos q1, if_pos rfl]
      exact ⟨_, _, rfl, rfl, rfl, hI⟩
    · rw [sbg e, if_neg q1, if_neg (lt_nle q2), if_pos rfl]
      exact ⟨_, _, rfl, rfl, rfl, hI⟩
  · rw [sbg e, if_pos p1, if_pos rfl]
    exact ⟨_, _, rfl, rfl, rfl, hI⟩
  · rw [sbg e, if_neg p1, if_pos p2, if_pos rfl]
    exact ⟨_, _, rfl, rfl, rfl, hI⟩
