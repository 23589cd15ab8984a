/-! has, faces, and the first five looks -/
theorem cnt_ext {X Y : Int64} : ∀ {n : Nat}, (∀ i, i < n → tb X i = tb Y i) → cnt X n = cnt Y n := by
  intro n
  induction n with
  | zero => intro _; rfl
  | succ n ih =>
    intro h
    simp only [cnt]
    rw [ih (fun i hi => h i (by omega)), h n (by omega)]
theorem cnt_0 {X : Int64} : ∀ {n : Nat}, cnt X n = 0 → ∀ i, i < n → tb X i = false := by
  intro n
  induction n with
  | zero => intro _ i hi; omega
  | succ n ih =>
    intro h i hi
    simp only [cnt] at h
    by_cases e : i = n
    · subst e
      cases hb : tb X i with
      | false => rfl
      | true => rw [hb] at h; simp at h
    · exact ih (by omega) i (by omega)
theorem cnt_z {X : Int64} : cnt X 64 = 0 ↔ X = 0 := by
  constructor
  · intro h; exact eq0_iff.mpr (cnt_0 h)
  · intro h; subst h; decide
theorem cnt_tail {X : Int64} {n : Nat} : ∀ k, (∀ i, n ≤ i → i < n + k → tb X i = false) → cnt X (n + k) = cnt X n := by
  intro k
  induction k with
  | zero => intro _; rfl
  | succ k ih =>
    intro h
    show cnt X (n + k) + (tb X (n + k)).toNat = _
    rw [ih (fun i h1 h2 => h i h1 (by omega)), h (n + k) (by omega) (by omega)]
    rfl
theorem f_has {N : Nat} {F : Int64} (hX : CX N F) (a : Int32) : ∃ r, f_X8_has (nI N) F a = some r ∧ f_X9_has (nI N) F a = some r := by
  have h64 := pow_le64 hX.2.1
  unfold f_X8_has f_X8_has_0 f_X9_has f_X9_has_0
  rcases set_cases hX.2.1 a with ⟨s, hs, rfl, e1, e2⟩ | ⟨e1, e2⟩
  · rw [sbg e1, sbg e2, if_neg (by decide), if_neg (by decide), sbg (f_holds (show s < 64 by omega)), sbg (f_isFace (show s < 64 by omega))]
    cases tb F s
    · exact ⟨0, rfl, rfl⟩
    · exact ⟨1, rfl, rfl⟩
  · rw [sbg e1, sbg e2, if_pos rfl, if_pos rfl]
    exact ⟨_, rfl, rfl⟩
theorem dim_cases (k : Int32) : (∃ n, n < 7 ∧ k = km n ∧ f_X2_isDimension k = some 1 ∧ f_X9_isIn k (-1) 5 = some 1) ∨ ((k < -1 ∨ 5 < k) ∧ f_X2_isDimension k = some 0 ∧ f_X9_isIn k (-1) 5 = some 0) := by
  unfold f_X2_isDimension f_X2_isDimension_0 f_X9_isIn f_X9_isIn_0
  by_cases c1 : k < -1
  · rw [if_pos c1]
    exact Or.inr ⟨Or.inl c1, rfl, rfl⟩
  · rw [if_neg c1]
    by_cases c2 : 5 < k
    · rw [if_pos c2]
      exact Or.inr ⟨Or.inr c2, rfl, rfl⟩
    · rw [if_neg c2]
      left
      rw [Int32.lt_iff_toInt_lt] at c1 c2
      have e1 : (-1 : Int32).toInt = -1 := by decide
      have e5 : (5 : Int32).toInt = 5 := by decide
      rw [e1] at c1
      rw [e5] at c2
      refine ⟨(k.toInt + 1).toNat, by omega, ?_, rfl, rfl⟩
      have : ∀ z : Fin 7, (km z.val).toInt = (z.val : Int) - 1 := by decide +kernel
      have t := this ⟨(k.toInt + 1).toNat, by omega⟩
      apply Int32.toInt_inj.mp
      rw [t]
      simp only
      omega
theorem fp_all {N n : Nat} {F : Int64} (hX : CX N F) : mk (fp F (2 ^ N - 1) n) 64 = F &&& ofs n := tb_ext (fun s hs => by
  rw [tb_mk (by omega) hs, tb_and, tb_ofs hs, decide_eq_true hs, Bool.true_and]
  unfold fp
  cases hF : tb F s with
  | false => rfl
  | true =>
    have : sub s (2 ^ N - 1) = true := by
      unfold sub
      rw [Nat.and_two_pow_sub_one_of_lt_two_pow (hX.2.2.2.1 s hs hF)]
      exact beq_self_eq_true s
    rw [this]; rfl)
theorem f_ofSize {n : Nat} (h : n < 16) : f_X6_ofSize (nI n) = some (ofs n) := t_ofSize ⟨n, h⟩
theorem f_facesAll {N n : Nat} {F : Int64} (hX : CX N F) (hn : n < 16) : f_X9_facesOf (nI N) F (nI (2 ^ N - 1)) (nI n) = some (F &&& ofs n) := by
  have h64 := pow_le64 hX.2.1
  have hp : 0 < 2 ^ N := Nat.pow_pos (by decide)
  rw [f_facesOf hX (show 2 ^ N - 1 < 64 by omega) (by omega), fp_all hX]
theorem f_faces {N : Nat} {F : Int64} (hX : CX N F) (a : Int32) : ∃ r, f_X8_faces F a = some r ∧ f_X9_faces (nI N) F a = some r := by
  unfold f_X8_faces f_X8_faces_0 f_X9_faces f_X9_faces_0
  rcases dim_cases a with ⟨n, hn, rfl, e1, e2⟩ | ⟨_, e1, e2⟩
  · rw [sbg e1, sbg e2, if_neg (by decide), if_neg (by decide), sbg (f_all hX.2.1), show km n + (1 : Int32) = nI n from km1 n, sbg (f_ofSize (by omega)), sbg (f_facesAll hX (by omega)), sbg (f_bitCount _), sbg (f_many _)]
    exact ⟨_, rfl, rfl⟩
  · rw [sbg e1, sbg e2, if_pos rfl, if_pos rfl]
    exact ⟨_, rfl, rfl⟩
theorem f_greatest {N : Nat} {F : Int64} (hX : CX N F) (ba ri ma cj cl : Nat → Int64) (fj fl fa fb fr : Int32) (ta : Nat → Int32) (af : Int64) (ap hfi : Int32) (od : Nat → Int32) : ∃ r, f_X8_greatestDimension F = some r ∧ f_X9_look_63 (nI N) F FU 5 ba ri ma cj cl fj fl fa fb fr ta af ap hfi od = some (r, ba, ri, ma, cj, cl, fj, fl, fa, fb, fr, ta, af, ap, hfi, od) := by
  have key : ∀ n m m', n ≤ 6 → n < m → n < m' → ∃ r, f_X8_greatestDimension_2 F m (km n) = some r ∧ f_X9_look_63 (nI N) F m' (km n) ba ri ma cj cl fj fl fa fb fr ta af ap hfi od = some (r, ba, ri, ma, cj, cl, fj, fl, fa, fb, fr, ta, af, ap, hfi, od) := by
    intro n
    induction n with
    | zero =>
      intro m m' _ h1 h2
      obtain ⟨m, rfl⟩ : ∃ x, m = x + 1 := ⟨m - 1, by omega⟩
      obtain ⟨m', rfl⟩ : ∃ x, m' = x + 1 := ⟨m' - 1, by omega⟩
      refine ⟨-1, by rw [f_X8_greatestDimension_2, if_pos (by decide)], ?_⟩
      rw [f_X9_look_63, sbg (f_all hX.2.1), show km 0 + (1 : Int32) = nI 0 from km1 0, sbg (f_facesAll hX (by omega)), sbg (f_many _), if_neg ?_]
      · rfl
      · intro h
        have hle := cnt_le (F &&& ofs 0) 64
        have := cnt_z.mp ((nI_inj (b := 0) (by omega) (by decide)).mp h)
        have t := eq0_iff.mp this 0 (by decide)
        rw [tb_and, hX.2.2.1, tb_ofs (by decide)] at t
        exact absurd t (by decide)
    | succ n ih =>
      intro m m' h6 h1 h2
      obtain ⟨m, rfl⟩ : ∃ x, m = x + 1 := ⟨m - 1, by omega⟩
      obtain ⟨m', rfl⟩ : ∃ x, m' = x + 1 := ⟨m' - 1, by omega⟩
      have hle := cnt_le (F &&& ofs (n + 1)) 64
      rw [f_X8_greatestDimension_2, f_X9_look_63, sbg (f_all hX.2.1), show km (n + 1) + (1 : Int32) = nI (n + 1) from km1 _, sbg (f_ofSize (by omega)), sbg (f_facesAll hX (by omega)), sbg (f_many _)]
      have e0 : km (n + 1) = nI n := km_nn n
      rw [e0, if_neg (nI_pos (show n < 2 ^ 31 by omega))]
      by_cases c : F &&& ofs (n + 1) = 0
      · rw [if_pos c, if_pos (by rw [cnt_z.mpr c]; rfl)]
        exact ih m m' (by omega) (by omega) (by omega)
      · rw [if_neg c, if_neg (show ¬ nI (cnt (F &&& ofs (n + 1)) 64) = 0 from fun h => c (cnt_z.mp ((nI_inj (b := 0) (by omega) (by decide)).mp h)))]
        exact ⟨_, rfl, rfl⟩
  unfold f_X8_greatestDimension f_X8_greatestDimension_0
  exact key 6 FU FU (by omega) (by decide) (by decide)
theorem f_missMany {N : Nat} {F : Int64} (hX : CX N F) : f_X9_missingMany (nI N) F = some (nI (cnt (mk (mis F) (2 ^ N)) 64)) := by
  have h6 := hX.2.1
  have h64 := pow_le64 h6
  have key : ∀ d i m, i + d = 2 ^ N → d < m → f_X9_missingMany_4 (nI N) F m (nI (cnt (mk (mis F) (2 ^ N)) i)) (nI i) = some (nI (cnt (mk (mis F) (2 ^ N)) (2 ^ N))) := by
    intro d
    induction d with
    | zero =>
      intro i m g1 g2
      obtain ⟨m, rfl⟩ : ∃ m', m = m' + 1 := ⟨m - 1, by omega⟩
      have e : i = 2 ^ N := by omega
      rw [f_X9_missingMany_4, sbg (f_all h6), e, if_pos (all_end h6)]
    | succ d ih =>
      intro i m g1 g2
      obtain ⟨m, rfl⟩ : ∃ m', m = m' + 1 := ⟨m - 1, by omega⟩
      rw [f_X9_missingMany_4, sbg (f_all h6), if_neg (all_lt h6 (show i < 2 ^ N by omega)), sbg (f_isMissing h6 (show i < 2 ^ N by omega))]
      simp only [f_X9_missingMany_26]
      have e : cnt (mk (mis F) (2 ^ N)) (i + 1) = cnt (mk (mis F) (2 ^ N)) i + (mis F i).toNat := by
        simp only [cnt]
        rw [tb_mk h64 (by omega), decide_eq_true (show i < 2 ^ N by omega), Bool.true_and]
      have := ih (i + 1) m (by omega) (by omega)
      cases hm : mis F i with
      | false =>
        rw [hm] at e
        rw [e] at this
        rw [if_pos (by decide), show (0 : Int32) = nI 0 from rfl, nI_add, nI_1]; exact this
      | true =>
        rw [hm] at e
        rw [e] at this
        rw [if_neg (by decide), show (1 : Int32) = nI 1 from rfl, nI_add, nI_add]; exact this
  unfold f_X9_missingMany f_X9_missingMany_0
  have t := cnt_tail (X := mk (mis F) (2 ^ N)) (n := 2 ^ N) (64 - 2 ^ N) (fun i h1 h2 => by
    rw [tb_mk h64 (by omega), decide_eq_false (by omega), Bool.false_and])
  rw [show 2 ^ N + (64 - 2 ^ N) = 64 by omega] at t
  rw [t]
  exact key (2 ^ N) 0 FU (by omega) (Nat.lt_of_le_of_lt h64 (by decide))
def flg (F : Int64) (s : Nat) : Bool := !(mis F s) || sz s == 2
theorem f_isFlag {N : Nat} {F : Int64} (hX : CX N F) : f_X9_isFlag (nI N) F = some (tf (alb (flg F) 0 (2 ^ N))) := by
  have h6 := hX.2.1
  have h64 := pow_le64 h6
  have key : ∀ d i m (b : Bool), i + d = 2 ^ N → d < m → f_X9_isFlag_4 (nI N) F m (tf b) (nI i) = some (tf (b && alb (flg F) i d)) := by
    intro d
    induction d with
    | zero =>
      intro i m b g1 g2
      obtain ⟨m, rfl⟩ : ∃ m', m = m' + 1 := ⟨m - 1, by omega⟩
      have e : i = 2 ^ N := by omega
      rw [f_X9_isFlag_4, sbg (f_all h6), e, if_pos (all_end h6)]
      cases b <;> rfl
    | succ d ih =>
      intro i m b g1 g2
      obtain ⟨m, rfl⟩ : ∃ m', m = m' + 1 := ⟨m - 1, by omega⟩
      rw [f_X9_isFlag_4, sbg (f_all h6), if_neg (all_lt h6 (show i < 2 ^ N by omega)), sbg (f_isMissing h6 (show i < 2 ^ N by omega)), sbg (f_size (show i < 64 by omega))]
      unfold f_X9_isFlag_36 f_X9_isFlag_32
      simp only [f_X9_isFlag_37]
      rw [nI_1]
      have i0 := ih (i + 1) m false (by omega) (by omega)
      have i1 := ih (i + 1) m true (by omega) (by omega)
      have ea : alb (flg F) i (d + 1) = ((!(mis F i) || sz i == 2) && alb (flg F) (i + 1) d) := rfl
      cases b with
      | false => rw [if_pos (by decide)]; exact i0
      | true =>
        rw [if_neg (by decide), ea]
        cases hm : mis F i with
        | false => exact i1
        | true =>
          rw [if_neg (by decide)]
          have hsz := sz_lt i
          by_cases c : sz i = 2
          · rw [if_pos (show nI (sz i) = (2 : Int32) by rw [c]; rfl), c]
            exact i1
          · rw [if_neg (show ¬ nI (sz i) = (2 : Int32) from fun h => c ((nI_inj (b := 2) (by omega) (by decide)).mp h)), beq_false_of_ne c]
            exact i0
  unfold f_X9_isFlag f_X9_isFlag_0
  exact key (2 ^ N) 0 FU true (by omega) (Nat.lt_of_le_of_lt h64 (by decide))
theorem flag_iff {N : Nat} {F : Int64} (hX : CX N F) : (mk (mis F) (2 ^ N) &&& (ofs 2 ^^^ (-1))) = 0 ↔ alb (flg F) 0 (2 ^ N) = true := by
  have h64 := pow_le64 hX.2.1
  rw [eq0_iff, alb_t]
  constructor
  · intro h s _ hs
    have := h s (by omega)
    rw [tb_and, tb_mk h64 (by omega), tb_not _ (by omega), tb_ofs (by omega), decide_eq_true (show s < 2 ^ N by omega), Bool.true_and] at this
    unfold flg
    cases hm : mis F s with
    | false => rfl
    | true => rw [hm, Bool.true_and] at this; simpa using this
  · intro h s hs
    rw [tb_and, tb_mk h64 hs, tb_not _ hs, tb_ofs hs]
    by_cases c : s < 2 ^ N
    · have := h s (by omega) (by omega)
      unfold flg at this
      rw [decide_eq_true c, Bool.true_and]
      cases hm : mis F s with
      | false => rfl
      | true => rw [hm] at this; simpa using this
    · rw [decide_eq_false c]; rfl
