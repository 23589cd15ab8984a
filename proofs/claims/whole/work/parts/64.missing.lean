/-! missing FACES on both sides, FACES by dimension -/
def mis (F : Int64) (s : Nat) : Bool := !(tb F s) && decide (bel s &&& (F ^^^ (-1)) = 0)
theorem mis_0 {N : Nat} {F : Int64} (hX : CX N F) : mis F 0 = false := by
  unfold mis
  rw [hX.2.2.1]; rfl
theorem f_below {s : Nat} (h : s < 64) : f_X6_below (nI s) = some (bel s) := t_below ⟨s, h⟩
theorem f_missingFamily {N : Nat} {F : Int64} (hX : CX N F) : f_X8_missingFamily (nI N) F = some (mk (mis F) (2 ^ N)) := by
  have h6 := hX.2.1
  have h64 := pow_le64 h6
  have key : ∀ d i m, i + d = 2 ^ N → d < m → f_X8_missingFamily_4 (nI N) F m (mk (mis F) i) (nI i) = some (mk (mis F) (2 ^ N)) := by
    intro d
    induction d with
    | zero =>
      intro i m g1 g2
      obtain ⟨m, rfl⟩ : ∃ m', m = m' + 1 := ⟨m - 1, by omega⟩
      have e : i = 2 ^ N := by omega
      rw [f_X8_missingFamily_4, sbg (f_all8 h6), e, if_pos (all_end h6)]
    | succ d ih =>
      intro i m g1 g2
      obtain ⟨m, rfl⟩ : ∃ m', m = m' + 1 := ⟨m - 1, by omega⟩
      rw [f_X8_missingFamily_4, sbg (f_all8 h6), if_neg (all_lt h6 (show i < 2 ^ N by omega)), sbg (f_holds (show i < 64 by omega)), nI_1, sbg (f_below (show i < 64 by omega))]
      simp only [bnd]
      have e := mk_s (mis F) i
      have el : mis F i = (!(tb F i) && decide (bel i &&& (F ^^^ (-1)) = 0)) := rfl
      have := ih (i + 1) m (by omega) (by omega)
      cases hF : tb F i with
      | true =>
        rw [el, hF, if_neg (by simp)] at e
        rw [if_neg (by decide), ← e]; exact this
      | false =>
        rw [if_pos (by decide)]
        by_cases c : bel i &&& (F ^^^ (-1)) = 0
        · rw [el, hF, decide_eq_true c, if_pos (by decide)] at e
          rw [if_pos c, show ((1 : Int64) <<< ((nI i).toInt64 &&& 63)) = b1 i from rfl, ← e]; exact this
        · rw [el, hF, decide_eq_false c, if_neg (by decide)] at e
          rw [if_neg c, ← e]; exact this
  unfold f_X8_missingFamily f_X8_missingFamily_0
  have hp : 0 < 2 ^ N := Nat.pow_pos (by decide)
  have e : mk (mis F) 1 = 0 := by
    rw [mk_s _ 0, mis_0 hX, if_neg (by decide)]; rfl
  rw [← e]
  exact key (2 ^ N - 1) 1 FU (by omega) (Nat.lt_of_lt_of_le (show 2 ^ N - 1 < 64 by omega) (by decide))
theorem t_has9 : ∀ (s : Fin 64) (p : Fin 6), ((nI s.val >>> (nI p.val &&& 31)) &&& (1 : Int32)) = 0 ↔ s.val.testBit p.val = false := by decide +kernel
theorem t_minus : ∀ (s : Fin 64) (p : Fin 6), s.val.testBit p.val = true → nI s.val &&& (((1 : Int32) <<< (nI p.val &&& 31)) ^^^ (-1 : Int32)) = nI (s.val - 2 ^ p.val) := by decide +kernel
theorem t_belp : ∀ (s t : Fin 64), (sub t.val s.val && sz t.val + 1 == sz s.val) = true ↔ ∃ p : Fin 6, s.val.testBit p.val = true ∧ t.val = s.val - 2 ^ p.val := by decide +kernel
def msp (F : Int64) (s p : Nat) : Bool := !(s.testBit p) || tb F (s - 2 ^ p)
theorem mis_iff {N s : Nat} {F : Int64} (h6 : N ≤ 6) (hs : s < 2 ^ N) : mis F s = (!(tb F s) && alb (msp F s) 0 N) := by
  have h64 := pow_le64 h6
  unfold mis
  congr 1
  rw [Bool.eq_iff_iff, decide_eq_true_iff, alb_t, eq0_iff]
  constructor
  · intro h p _ hp
    unfold msp
    cases hb : s.testBit p with
    | false => rfl
    | true =>
      have hlt : s - 2 ^ p < 64 := Nat.lt_of_le_of_lt (Nat.sub_le _ _) (show s < 64 by omega)
      have := h (s - 2 ^ p) hlt
      rw [tb_and, tb_bel hlt, tb_not _ hlt, (t_belp ⟨s, by omega⟩ ⟨s - 2 ^ p, hlt⟩).mpr ⟨⟨p, by omega⟩, hb, rfl⟩, Bool.true_and] at this
      simpa using this
  · intro h t ht
    rw [tb_and, tb_bel ht, tb_not _ ht]
    cases hc : (sub t s && sz t + 1 == sz s) with
    | false => rfl
    | true =>
      obtain ⟨p, hp, e⟩ := (t_belp ⟨s, by omega⟩ ⟨t, ht⟩).mp hc
      simp only at hp e
      have hpN : p.val < N := by
        by_cases c : p.val < N
        · exact c
        · have := Nat.testBit_lt_two_pow (Nat.lt_of_lt_of_le hs (Nat.pow_le_pow_right (show 0 < 2 by decide) (show N ≤ p.val by omega)))
          rw [hp] at this; exact absurd this (by decide)
      have := h p.val (by omega) (by omega)
      unfold msp at this
      rw [hp, ← e] at this
      simpa using this
theorem f_isMissing {N s : Nat} {F : Int64} (h6 : N ≤ 6) (hs : s < 2 ^ N) : f_X9_isMissing (nI N) F (nI s) = some (tf (mis F s)) := by
  have h64 := pow_le64 h6
  have key : ∀ d p m (b : Bool), p + d = N → d < m → f_X9_isMissing_14 (nI N) F m (nI s) (tf b) (nI p) = some (tf (b && alb (msp F s) p d)) := by
    intro d
    induction d with
    | zero =>
      intro p m b g1 g2
      obtain ⟨m, rfl⟩ : ∃ m', m = m' + 1 := ⟨m - 1, by omega⟩
      rw [f_X9_isMissing_14, if_pos (nI_le (show N ≤ p by omega) (by omega))]
      cases b <;> rfl
    | succ d ih =>
      intro p m b g1 g2
      obtain ⟨m, rfl⟩ : ∃ m', m = m' + 1 := ⟨m - 1, by omega⟩
      rw [f_X9_isMissing_14, if_neg (nI_ge (show p < N by omega) (by omega))]
      unfold f_X9_isMissing_52 f_X9_isMissing_48
      simp only [f_X9_isMissing_53]
      rw [nI_1]
      have i0 := ih (p + 1) m false (by omega) (by omega)
      have i1 := ih (p + 1) m true (by omega) (by omega)
      have ea : alb (msp F s) p (d + 1) = (msp F s p && alb (msp F s) (p + 1) d) := rfl
      have em : msp F s p = (!(s.testBit p) || tb F (s - 2 ^ p)) := rfl
      cases b with
      | false =>
        rw [if_pos (by decide)]
        exact i0
      | true =>
        rw [if_neg (by decide), ea, em]
        cases hb : s.testBit p with
        | false =>
          rw [if_pos ((t_has9 ⟨s, by omega⟩ ⟨p, by omega⟩).mpr hb)]
          exact i1
        | true =>
          rw [if_neg (fun h => by
            have := (t_has9 ⟨s, by omega⟩ ⟨p, by omega⟩).mp h
            simp only at this
            rw [hb] at this; exact absurd this (by decide)), t_minus ⟨s, by omega⟩ ⟨p, by omega⟩ hb, sbg (f_isFace (Nat.lt_of_le_of_lt (Nat.sub_le _ _) (show s < 64 by omega)))]
          simp only
          cases hF : tb F (s - 2 ^ p) with
          | false => exact i0
          | true => exact i1
  unfold f_X9_isMissing f_X9_isMissing_0
  rw [sbg (f_isFace (show s < 64 by omega)), mis_iff h6 hs]
  cases hF : tb F s with
  | true => rfl
  | false =>
    rw [if_pos (by decide)]
    exact key N 0 FU true (by omega) (Nat.lt_of_lt_of_le (show N < 7 by omega) (by decide))
/-- the missing FACE that comes a-th -/
def mss (P : Nat → Bool) (a : Int32) : Nat → Nat → Nat → Int32
  | 0, _, _ => -1
  | d + 1, i, c => if P i = true then (if nI c = a then nI i else mss P a d (i + 1) (c + 1)) else mss P a d (i + 1) c
theorem mss_congr {P Q : Nat → Bool} {a : Int32} : ∀ {d i c : Nat}, (∀ j, i ≤ j → j < i + d → P j = Q j) → mss P a d i c = mss Q a d i c := by
  intro d
  induction d with
  | zero => intro i c _; rfl
  | succ d ih =>
    intro i c h
    simp only [mss]
    rw [h i (by omega) (by omega), ih (fun j h1 h2 => h j (by omega) (by omega)), ih (fun j h1 h2 => h j (by omega) (by omega))]
theorem mss_tail {P : Nat → Bool} {a : Int32} : ∀ {e d i c : Nat}, (∀ j, i + d ≤ j → j < i + d + e → P j = false) → mss P a (d + e) i c = mss P a d i c := by
  intro e d
  induction d with
  | zero =>
    induction e with
    | zero => intro i c _; rfl
    | succ e ih =>
      intro i c h
      rw [show 0 + (e + 1) = (0 + e) + 1 by omega]
      simp only [mss]
      rw [h i (by omega) (by omega), if_neg (by decide)]
      have := ih (i := i + 1) (c := c) (fun j h1 h2 => h j (by omega) (by omega))
      rw [this]; rfl
  | succ d ih =>
    intro i c h
    rw [show d + 1 + e = (d + e) + 1 by omega]
    simp only [mss]
    rw [ih (fun j h1 h2 => h j (by omega) (by omega)), ih (fun j h1 h2 => h j (by omega) (by omega))]
theorem mss_neg {P : Nat → Bool} {a : Int32} (ha : a < 0) : ∀ {d i c : Nat}, c + d < 2 ^ 31 → mss P a d i c = -1 := by
  intro d
  induction d with
  | zero => intro i c _; rfl
  | succ d ih =>
    intro i c h
    simp only [mss]
    rw [if_neg (show ¬ nI c = a from fun e => by
      have := nI_pos (show c < 2 ^ 31 by omega)
      rw [e] at this; exact this ha), ih (by omega), ih (by omega)]
    by_cases c : P i = true
    · rw [if_pos c]
    · rw [if_neg c]
theorem f_missing9 {N : Nat} {F : Int64} (hX : CX N F) (a : Int32) : f_X9_missing (nI N) F a = some (mss (mis F) a (2 ^ N) 0 0) := by
  have h6 := hX.2.1
  have h64 := pow_le64 h6
  have key : ∀ d i c m, i + d = 2 ^ N → d < m → f_X9_missing_4 (nI N) F m a (nI c) (nI i) = some (mss (mis F) a d i c) := by
    intro d
    induction d with
    | zero =>
      intro i c m g1 g2
      obtain ⟨m, rfl⟩ : ∃ m', m = m' + 1 := ⟨m - 1, by omega⟩
      have e : i = 2 ^ N := by omega
      rw [f_X9_missing_4, sbg (f_all h6), e, if_pos (all_end h6)]; rfl
    | succ d ih =>
      intro i c m g1 g2
      obtain ⟨m, rfl⟩ : ∃ m', m = m' + 1 := ⟨m - 1, by omega⟩
      rw [f_X9_missing_4, sbg (f_all h6), if_neg (all_lt h6 (show i < 2 ^ N by omega)), sbg (f_isMissing h6 (show i < 2 ^ N by omega)), nI_1, nI_1]
      simp only [mss]
      cases hm : mis F i with
      | false => rw [if_pos (by decide), if_neg (by decide)]; exact ih (i + 1) c m (by omega) (by omega)
      | true =>
        rw [if_neg (by decide), if_pos rfl]
        by_cases e : nI c = a
        · rw [if_pos e, if_pos e]
        · rw [if_neg e, if_neg e]; exact ih (i + 1) (c + 1) m (by omega) (by omega)
  unfold f_X9_missing f_X9_missing_0
  exact key (2 ^ N) 0 0 FU (by omega) (Nat.lt_of_le_of_lt h64 (by decide))
theorem f_missing8 {N : Nat} {F : Int64} (hX : CX N F) (a : Int32) : f_X8_missing (nI N) F a = some (mss (mis F) a (2 ^ N) 0 0) := by
  have h6 := hX.2.1
  have h64 := pow_le64 h6
  have key : ∀ (M : Int64) d i c m, i + d = 64 → d < m → f_X8_missing_17 (nI N) F m a M (nI c) (nI i) = some (mss (tb M) a d i c) := by
    intro M d
    induction d with
    | zero =>
      intro i c m g1 g2
      obtain ⟨m, rfl⟩ : ∃ m', m = m' + 1 := ⟨m - 1, by omega⟩
      have e : i = 64 := by omega
      rw [f_X8_missing_17, e, if_pos (by decide)]; rfl
    | succ d ih =>
      intro i c m g1 g2
      obtain ⟨m, rfl⟩ : ∃ m', m = m' + 1 := ⟨m - 1, by omega⟩
      rw [f_X8_missing_17, if_neg (show ¬ (64 : Int32) ≤ nI i from nI_ge (b := 64) (by omega) (by decide)), sbg (f_holds (show i < 64 by omega)), nI_1, nI_1]
      simp only [mss]
      cases hm : tb M i with
      | false => rw [if_pos (by decide), if_neg (by decide)]; exact ih (i + 1) c m (by omega) (by omega)
      | true =>
        rw [if_neg (by decide), if_pos rfl]
        by_cases e : nI c = a
        · rw [if_pos e, if_pos e]
        · rw [if_neg e, if_neg e]; exact ih (i + 1) (c + 1) m (by omega) (by omega)
  unfold f_X8_missing f_X8_missing_0
  by_cases ha : a < 0
  · rw [if_neg (fun h => by
      rw [Int32.lt_iff_toInt_lt] at ha
      rw [Int32.le_iff_toInt_le] at h
      omega), mss_neg ha (by omega)]
  · rw [if_pos (by
      rw [Int32.lt_iff_toInt_lt] at ha
      rw [Int32.le_iff_toInt_le]
      omega), sbg (f_missingFamily hX)]
    have := key (mk (mis F) (2 ^ N)) 64 0 0 FU (by omega) (by decide)
    rw [show (0 : Int32) = nI 0 from rfl, this]
    congr 1
    have t := mss_tail (P := tb (mk (mis F) (2 ^ N))) (a := a) (e := 64 - 2 ^ N) (d := 2 ^ N) (i := 0) (c := 0) (fun j h1 h2 => by
      rw [tb_mk h64 (by omega), decide_eq_false (by omega), Bool.false_and])
    rw [show 2 ^ N + (64 - 2 ^ N) = 64 by omega] at t
    rw [t]
    exact mss_congr (fun j _ h2 => by
      rw [tb_mk h64 (by omega), decide_eq_true (by omega), Bool.true_and])
