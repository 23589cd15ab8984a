/-! ===== pure part: the table of holes ===== -/
/-- the table holds the holes of the first m parts -/
def PK (F : Int64) (m : Nat) (co : Nat → Int32) : Prop := ∀ p n, p < m → n < 7 → co (p * 7 + n) = hol F p n
theorem inP_mask {F inP : Int64} {part n : Nat} (hIn : ∀ s, s < 64 → tb inP s = (tb F s && sub s part)) : inP &&& ofs n = mk (fp F part n) 64 := by
  refine tb_ext (fun i hi => ?_)
  rw [tb_and, hIn i hi, tb_ofs hi, tb_mk (Nat.le_refl _) hi]
  simp [fp, hi]
theorem f_countHoles {F inP : Int64} {part : Nat} (hp : part < 64) (hIn : ∀ s, s < 64 → tb inP s = (tb F s && sub s part)) (co bo : Nat → Int32) (ro le : Nat → Int64) (ld re : Int64) (c : Int32) (hK : PK F part co) :
    ∃ R, f_X2_countHoles (nI part) inP co bo ro le ld re c = some R ∧ PK F (part + 1) R.1 := by
  obtain ⟨bo1, ro1, le1, re1, c1, h1, hb⟩ := f_countBorders hp hIn bo ro le ld re c
  have key : ∀ k i m (co : Nat → Int32), i + k = 7 → k < m → PK F part co → (∀ n, n < i → co (part * 7 + n) = hol F part n) → ∃ R, f_X2_countHoles_9 m (nI part) inP (nI i) co bo1 ro1 le1 (-1) re1 (nI c1) = some R ∧ PK F (part + 1) R.1 := by
    intro k
    induction k with
    | zero =>
      intro i m co h1 h2 hK hz
      obtain ⟨m, rfl⟩ : ∃ m', m = m' + 1 := ⟨m - 1, by omega⟩
      have e : i = 7 := by omega
      subst e
      refine ⟨(co, bo1, ro1, le1, -1, re1, nI c1), ?_, fun p n hp2 hn => ?_⟩
      · rw [f_X2_countHoles_9, if_pos (show (7 : Int32) ≤ nI 7 by decide)]
      · by_cases e : p = part
        · subst e; exact hz n hn
        · exact hK p n (by omega) hn
    | succ k ih =>
      intro i m co h1 h2 hK hz
      obtain ⟨m, rfl⟩ : ∃ m', m = m' + 1 := ⟨m - 1, by omega⟩
      have hi : i < 7 := by omega
      have e7 : nI part * (7 : Int32) + nI i = nI (part * 7 + i) := by
        rw [show (7 : Int32) = nI 7 from rfl, pk_mul, nI_add]
      rw [f_X2_countHoles_9, if_neg (show ¬ (7 : Int32) ≤ nI i from nI_ge (b := 7) hi (by decide)), sbg (show f_X6_ofSize (nI i) = some (ofs i) from t_ofSize ⟨i, by omega⟩), sbg (f_bitCount _), inP_mask hIn, nI_1, ix_nI (show i < 8 by omega) (by decide), ix_nI (show i + 1 < 8 by omega) (by decide), cl_nI (show i < 2 ^ 31 by omega), cl_nI (show i + 1 < 2 ^ 31 by omega), e7, ix_nI (show part * 7 + i < 448 by omega) (by decide), cl_nI (show part * 7 + i < 2 ^ 31 by omega), hb i (by omega), hb (i + 1) (by omega)]
      refine ih (i + 1) m (upd co (part * 7 + i) (hol F part i)) (by omega) (by omega) (fun p n hp2 hn => ?_) (fun n hn => ?_)
      · rw [up_n (show p * 7 + n ≠ part * 7 + i by omega)]; exact hK p n hp2 hn
      · by_cases e : n = i
        · subst e; exact up_s _ _ _
        · rw [up_n (show part * 7 + n ≠ part * 7 + i by omega)]; exact hz n (by omega)
  unfold f_X2_countHoles f_X2_countHoles_0
  rw [sbg h1]
  exact key 7 0 FU co rfl (by decide) hK (fun n hn => by omega)
theorem f_pow {N : Nat} (h : N ≤ 6) : ((1 : Int32) <<< (nI N &&& 31)) = nI (2 ^ N) := t_pow ⟨N, by omega⟩
theorem f_inside {s : Nat} (h : s < 64) : f_X6_inside (nI s) = some (ins s) := t_inside ⟨s, h⟩
/-- what Parts holds: nothing yet, or the holes of some complex -/
def PI (co : Nat → Int32) (kp : Int32) (kf : Int64) : Prop := kp = 0 ∨ ∃ N, kp = nI N ∧ CX N kf ∧ PK kf (2 ^ N) co
theorem nI_ne_0 {N : Nat} (h1 : 1 ≤ N) (h2 : N ≤ 6) : nI N ≠ 0 := nI_ne0 h1 (by omega)
theorem f_know {N : Nat} {F : Int64} (hX : CX N F) (co bo : Nat → Int32) (ro le : Nat → Int64) (ld re : Int64) (c kp : Int32) (kf : Int64) (hI : PI co kp kf) :
    ∃ (co' bo' : Nat → Int32) (ro' le' : Nat → Int64) (ld' re' : Int64) (c' : Int32), f_X2_know (nI N) F co bo ro le ld re c kp kf = some (co', bo', ro', le', ld', re', c', nI N, F) ∧ PK F (2 ^ N) co' := by
  have hN := hX.2.1
  have h64 := pow_le64 hN
  have key : ∀ k i m (co bo : Nat → Int32) (ro le : Nat → Int64) (ld re : Int64) (c : Int32), i + k = 2 ^ N → k < m → PK F i co →
      ∃ (co' bo' : Nat → Int32) (ro' le' : Nat → Int64) (ld' re' : Int64) (c' : Int32), f_X2_know_31 m (nI N) F (nI i) co bo ro le ld re c (nI N) F = some (co', bo', ro', le', ld', re', c', nI N, F) ∧ PK F (2 ^ N) co' := by
    intro k
    induction k with
    | zero =>
      intro i m co bo ro le ld re c h1 h2 hK
      obtain ⟨m, rfl⟩ : ∃ m', m = m' + 1 := ⟨m - 1, by omega⟩
      have e : i = 2 ^ N := by omega
      subst e
      refine ⟨co, bo, ro, le, ld, re, c, ?_, hK⟩
      rw [f_X2_know_31]
      by_cases h : (64 : Int32) ≤ nI (2 ^ N)
      · rw [if_pos h]
      · rw [if_neg h, f_pow hN, if_pos (nI_le (Nat.le_refl _) (by omega))]
    | succ k ih =>
      intro i m co bo ro le ld re c h1 h2 hK
      obtain ⟨m, rfl⟩ : ∃ m', m = m' + 1 := ⟨m - 1, by omega⟩
      have hi : i < 2 ^ N := by omega
      have hi64 : i < 64 := by omega
      obtain ⟨R, hR, hK2⟩ := f_countHoles (F := F) (inP := F &&& ins i) hi64 (fun s hs => by rw [tb_and, tb_ins hs]) co bo ro le ld re c hK
      rw [f_X2_know_31, if_neg (show ¬ (64 : Int32) ≤ nI i from nI_ge (b := 64) hi64 (by decide)), f_pow hN, if_neg (nI_ge hi (by omega)), sbg (f_inside hi64), sbg hR, nI_1]
      exact ih (i + 1) m _ _ _ _ _ _ _ (by omega) (by omega) hK2
  have go : ∃ (co' bo' : Nat → Int32) (ro' le' : Nat → Int64) (ld' re' : Int64) (c' : Int32), f_X2_know_18 (nI N) F co bo ro le ld re c kp kf = some (co', bo', ro', le', ld', re', c', nI N, F) ∧ PK F (2 ^ N) co' := by
    unfold f_X2_know_18
    exact key (2 ^ N) 0 FU co bo ro le ld re c (by omega) (Nat.lt_of_le_of_lt h64 (by decide)) (fun p n hp _ => by omega)
  unfold f_X2_know f_X2_know_0
  by_cases h1 : nI N = kp
  · rw [if_pos h1]
    by_cases h2 : F = kf
    · rw [if_pos h2]
      subst h1; subst h2
      rcases hI with h0 | ⟨N', e, hX2, hK⟩
      · exact absurd h0 (nI_ne_0 hX.1 hN)
      · refine ⟨co, bo, ro, le, ld, re, c, rfl, ?_⟩
        have e2 : N = N' := (nI_inj (by omega) (by have := (by assumption : CX N' F).2.1; omega)).mp e
        rw [e2]; exact hK
    · rw [if_neg h2]; exact go
  · rw [if_neg h1]; exact go
theorem f_holesOf2 {F : Int64} {m part n : Nat} {co : Nat → Int32} (hK : PK F m co) (hm : m ≤ 64) (hp : part < m) (hn : n < 7) : f_X2_holesOf co (nI part) (km n) = some (hol F part n) := by
  have e7 : (nI part * (7 : Int32) + km n) + 1 = nI (part * 7 + n) := by
    rw [Int32.add_assoc, km1, show (7 : Int32) = nI 7 from rfl, pk_mul, nI_add]
  have hd : ∀ n : Fin 7, f_X2_isDimension (km n.val) = some 1 := by decide +kernel
  unfold f_X2_holesOf f_X2_holesOf_0
  rw [if_neg (nI_pos (by omega)), if_neg (show ¬ (64 : Int32) ≤ nI part from nI_ge (b := 64) (by omega) (by decide)), sbg (hd ⟨n, hn⟩), if_neg (by decide)]
  unfold f_X2_holesOf_22
  rw [if_neg (by decide), e7, ix_nI (show part * 7 + n < 448 by omega) (by decide), cl_nI (show part * 7 + n < 2 ^ 31 by omega), hK part n hp hn]
  rfl
theorem f_holesOf2x {co : Nat → Int32} {part : Nat} {k : Int32} (hp : part < 64) (hk : k < -1 ∨ 5 < k) : f_X2_holesOf co (nI part) k = some 0 := by
  have hd : f_X2_isDimension k = some 0 := by
    unfold f_X2_isDimension f_X2_isDimension_0
    rcases hk with h | h
    · rw [if_pos h]
    · by_cases h1 : k < -1
      · rw [if_pos h1]
      · rw [if_neg h1, if_pos h]
  unfold f_X2_holesOf f_X2_holesOf_0
  rw [if_neg (nI_pos (by omega)), if_neg (show ¬ (64 : Int32) ≤ nI part from nI_ge (b := 64) hp (by decide)), sbg hd, if_pos rfl]
  rfl
