/-! ===== pure part: complexes, borders, holes ===== -/
def CX (N : Nat) (F : Int64) : Prop := 1 ≤ N ∧ N ≤ 6 ∧ tb F 0 = true ∧ (∀ s, s < 64 → tb F s = true → s < 2 ^ N) ∧ ∀ s t, s < 64 → tb F s = true → sub t s = true → tb F t = true
theorem pow_le64 {N : Nat} (h : N ≤ 6) : 2 ^ N ≤ 64 := by
  have := Nat.pow_le_pow_right (n := 2) (by decide) h
  omega
def vl (P : Nat → Bool) (g : Nat → Int64) : Nat → List Int64
  | 0 => []
  | m + 1 => if P m = true then g m :: vl P g m else vl P g m
theorem vl_congr {P Q : Nat → Bool} {g : Nat → Int64} : ∀ {m : Nat}, (∀ i, i < m → P i = Q i) → vl P g m = vl Q g m := by
  intro m
  induction m with
  | zero => intro _; rfl
  | succ m ih => intro h; simp only [vl]; rw [h m (by omega), ih (fun i hi => h i (by omega))]
theorem vl_tail {P : Nat → Bool} {g : Nat → Int64} {m : Nat} : ∀ k, (∀ i, m ≤ i → i < m + k → P i = false) → vl P g (m + k) = vl P g m := by
  intro k
  induction k with
  | zero => intro _; rfl
  | succ k ih =>
    intro h
    show (if P (m + k) = true then _ else _) = _
    rw [if_neg (by rw [h (m + k) (by omega) (by omega)]; decide)]
    exact ih (fun i h1 h2 => h i h1 (by omega))
theorem vl_mem {P : Nat → Bool} {g : Nat → Int64} {m : Nat} {a : Int64} : a ∈ vl P g m ↔ ∃ i, i < m ∧ P i = true ∧ g i = a := by
  induction m with
  | zero => simp [vl]
  | succ m ih =>
    simp only [vl]
    by_cases hP : P m = true
    · rw [if_pos hP, List.mem_cons, ih]
      constructor
      · rintro (rfl | ⟨i, h1, h2⟩)
        · exact ⟨m, by omega, hP, rfl⟩
        · exact ⟨i, by omega, h2⟩
      · rintro ⟨i, h1, h2, h3⟩
        by_cases e : i = m
        · subst e; exact Or.inl h3.symm
        · exact Or.inr ⟨i, by omega, h2, h3⟩
    · rw [if_neg hP, ih]
      constructor
      · rintro ⟨i, h1, h2⟩; exact ⟨i, by omega, h2⟩
      · rintro ⟨i, h1, h2, h3⟩
        by_cases e : i = m
        · subst e; exact absurd h2 hP
        · exact ⟨i, by omega, h2, h3⟩
theorem mk_tail {P : Nat → Bool} {m : Nat} : ∀ k, (∀ i, m ≤ i → i < m + k → P i = false) → mk P (m + k) = mk P m := by
  intro k
  induction k with
  | zero => intro _; rfl
  | succ k ih =>
    intro h
    show (if P (m + k) = true then _ else _) = _
    rw [if_neg (by rw [h (m + k) (by omega) (by omega)]; decide)]
    exact ih (fun i h1 h2 => h i h1 (by omega))
/-- the FACES of n points within a part -/
def fp (F : Int64) (part n s : Nat) : Bool := tb F s && sub s part && sz s == n
noncomputable def brk (F : Int64) (part n : Nat) : Nat := rk (vl (fp F part n) bel 64)
noncomputable def hol (F : Int64) (part n : Nat) : Int32 := nI (cnt (mk (fp F part n) 64) 64) - nI (brk F part n) - nI (brk F part (n + 1))
theorem t_sub : ∀ s p : Fin 64, ((nI s.val &&& (nI p.val ^^^ (-1 : Int32))) = 0) ↔ sub s.val p.val = true := by decide +kernel
theorem f_all {N : Nat} (h : N ≤ 6) : f_X9_all (nI N) = some (nI (2 ^ N - 1)) := congrArg some (t_all ⟨N, by omega⟩)
theorem f_size {s : Nat} (h : s < 64) : f_X9_size (nI s) = some (nI (sz s)) := t_size ⟨s, h⟩
theorem f_border {N s : Nat} (hN : N ≤ 6) (h : s < 2 ^ N) : f_X9_border (nI N) (nI s) = some (bel s) := t_border ⟨N, by omega⟩ ⟨s, Nat.lt_of_lt_of_le h (pow_le64 hN)⟩ h
theorem sz_lt (s : Nat) : sz s ≤ 6 := by
  have b (x : Bool) : x.toNat ≤ 1 := Bool.toNat_le x
  unfold sz
  have h0 := b (s.testBit 0)
  have h1 := b (s.testBit 1)
  have h2 := b (s.testBit 2)
  have h3 := b (s.testBit 3)
  have h4 := b (s.testBit 4)
  have h5 := b (s.testBit 5)
  omega
theorem sb {a b : Option Int32} {α : Type} {F : Int32 → Option α} {x : Int32} (h : a = some x) : a.bind F = F x := by rw [h]; rfl
theorem sbl {a : Option Int64} {α : Type} {F : Int64 → Option α} {x : Int64} (h : a = some x) : a.bind F = F x := by rw [h]; rfl
theorem sbg {α β : Type} {a : Option α} {F : α → Option β} {x : α} (h : a = some x) : a.bind F = F x := by rw [h]; rfl
theorem all_lt {N i : Nat} (hN : N ≤ 6) (h : i < 2 ^ N) : ¬ nI (2 ^ N - 1) < nI i := by
  have := pow_le64 hN
  exact nI_nlt (by omega) (by omega)
theorem all_end {N : Nat} (hN : N ≤ 6) : nI (2 ^ N - 1) < nI (2 ^ N) := by
  have := pow_le64 hN
  have : 0 < 2 ^ N := Nat.pow_pos (by decide)
  exact nI_lt (by omega) (by omega)
theorem tf0 (b : Bool) : tf b = 0 ↔ b = false := by cases b <;> decide
theorem nI_inj {a b : Nat} (ha : a < 2 ^ 31) (hb : b < 2 ^ 31) : nI a = nI b ↔ a = b := nI_eq ha hb
theorem rk_le (l : List Int64) : rk l ≤ l.length := by
  induction l with
  | nil => exact Nat.le_refl _
  | cons a l ih =>
    have : (!dq (sp l a)).toNat ≤ 1 := Bool.toNat_le _
    simp only [rk, List.length_cons]
    omega
theorem vl_len (P : Nat → Bool) (g : Nat → Int64) (m : Nat) : (vl P g m).length ≤ m := by
  induction m with
  | zero => exact Nat.le_refl _
  | succ m ih =>
    simp only [vl]
    split
    · simp only [List.length_cons]; omega
    · omega
theorem f_borders {N part n : Nat} {F : Int64} (hX : CX N F) (hp : part < 64) (hn : n < 20) (base : Nat → Int64) : ∃ b', f_X9_borders (nI N) F (nI part) (nI n) base = some (nI (brk F part n), b') := by
  obtain ⟨hN1, hN, h0, hin, hdn⟩ := hX
  have h64 := pow_le64 hN
  obtain ⟨b0, hb0, hB0⟩ := f_clear base
  have key : ∀ k i m (r : Int32) (bs : Nat → Int64), i + k = 2 ^ N → k < m → r = nI (rk (vl (fp F part n) bel i)) → BM bs (vl (fp F part n) bel i) → ∃ b', f_X9_borders_9 (nI N) F m (nI part) (nI n) r (nI i) bs = some (nI (rk (vl (fp F part n) bel (2 ^ N))), b') := by
    intro k
    induction k with
    | zero =>
      intro i m r bs h1 h2 hr hB
      obtain ⟨m, rfl⟩ : ∃ m', m = m' + 1 := ⟨m - 1, by omega⟩
      have e : i = 2 ^ N := by omega
      subst e
      refine ⟨bs, ?_⟩
      rw [f_X9_borders_9, sbg (f_all hN), if_pos (all_end hN), hr]
    | succ k ih =>
      intro i m r bs h1 h2 hr hB
      obtain ⟨m, rfl⟩ : ∃ m', m = m' + 1 := ⟨m - 1, by omega⟩
      have hi : i < 2 ^ N := by omega
      have hi64 : i < 64 := by omega
      rw [f_X9_borders_9, sbg (f_all hN), if_neg (all_lt hN hi), sbg (f_size hi64), nI_1]
      have skip : fp F part n i = false → vl (fp F part n) bel (i + 1) = vl (fp F part n) bel i := fun hz => by
        show (if fp F part n i = true then _ else _) = _
        rw [if_neg (by rw [hz]; decide)]
      by_cases hs : sz i = n
      · rw [if_pos (by rw [hs])]
        by_cases hsub : sub i part = true
        · rw [if_pos ((t_sub ⟨i, hi64⟩ ⟨part, hp⟩).mpr hsub), sbg (f_isFace hi64)]
          by_cases hf : tb F i = true
          · rw [if_neg (by rw [tf0, hf]; decide), sbg (f_border hN hi)]
            obtain ⟨b2, hl, hB2⟩ := f_lays hB (bel i)
            rw [sbg hl]
            have hP : fp F part n i = true := by simp [fp, hf, hsub, hs]
            have e1 : vl (fp F part n) bel (i + 1) = bel i :: vl (fp F part n) bel i := by
              show (if fp F part n i = true then _ else _) = _
              rw [if_pos hP]
            have e2 : r + tf (!dq (sp (vl (fp F part n) bel i) (bel i))) = nI (rk (vl (fp F part n) bel (i + 1))) := by
              rw [e1, hr]
              show _ = nI (rk (vl (fp F part n) bel i) + (!dq (sp (vl (fp F part n) bel i) (bel i))).toNat)
              rw [← nI_add]
              congr 1
              cases (!dq (sp (vl (fp F part n) bel i) (bel i))) <;> rfl
            have hB2' : BM b2 (vl (fp F part n) bel (i + 1)) := by rw [e1]; exact hB2
            cases hd : (!dq (sp (vl (fp F part n) bel i) (bel i))) with
            | false =>
              rw [hd] at e2
              rw [if_pos (show tf false = 0 from rfl)]
              unfold f_X9_borders_64
              rw [nI_1]
              exact ih (i + 1) m _ b2 (by omega) (by omega) e2 hB2'
            | true =>
              rw [hd] at e2
              rw [if_neg (show ¬ tf true = 0 by decide)]
              unfold f_X9_borders_64
              rw [nI_1]
              exact ih (i + 1) m _ b2 (by omega) (by omega) e2 hB2'
          · have hz : fp F part n i = false := by simp [fp, hf]
            rw [if_pos ((tf0 _).mpr (by simpa using hf))]
            exact ih (i + 1) m r bs (by omega) (by omega) (by rw [skip hz]; exact hr) (by rw [skip hz]; exact hB)
        · have hz : fp F part n i = false := by simp [fp, hsub]
          rw [if_neg (fun h => hsub ((t_sub ⟨i, hi64⟩ ⟨part, hp⟩).mp h))]
          exact ih (i + 1) m r bs (by omega) (by omega) (by rw [skip hz]; exact hr) (by rw [skip hz]; exact hB)
      · have hz : fp F part n i = false := by simp [fp, hs]
        rw [if_neg (fun h => hs ((nI_inj (by have := sz_lt i; omega) (by omega)).mp h))]
        exact ih (i + 1) m r bs (by omega) (by omega) (by rw [skip hz]; exact hr) (by rw [skip hz]; exact hB)
  obtain ⟨b', hb'⟩ := key (2 ^ N) 0 FU 0 b0 (by omega) (Nat.lt_of_le_of_lt h64 (by decide)) rfl hB0
  refine ⟨b', ?_⟩
  unfold f_X9_borders f_X9_borders_0
  rw [sbg hb0]
  have e : vl (fp F part n) bel 64 = vl (fp F part n) bel (2 ^ N) := by
    have := vl_tail (P := fp F part n) (g := bel) (m := 2 ^ N) (64 - 2 ^ N) (fun i h1 h2 => by
      have : tb F i = false := by
        cases h : tb F i
        · rfl
        · have := hin i (by omega) h; omega
      simp [fp, this])
    rw [show 2 ^ N + (64 - 2 ^ N) = 64 by omega] at this
    exact this
  unfold brk
  rw [e]
  exact hb'
