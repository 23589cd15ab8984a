/-! ===== pure part: holes, the reference ===== -/
theorem mk_s (P : Nat → Bool) (i : Nat) : mk P (i + 1) = if P i = true then mk P i ||| b1 i else mk P i := rfl
theorem fp_tail {N part n : Nat} {F : Int64} (hX : CX N F) : ∀ i, 2 ^ N ≤ i → i < 2 ^ N + (64 - 2 ^ N) → fp F part n i = false := by
  intro i h1 h2
  have h64 := pow_le64 hX.2.1
  have : tb F i = false := by
    cases h : tb F i
    · rfl
    · have := hX.2.2.2.1 i (by omega) h; omega
  simp [fp, this]
theorem f_facesOf {N part n : Nat} {F : Int64} (hX : CX N F) (hp : part < 64) (hn : n < 20) : f_X9_facesOf (nI N) F (nI part) (nI n) = some (mk (fp F part n) 64) := by
  have hN := hX.2.1
  have h64 := pow_le64 hN
  have key : ∀ k i m, i + k = 2 ^ N → k < m → f_X9_facesOf_5 (nI N) F m (nI part) (nI n) (mk (fp F part n) i) (nI i) = some (mk (fp F part n) (2 ^ N)) := by
    intro k
    induction k with
    | zero =>
      intro i m h1 h2
      obtain ⟨m, rfl⟩ : ∃ m', m = m' + 1 := ⟨m - 1, by omega⟩
      have e : i = 2 ^ N := by omega
      subst e
      rw [f_X9_facesOf_5, sbg (f_all hN), if_pos (all_end hN)]
    | succ k ih =>
      intro i m h1 h2
      obtain ⟨m, rfl⟩ : ∃ m', m = m' + 1 := ⟨m - 1, by omega⟩
      have hi : i < 2 ^ N := by omega
      have hi64 : i < 64 := by omega
      have ih := ih (i + 1) m (by omega) (by omega)
      rw [f_X9_facesOf_5, sbg (f_all hN), if_neg (all_lt hN hi), sbg (f_isFace hi64), nI_1]
      by_cases hf : tb F i = true
      · rw [if_neg (by rw [tf0, hf]; decide)]
        by_cases hsub : sub i part = true
        · rw [if_pos ((t_sub ⟨i, hi64⟩ ⟨part, hp⟩).mpr hsub), sbg (f_size hi64)]
          by_cases hs : sz i = n
          · have hP : fp F part n i = true := by simp [fp, hf, hsub, hs]
            rw [if_pos (by rw [hs])]
            rw [mk_s, if_pos hP] at ih
            exact ih
          · have hz : ¬ fp F part n i = true := by simp [fp, hs]
            rw [if_neg (fun h => hs ((nI_inj (by have := sz_lt i; omega) (by omega)).mp h))]
            rw [mk_s, if_neg hz] at ih
            exact ih
        · have hz : ¬ fp F part n i = true := by simp [fp, hsub]
          rw [if_neg (fun h => hsub ((t_sub ⟨i, hi64⟩ ⟨part, hp⟩).mp h))]
          rw [mk_s, if_neg hz] at ih
          exact ih
      · have hz : ¬ fp F part n i = true := by simp [fp, hf]
        rw [if_pos ((tf0 _).mpr (by simpa using hf))]
        rw [mk_s, if_neg hz] at ih
        exact ih
  have h := key (2 ^ N) 0 FU (by omega) (Nat.lt_of_le_of_lt h64 (by decide))
  have e := mk_tail (P := fp F part n) (m := 2 ^ N) (64 - 2 ^ N) (fp_tail hX)
  rw [show 2 ^ N + (64 - 2 ^ N) = 64 by omega] at e
  rw [e]
  exact h
/-- a dimension: one less than the number of points -/
def km (n : Nat) : Int32 := nI n + (-1)
theorem km1 (n : Nat) : km n + 1 = nI n := by
  unfold km
  rw [Int32.add_assoc, show ((-1 : Int32) + 1) = 0 from by decide, Int32.add_zero]
theorem km2 (n : Nat) : km n + 2 = nI (n + 1) := by
  unfold km
  rw [Int32.add_assoc, show ((-1 : Int32) + 2) = 1 from by decide, nI_1]
theorem f_holesOf9 {N part n : Nat} {F : Int64} (hX : CX N F) (hp : part < 64) (hn : n < 19) (base : Nat → Int64) : ∃ b', f_X9_holesOf (nI N) F (nI part) (km n) base = some (hol F part n, b') := by
  obtain ⟨b1', h1⟩ := f_borders hX hp (show n < 20 by omega) base
  obtain ⟨b2', h2⟩ := f_borders hX hp (show n + 1 < 20 by omega) b1'
  refine ⟨b2', ?_⟩
  unfold f_X9_holesOf f_X9_holesOf_0
  rw [km1, km2, sbg (f_facesOf hX hp (by omega)), sbg (f_many _), sbg h1, sbg h2]
  rfl
theorem t_inN : ∀ (a : Fin 7) (s : Fin 64), (nI 0 ≤ nI s.val ∧ nI s.val ≤ nI (2 ^ a.val - 1)) ↔ s.val < 2 ^ a.val := by decide +kernel
