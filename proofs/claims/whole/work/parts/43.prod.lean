/-! ===== pure part: products ===== -/
theorem t_and : ∀ a b : Fin 64, nI a.val &&& nI b.val = nI (a.val &&& b.val) := by decide +kernel
theorem t_or : ∀ a b : Fin 64, nI a.val ||| nI b.val = nI (a.val ||| b.val) := by decide +kernel
theorem nI_and {a b : Nat} (ha : a < 64) (hb : b < 64) : nI a &&& nI b = nI (a &&& b) := t_and ⟨a, ha⟩ ⟨b, hb⟩
theorem nI_or {a b : Nat} (ha : a < 64) (hb : b < 64) : nI a ||| nI b = nI (a ||| b) := t_or ⟨a, ha⟩ ⟨b, hb⟩
theorem and_lt64 {a b : Nat} (ha : a < 64) : a &&& b < 64 := Nat.lt_of_le_of_lt Nat.and_le_left ha
theorem or_lt64 {a b : Nat} (ha : a < 64) (hb : b < 64) : a ||| b < 64 := Nat.or_lt_two_pow (n := 6) ha hb
/-- the product of marks, on the FACES of k points within q -/
def prd (F : Int64) (j l k : Nat) (x y : Int64) : Int64 := mk (fun s => fp F (j ||| l) k s && (tb x (s &&& j) && tb y (s &&& l))) 64
theorem f_multiply {F : Int64} {j l k : Nat} (hj : j < 64) (hl : l < 64) (x y : Int64) : f_X3_multiply (mk (fp F (j ||| l) k) 64) x (nI j) y (nI l) = some (prd F j l k x y) := by
  have key : ∀ q i m, i + q = 64 → q < m → f_X3_multiply_6 m (mk (fp F (j ||| l) k) 64) x (nI j) y (nI l) (mk (fun s => fp F (j ||| l) k s && (tb x (s &&& j) && tb y (s &&& l))) i) (nI i) = some (prd F j l k x y) := by
    intro q
    induction q with
    | zero =>
      intro i m h1 h2
      obtain ⟨m, rfl⟩ : ∃ m', m = m' + 1 := ⟨m - 1, by omega⟩
      have e : i = 64 := by omega
      subst e
      rw [f_X3_multiply_6, if_pos (show (64 : Int32) ≤ nI 64 by decide)]
      rfl
    | succ q ih =>
      intro i m h1 h2
      obtain ⟨m, rfl⟩ : ∃ m', m = m' + 1 := ⟨m - 1, by omega⟩
      have hi : i < 64 := by omega
      have ih := ih (i + 1) m (by omega) (by omega)
      rw [mk_s _ i] at ih
      rw [f_X3_multiply_6, if_neg (show ¬ (64 : Int32) ≤ nI i from nI_ge (b := 64) hi (by decide)), sbg (f_holds hi), tb_fp hi, nI_and hi hj, nI_and hi hl, nI_1]
      cases h0 : fp F (j ||| l) k i with
      | false =>
        rw [if_pos (show tf false = 0 from rfl)]
        rw [if_neg (by rw [h0]; simp)] at ih
        exact ih
      | true =>
        rw [if_neg (show ¬ tf true = 0 by decide), sbg (f_holds (and_lt64 hi))]
        cases h3 : tb x (i &&& j) with
        | false =>
          rw [if_pos (show tf false = 0 from rfl)]
          rw [if_neg (by rw [h0, h3]; simp)] at ih
          exact ih
        | true =>
          rw [if_neg (show ¬ tf true = 0 by decide), sbg (f_holds (and_lt64 hi))]
          cases h4 : tb y (i &&& l) with
          | false =>
            rw [if_pos (show tf false = 0 from rfl)]
            rw [if_neg (by rw [h0, h3, h4]; decide)] at ih
            exact ih
          | true =>
            rw [if_neg (show ¬ tf true = 0 by decide)]
            rw [if_pos (by rw [h0, h3, h4]; rfl)] at ih
            exact ih
  exact key 64 0 FU rfl (by decide)
theorem sub_or {s j l i : Nat} (h : sub s (j ||| l) = true) (hs : s.testBit i = true) : (j.testBit i || l.testBit i) = true := by
  have e : s &&& (j ||| l) = s := by simpa [sub] using h
  have : (s &&& (j ||| l)).testBit i = true := by rw [e]; exact hs
  rw [Nat.testBit_and, Nat.testBit_or, hs] at this
  simpa using this
theorem and0_bit {j l i : Nat} (h : j &&& l = 0) : (j.testBit i && l.testBit i) = false := by
  rw [← Nat.testBit_and, h, Nat.zero_testBit]
theorem sz_split {s j l : Nat} (h : sub s (j ||| l) = true) (h0 : j &&& l = 0) : sz s = sz (s &&& j) + sz (s &&& l) := by
  have key : ∀ i, (s.testBit i).toNat = (s.testBit i && j.testBit i).toNat + (s.testBit i && l.testBit i).toNat := fun i => by
    have b := and0_bit (i := i) h0
    cases hs : s.testBit i
    · rfl
    · have a := sub_or h hs
      revert a b
      cases j.testBit i <;> cases l.testBit i <;> simp
  unfold sz
  simp only [Nat.testBit_and]
  rw [key 0, key 1, key 2, key 3, key 4, key 5]
  omega
theorem t_shl0 : ∀ s : Fin 64, (0 : Int64) <<< ((nI s.val).toInt64 &&& 63) = 0 := by decide +kernel
theorem bit2 (x y : Int64) {a b s : Nat} (ha : a < 64) (hb : b < 64) (hs : s < 64) : ((((x >>> ((nI a).toInt64 &&& 63)) &&& (y >>> ((nI b).toInt64 &&& 63))) &&& 1) <<< ((nI s).toInt64 &&& 63)) = if (tb x a && tb y b) = true then b1 s else 0 := by
  rw [and1, tb_and, tb_shr x ha (by omega), tb_shr y hb (by omega)]
  cases h : (tb x a && tb y b)
  · rw [if_neg (by decide), if_neg (by decide)]
    exact t_shl0 ⟨s, hs⟩
  · rw [if_pos rfl, if_pos rfl]
    rfl
/-- a mark that lives on sets of n points -/
def onSz (n : Nat) (x : Int64) : Prop := ∀ t, t < 64 → tb x t = true → sz t = n
theorem f_product {N j l a b : Nat} {F x y : Int64} (hX : CX N F) (hj : j < 64) (hl : l < 64) (hjl : j &&& l = 0) (ha : a < 12) (hb : b < 12) (hx : onSz a x) (hy : onSz b y) : f_X9_product (nI N) F x (nI j) (nI a) y (nI l) (nI b) = some (prd F j l (a + b) x y) := by
  have hN := hX.2.1
  have h64 := pow_le64 hN
  have hjl64 := or_lt64 hj hl
  have key : ∀ q i m, i + q = 2 ^ N → q < m → f_X9_product_6 (nI N) F m x (nI j) (nI a) y (nI l) (nI b) (mk (fun s => fp F (j ||| l) (a + b) s && (tb x (s &&& j) && tb y (s &&& l))) i) (nI i) = some (mk (fun s => fp F (j ||| l) (a + b) s && (tb x (s &&& j) && tb y (s &&& l))) (2 ^ N)) := by
    intro q
    induction q with
    | zero =>
      intro i m h1 h2
      obtain ⟨m, rfl⟩ : ∃ m', m = m' + 1 := ⟨m - 1, by omega⟩
      have e : i = 2 ^ N := by omega
      subst e
      rw [f_X9_product_6, sbg (f_all hN), if_pos (all_end hN)]
    | succ q ih =>
      intro i m h1 h2
      obtain ⟨m, rfl⟩ : ∃ m', m = m' + 1 := ⟨m - 1, by omega⟩
      have hi : i < 2 ^ N := by omega
      have hi64 : i < 64 := by omega
      have ih := ih (i + 1) m (by omega) (by omega)
      rw [mk_s _ i] at ih
      have lj := and_lt64 (b := j) hi64
      have ll := and_lt64 (b := l) hi64
      rw [f_X9_product_6, sbg (f_all hN), if_neg (all_lt hN hi), nI_or hj hl, nI_and hi64 hj, nI_and hi64 hl, nI_1]
      by_cases hsub : sub i (j ||| l) = true
      · rw [if_pos ((t_sub ⟨i, hi64⟩ ⟨j ||| l, hjl64⟩).mpr hsub), sbg (f_size lj)]
        by_cases hs1 : sz (i &&& j) = a
        · rw [if_pos (by rw [hs1]), sbg (f_size ll)]
          by_cases hs2 : sz (i &&& l) = b
          · rw [if_pos (by rw [hs2]), sbg (f_isFace hi64)]
            have hsz : sz i = a + b := by rw [sz_split hsub hjl, hs1, hs2]
            by_cases hf : tb F i = true
            · rw [if_neg (by rw [tf0, hf]; decide)]
              simp only [bnd]
              rw [bit2 x y lj ll hi64]
              have hfp : fp F (j ||| l) (a + b) i = true := by simp [fp, hf, hsub, hsz]
              cases hxy : (tb x (i &&& j) && tb y (i &&& l)) with
              | true =>
                rw [if_pos (by rw [hfp, hxy]; rfl)] at ih
                rw [if_pos rfl]
                exact ih
              | false =>
                rw [if_neg (by rw [hfp, hxy]; decide)] at ih
                rw [if_neg (by decide)]
                have e0 : ∀ z : Int64, z ||| (0 : Int64) = z := fun z => tb_ext (fun t _ => by rw [tb_or, tb_0, Bool.or_false])
                rw [e0]
                exact ih
            · rw [if_pos ((tf0 _).mpr (by simpa using hf))]
              rw [if_neg (by simp [fp, hf])] at ih
              exact ih
          · rw [if_neg (fun h => hs2 ((nI_inj (by have := sz_lt (i &&& l); omega) (by omega)).mp h))]
            have hy0 : tb y (i &&& l) = false := by
              cases e : tb y (i &&& l)
              · rfl
              · exact absurd (hy _ ll e) hs2
            rw [if_neg (by rw [hy0]; simp)] at ih
            exact ih
        · rw [if_neg (fun h => hs1 ((nI_inj (by have := sz_lt (i &&& j); omega) (by omega)).mp h))]
          have hx0 : tb x (i &&& j) = false := by
            cases e : tb x (i &&& j)
            · rfl
            · exact absurd (hx _ lj e) hs1
          rw [if_neg (by rw [hx0]; simp)] at ih
          exact ih
      · rw [if_neg (fun h => hsub ((t_sub ⟨i, hi64⟩ ⟨j ||| l, hjl64⟩).mp h))]
        rw [if_neg (by simp [fp, hsub])] at ih
        exact ih
  have h := key (2 ^ N) 0 FU (by omega) (Nat.lt_of_le_of_lt h64 (by decide))
  have e := mk_tail (P := fun s => fp F (j ||| l) (a + b) s && (tb x (s &&& j) && tb y (s &&& l))) (m := 2 ^ N) (64 - 2 ^ N) (fun i h1 h2 => by simp only [fp_tail hX i h1 h2, Bool.false_and])
  rw [show 2 ^ N + (64 - 2 ^ N) = 64 by omega] at e
  unfold prd
  rw [e]
  exact h
