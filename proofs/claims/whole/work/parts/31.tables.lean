/-! ===== pure part: small sets, by looking at all of them ===== -/
def sz (s : Nat) : Nat := (s.testBit 0).toNat + (s.testBit 1).toNat + (s.testBit 2).toNat + (s.testBit 3).toNat + (s.testBit 4).toNat + (s.testBit 5).toNat
def sub (t s : Nat) : Bool := t &&& s == t
def mk (P : Nat → Bool) : Nat → Int64
  | 0 => 0
  | n + 1 => if P n = true then mk P n ||| b1 n else mk P n
theorem tb_mk {P : Nat → Bool} {n i : Nat} (hn : n ≤ 64) (hi : i < 64) : tb (mk P n) i = (decide (i < n) && P i) := by
  induction n with
  | zero => simp [mk, tb_0]
  | succ n ih =>
    have ih := ih (by omega)
    unfold mk
    by_cases hP : P n = true
    · rw [if_pos hP, tb_or, ih, tb_b1 (by omega) hi]
      by_cases h : i = n
      · subst h; simp [hP]
      · have e : decide (i < n + 1) = decide (i < n) := by simp; omega
        simp [h, e]
    · rw [if_neg hP, ih]
      by_cases h : i = n
      · subst h; simp [hP]
      · have e : decide (i < n + 1) = decide (i < n) := by simp; omega
        simp [e]
theorem mk_congr {P Q : Nat → Bool} {n : Nat} (h : ∀ i, i < n → P i = Q i) : mk P n = mk Q n := by
  induction n with
  | zero => rfl
  | succ n ih => simp only [mk]; rw [h n (by omega), ih (fun i hi => h i (by omega))]
def ins (s : Nat) : Int64 := mk (fun t => sub t s) 64
def aro (s : Nat) : Int64 := mk (fun t => sub s t) 64
def bel (s : Nat) : Int64 := mk (fun t => sub t s && sz t + 1 == sz s) 64
def abv (s : Nat) : Int64 := mk (fun t => sub s t && sz s + 1 == sz t) 64
def ofs (k : Nat) : Int64 := mk (fun t => sz t == k) 64
theorem t_size : ∀ s : Fin 64, f_X9_size (nI s.val) = some (nI (sz s.val)) := by decide +kernel
theorem t_hasPoint : ∀ (s : Fin 64) (p : Fin 7), f_X6_hasPoint (nI s.val) (nI p.val) = some (tf (s.val.testBit p.val)) := by decide +kernel
theorem t_bitCount : ∀ s : Fin 64, f_J6_bitCount_0f7a4 (nI s.val) = some (nI (sz s.val)) := by decide +kernel
theorem t_inside : ∀ s : Fin 64, f_X6_inside (nI s.val) = some (ins s.val) := by decide +kernel
theorem t_within : ∀ s : Fin 64, f_X9_within (nI s.val) = some (ins s.val) := by decide +kernel
theorem t_around : ∀ s : Fin 64, f_X6_around (nI s.val) = some (aro s.val) := by decide +kernel
theorem t_below : ∀ s : Fin 64, f_X6_below (nI s.val) = some (bel s.val) := by decide +kernel
theorem t_above : ∀ s : Fin 64, f_X6_above (nI s.val) = some (abv s.val) := by decide +kernel
theorem t_border : ∀ (N : Fin 7) (s : Fin 64), s.val < 2 ^ N.val → f_X9_border (nI N.val) (nI s.val) = some (bel s.val) := by decide +kernel
theorem t_ofSize : ∀ k : Fin 16, f_X6_ofSize (nI k.val) = some (ofs k.val) := by decide +kernel
theorem t_all : ∀ N : Fin 7, ((1 : Int32) <<< (nI N.val &&& 31)) - (1 : Int32) = nI (2 ^ N.val - 1) := by decide +kernel
theorem t_pow : ∀ N : Fin 7, ((1 : Int32) <<< (nI N.val &&& 31)) = nI (2 ^ N.val) := by decide +kernel
