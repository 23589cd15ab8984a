/-! ===== pure part: bits of longs, sets as numbers ===== -/
def tb (x : Int64) (i : Nat) : Bool := x.toBitVec.getLsbD i
theorem tb_ext {x y : Int64} (h : ∀ i, i < 64 → tb x i = tb y i) : x = y := by
  apply Int64.toBitVec_inj.mp
  apply BitVec.eq_of_getLsbD_eq
  intro i hi
  exact h i hi
theorem tb_or (x y : Int64) (i : Nat) : tb (x ||| y) i = (tb x i || tb y i) := by simp [tb]
theorem tb_and (x y : Int64) (i : Nat) : tb (x &&& y) i = (tb x i && tb y i) := by simp [tb]
theorem tb_xor (x y : Int64) (i : Nat) : tb (x ^^^ y) i = (tb x i ^^ tb y i) := by simp [tb]
theorem tb_0 (i : Nat) : tb 0 i = false := by simp [tb]
theorem tb_m1 : ∀ i : Fin 64, tb (-1) i.val = true := by decide +kernel
theorem tb_not (x : Int64) {i : Nat} (h : i < 64) : tb (x ^^^ (-1)) i = !(tb x i) := by
  rw [tb_xor, tb_m1 ⟨i, h⟩]
  simp
theorem tb_big (x : Int64) {i : Nat} (h : 64 ≤ i) : tb x i = false := by
  simp only [tb]
  exact BitVec.getLsbD_of_ge _ _ h
def b1 (k : Nat) : Int64 := (1 : Int64) <<< ((nI k).toInt64 &&& 63)
theorem tb_b1' : ∀ k i : Fin 64, tb (b1 k.val) i.val = decide (i.val = k.val) := by decide +kernel
theorem tb_b1 {k i : Nat} (hk : k < 64) (hi : i < 64) : tb (b1 k) i = decide (i = k) := tb_b1' ⟨k, hk⟩ ⟨i, hi⟩
theorem tb_1 {i : Nat} (hi : i < 64) : tb 1 i = decide (i = 0) := by
  have := tb_b1' ⟨0, by decide⟩ ⟨i, hi⟩
  exact this
theorem eq0_iff {x : Int64} : x = 0 ↔ ∀ i, i < 64 → tb x i = false := by
  constructor
  · intro h i _
    rw [h, tb_0]
  · intro h
    exact tb_ext (fun i hi => by rw [h i hi, tb_0])
theorem sh_s : ∀ k : Fin 64, (((nI k.val).toInt64 &&& 63).toBitVec.smod 64).toNat = k.val := by decide +kernel
theorem sh_u : ∀ k : Fin 64, ((nI k.val).toInt64.toUInt64 &&& Int64.toUInt64 63).toBitVec.toNat % 64 = k.val := by decide +kernel
theorem tb_shr (x : Int64) {k i : Nat} (hk : k < 64) (hi : k + i < 64) : tb (x >>> ((nI k).toInt64 &&& 63)) i = tb x (k + i) := by
  have h := sh_s ⟨k, hk⟩
  simp only [tb, Int64.toBitVec_shiftRight, BitVec.sshiftRight']
  rw [show (((nI k).toInt64 &&& 63).toBitVec.smod 64).toNat = k from h, BitVec.getLsbD_sshiftRight]
  have h1 : ¬ 64 ≤ i := by omega
  simp [h1, hi]
theorem tb_ushr (x : Int64) {k i : Nat} (hk : k < 64) (hi : k + i < 64) : tb ((x.toUInt64 >>> ((nI k).toInt64.toUInt64 &&& Int64.toUInt64 63)).toInt64) i = tb x (k + i) := by
  have h := sh_u ⟨k, hk⟩
  have e : ((x.toUInt64 >>> ((nI k).toInt64.toUInt64 &&& Int64.toUInt64 63)).toInt64).toBitVec = x.toBitVec >>> k := by
    apply BitVec.eq_of_toNat_eq
    simp only [UInt64.toBitVec_toInt64, UInt64.toBitVec_shiftRight, Int64.toBitVec_toUInt64]
    rw [BitVec.ushiftRight_eq', BitVec.toNat_ushiftRight, BitVec.toNat_ushiftRight]
    have h2 : (((nI k).toInt64.toUInt64 &&& Int64.toUInt64 63).toBitVec % 64).toNat = k := by
      rw [BitVec.toNat_umod]
      exact h
    rw [h2]
  simp only [tb]
  rw [e, BitVec.getLsbD_ushiftRight]
theorem and1 (x : Int64) : x &&& 1 = if tb x 0 = true then 1 else 0 := by
  apply tb_ext
  intro i hi
  rw [tb_and, tb_1 hi]
  by_cases h0 : i = 0
  · subst h0
    cases h : tb x 0
    · simp [tb_0]
    · simp [tb_1 hi]
  · by_cases h : tb x 0 = true
    · simp [h, h0, tb_1 hi]
    · simp [h, h0, tb_0]
theorem bit_shr (x : Int64) {k : Nat} (hk : k < 64) : (x >>> ((nI k).toInt64 &&& 63)) &&& 1 = if tb x k = true then 1 else 0 := by
  rw [and1, tb_shr x hk (by omega)]
  rfl
theorem bit_ushr (x : Int64) {k : Nat} (hk : k < 64) : ((x.toUInt64 >>> ((nI k).toInt64.toUInt64 &&& Int64.toUInt64 63)).toInt64) &&& 1 = if tb x k = true then 1 else 0 := by
  rw [and1, tb_ushr x hk (by omega)]
  rfl
/-- truth as a number -/
def tf (b : Bool) : Int32 := match b with
  | true => 1
  | false => 0
theorem lit_le {a b : Nat} (ha : a < 2 ^ 31) (hb : b < 2 ^ 31) : nI a ≤ nI b ↔ a ≤ b := nI_leI ha hb
theorem f_holds {F : Int64} {s : Nat} (hs : s < 64) : f_X6_holds F (nI s) = some (tf (tb F s)) := by
  unfold f_X6_holds f_X6_holds_0
  rw [if_neg (nI_pos (by omega)), if_neg (show ¬ (64 : Int32) ≤ nI s from nI_ge (b := 64) hs (by decide)), bit_ushr F hs]
  cases h : tb F s
  · rfl
  · rfl
theorem f_isFace {F : Int64} {s : Nat} (hs : s < 64) : f_X9_isFace F (nI s) = some (tf (tb F s)) := by
  unfold f_X9_isFace f_X9_isFace_0
  rw [bit_shr F hs]
  cases h : tb F s
  · rfl
  · rfl
