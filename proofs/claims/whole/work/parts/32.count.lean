/-! ===== pure part: how many bits ===== -/
def cntN (X : Nat) : Nat → Nat
  | 0 => 0
  | n + 1 => cntN X n + (X.testBit n).toNat
def cnt (F : Int64) : Nat → Nat
  | 0 => 0
  | n + 1 => cnt F n + (tb F n).toNat
theorem cnt_le (F : Int64) (n : Nat) : cnt F n ≤ n := by
  induction n with
  | zero => exact Nat.le_refl _
  | succ n ih => have := Bool.toNat_le (tb F n); simp only [cnt]; omega
theorem cnt_cntN (F : Int64) (n : Nat) : cnt F n = cntN F.toBitVec.toNat n := by
  induction n with
  | zero => rfl
  | succ n ih => simp only [cnt, cntN, ih, tb, BitVec.getLsbD]
def rep (m : Nat) : Nat → Nat
  | 0 => 0
  | n + 1 => m + 256 * rep m n
theorem sw_G {lo hi m M k : Nat} (hk : k ≤ 8) (hm : m < 2 ^ (8 - k)) (hlo : lo < 256) : ((lo + 256 * hi) >>> k) &&& (m + 256 * M) = ((lo >>> k) &&& m) + 256 * ((hi >>> k) &&& M) := by
  have hm8 : m < 2 ^ 8 := Nat.lt_of_lt_of_le hm (Nat.pow_le_pow_right (by decide) (by omega))
  have hl8 : lo < 2 ^ 8 := hlo
  have hr : ((lo >>> k) &&& m) < 2 ^ 8 := Nat.lt_of_le_of_lt Nat.and_le_right hm8
  apply Nat.eq_of_testBit_eq
  intro i
  rw [show lo + 256 * hi = 2 ^ 8 * hi + lo by omega, show m + 256 * M = 2 ^ 8 * M + m by omega, show ((lo >>> k) &&& m) + 256 * ((hi >>> k) &&& M) = 2 ^ 8 * ((hi >>> k) &&& M) + ((lo >>> k) &&& m) by omega]
  rw [Nat.testBit_and, Nat.testBit_shiftRight, Nat.testBit_two_pow_mul_add _ hl8, Nat.testBit_two_pow_mul_add _ hm8, Nat.testBit_two_pow_mul_add _ hr]
  by_cases hi8 : i < 8
  · rw [if_pos hi8, if_pos hi8, Nat.testBit_and, Nat.testBit_shiftRight]
    by_cases h2 : k + i < 8
    · rw [if_pos h2]
    · have hz : m.testBit i = false := Nat.testBit_lt_two_pow (Nat.lt_of_lt_of_le hm (Nat.pow_le_pow_right (by decide) (by omega)))
      rw [hz]; simp
  · rw [if_neg hi8, if_neg hi8, if_neg (by omega), Nat.testBit_and, Nat.testBit_shiftRight]
    rw [show k + i - 8 = k + (i - 8) by omega]
def swA (n X : Nat) : Nat := X - ((X >>> 1) &&& rep 85 n)
def swB (n X : Nat) : Nat := (X &&& rep 51 n) + ((X >>> 2) &&& rep 51 n)
def swC (n X : Nat) : Nat := (X + (X >>> 4)) &&& rep 15 n
theorem swA_s {n lo hi : Nat} (h : lo < 256) : swA (n + 1) (lo + 256 * hi) = swA 1 lo + 256 * swA n hi := by
  unfold swA
  rw [show rep 85 (n + 1) = 85 + 256 * rep 85 n from rfl, sw_G (by decide) (by decide) h, show rep 85 1 = 85 from rfl]
  have h1 : (lo >>> 1) &&& 85 ≤ lo := Nat.le_trans Nat.and_le_left (by rw [Nat.shiftRight_eq_div_pow]; exact Nat.div_le_self _ _)
  have h2 : (hi >>> 1) &&& rep 85 n ≤ hi := Nat.le_trans Nat.and_le_left (by rw [Nat.shiftRight_eq_div_pow]; exact Nat.div_le_self _ _)
  omega
theorem swB_s {n lo hi : Nat} (h : lo < 256) : swB (n + 1) (lo + 256 * hi) = swB 1 lo + 256 * swB n hi := by
  unfold swB
  have e0 := sw_G (lo := lo) (hi := hi) (m := 51) (M := rep 51 n) (k := 0) (by decide) (by decide) h
  have e2 := sw_G (lo := lo) (hi := hi) (m := 51) (M := rep 51 n) (k := 2) (by decide) (by decide) h
  simp only [Nat.shiftRight_zero] at e0
  rw [show rep 51 (n + 1) = 51 + 256 * rep 51 n from rfl, e0, e2, show rep 51 1 = 51 from rfl]
  omega
theorem swC_s {n lo hi : Nat} (h : lo + lo / 16 + 16 * (hi % 16) < 256) : swC (n + 1) (lo + 256 * hi) = swC 1 lo + 256 * swC n hi := by
  unfold swC
  have e1 : (lo + 256 * hi) + ((lo + 256 * hi) >>> 4) = (lo + lo / 16 + 16 * (hi % 16)) + 256 * (hi + hi >>> 4) := by
    simp only [Nat.shiftRight_eq_div_pow]
    omega
  have e0 := sw_G (lo := lo + lo / 16 + 16 * (hi % 16)) (hi := hi + hi >>> 4) (m := 15) (M := rep 15 n) (k := 0) (by decide) (by decide) h
  simp only [Nat.shiftRight_zero] at e0
  rw [e1, show rep 15 (n + 1) = 15 + 256 * rep 15 n from rfl, e0, show rep 15 1 = 15 from rfl]
  have e2 : (lo + lo / 16 + 16 * (hi % 16)) &&& 15 = (lo + lo >>> 4) &&& 15 := by
    rw [show (15 : Nat) = 2 ^ 4 - 1 from rfl, Nat.and_two_pow_sub_one_eq_mod, Nat.and_two_pow_sub_one_eq_mod]
    simp only [Nat.shiftRight_eq_div_pow]
    omega
  rw [e2]
def pc8 (y : Nat) : Nat := cntN y 8
theorem sw8 : ∀ y : Fin 256, swA 1 y.val < 256 ∧ swB 1 (swA 1 y.val) + swB 1 (swA 1 y.val) / 16 + 64 < 256 ∧ swB 1 (swA 1 y.val) % 16 ≤ 4 ∧ swC 1 (swB 1 (swA 1 y.val)) = pc8 y.val ∧ pc8 y.val ≤ 8 := by decide +kernel
def wsum : Nat → Nat → Nat
  | 0, _ => 0
  | n + 1, X => pc8 (X % 256) + 256 * wsum n (X / 256)
def pcB : Nat → Nat → Nat
  | 0, _ => 0
  | n + 1, X => pc8 (X % 256) + pcB n (X / 256)
theorem swB_low (n X : Nat) : swB n (swA n X) % 16 ≤ 4 := by
  cases n with
  | zero => simp [swB, rep]
  | succ n =>
    have hlo : X % 256 < 256 := Nat.mod_lt _ (by decide)
    have h8 := sw8 ⟨X % 256, hlo⟩
    have e : X = X % 256 + 256 * (X / 256) := by omega
    rw [e, swA_s hlo, swB_s h8.1]
    have := h8.2.2.1
    omega
theorem sw_all (n : Nat) : ∀ X, swC n (swB n (swA n X)) = wsum n X := by
  induction n with
  | zero => intro X; simp [swC, rep, wsum]
  | succ n ih =>
    intro X
    have hlo : X % 256 < 256 := Nat.mod_lt _ (by decide)
    have h8 := sw8 ⟨X % 256, hlo⟩
    have e : X = X % 256 + 256 * (X / 256) := by omega
    have hl := swB_low n (X / 256)
    have e2 : swC (n + 1) (swB (n + 1) (swA (n + 1) X)) = swC 1 (swB 1 (swA 1 (X % 256))) + 256 * swC n (swB n (swA n (X / 256))) := by
      conv => lhs; rw [e]
      rw [swA_s hlo, swB_s h8.1, swC_s (by have := h8.2.1; omega)]
    rw [e2, ih, h8.2.2.2.1]
    rfl
theorem cntN_split (X m : Nat) : cntN X (8 + m) = cntN X 8 + cntN (X / 256) m := by
  induction m with
  | zero => rfl
  | succ m ih =>
    show cntN X (8 + m) + (X.testBit (8 + m)).toNat = _
    rw [ih]
    simp only [cntN]
    rw [show X / 256 = X / 2 ^ 8 from rfl, Nat.testBit_div_two_pow]
    rw [Nat.add_comm m 8]
    omega
theorem cntN_mod (X : Nat) : cntN (X % 256) 8 = cntN X 8 := by
  simp only [cntN, show (256 : Nat) = 2 ^ 8 from rfl, Nat.testBit_mod_two_pow]
  simp
theorem pcB_cnt (n : Nat) : ∀ X, pcB n X = cntN X (8 * n) := by
  induction n with
  | zero => intro X; rfl
  | succ n ih =>
    intro X
    rw [show 8 * (n + 1) = 8 + 8 * n by omega, cntN_split]
    simp only [pcB]
    rw [ih, pc8, cntN_mod]
theorem dv1 {a b : Nat} (h : a < 256) : (a + 256 * b) / 256 = b := by omega
theorem dv2 {a b c : Nat} (ha : a < 256) (hb : b < 256) : (a + 256 * (b + 256 * c)) / 65536 = c := by
  rw [show (65536 : Nat) = 256 * 256 from rfl, ← Nat.div_div_eq_div_mul, dv1 ha, dv1 hb]
theorem dv4 {a b c d x : Nat} (ha : a < 256) (hb : b < 256) (hc : c < 256) (hd : d < 256) : (a + 256 * (b + 256 * (c + 256 * (d + 256 * x)))) / 4294967296 = x := by
  rw [show (4294967296 : Nat) = 65536 * 65536 from rfl, ← Nat.div_div_eq_div_mul, dv2 ha hb, dv2 hc hd]
theorem ad1 (a b x y : Nat) : (a + 256 * x) + (b + 256 * y) = (a + b) + 256 * (x + y) := by omega
theorem md1 {a x : Nat} (h : a < 128) : (a + 256 * x) % 128 = a := by omega
def pl : List Nat → Nat
  | [] => 0
  | a :: l => a + 256 * pl l
theorem pl_add : ∀ (l m : List Nat), l.length = m.length → pl l + pl m = pl (List.zipWith (· + ·) l m)
  | [], [], _ => rfl
  | a :: l, b :: m, h => by
    have ih := pl_add l m (by simpa using h)
    simp only [pl, List.zipWith_cons_cons]
    rw [ad1, ih]
  | [], _ :: _, h => by simp at h
  | _ :: _, [], h => by simp at h
theorem sw_fold {c0 c1 c2 c3 c4 c5 c6 c7 : Nat} (h0 : c0 ≤ 8) (h1 : c1 ≤ 8) (h2 : c2 ≤ 8) (h3 : c3 ≤ 8) (h4 : c4 ≤ 8) (h5 : c5 ≤ 8) (h6 : c6 ≤ 8) (h7 : c7 ≤ 8) (C D E : Nat) (hC : C = pl [c0, c1, c2, c3, c4, c5, c6, c7]) (hD : D = C + C / 256) (hE : E = D + D / 65536) : (E + E / 4294967296) % 128 = c0 + (c1 + (c2 + (c3 + (c4 + (c5 + (c6 + c7)))))) := by
  have e1 : C / 256 = pl [c1, c2, c3, c4, c5, c6, c7, 0] := by rw [hC]; simp only [pl]; exact dv1 (by omega)
  have e2 : D = pl [c0 + c1, c1 + c2, c2 + c3, c3 + c4, c4 + c5, c5 + c6, c6 + c7, c7 + 0] := by rw [hD, e1, hC, pl_add _ _ (by rfl)]; rfl
  have e3 : D / 65536 = pl [c2 + c3, c3 + c4, c4 + c5, c5 + c6, c6 + c7, c7 + 0, 0, 0] := by rw [e2]; simp only [pl]; exact dv2 (by omega) (by omega)
  have e4 : E = pl [c0 + c1 + (c2 + c3), c1 + c2 + (c3 + c4), c2 + c3 + (c4 + c5), c3 + c4 + (c5 + c6), c4 + c5 + (c6 + c7), c5 + c6 + (c7 + 0), c6 + c7 + 0, c7 + 0 + 0] := by rw [hE, e3, e2, pl_add _ _ (by rfl)]; rfl
  have e5 : E / 4294967296 = pl [c4 + c5 + (c6 + c7), c5 + c6 + (c7 + 0), c6 + c7 + 0, c7 + 0 + 0, 0, 0, 0, 0] := by rw [e4]; simp only [pl]; exact dv4 (by omega) (by omega) (by omega) (by omega)
  rw [e5, e4, pl_add _ _ (by rfl)]
  simp only [List.zipWith_cons_cons, pl]
  rw [md1 (by omega)]
  omega
theorem pc8_le (Y : Nat) : pc8 (Y % 256) ≤ 8 := (sw8 ⟨Y % 256, Nat.mod_lt _ (by decide)⟩).2.2.2.2
theorem wsum_fold (X C D E : Nat) (hC : C = wsum 8 X) (hD : D = C + C / 256) (hE : E = D + D / 65536) : (E + E / 4294967296) % 128 = pcB 8 X := by
  rw [sw_fold (pc8_le X) (pc8_le (X / 256)) (pc8_le (X / 256 / 256)) (pc8_le (X / 256 / 256 / 256)) (pc8_le (X / 256 / 256 / 256 / 256)) (pc8_le (X / 256 / 256 / 256 / 256 / 256)) (pc8_le (X / 256 / 256 / 256 / 256 / 256 / 256)) (pc8_le (X / 256 / 256 / 256 / 256 / 256 / 256 / 256)) C D E hC hD hE]
  rfl
theorem wsum_lt (n : Nat) : ∀ X, 255 * wsum n X ≤ 8 * (256 ^ n - 1) := by
  induction n with
  | zero => intro X; simp [wsum]
  | succ n ih =>
    intro X
    have h1 := ih (X / 256)
    have h2 := pc8_le X
    have h3 : 0 < 256 ^ n := Nat.pow_pos (by decide)
    simp only [wsum, Nat.pow_succ]
    omega
theorem n_sub {x y : Int64} (h : y.toBitVec.toNat ≤ x.toBitVec.toNat) : (x - y).toBitVec.toNat = x.toBitVec.toNat - y.toBitVec.toNat := by
  have := x.toBitVec.isLt
  rw [Int64.toBitVec_sub, BitVec.toNat_sub]
  omega
theorem n_add {x y : Int64} (h : x.toBitVec.toNat + y.toBitVec.toNat < 2 ^ 64) : (x + y).toBitVec.toNat = x.toBitVec.toNat + y.toBitVec.toNat := by
  rw [Int64.toBitVec_add, BitVec.toNat_add]
  exact Nat.mod_eq_of_lt h
theorem n_and (x y : Int64) : (x &&& y).toBitVec.toNat = x.toBitVec.toNat &&& y.toBitVec.toNat := by
  rw [Int64.toBitVec_and, BitVec.toNat_and]
theorem n_shr (x : Int64) (k : Int32) (j : Nat) (h : (k.toInt64.toUInt64 &&& Int64.toUInt64 63).toBitVec.toNat % 64 = j) : ((x.toUInt64 >>> (k.toInt64.toUInt64 &&& Int64.toUInt64 63)).toInt64).toBitVec.toNat = x.toBitVec.toNat >>> j := by
  simp only [UInt64.toBitVec_toInt64, UInt64.toBitVec_shiftRight, Int64.toBitVec_toUInt64]
  rw [BitVec.ushiftRight_eq', BitVec.toNat_ushiftRight]
  have h2 : ((k.toInt64.toUInt64 &&& Int64.toUInt64 63).toBitVec % 64).toNat = j := by
    rw [BitVec.toNat_umod]
    exact h
  rw [h2]
theorem n_low (x : Int64) : (x.toInt32 &&& 127).toBitVec.toNat = x.toBitVec.toNat % 128 := by
  rw [Int32.toBitVec_and, BitVec.toNat_and, Int64.toBitVec_toInt32]
  rw [show (Int32.toBitVec 127).toNat = 2 ^ 7 - 1 from by decide, Nat.and_two_pow_sub_one_eq_mod, BitVec.signExtend_eq_setWidth_of_le _ (by decide), BitVec.toNat_setWidth]
  omega
theorem nI_of_toNat {x : Int32} {n : Nat} (h : x.toBitVec.toNat = n) : x = nI n := by
  apply Int32.toBitVec_inj.mp
  apply BitVec.eq_of_toNat_eq
  rw [h]
  have hlt : n < 2 ^ 32 := by rw [← h]; exact x.toBitVec.isLt
  exact (pk_tn hlt).symm
theorem bc_steps (F a b c d e f : Int64) (ha : a = F - (((F.toUInt64 >>> ((1 : Int32).toInt64.toUInt64 &&& Int64.toUInt64 63)).toInt64) &&& (6148914691236517205 : Int64))) (hb : b = (a &&& (3689348814741910323 : Int64)) + (((a.toUInt64 >>> ((2 : Int32).toInt64.toUInt64 &&& Int64.toUInt64 63)).toInt64) &&& (3689348814741910323 : Int64))) (hc : c = (b + ((b.toUInt64 >>> ((4 : Int32).toInt64.toUInt64 &&& Int64.toUInt64 63)).toInt64)) &&& (1085102592571150095 : Int64)) (hd : d = c + ((c.toUInt64 >>> ((8 : Int32).toInt64.toUInt64 &&& Int64.toUInt64 63)).toInt64)) (he : e = d + ((d.toUInt64 >>> ((16 : Int32).toInt64.toUInt64 &&& Int64.toUInt64 63)).toInt64)) (hf : f = e + ((e.toUInt64 >>> ((32 : Int32).toInt64.toUInt64 &&& Int64.toUInt64 63)).toInt64)) : f.toBitVec.toNat % 128 = pcB 8 F.toBitVec.toNat := by
  have A : a.toBitVec.toNat = swA 8 F.toBitVec.toNat := by
    have e1 : (((F.toUInt64 >>> ((1 : Int32).toInt64.toUInt64 &&& Int64.toUInt64 63)).toInt64) &&& (6148914691236517205 : Int64)).toBitVec.toNat = (F.toBitVec.toNat >>> 1) &&& rep 85 8 := by
      rw [n_and, n_shr _ 1 1 (by decide)]
      rfl
    rw [ha, n_sub (by rw [e1]; exact Nat.le_trans Nat.and_le_left (by rw [Nat.shiftRight_eq_div_pow]; exact Nat.div_le_self _ _)), e1]
    rfl
  have B : b.toBitVec.toNat = swB 8 (swA 8 F.toBitVec.toNat) ∧ b.toBitVec.toNat ≤ 7378697629483820646 := by
    have e1 : (a &&& (3689348814741910323 : Int64)).toBitVec.toNat = (swA 8 F.toBitVec.toNat) &&& rep 51 8 := by
      rw [n_and, A]
      rfl
    have e2 : (((a.toUInt64 >>> ((2 : Int32).toInt64.toUInt64 &&& Int64.toUInt64 63)).toInt64) &&& (3689348814741910323 : Int64)).toBitVec.toNat = ((swA 8 F.toBitVec.toNat) >>> 2) &&& rep 51 8 := by
      rw [n_and, n_shr _ 2 2 (by decide), A]
      rfl
    have l1 : (swA 8 F.toBitVec.toNat) &&& rep 51 8 ≤ 3689348814741910323 := Nat.and_le_right
    have l2 : ((swA 8 F.toBitVec.toNat) >>> 2) &&& rep 51 8 ≤ 3689348814741910323 := Nat.and_le_right
    have h : b.toBitVec.toNat = swB 8 (swA 8 F.toBitVec.toNat) := by
      rw [hb, n_add (by rw [e1, e2]; omega), e1, e2]
      rfl
    refine ⟨h, ?_⟩
    rw [h]
    show ((swA 8 F.toBitVec.toNat) &&& rep 51 8) + (((swA 8 F.toBitVec.toNat) >>> 2) &&& rep 51 8) ≤ _
    exact Nat.add_le_add l1 l2
  have C : c.toBitVec.toNat = wsum 8 F.toBitVec.toNat := by
    have e1 : ((b.toUInt64 >>> ((4 : Int32).toInt64.toUInt64 &&& Int64.toUInt64 63)).toInt64).toBitVec.toNat = b.toBitVec.toNat >>> 4 := n_shr _ 4 4 (by decide)
    have l1 : b.toBitVec.toNat >>> 4 ≤ b.toBitVec.toNat := by rw [Nat.shiftRight_eq_div_pow]; exact Nat.div_le_self _ _
    rw [hc, n_and, n_add (by rw [e1]; have := B.2; omega), e1, B.1, ← sw_all]
    rfl
  have hw := wsum_lt 8 F.toBitVec.toNat
  have l0 : wsum 8 F.toBitVec.toNat < 2 ^ 60 := by
    have : (256 : Nat) ^ 8 = 18446744073709551616 := by decide
    omega
  have e1 : ((c.toUInt64 >>> ((8 : Int32).toInt64.toUInt64 &&& Int64.toUInt64 63)).toInt64).toBitVec.toNat = c.toBitVec.toNat / 256 := by rw [n_shr _ 8 8 (by decide), Nat.shiftRight_eq_div_pow]
  have Dn : d.toBitVec.toNat = c.toBitVec.toNat + c.toBitVec.toNat / 256 := by rw [hd, n_add (by rw [e1, C]; omega), e1]
  have e2 : ((d.toUInt64 >>> ((16 : Int32).toInt64.toUInt64 &&& Int64.toUInt64 63)).toInt64).toBitVec.toNat = d.toBitVec.toNat / 65536 := by rw [n_shr _ 16 16 (by decide), Nat.shiftRight_eq_div_pow]
  have En : e.toBitVec.toNat = d.toBitVec.toNat + d.toBitVec.toNat / 65536 := by rw [he, n_add (by rw [e2, Dn, C]; omega), e2]
  have e3 : ((e.toUInt64 >>> ((32 : Int32).toInt64.toUInt64 &&& Int64.toUInt64 63)).toInt64).toBitVec.toNat = e.toBitVec.toNat / 4294967296 := by rw [n_shr _ 32 32 (by decide), Nat.shiftRight_eq_div_pow]
  have Fn : f.toBitVec.toNat = e.toBitVec.toNat + e.toBitVec.toNat / 4294967296 := by rw [hf, n_add (by rw [e3, En, Dn, C]; omega), e3]
  rw [Fn]
  exact wsum_fold _ _ _ _ C Dn En
theorem f_bitCount (F : Int64) : f_J13_bitCount_95d88 F = some (nI (cnt F 64)) := by
  unfold f_J13_bitCount_95d88 f_J13_bitCount_95d88_0
  simp only [bnd]
  refine congrArg some (nI_of_toNat ?_)
  rw [n_low, cnt_cntN, ← pcB_cnt 8]
  exact bc_steps F _ _ _ _ _ _ rfl rfl rfl rfl rfl rfl
/-- a loop that counts up, with an invariant -/
def lp {σ : Type} (st : Nat → σ → σ) : Nat → Nat → σ → σ
  | 0, _, s => s
  | k + 1, i, s => lp st k (i + 1) (st i s)
theorem lp_last {σ : Type} (st : Nat → σ → σ) : ∀ (k i : Nat) (s : σ), lp st (k + 1) i s = st (i + k) (lp st k i s)
  | 0, i, s => rfl
  | k + 1, i, s => by
    show lp st (k + 1) (i + 1) (st i s) = _
    rw [lp_last st k (i + 1) (st i s)]
    rw [show i + 1 + k = i + (k + 1) by omega]
    rfl
theorem loop_up {σ ρ : Type} (f : Nat → Nat → σ → ρ) (e : Nat) (st : Nat → σ → σ) (done : σ → ρ) (I : Nat → σ → Prop) (hx : ∀ n s, I e s → f (n + 1) e s = done s) (hs : ∀ n i s, i < e → I i s → f (n + 1) i s = f n (i + 1) (st i s) ∧ I (i + 1) (st i s)) : ∀ k i n s, i + k = e → k < n → I i s → f n i s = done (lp st k i s) ∧ I e (lp st k i s) := by
  intro k
  induction k with
  | zero =>
    intro i n s h1 h2 hI
    obtain ⟨n, rfl⟩ : ∃ n', n = n' + 1 := ⟨n - 1, by omega⟩
    have h1 : i = e := by omega
    subst h1
    exact ⟨hx n s hI, hI⟩
  | succ k ih =>
    intro i n s h1 h2 hI
    obtain ⟨n, rfl⟩ : ∃ n', n = n' + 1 := ⟨n - 1, by omega⟩
    obtain ⟨a1, a2⟩ := hs n i s (by omega) hI
    rw [a1]
    exact ih (i + 1) n (st i s) (by omega) (by omega) a2
theorem tf_long (b : Bool) : (if b = true then (1 : Int64) else 0).toInt32 = nI b.toNat := by cases b <;> decide
theorem f_many (F : Int64) : f_X9_many F = some (nI (cnt F 64)) := by
  have h := loop_up (fun n i (s : Int32) => f_X9_many_4 n F s (nI i)) 64 (fun i s => s + nI (tb F i).toNat) (fun s => some s) (fun i s => s = nI (cnt F i))
    (fun n s _ => by
      show f_X9_many_4 (n + 1) F s (nI 64) = some s
      unfold f_X9_many_4
      rw [if_pos (show (64 : Int32) ≤ nI 64 from by decide)])
    (fun n i s hi hI => by
      refine ⟨?_, ?_⟩
      · show f_X9_many_4 (n + 1) F s (nI i) = f_X9_many_4 n F (s + nI (tb F i).toNat) (nI (i + 1))
        rw [f_X9_many_4]
        rw [if_neg (show ¬ (64 : Int32) ≤ nI i from nI_ge (b := 64) hi (by decide)), bit_shr F hi, tf_long]
        rw [← nI_1]
        rfl
      · rw [hI, nI_add]; rfl) 64 0 FU 0 rfl (by decide) rfl
  have h2 : f_X9_many F = f_X9_many_4 FU F 0 (nI 0) := rfl
  rw [h2]
  have h3 := h.1
  have h4 := h.2
  rw [h3, h4]
