/-! the kept complexes on both sides -/
def HE (hp : Nat → Int32) (hf : Nat → Int64) (pH : Nat → Int32) (fH : Nat → Int64) (i : Nat) : Prop := hp i = pH i ∧ hf i = fH i ∧ ∃ n, hp i = nI n ∧ CX n (hf i)
def HK (hp : Nat → Int32) (hf : Nat → Int64) (hc : Int32) (kp : Int32) (pH : Nat → Int32) (fH : Nat → Int64) : Prop := ∃ k, k ≤ 8 ∧ hc = nI k ∧ kp = nI k ∧ ∀ i, i < k → HE hp hf pH fH i
theorem keep_end {N k : Nat} {F : Int64} {hp pH : Nat → Int32} {hf fH : Nat → Int64} (hX : CX N F) (hk : k < 8) (h : ∀ i, i < k → HE hp hf pH fH i) :
    f_X1_keep_45 (nI N) F hp hf (nI k) = some (upd hp k (nI N), vp_updL hf k F, nI (k + 1)) ∧ f_X9_keep_63 (nI N) F (nI k) pH fH = some (nI (k + 1), upd pH k (nI N), vp_updL fH k F) ∧ HK (upd hp k (nI N)) (vp_updL hf k F) (nI (k + 1)) (nI (k + 1)) (upd pH k (nI N)) (vp_updL fH k F) := by
  refine ⟨?_, ?_, k + 1, by omega, rfl, rfl, fun i hi => ?_⟩
  · rw [f_X1_keep_45, ix_nI hk (by decide), cl_nI (show k < 2 ^ 31 by omega)]
    simp only [gd]
    rw [nI_1]
  · rw [f_X9_keep_63, ix_nI hk (by decide), cl_nI (show k < 2 ^ 31 by omega)]
    simp only [gd]
    rw [nI_1]
  · unfold HE
    by_cases e : i = k
    · subst e
      rw [up_s, up_s, uL_s, uL_s]
      exact ⟨rfl, rfl, N, rfl, hX⟩
    · rw [up_n e, up_n e, uL_n e, uL_n e]
      exact h i (by omega)
theorem shift9 {N : Nat} {F : Int64} (pH0 : Nat → Int32) (fH0 : Nat → Int64) : ∀ d i m (pH : Nat → Int32) (fH : Nat → Int64), i + d = 7 → d < m → (∀ j, j < i → pH j = pH0 (j + 1) ∧ fH j = fH0 (j + 1)) → (∀ j, i ≤ j → pH j = pH0 j ∧ fH j = fH0 j) → ∃ pH' fH', f_X9_keep_11 (nI N) F m (nI i) (nI 8) pH fH = f_X9_keep_63 (nI N) F (nI 7) pH' fH' ∧ ∀ j, j < 7 → pH' j = pH0 (j + 1) ∧ fH' j = fH0 (j + 1) := by
  intro d
  induction d with
  | zero =>
    intro i m pH fH g1 g2 h1 h2
    obtain ⟨m, rfl⟩ : ∃ m', m = m' + 1 := ⟨m - 1, by omega⟩
    have e : i = 7 := by omega
    subst e
    exact ⟨pH, fH, by rw [f_X9_keep_11, if_pos (by decide)]; rfl, h1⟩
  | succ d ih =>
    intro i m pH fH g1 g2 h1 h2
    obtain ⟨m, rfl⟩ : ∃ m', m = m' + 1 := ⟨m - 1, by omega⟩
    rw [f_X9_keep_11, show nI i + (1 : Int32) = nI (i + 1) from nI_1 i, if_neg (show ¬ (8 : Int32) ≤ nI (i + 1) from nI_ge (b := 8) (by omega) (by decide)), ix_nI (show i + 1 < 8 by omega) (by decide), ix_nI (show i < 8 by omega) (by decide), cl_nI (show i + 1 < 2 ^ 31 by omega), cl_nI (show i < 2 ^ 31 by omega)]
    simp only [gd, bnd]
    refine ih (i + 1) m _ _ (by omega) (by omega) (fun j hj => ?_) (fun j hj => ?_)
    · by_cases e : j = i
      · subst e; rw [up_s, uL_s]; exact h2 (j + 1) (by omega)
      · rw [up_n e, uL_n e]; exact h1 j (by omega)
    · rw [up_n (by omega), uL_n (by omega)]; exact h2 j (by omega)
theorem f_keep {N : Nat} {F : Int64} {hp pH : Nat → Int32} {hf fH : Nat → Int64} {hc kp : Int32} (hX : CX N F) (h : HK hp hf hc kp pH fH) : ∃ hp' hf' hc' kp' pH' fH', f_X1_keep (nI N) F hp hf hc = some (hp', hf', hc') ∧ f_X9_keep (nI N) F kp pH fH = some (kp', pH', fH') ∧ HK hp' hf' hc' kp' pH' fH' := by
  obtain ⟨k, k8, rfl, rfl, hE⟩ := h
  unfold f_X1_keep f_X1_keep_0 f_X9_keep f_X9_keep_0
  by_cases c : k < 8
  · obtain ⟨a, b, d⟩ := keep_end hX c hE
    refine ⟨_, _, _, _, _, _, ?_, ?_, d⟩
    · rw [if_pos (show nI k < (8 : Int32) from nI_lt (b := 8) c (by decide)), a]
    · rw [if_neg (show ¬ nI k = (8 : Int32) from fun e => by
        have := (nI_inj (a := k) (b := 8) (by omega) (by decide)).mp e
        omega), b]
  · have e : k = 8 := by omega
    subst e
    obtain ⟨pH', fH', s1, s2⟩ := shift9 (N := N) (F := F) pH fH 7 0 FU pH fH (by omega) (by decide) (fun j hj => by omega) (fun j _ => ⟨rfl, rfl⟩)
    have hE' : ∀ i, i < 7 → HE (va_cpy hp hp (1 : Int32).toNatClampNeg (0 : Int32).toNatClampNeg (7 : Int32).toNatClampNeg) (va_cpy hf hf (1 : Int32).toNatClampNeg (0 : Int32).toNatClampNeg (7 : Int32).toNatClampNeg) pH' fH' i := by
      intro i hi
      have c1 : va_cpy hp hp (1 : Int32).toNatClampNeg (0 : Int32).toNatClampNeg (7 : Int32).toNatClampNeg i = hp (i + 1) := by
        show va_cpy hp hp 1 0 7 i = _
        rw [pk_cpy_in (by omega) (by omega), Nat.sub_zero, Nat.add_comm]
      have c2 : va_cpy hf hf (1 : Int32).toNatClampNeg (0 : Int32).toNatClampNeg (7 : Int32).toNatClampNeg i = hf (i + 1) := by
        show va_cpy hf hf 1 0 7 i = _
        rw [pk_cpy_in (by omega) (by omega), Nat.sub_zero, Nat.add_comm]
      unfold HE
      rw [c1, c2, (s2 i hi).1, (s2 i hi).2]
      exact hE (i + 1) (by omega)
    obtain ⟨a, b, d⟩ := keep_end (k := 7) hX (by decide) hE'
    refine ⟨_, _, _, _, _, _, ?_, ?_, d⟩
    · rw [if_neg (show ¬ nI 8 < (8 : Int32) by decide)]
      exact a
    · rw [if_pos (show nI 8 = (8 : Int32) by decide)]
      exact s1.trans b
/-- the state of the moves, the same on both sides -/
def MVI (hp : Nat → Int32) (hf : Nat → Int64) (hc : Int32) (xp : Int32) (xf : Int64) (mp : Int32) (mf : Int64) (kp : Int32) (pH : Nat → Int32) (fH : Nat → Int64) : Prop := HK hp hf hc kp pH fH ∧ ∃ N, xp = nI N ∧ mp = nI N ∧ mf = xf ∧ CX N xf
theorem f_change {N n : Nat} {F G : Int64} {hp pH : Nat → Int32} {hf fH : Nat → Int64} {hc kp : Int32} (hX : CX N F) (h : HK hp hf hc kp pH fH) (hG : CX n G) : ∃ hp' hf' hc' kp' pH' fH', f_X8_change (nI n) G hp hf hc (nI N) F = some (hp', hf', hc', nI n, G) ∧ f_X9_becomes (nI n) G (nI N) F kp pH fH = some (nI n, G, kp', pH', fH') ∧ MVI hp' hf' hc' (nI n) G (nI n) G kp' pH' fH' := by
  obtain ⟨hp', hf', hc', kp', pH', fH', a, b, c⟩ := f_keep hX h
  refine ⟨hp', hf', hc', kp', pH', fH', ?_, ?_, c, n, rfl, rfl, rfl, hG⟩
  · unfold f_X8_change f_X8_change_0
    rw [sbg a]
  · unfold f_X9_becomes f_X9_becomes_0
    rw [sbg b]
theorem set_cases {N : Nat} (hN : N ≤ 6) (a : Int32) : (∃ s, s < 2 ^ N ∧ a = nI s ∧ f_X8_isSet (nI N) a = some 1 ∧ f_X9_isSet (nI N) a = some 1) ∨ (f_X8_isSet (nI N) a = some 0 ∧ f_X9_isSet (nI N) a = some 0) := by
  have h64 := pow_le64 hN
  have hpos : 0 < 2 ^ N := Nat.pow_pos (by decide)
  unfold f_X8_isSet f_X8_isSet_0 f_X9_isSet f_X9_isSet_0 f_X8_allPoints f_X8_allPoints_0
  rw [sbg (f_all hN), t_all ⟨N, by omega⟩]
  simp only [Option.bind_some, f_X9_isIn, f_X9_isIn_0]
  by_cases c : a < 0
  · rw [if_pos c]
    exact Or.inr ⟨rfl, rfl⟩
  · obtain ⟨s, hs, rfl⟩ := nI_of c
    rw [if_neg c]
    by_cases d : s < 2 ^ N
    · left
      have e : ¬ nI (2 ^ N - 1) < nI s := nI_nlt (by omega) (by omega)
      exact ⟨s, d, rfl, by rw [if_neg e], by rw [if_neg e]; rfl⟩
    · right
      have e : nI (2 ^ N - 1) < nI s := nI_lt (by omega) hs
      exact ⟨by rw [if_pos e], by rw [if_pos e]; rfl⟩
