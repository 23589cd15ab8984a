/-! ===== pure part: THE FIRST of the reference ===== -/
theorem t_szmono : ∀ s p : Fin 64, sub s.val p.val = true → sz s.val ≤ sz p.val := by decide +kernel
theorem hol_big {F : Int64} {p n : Nat} (hp : p < 64) (h : sz p < n) : hol F p n = 0 := by
  have hf : ∀ n', sz p < n' → ∀ s, s < 64 → fp F p n' s = false := fun n' hn s hs => by
    cases e : fp F p n' s
    · rfl
    · have := fp_sz e
      have h2 := t_szmono ⟨s, hs⟩ ⟨p, hp⟩ this.1
      simp only at h2
      omega
  have e1 : mk (fp F p n) 64 = 0 := eq0_iff.mpr (fun t ht => by rw [tb_fp ht]; exact hf n h t ht)
  have e2 : ∀ n', sz p < n' → brk F p n' = 0 := fun n' hn => by
    unfold brk
    have := vl_tail (P := fp F p n') (g := bel) (m := 0) 64 (fun i _ hi => hf n' hn i (by omega))
    rw [show 0 + 64 = 64 from rfl] at this
    rw [this]; rfl
  unfold hol
  rw [e1, e2 n h, e2 (n + 1) (by omega)]
  decide +kernel
/-- the reference's table -/
def TK (F : Int64) (m : Nat) (ta : Nat → Int32) : Prop := ∀ p k, p < m → k < 6 → ta (6 * p + k) = hol F p (k + 1)
abbrev K10 : Type := (Nat → Int64) → (Nat → Int64) → (Nat → Int64) → (Nat → Int64) → (Nat → Int64) → (Int32) → (Int32) → (Int32) → (Int32) → (Int32) → Option (Int32 × (Nat → Int64) × (Nat → Int64) × (Nat → Int64) × (Nat → Int64) × (Nat → Int64) × Int32 × Int32 × Int32 × Int32 × Int32)
theorem six (p k : Nat) : (6 : Int32) * nI p + nI k = nI (6 * p + k) := by
  rw [show (6 : Int32) = nI 6 from rfl, pk_mul, nI_add]
theorem s9_b {N j l a : Nat} {F : Int64} {ta : Nat → Int32} {k5 k26 k57 : K10} (hX : CX N F) (hT : TK F (2 ^ N) ta) (hj : j < 2 ^ N) (hl : l < 2 ^ N) (hjl : j &&& l = 0) (ha : a ≤ 5) :
    ∀ d b m (bs rs ms cj cl : Nat → Int64) (fr : Int32), b + d = 6 → d < m → ∃ (bs' rs' ms' cj' cl' : Nat → Int64),
      (fB F j l a d b = none ∧ ∃ fb fr' : Int32, f_X9_seeks_76 (nI N) F ta k5 k26 k57 m bs rs ms cj cl (nI j) (nI l) (nI a) (nI b) fr = k57 bs' rs' ms' cj' cl' (nI j) (nI l) (nI a + 1) fb fr') ∨ (∃ b', fB F j l a d b = some b' ∧ f_X9_seeks_76 (nI N) F ta k5 k26 k57 m bs rs ms cj cl (nI j) (nI l) (nI a) (nI b) fr = some (1, bs', rs', ms', cj', cl', nI j, nI l, nI a, nI b', nI (rnk F j l a b'))) := by
  have hN := hX.2.1
  have h64 := pow_le64 hN
  have hs6 := sz_lt l
  have hnone : ∀ d b, sz l ≤ b → fB F j l a d b = none := by
    intro d
    induction d with
    | zero => intro b _; rfl
    | succ d ih =>
      intro b hb
      simp only [fB]
      rw [if_neg (by rw [rnk_of_r hX hjl (hol_big (by omega) (by omega))]; omega)]
      exact ih (b + 1) (by omega)
  intro d
  induction d with
  | zero =>
    intro b m bs rs ms cj cl fr h1 h2
    obtain ⟨m, rfl⟩ : ∃ m', m = m' + 1 := ⟨m - 1, by omega⟩
    refine ⟨bs, rs, ms, cj, cl, Or.inl ⟨rfl, nI b, fr, ?_⟩⟩
    rw [f_X9_seeks_76, sbg (f_size (show l < 64 by omega)), if_pos (nI_le (show sz l ≤ b by omega) (by omega)), nI_1]
  | succ d ih =>
    intro b m bs rs ms cj cl fr h1 h2
    obtain ⟨m, rfl⟩ : ∃ m', m = m' + 1 := ⟨m - 1, by omega⟩
    rw [f_X9_seeks_76, sbg (f_size (show l < 64 by omega))]
    by_cases hb : sz l ≤ b
    · rw [if_pos (nI_le hb (by omega))]
      exact ⟨bs, rs, ms, cj, cl, Or.inl ⟨hnone _ _ hb, nI b, fr, rfl⟩⟩
    rw [if_neg (nI_ge (by omega) (by omega)), six, six, ix_nI (show 6 * j + a < 384 by omega) (by decide), ix_nI (show 6 * l + b < 384 by omega) (by decide), cl_nI (show 6 * j + a < 2 ^ 31 by omega), cl_nI (show 6 * l + b < 2 ^ 31 by omega), hT j a hj (by omega), hT l b hl (by omega)]
    simp only [gd]
    have hskip : rnk F j l a b = 0 → fB F j l a (d + 1) b = fB F j l a d (b + 1) := fun h => by
      simp only [fB]
      rw [if_neg (by omega)]
    by_cases z1 : hol F j (a + 1) = 0
    · rw [if_pos z1, hskip (rnk_of_l hX hjl z1)]
      unfold f_X9_seeks_166
      rw [nI_1]
      exact ih (b + 1) m bs rs ms cj cl fr (by omega) (by omega)
    rw [if_neg z1]
    by_cases z2 : hol F l (b + 1) = 0
    · rw [if_pos z2, hskip (rnk_of_r hX hjl z2)]
      unfold f_X9_seeks_166
      rw [nI_1]
      exact ih (b + 1) m bs rs ms cj cl fr (by omega) (by omega)
    rw [if_neg z2]
    obtain ⟨bs1, rs1, ms1, cj1, cl1, e1⟩ := f_rankOf hX (show j < 64 by omega) (show l < 64 by omega) hjl ha (show b ≤ 5 by omega) bs rs ms cj cl
    rw [sbg e1]
    simp only
    by_cases h0 : rnk F j l a b = 0
    · rw [if_pos ((nI_le0 (rnk_64 _ _ _ _ _)).mpr h0), hskip h0]
      unfold f_X9_seeks_166
      rw [nI_1]
      exact ih (b + 1) m bs1 rs1 ms1 cj1 cl1 _ (by omega) (by omega)
    · rw [if_neg (fun h => h0 ((nI_le0 (rnk_64 _ _ _ _ _)).mp h))]
      refine ⟨bs1, rs1, ms1, cj1, cl1, Or.inr ⟨b, ?_, rfl⟩⟩
      simp only [fB]
      rw [if_pos (by omega)]
theorem s9_a {N j l : Nat} {F : Int64} {ta : Nat → Int32} {k5 k26 : K10} (hX : CX N F) (hT : TK F (2 ^ N) ta) (hj : j < 2 ^ N) (hl : l < 2 ^ N) (hjl : j &&& l = 0) :
    ∀ d a m (bs rs ms cj cl : Nat → Int64) (fb fr : Int32), a + d = 6 → d < m → ∃ (bs' rs' ms' cj' cl' : Nat → Int64),
      (fA F j l d a = none ∧ ∃ fa fb' fr' : Int32, f_X9_seeks_57 (nI N) F ta k5 k26 m bs rs ms cj cl (nI j) (nI l) (nI a) fb fr = k26 bs' rs' ms' cj' cl' (nI j) (nI l + 1) fa fb' fr') ∨ (∃ a' b', fA F j l d a = some (a', b') ∧ f_X9_seeks_57 (nI N) F ta k5 k26 m bs rs ms cj cl (nI j) (nI l) (nI a) fb fr = some (1, bs', rs', ms', cj', cl', nI j, nI l, nI a', nI b', nI (rnk F j l a' b'))) := by
  have hN := hX.2.1
  have h64 := pow_le64 hN
  have hs6 := sz_lt j
  have hnone : ∀ d a, sz j ≤ a → fA F j l d a = none := by
    intro d
    induction d with
    | zero => intro a _; rfl
    | succ d ih =>
      intro a ha
      simp only [fA]
      rw [fB_none (fun b => rnk_of_l hX hjl (hol_big (by omega) (by omega)))]
      exact ih (a + 1) (by omega)
  intro d
  induction d with
  | zero =>
    intro a m bs rs ms cj cl fb fr h1 h2
    obtain ⟨m, rfl⟩ : ∃ m', m = m' + 1 := ⟨m - 1, by omega⟩
    refine ⟨bs, rs, ms, cj, cl, Or.inl ⟨rfl, nI a, fb, fr, ?_⟩⟩
    rw [f_X9_seeks_57, sbg (f_size (show j < 64 by omega)), if_pos (nI_le (show sz j ≤ a by omega) (by omega))]
    rfl
  | succ d ih =>
    intro a m bs rs ms cj cl fb fr h1 h2
    obtain ⟨m, rfl⟩ : ∃ m', m = m' + 1 := ⟨m - 1, by omega⟩
    rw [f_X9_seeks_57, sbg (f_size (show j < 64 by omega))]
    by_cases ha : sz j ≤ a
    · rw [if_pos (nI_le ha (by omega))]
      exact ⟨bs, rs, ms, cj, cl, Or.inl ⟨hnone _ _ ha, nI a, fb, fr, rfl⟩⟩
    rw [if_neg (nI_ge (by omega) (by omega)), show (0 : Int32) = nI 0 from rfl]
    obtain ⟨bs1, rs1, ms1, cj1, cl1, ⟨e1, fb1, fr1, e2⟩ | ⟨b', e1, e2⟩⟩ := s9_b (k5 := k5) (k26 := k26) (k57 := f_X9_seeks_57 (nI N) F ta k5 k26 m) hX hT hj hl hjl (show a ≤ 5 by omega) 6 0 FU bs rs ms cj cl fr rfl (by decide)
    · have e3 : fA F j l (d + 1) a = fA F j l d (a + 1) := by simp only [fA]; rw [e1]
      rw [e2, e3, nI_1]
      exact ih (a + 1) m bs1 rs1 ms1 cj1 cl1 fb1 fr1 (by omega) (by omega)
    · have e3 : fA F j l (d + 1) a = some (a, b') := by simp only [fA]; rw [e1]
      exact ⟨bs1, rs1, ms1, cj1, cl1, Or.inr ⟨a, b', e3, e2⟩⟩
theorem s9_l {N j : Nat} {F : Int64} {ta : Nat → Int32} {k5 : K10} (hX : CX N F) (hT : TK F (2 ^ N) ta) (hj : j < 2 ^ N) :
    ∀ d l m (bs rs ms cj cl : Nat → Int64) (fa fb fr : Int32), l + d = 2 ^ N → d < m → ∃ (bs' rs' ms' cj' cl' : Nat → Int64),
      (fL F j d l = none ∧ ∃ fl fa' fb' fr' : Int32, f_X9_seeks_26 (nI N) F ta k5 m bs rs ms cj cl (nI j) (nI l) fa fb fr = k5 bs' rs' ms' cj' cl' (nI j + 1) fl fa' fb' fr') ∨ (∃ l' a' b', fL F j d l = some (l', a', b') ∧ f_X9_seeks_26 (nI N) F ta k5 m bs rs ms cj cl (nI j) (nI l) fa fb fr = some (1, bs', rs', ms', cj', cl', nI j, nI l', nI a', nI b', nI (rnk F j l' a' b'))) := by
  have hN := hX.2.1
  have h64 := pow_le64 hN
  intro d
  induction d with
  | zero =>
    intro l m bs rs ms cj cl fa fb fr h1 h2
    obtain ⟨m, rfl⟩ : ∃ m', m = m' + 1 := ⟨m - 1, by omega⟩
    have e : l = 2 ^ N := by omega
    subst e
    refine ⟨bs, rs, ms, cj, cl, Or.inl ⟨rfl, nI (2 ^ N), fa, fb, fr, ?_⟩⟩
    rw [f_X9_seeks_26, sbg (f_all hN), if_pos (all_end hN)]
  | succ d ih =>
    intro l m bs rs ms cj cl fa fb fr h1 h2
    obtain ⟨m, rfl⟩ : ∃ m', m = m' + 1 := ⟨m - 1, by omega⟩
    have hl : l < 2 ^ N := by omega
    rw [f_X9_seeks_26, sbg (f_all hN), if_neg (all_lt hN hl)]
    by_cases hjl : j &&& l = 0
    · rw [if_pos ((t_and0 ⟨j, by omega⟩ ⟨l, by omega⟩).mpr hjl), show (0 : Int32) = nI 0 from rfl]
      obtain ⟨bs1, rs1, ms1, cj1, cl1, ⟨e1, fa1, fb1, fr1, e2⟩ | ⟨a', b', e1, e2⟩⟩ := s9_a (k5 := k5) (k26 := f_X9_seeks_26 (nI N) F ta k5 m) hX hT hj hl hjl 6 0 FU bs rs ms cj cl fb fr rfl (by decide)
      · have e3 : fL F j (d + 1) l = fL F j d (l + 1) := by simp only [fL]; rw [if_pos hjl, e1]
        rw [e2, e3, nI_1]
        exact ih (l + 1) m bs1 rs1 ms1 cj1 cl1 fa1 fb1 fr1 (by omega) (by omega)
      · have e3 : fL F j (d + 1) l = some (l, a', b') := by simp only [fL]; rw [if_pos hjl, e1]
        exact ⟨bs1, rs1, ms1, cj1, cl1, Or.inr ⟨l, a', b', e3, e2⟩⟩
    · rw [if_neg (fun h => hjl ((t_and0 ⟨j, by omega⟩ ⟨l, by omega⟩).mp h))]
      have e3 : fL F j (d + 1) l = fL F j d (l + 1) := by simp only [fL]; rw [if_neg hjl]
      unfold f_X9_seeks_192
      rw [e3, nI_1]
      exact ih (l + 1) m bs rs ms cj cl fa fb fr (by omega) (by omega)
theorem f_seeks {N : Nat} {F : Int64} {ta : Nat → Int32} (hX : CX N F) (hT : TK F (2 ^ N) ta) (bs rs ms cj cl : Nat → Int64) (fj fl fa fb fr : Int32) :
    ∃ (bs' rs' ms' cj' cl' : Nat → Int64) (fj' fl' fa' fb' fr' : Int32), f_X9_seeks (nI N) F ta bs rs ms cj cl fj fl fa fb fr = some (tf (FO N F).isSome, bs', rs', ms', cj', cl', fj', fl', fa', fb', fr') ∧ ∀ j l a b, FO N F = some (j, l, a, b) → fj' = nI j ∧ fl' = nI l ∧ fa' = nI a ∧ fb' = nI b ∧ fr' = nI (rnk F j l a b) := by
  have hN := hX.2.1
  have h64 := pow_le64 hN
  have outer : ∀ d j m (bs rs ms cj cl : Nat → Int64) (fl fa fb fr : Int32), j + d = 2 ^ N → d < m → ∃ (bs' rs' ms' cj' cl' : Nat → Int64) (fj' fl' fa' fb' fr' : Int32), f_X9_seeks_5 (nI N) F ta m bs rs ms cj cl (nI j) fl fa fb fr = some (tf (fJ F (2 ^ N) d j).isSome, bs', rs', ms', cj', cl', fj', fl', fa', fb', fr') ∧ ∀ j' l a b, fJ F (2 ^ N) d j = some (j', l, a, b) → fj' = nI j' ∧ fl' = nI l ∧ fa' = nI a ∧ fb' = nI b ∧ fr' = nI (rnk F j' l a b) := by
    intro d
    induction d with
    | zero =>
      intro j m bs rs ms cj cl fl fa fb fr h1 h2
      obtain ⟨m, rfl⟩ : ∃ m', m = m' + 1 := ⟨m - 1, by omega⟩
      have e : j = 2 ^ N := by omega
      subst e
      refine ⟨bs, rs, ms, cj, cl, nI (2 ^ N), fl, fa, fb, fr, ?_, fun j' l a b h => by cases h⟩
      rw [f_X9_seeks_5, sbg (f_all hN), if_pos (all_end hN)]
      rfl
    | succ d ih =>
      intro j m bs rs ms cj cl fl fa fb fr h1 h2
      obtain ⟨m, rfl⟩ : ∃ m', m = m' + 1 := ⟨m - 1, by omega⟩
      have hj : j < 2 ^ N := by omega
      rw [f_X9_seeks_5, sbg (f_all hN), if_neg (all_lt hN hj), nI_1]
      obtain ⟨bs1, rs1, ms1, cj1, cl1, ⟨e1, fl1, fa1, fb1, fr1, e2⟩ | ⟨l', a', b', e1, e2⟩⟩ := s9_l (k5 := f_X9_seeks_5 (nI N) F ta m) hX hT hj (2 ^ N - j - 1) (j + 1) FU bs rs ms cj cl fa fb fr (by omega) (Nat.lt_of_le_of_lt (show 2 ^ N - j - 1 ≤ 64 by omega) (by decide))
      · have e3 : fJ F (2 ^ N) (d + 1) j = fJ F (2 ^ N) d (j + 1) := by simp only [fJ]; rw [e1]
        rw [e2, nI_1, e3]
        exact ih (j + 1) m bs1 rs1 ms1 cj1 cl1 fl1 fa1 fb1 fr1 (by omega) (by omega)
      · have e3 : fJ F (2 ^ N) (d + 1) j = some (j, l', a', b') := by simp only [fJ]; rw [e1]
        rw [e2, e3]
        refine ⟨bs1, rs1, ms1, cj1, cl1, nI j, nI l', nI a', nI b', _, rfl, fun j2 l2 a2 b2 h => ?_⟩
        cases h
        exact ⟨rfl, rfl, rfl, rfl, rfl⟩
  have hpos : 0 < 2 ^ N := Nat.pow_pos (by decide)
  exact outer (2 ^ N - 1) 1 FU bs rs ms cj cl fl fa fb fr (by omega) (Nat.lt_of_le_of_lt (show 2 ^ N - 1 ≤ 64 by omega) (by decide))
/-- what the reference holds of THE FIRST: nothing yet, or that of some complex -/
def RI9 (fj fl fa fb fr : Int32) (af : Int64) (ap hf : Int32) : Prop := ap = 0 ∨ ∃ N, ap = nI N ∧ CX N af ∧ hf = tf (FO N af).isSome ∧ ∀ j l a b, FO N af = some (j, l, a, b) → fj = nI j ∧ fl = nI l ∧ fa = nI a ∧ fb = nI b ∧ fr = nI (rnk af j l a b)
theorem f_finds {N : Nat} {F : Int64} (hX : CX N F) (bs rs ms cj cl : Nat → Int64) (fj fl fa fb fr : Int32) (ta : Nat → Int32) (af : Int64) (ap hf : Int32) (hR : RI9 fj fl fa fb fr af ap hf) :
    ∃ (bs' rs' ms' cj' cl' : Nat → Int64) (fj' fl' fa' fb' fr' : Int32) (ta' : Nat → Int32), f_X9_finds (nI N) F bs rs ms cj cl fj fl fa fb fr ta af ap hf = some (tf (FO N F).isSome, bs', rs', ms', cj', cl', fj', fl', fa', fb', fr', ta', F, nI N, tf (FO N F).isSome) ∧ ∀ j l a b, FO N F = some (j, l, a, b) → fj' = nI j ∧ fl' = nI l ∧ fa' = nI a ∧ fb' = nI b ∧ fr' = nI (rnk F j l a b) := by
  have hN := hX.2.1
  have h64 := pow_le64 hN
  have inner : ∀ (kk : Int32 → (Nat → Int64) → (Nat → Int64) → (Nat → Int64) → (Nat → Int64) → (Nat → Int64) → (Int32) → (Int32) → (Int32) → (Int32) → (Int32) → (Nat → Int32) → (Int64) → (Int32) → (Int32) → Option (Int32 × (Nat → Int64) × (Nat → Int64) × (Nat → Int64) × (Nat → Int64) × (Nat → Int64) × Int32 × Int32 × Int32 × Int32 × Int32 × (Nat → Int32) × Int64 × Int32 × Int32)) (p : Nat), p < 2 ^ N → ∀ d k m (bs : Nat → Int64) (ta : Nat → Int32), k + d = 6 → d < m → TK F p ta → (∀ k', k' < k → ta (6 * p + k') = hol F p (k' + 1)) → ∃ (bs' : Nat → Int64) (ta' : Nat → Int32), f_X9_finds_56 (nI N) F kk m (nI p) (nI k) bs rs ms cj cl fj fl fa fb fr ta F (nI N) hf = kk (nI p + 1) bs' rs ms cj cl fj fl fa fb fr ta' F (nI N) hf ∧ TK F (p + 1) ta' := by
    intro kk p hp d
    induction d with
    | zero =>
      intro k m bs ta h1 h2 hT hk
      obtain ⟨m, rfl⟩ : ∃ m', m = m' + 1 := ⟨m - 1, by omega⟩
      have e : k = 6 := by omega
      subst e
      refine ⟨bs, ta, ?_, fun p' k' hp' hk' => ?_⟩
      · rw [f_X9_finds_56, if_pos (show (6 : Int32) ≤ nI 6 by decide)]
      · by_cases e : p' = p
        · subst e; exact hk k' hk'
        · exact hT p' k' (by omega) hk'
    | succ d ih =>
      intro k m bs ta h1 h2 hT hk
      obtain ⟨m, rfl⟩ : ∃ m', m = m' + 1 := ⟨m - 1, by omega⟩
      obtain ⟨bs1, e1⟩ := f_holesOf9 (part := p) (n := k + 1) hX (by omega) (by omega) bs
      rw [← km_s k] at e1
      rw [f_X9_finds_56, if_neg (show ¬ (6 : Int32) ≤ nI k from nI_ge (b := 6) (by omega) (by decide)), sbg e1, six, ix_nI (show 6 * p + k < 384 by omega) (by decide), cl_nI (show 6 * p + k < 2 ^ 31 by omega), nI_1]
      refine ih (k + 1) m bs1 (upd ta (6 * p + k) (hol F p (k + 1))) (by omega) (by omega) (fun p' k' hp' hk' => ?_) (fun k' hk' => ?_)
      · rw [up_n (show 6 * p' + k' ≠ 6 * p + k by omega)]; exact hT p' k' hp' hk'
      · by_cases e : k' = k
        · subst e; exact up_s _ _ _
        · rw [up_n (show 6 * p + k' ≠ 6 * p + k by omega)]; exact hk k' (by omega)
  have outer : ∀ d p m (bs : Nat → Int64) (ta : Nat → Int32), p + d = 2 ^ N → d < m → TK F p ta → ∃ (bs' rs' ms' cj' cl' : Nat → Int64) (fj' fl' fa' fb' fr' : Int32) (ta' : Nat → Int32), f_X9_finds_46 (nI N) F m (nI p) bs rs ms cj cl fj fl fa fb fr ta F (nI N) hf = some (tf (FO N F).isSome, bs', rs', ms', cj', cl', fj', fl', fa', fb', fr', ta', F, nI N, tf (FO N F).isSome) ∧ ∀ j l a b, FO N F = some (j, l, a, b) → fj' = nI j ∧ fl' = nI l ∧ fa' = nI a ∧ fb' = nI b ∧ fr' = nI (rnk F j l a b) := by
    intro d
    induction d with
    | zero =>
      intro p m bs ta h1 h2 hT
      obtain ⟨m, rfl⟩ : ∃ m', m = m' + 1 := ⟨m - 1, by omega⟩
      have e : p = 2 ^ N := by omega
      subst e
      obtain ⟨bs1, rs1, ms1, cj1, cl1, fj1, fl1, fa1, fb1, fr1, e1, hE⟩ := f_seeks hX hT bs rs ms cj cl fj fl fa fb fr
      refine ⟨bs1, rs1, ms1, cj1, cl1, fj1, fl1, fa1, fb1, fr1, ta, ?_, hE⟩
      rw [f_X9_finds_46, sbg (f_all hN), if_pos (all_end hN), sbg e1]
      simp only
      rw [isb_tf]
      rfl
    | succ d ih =>
      intro p m bs ta h1 h2 hT
      obtain ⟨m, rfl⟩ : ∃ m', m = m' + 1 := ⟨m - 1, by omega⟩
      have hp : p < 2 ^ N := by omega
      rw [f_X9_finds_46, sbg (f_all hN), if_neg (all_lt hN hp), show (0 : Int32) = nI 0 from rfl]
      obtain ⟨bs1, ta1, e1, hT1⟩ := inner (f_X9_finds_46 (nI N) F m) p hp 6 0 FU bs ta rfl (by decide) hT (fun k' hk' => by omega)
      rw [e1, nI_1]
      exact ih (p + 1) m bs1 ta1 (by omega) (by omega) hT1
  have go := outer (2 ^ N) 0 FU bs ta (by omega) (Nat.lt_of_le_of_lt h64 (by decide)) (fun p k hp _ => by omega)
  unfold f_X9_finds f_X9_finds_0
  by_cases h1 : ap = nI N
  · rw [if_pos h1]
    by_cases h2 : af = F
    · rw [if_pos h2]
      subst h1; subst h2
      rcases hR with h0 | ⟨N', e, hX2, hh, hE⟩
      · exact absurd h0 (nI_ne_0 hX.1 hN)
      · have e2 : N = N' := (nI_inj (by omega) (by have := hX2.2.1; omega)).mp e
        subst e2
        refine ⟨bs, rs, ms, cj, cl, fj, fl, fa, fb, fr, ta, ?_, hE⟩
        rw [hh, isb_tf]
        rfl
    · rw [if_neg h2]; exact go
  · rw [if_neg h1]; exact go
