/-! ===== pure part: rankOf of the reference ===== -/
theorem rk_in {N : Nat} {F : Int64} {kk : Int32 → Int32 → Int32 → Int32 → Int32 → Int32 → Int32 → Int32 → (Nat → Int64) → (Nat → Int64) → (Nat → Int64) → (Nat → Int64) → (Nat → Int64) → Option (Int32 × (Nat → Int64) × (Nat → Int64) × (Nat → Int64) × (Nat → Int64) × (Nat → Int64))} {j l a b x nj nl z : Nat} {rs ms cj cl : Nat → Int64} (hX : CX N F) (hj : j < 64) (hl : l < 64) (hjl : j &&& l = 0) (ha : a ≤ 5) (hb : b ≤ 5) (hx : x < 20) (hnl : nl ≤ 20) (hcj : onSz (a + 1) (cj x)) (hcl : ∀ y, y < nl → onSz (b + 1) (cl y)) {B : List Int64} (hz : z ≤ rk B) :
    ∀ d i m (bs : Nat → Int64), i + d = nl → d < m → BM bs (inn (fun y => prd F j l (a + b + 2) (cj x) (cl y)) B i) →
    ∃ bs' : Nat → Int64, f_X9_rankOf_135 (nI N) F kk m (nI j) (nI l) (nI a) (nI b) (nI nj) (nI nl) (nI (rk (inn (fun y => prd F j l (a + b + 2) (cj x) (cl y)) B i) - z)) (nI x) (nI i) bs rs ms cj cl = kk (nI j) (nI l) (nI a) (nI b) (nI nj) (nI nl) (nI (rk (inn (fun y => prd F j l (a + b + 2) (cj x) (cl y)) B nl) - z)) (nI x + 1) bs' rs ms cj cl ∧ BM bs' (inn (fun y => prd F j l (a + b + 2) (cj x) (cl y)) B nl) := by
  intro d
  induction d with
  | zero =>
    intro i m bs h1 h2 hB
    obtain ⟨m, rfl⟩ : ∃ m', m = m' + 1 := ⟨m - 1, by omega⟩
    have e : i = nl := by omega
    subst e
    refine ⟨bs, ?_, hB⟩
    rw [f_X9_rankOf_135, if_pos (nI_le (Nat.le_refl _) (by omega))]
  | succ d ih =>
    intro i m bs h1 h2 hB
    obtain ⟨m, rfl⟩ : ∃ m', m = m' + 1 := ⟨m - 1, by omega⟩
    have hi : i < nl := by omega
    rw [f_X9_rankOf_135, if_neg (nI_ge hi (by omega)), ix_nI hx (by decide), ix_nI (show i < 20 by omega) (by decide), cl_nI (show x < 2 ^ 31 by omega), cl_nI (show i < 2 ^ 31 by omega)]
    simp only [gd]
    have ep := f_product (N := N) (a := a + 1) (b := b + 1) hX hj hl hjl (by omega) (by omega) hcj (hcl i hi)
    rw [show a + 1 + (b + 1) = a + b + 2 by omega] at ep
    rw [nI_1, nI_1, sbg ep]
    obtain ⟨bs2, hla, hB2⟩ := f_lays hB (prd F j l (a + b + 2) (cj x) (cl i))
    have hzz : z ≤ rk (inn (fun y => prd F j l (a + b + 2) (cj x) (cl y)) B i) := Nat.le_trans hz (rk_inn _ _ _)
    have e := tf_cnt (b := !dq (sp (inn (fun y => prd F j l (a + b + 2) (cj x) (cl y)) B i) (prd F j l (a + b + 2) (cj x) (cl i)))) (r := 0) hzz
    have ih := ih (i + 1) m bs2 (by omega) (by omega) hB2
    rw [show rk (inn (fun y => prd F j l (a + b + 2) (cj x) (cl y)) B (i + 1)) = rk (inn (fun y => prd F j l (a + b + 2) (cj x) (cl y)) B i) + (!dq (sp (inn (fun y => prd F j l (a + b + 2) (cj x) (cl y)) B i) (prd F j l (a + b + 2) (cj x) (cl i)))).toNat from rfl, e] at ih
    rw [sbg hla]
    unfold f_X9_rankOf_183
    rw [nI_1]
    by_cases hd : tf (!dq (sp (inn (fun y => prd F j l (a + b + 2) (cj x) (cl y)) B i) (prd F j l (a + b + 2) (cj x) (cl i)))) = 0
    · rw [if_pos hd] at ih ⊢
      rw [Int32.add_zero]
      exact ih
    · rw [if_neg hd] at ih ⊢
      exact ih
theorem rk_out {N : Nat} {F : Int64} {j l a b nj nl z : Nat} {rs ms cj cl : Nat → Int64} (hX : CX N F) (hj : j < 64) (hl : l < 64) (hjl : j &&& l = 0) (ha : a ≤ 5) (hb : b ≤ 5) (hnj : nj ≤ 20) (hnl : nl ≤ 20) (hcj : ∀ x, x < nj → onSz (a + 1) (cj x)) (hcl : ∀ y, y < nl → onSz (b + 1) (cl y)) {R : List Int64} (hz : z ≤ rk R) :
    ∀ d i m (bs : Nat → Int64), i + d = nj → d < m → BM bs (outl (fun x y => prd F j l (a + b + 2) (cj x) (cl y)) nl R i) →
    ∃ bs' : Nat → Int64, f_X9_rankOf_125 (nI N) F m (nI j) (nI l) (nI a) (nI b) (nI nj) (nI nl) (nI (rk (outl (fun x y => prd F j l (a + b + 2) (cj x) (cl y)) nl R i) - z)) (nI i) bs rs ms cj cl = some (nI (rk (outl (fun x y => prd F j l (a + b + 2) (cj x) (cl y)) nl R nj) - z), bs', rs, ms, cj, cl) := by
  intro d
  induction d with
  | zero =>
    intro i m bs h1 h2 hB
    obtain ⟨m, rfl⟩ : ∃ m', m = m' + 1 := ⟨m - 1, by omega⟩
    have e : i = nj := by omega
    subst e
    refine ⟨bs, ?_⟩
    rw [f_X9_rankOf_125, if_pos (nI_le (Nat.le_refl _) (by omega))]
  | succ d ih =>
    intro i m bs h1 h2 hB
    obtain ⟨m, rfl⟩ : ∃ m', m = m' + 1 := ⟨m - 1, by omega⟩
    have hi : i < nj := by omega
    rw [f_X9_rankOf_125, if_neg (nI_ge hi (by omega))]
    obtain ⟨bs2, he, hB2⟩ := rk_in (kk := f_X9_rankOf_125 (nI N) F m) (nj := nj) (rs := rs) (ms := ms) hX hj hl hjl ha hb (show i < 20 by omega) hnl (hcj i hi) hcl (Nat.le_trans hz (rk_outl _ _ _ _)) nl 0 FU bs (by omega) (Nat.lt_of_le_of_lt hnl (by decide)) hB
    rw [show (0 : Int32) = nI 0 from rfl]
    rw [show rk (outl (fun x y => prd F j l (a + b + 2) (cj x) (cl y)) nl R i) = rk (inn (fun y => prd F j l (a + b + 2) (cj i) (cl y)) (outl (fun x y => prd F j l (a + b + 2) (cj x) (cl y)) nl R i) 0) from rfl, he, nI_1]
    exact ih (i + 1) m bs2 (by omega) (by omega) hB2
theorem f_rankOf {N j l a b : Nat} {F : Int64} (hX : CX N F) (hj : j < 64) (hl : l < 64) (hjl : j &&& l = 0) (ha : a ≤ 5) (hb : b ≤ 5) (bs rs ms cj cl : Nat → Int64) :
    ∃ bs' rs' ms' cj' cl' : Nat → Int64, f_X9_rankOf (nI N) F (nI j) (nI l) (nI a) (nI b) bs rs ms cj cl = some (nI (rnk F j l a b), bs', rs', ms', cj', cl') := by
  have hN := hX.2.1
  have h64 := pow_le64 hN
  have hq64 := or_lt64 hj hl
  obtain ⟨rs1, ms1, cj1, e1, hR1⟩ := f_closed (n := a + 1) hX hj (by omega) rs ms cj
  obtain ⟨rs2, ms2, cl1, e2, hR2⟩ := f_closed (n := b + 1) hX hl (by omega) rs1 ms1 cl
  have hlj := cls_len (F := F) (p := j) (n := a + 1) (by omega)
  have hll := cls_len (F := F) (p := l) (n := b + 1) (by omega)
  unfold f_X9_rankOf f_X9_rankOf_0
  rw [nI_1, nI_1, sbg e1]
  simp only
  rw [sbg e2]
  simp only
  by_cases z1 : (cls F j (a + 1)).2.length = 0
  · refine ⟨bs, rs2, ms2, cj1, cl1, ?_⟩
    rw [if_pos (by rw [z1]; rfl)]
    have : rnk F j l a b = 0 := by
      unfold rnk all2
      rw [z1]
      exact Nat.sub_self _
    rw [this]; rfl
  have z1' : ¬ nI (cls F j (a + 1)).2.length = 0 := fun h => z1 ((nI_inj (by omega) (by decide)).mp (show nI (cls F j (a + 1)).2.length = nI 0 from h))
  rw [if_neg z1']
  by_cases z2 : (cls F l (b + 1)).2.length = 0
  · refine ⟨bs, rs2, ms2, cj1, cl1, ?_⟩
    rw [if_pos (by rw [z2]; rfl)]
    have : rnk F j l a b = 0 := by
      unfold rnk all2
      rw [z2]
      have : ∀ n, outl (prc F j l a b) 0 (rsl F (j ||| l) (a + b + 1)) n = rsl F (j ||| l) (a + b + 1) := by
        intro n
        induction n with
        | zero => rfl
        | succ n ih => exact ih
      rw [this]
      exact Nat.sub_self _
    rw [this]; rfl
  have z2' : ¬ nI (cls F l (b + 1)).2.length = 0 := fun h => z2 ((nI_inj (by omega) (by decide)).mp (show nI (cls F l (b + 1)).2.length = nI 0 from h))
  rw [if_neg z2']
  obtain ⟨b0, hb0, hB0⟩ := f_clear bs
  rw [sbg hb0]
  have hfin : ∀ bs0, BM bs0 (rsl F (j ||| l) (a + b + 1)) → ∃ bs' : Nat → Int64, f_X9_rankOf_125 (nI N) F FU (nI j) (nI l) (nI a) (nI b) (nI (cls F j (a + 1)).2.length) (nI (cls F l (b + 1)).2.length) 0 0 bs0 rs2 ms2 cj1 cl1 = some (nI (rnk F j l a b), bs', rs2, ms2, cj1, cl1) := fun bs0 hB => by
    obtain ⟨bs', h⟩ := rk_out (rs := rs2) (ms := ms2) (cj := cj1) (cl := cl1) hX hj hl hjl ha hb hlj hll (fun x hx => by rw [RI_get hR1 hx]; exact cls_on hx) (fun y hy => by rw [RI_get hR2 hy]; exact cls_on hy) (Nat.le_refl (rk (rsl F (j ||| l) (a + b + 1)))) (cls F j (a + 1)).2.length 0 FU bs0 (by omega) (Nat.lt_of_le_of_lt hlj (by decide)) hB
    have e5 : outl (fun x y => prd F j l (a + b + 2) (cj1 x) (cl1 y)) (cls F l (b + 1)).2.length (rsl F (j ||| l) (a + b + 1)) (cls F j (a + 1)).2.length = all2 F j l a b := outl_congr (fun x y hx hy => by
      unfold prc
      rw [RI_get hR1 hx, RI_get hR2 hy])
    rw [e5] at h
    have e6 : rk (outl (fun x y => prd F j l (a + b + 2) (cj1 x) (cl1 y)) (cls F l (b + 1)).2.length (rsl F (j ||| l) (a + b + 1)) 0) - rk (rsl F (j ||| l) (a + b + 1)) = 0 := Nat.sub_self _
    rw [e6] at h
    exact ⟨bs', h⟩
  have key : ∀ k i m (bs0 : Nat → Int64), i + k = 2 ^ N → k < m → BM bs0 (vl (fp F (j ||| l) (a + b + 1)) (fun s => abv s &&& mk (fp F (j ||| l) (a + b + 1 + 1)) 64) i) → ∃ bs' : Nat → Int64, f_X9_rankOf_48 (nI N) F m (nI j) (nI l) (nI a) (nI b) (nI (cls F j (a + 1)).2.length) (nI (cls F l (b + 1)).2.length) (nI i) bs0 rs2 ms2 cj1 cl1 = some (nI (rnk F j l a b), bs', rs2, ms2, cj1, cl1) := by
    intro k
    induction k with
    | zero =>
      intro i m bs0 h1 h2 hB
      obtain ⟨m, rfl⟩ : ∃ m', m = m' + 1 := ⟨m - 1, by omega⟩
      have e : i = 2 ^ N := by omega
      subst e
      rw [f_X9_rankOf_48, sbg (f_all hN), if_pos (all_end hN)]
      refine hfin bs0 ?_
      have ev := vl_tail (P := fp F (j ||| l) (a + b + 1)) (g := fun s => abv s &&& mk (fp F (j ||| l) (a + b + 1 + 1)) 64) (m := 2 ^ N) (64 - 2 ^ N) (fp_tail hX)
      rw [show 2 ^ N + (64 - 2 ^ N) = 64 by omega] at ev
      unfold rsl
      rw [ev]
      exact hB
    | succ k ih =>
      intro i m bs0 h1 h2 hB
      obtain ⟨m, rfl⟩ : ∃ m', m = m' + 1 := ⟨m - 1, by omega⟩
      have hi : i < 2 ^ N := by omega
      have hi64 : i < 64 := by omega
      have vs : vl (fp F (j ||| l) (a + b + 1)) (fun s => abv s &&& mk (fp F (j ||| l) (a + b + 1 + 1)) 64) (i + 1) = if fp F (j ||| l) (a + b + 1) i = true then (abv i &&& mk (fp F (j ||| l) (a + b + 1 + 1)) 64) :: vl (fp F (j ||| l) (a + b + 1)) (fun s => abv s &&& mk (fp F (j ||| l) (a + b + 1 + 1)) 64) i else vl (fp F (j ||| l) (a + b + 1)) (fun s => abv s &&& mk (fp F (j ||| l) (a + b + 1 + 1)) 64) i := rfl
      rw [f_X9_rankOf_48, sbg (f_all hN), if_neg (all_lt hN hi), sbg (f_size hi64), nI_or hj hl, nI_add, nI_1, nI_1]
      by_cases hs : sz i = a + b + 1
      · rw [if_pos (by rw [hs])]
        by_cases hsub : sub i (j ||| l) = true
        · rw [if_pos ((t_sub ⟨i, hi64⟩ ⟨j ||| l, hq64⟩).mpr hsub), sbg (f_isFace hi64)]
          by_cases hf : tb F i = true
          · have hP : fp F (j ||| l) (a + b + 1) i = true := by simp [fp, hf, hsub, hs]
            rw [if_neg (by rw [tf0, hf]; decide), show ((1 : Int64) <<< ((nI i).toInt64 &&& 63)) = b1 i from rfl, sbg (f_rise hX hq64 (show a + b + 1 < 19 by omega) hi64)]
            obtain ⟨b2, hla, hB2⟩ := f_lays hB (abv i &&& mk (fp F (j ||| l) (a + b + 1 + 1)) 64)
            rw [sbg hla]
            exact ih (i + 1) m b2 (by omega) (by omega) (by rw [vs, if_pos hP]; exact hB2)
          · rw [if_pos ((tf0 _).mpr (by simpa using hf))]
            exact ih (i + 1) m bs0 (by omega) (by omega) (by rw [vs, if_neg (by simp [fp, hf])]; exact hB)
        · rw [if_neg (fun h => hsub ((t_sub ⟨i, hi64⟩ ⟨j ||| l, hq64⟩).mp h))]
          exact ih (i + 1) m bs0 (by omega) (by omega) (by rw [vs, if_neg (by simp [fp, hsub])]; exact hB)
      · rw [if_neg (fun h => hs ((nI_inj (by have := sz_lt i; omega) (by omega)).mp h))]
        exact ih (i + 1) m bs0 (by omega) (by omega) (by rw [vs, if_neg (by simp [fp, hs])]; exact hB)
  obtain ⟨bs', h⟩ := key (2 ^ N) 0 FU b0 (by omega) (Nat.lt_of_le_of_lt h64 (by decide)) hB0
  exact ⟨bs', rs2, ms2, cj1, cl1, h⟩
