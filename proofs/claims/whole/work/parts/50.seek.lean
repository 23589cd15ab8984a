/-! ===== pure part: THE FIRST, canonical, and the class ===== -/
theorem rk_64 (l : List Int64) : rk l ≤ 64 := by
  obtain ⟨base, -, h⟩ := rk_base l
  have : ∀ n, ct (nz base) n ≤ n := by
    intro n
    induction n with
    | zero => exact Nat.le_refl _
    | succ n ih => have := Bool.toNat_le (nz base n); simp only [ct]; omega
  have := this 64
  omega
theorem rnk_64 (F : Int64) (j l a b : Nat) : rnk F j l a b ≤ 64 := by
  have := rk_64 (all2 F j l a b)
  unfold rnk
  omega
theorem brk_le {N : Nat} {F : Int64} {q n : Nat} (hX : CX N F) : brk F q n + brk F q (n + 1) ≤ cnt (mk (fp F q n) 64) 64 := by
  obtain ⟨base, hB, hct⟩ := rk_base (vl (fp F q (n + 1)) bel 64)
  have hsub : ∀ k, k < 64 → nz base k = true → (fp F q n k && dq (sp (vl (fp F q n) bel k) (bel k))) = true := by
    intro k hk h
    have hne : base k ≠ 0 := by simpa [nz] using h
    have hb := hB.1 k hk hne
    have hsup : ∀ t, t < 64 → tb (base k) t = true → fp F q n t = true := sp_bits (fun a ha t ht hb => by
      obtain ⟨s, hs, hP, rfl⟩ := vl_mem.mp ha
      rw [tb_bel ht, Bool.and_eq_true, beq_iff_eq] at hb
      exact fp_down hX hs hP hb.1 hb.2) _ hb.2
    have hbd : xs2 bel (base k) 64 = 0 := lin0 (fun v => xs2 bel v 64) (fun u v => xs2_xor bel u v 64) (fun a ha => by
      obtain ⟨s, hs, hP, rfl⟩ := vl_mem.mp ha
      exact bdbd ⟨s, hs⟩) _ hb.2
    rw [Bool.and_eq_true]
    refine ⟨hsup k hk hb.1.1, dq_t.mpr ?_⟩
    have e1 : xs2 bel (base k) 64 = xs2 bel (base k) k ^^^ bel k := tb_ext (fun t ht => by
      rw [tb_xor, tb_xs2, tb_xs2]
      have : ∀ d, k + 1 + d ≤ 64 → par2 (fun i => tb (base k) i && tb (bel i) t) (k + 1 + d) = par2 (fun i => tb (base k) i && tb (bel i) t) (k + 1) := by
        intro d
        induction d with
        | zero => intro _; rfl
        | succ d ih =>
          intro hd
          have this : tb (base k) (k + 1 + d) = false := hb.1.2 _ (by omega) (by omega)
          show (par2 (fun i => tb (base k) i && tb (bel i) t) (k + 1 + d) ^^ (tb (base k) (k + 1 + d) && tb (bel (k + 1 + d)) t)) = _
          rw [ih (by omega), this]; simp
      have e := this (63 - k) (by omega)
      rw [show k + 1 + (63 - k) = 64 by omega] at e
      rw [e]
      show (par2 _ k ^^ (tb (base k) k && tb (bel k) t)) = _
      rw [hb.1.1]; simp)
    rw [hbd] at e1
    have e2 : bel k = xs2 bel (base k) k := (x_eq e1.symm).symm
    rw [e2]
    exact xs2_sp (fun t ht hb => hsup t (by omega) hb)
  have h0 := ct_le hsub
  have h1 := ct_add (P := fp F q n) (Q := fun s => dq (sp (vl (fp F q n) bel s) (bel s))) 64
  have h3 : cnt (mk (fp F q n) 64) 64 = ct (fp F q n) 64 := by
    rw [cnt_ct]
    exact ct_congr (fun i hi => tb_fp hi)
  have h4 : brk F q n = ct (fun s => fp F q n s && !dq (sp (vl (fp F q n) bel s) (bel s))) 64 := rk_vl _ _ _
  have h5 : brk F q (n + 1) = rk (vl (fp F q (n + 1)) bel 64) := rfl
  omega
noncomputable def holN (F : Int64) (q n : Nat) : Nat := cnt (mk (fp F q n) 64) 64 - brk F q n - brk F q (n + 1)
theorem hol_N {N : Nat} {F : Int64} {q n : Nat} (hX : CX N F) : hol F q n = nI (holN F q n) ∧ holN F q n ≤ 64 := by
  have h := brk_le (q := q) (n := n) hX
  have h3 := cnt_le (mk (fp F q n) 64) 64
  unfold hol holN
  rw [pk_sub (by omega), pk_sub (by omega)]
  exact ⟨rfl, by omega⟩
theorem hol_le0 {N : Nat} {F : Int64} {q n : Nat} (hX : CX N F) : hol F q n ≤ 0 ↔ hol F q n = 0 := by
  obtain ⟨e, h⟩ := hol_N (q := q) (n := n) hX
  rw [e]
  constructor
  · intro h1
    have := (nI_leI (a := holN F q n) (b := 0) (by omega) (by decide)).mp h1
    have : holN F q n = 0 := by omega
    rw [this]; rfl
  · intro h1
    rw [h1]; decide
theorem rnk_of_l {N : Nat} {F : Int64} {j l a b : Nat} (hX : CX N F) (hjl : j &&& l = 0) (h : hol F j (a + 1) = 0) : rnk F j l a b = 0 := rnk_0 (fun _ _ hx hy => prd_l hX hjl h (cls_clm hx) (cls_clm hy))
theorem rnk_of_r {N : Nat} {F : Int64} {j l a b : Nat} (hX : CX N F) (hjl : j &&& l = 0) (h : hol F l (b + 1) = 0) : rnk F j l a b = 0 := rnk_0 (fun _ _ hx hy => prd_r hX hjl h (cls_clm hx) (cls_clm hy))
noncomputable def fB (F : Int64) (j l a : Nat) : Nat → Nat → Option Nat
  | 0, _ => none
  | k + 1, b => if 0 < rnk F j l a b then some b else fB F j l a k (b + 1)
noncomputable def fA (F : Int64) (j l : Nat) : Nat → Nat → Option (Nat × Nat)
  | 0, _ => none
  | k + 1, a => match fB F j l a 6 0 with
    | some b => some (a, b)
    | none => fA F j l k (a + 1)
noncomputable def fL (F : Int64) (j : Nat) : Nat → Nat → Option (Nat × Nat × Nat)
  | 0, _ => none
  | k + 1, l => match (if j &&& l = 0 then fA F j l 6 0 else none) with
    | some (a, b) => some (l, a, b)
    | none => fL F j k (l + 1)
noncomputable def fJ (F : Int64) (M : Nat) : Nat → Nat → Option (Nat × Nat × Nat × Nat)
  | 0, _ => none
  | k + 1, j => match fL F j (M - j - 1) (j + 1) with
    | some (l, a, b) => some (j, l, a, b)
    | none => fJ F M k (j + 1)
/-- THE FIRST -/
noncomputable def FO (N : Nat) (F : Int64) : Option (Nat × Nat × Nat × Nat) := fJ F (2 ^ N) (2 ^ N - 1) 1
theorem fB_none {F : Int64} {j l a : Nat} (h : ∀ b, rnk F j l a b = 0) : ∀ k b, fB F j l a k b = none := by
  intro k
  induction k with
  | zero => intro b; rfl
  | succ k ih => intro b; simp only [fB]; rw [if_neg (by rw [h b]; omega)]; exact ih _
theorem nI_le0 {r : Nat} (h : r ≤ 64) : nI r ≤ 0 ↔ r = 0 := by
  constructor
  · intro h1
    have := (nI_leI (a := r) (b := 0) (by omega) (by decide)).mp h1
    omega
  · intro h1
    rw [h1]; decide
/-- what the row of THE FIRST holds -/
def ER (F : Int64) (er : Nat → Int32) (j l a b : Nat) : Prop := er 0 = nI j ∧ er 1 = nI l ∧ er 2 = nI a ∧ er 3 = nI b ∧ er 4 = nI (rnk F j l a b)
theorem sk_in {N j l a : Nat} {F : Int64} {co : Nat → Int32} {kk : Int64 → Int32 → Int32 → Int32 → (Nat → Int64) → (Nat → Int64) → (Int64) → (Int64) → (Int32) → (Nat → Int64) → (Nat → Int64) → (Nat → Int32) → Option (Int32 × (Nat → Int64) × (Nat → Int64) × Int64 × Int64 × Int32 × (Nat → Int64) × (Nat → Int64) × (Nat → Int32))} (hX : CX N F) (hK : PK F (2 ^ N) co) (hj : j < 2 ^ N) (hl : l < 2 ^ N) (hjl : j &&& l = 0) (ha : a ≤ 5) :
    ∀ d b m (ro le : Nat → Int64) (ld re : Int64) (c : Int32) (lf rg : Nat → Int64) (er : Nat → Int32), b + d = 6 → d < m → ∃ (ro' le' : Nat → Int64) (ld' re' : Int64) (c' : Int32) (lf' rg' : Nat → Int64),
      (fB F j l a d b = none ∧ f_X3_seekIn_12 co kk m F (nI j) (nI l) (nI a) (nI b) ro le ld re c lf rg er = kk F (nI j) (nI l) (nI a + 1) ro' le' ld' re' c' lf' rg' er) ∨ (∃ b', fB F j l a d b = some b' ∧ ∃ er' : Nat → Int32, f_X3_seekIn_12 co kk m F (nI j) (nI l) (nI a) (nI b) ro le ld re c lf rg er = some (1, ro', le', ld', re', c', lf', rg', er') ∧ ER F er' j l a b') := by
  have hN := hX.2.1
  have h64 := pow_le64 hN
  intro d
  induction d with
  | zero =>
    intro b m ro le ld re c lf rg er h1 h2
    obtain ⟨m, rfl⟩ : ∃ m', m = m' + 1 := ⟨m - 1, by omega⟩
    have e : b = 6 := by omega
    subst e
    refine ⟨ro, le, ld, re, c, lf, rg, Or.inl ⟨rfl, ?_⟩⟩
    rw [f_X3_seekIn_12, if_pos (show (5 : Int32) < nI 6 by decide)]
  | succ d ih =>
    intro b m ro le ld re c lf rg er h1 h2
    obtain ⟨m, rfl⟩ : ∃ m', m = m' + 1 := ⟨m - 1, by omega⟩
    rw [f_X3_seekIn_12, if_neg (show ¬ (5 : Int32) < nI b from nI_nlt (a := 5) (by omega) (by decide)), sbg (show f_X2_holesOf co (nI j) (nI a) = some (hol F j (a + 1)) by rw [km_s a]; exact f_holesOf2 hK h64 hj (by omega))]
    by_cases hh : hol F j (a + 1) = 0
    · rw [if_pos ((hol_le0 hX).mpr hh)]
      exact ⟨ro, le, ld, re, c, lf, rg, Or.inl ⟨fB_none (fun b => rnk_of_l hX hjl hh) _ _, rfl⟩⟩
    · rw [if_neg (fun h => hh ((hol_le0 hX).mp h))]
      obtain ⟨ro1, le1, ld1, re1, c1, lf1, rg1, e1⟩ := f_measure (co := co) hN hK hj hl ha (show b ≤ 5 by omega) ro le ld re c lf rg
      rw [mval_eq hX hjl] at e1
      rw [sbg e1]
      by_cases h0 : rnk F j l a b = 0
      · rw [if_pos ((nI_le0 (rnk_64 _ _ _ _ _)).mpr h0), nI_1]
        have e2 : fB F j l a (d + 1) b = fB F j l a d (b + 1) := by
          simp only [fB]
          rw [if_neg (by omega)]
        rw [e2]
        exact ih (b + 1) m _ _ _ _ _ _ _ er (by omega) (by omega)
      · have e2 : fB F j l a (d + 1) b = some b := by
          simp only [fB]
          rw [if_pos (by omega)]
        rw [if_neg (fun h => h0 ((nI_le0 (rnk_64 _ _ _ _ _)).mp h)), e2]
        refine ⟨ro1, le1, ld1, re1, c1, lf1, rg1, Or.inr ⟨b, rfl, _, rfl, ?_⟩⟩
        have c0 : (0 : Int32).toNatClampNeg = 0 := by decide
        have c1 : (1 : Int32).toNatClampNeg = 1 := by decide
        have c2 : (2 : Int32).toNatClampNeg = 2 := by decide
        have c3 : (3 : Int32).toNatClampNeg = 3 := by decide
        have c4 : (4 : Int32).toNatClampNeg = 4 := by decide
        rw [c0, c1, c2, c3, c4]
        exact ⟨rfl, rfl, rfl, rfl, rfl⟩
theorem f_seekIn {N j l : Nat} {F : Int64} {co : Nat → Int32} (hX : CX N F) (hK : PK F (2 ^ N) co) (hj : j < 2 ^ N) (hl : l < 2 ^ N) (hjl : j &&& l = 0) (ro le : Nat → Int64) (ld re : Int64) (c : Int32) (lf rg : Nat → Int64) (er : Nat → Int32) :
    ∃ (ro' le' : Nat → Int64) (ld' re' : Int64) (c' : Int32) (lf' rg' : Nat → Int64), (fA F j l 6 0 = none ∧ f_X3_seekIn co F (nI j) (nI l) ro le ld re c lf rg er = some (0, ro', le', ld', re', c', lf', rg', er)) ∨ (∃ a b, fA F j l 6 0 = some (a, b) ∧ ∃ er' : Nat → Int32, f_X3_seekIn co F (nI j) (nI l) ro le ld re c lf rg er = some (1, ro', le', ld', re', c', lf', rg', er') ∧ ER F er' j l a b) := by
  have key : ∀ d a m (ro le : Nat → Int64) (ld re : Int64) (c : Int32) (lf rg : Nat → Int64) (er : Nat → Int32), a + d = 6 → d < m → ∃ (ro' le' : Nat → Int64) (ld' re' : Int64) (c' : Int32) (lf' rg' : Nat → Int64), (fA F j l d a = none ∧ f_X3_seekIn_3 co m F (nI j) (nI l) (nI a) ro le ld re c lf rg er = some (0, ro', le', ld', re', c', lf', rg', er)) ∨ (∃ a' b, fA F j l d a = some (a', b) ∧ ∃ er' : Nat → Int32, f_X3_seekIn_3 co m F (nI j) (nI l) (nI a) ro le ld re c lf rg er = some (1, ro', le', ld', re', c', lf', rg', er') ∧ ER F er' j l a' b) := by
    intro d
    induction d with
    | zero =>
      intro a m ro le ld re c lf rg er h1 h2
      obtain ⟨m, rfl⟩ : ∃ m', m = m' + 1 := ⟨m - 1, by omega⟩
      have e : a = 6 := by omega
      subst e
      refine ⟨ro, le, ld, re, c, lf, rg, Or.inl ⟨rfl, ?_⟩⟩
      rw [f_X3_seekIn_3, if_pos (show (5 : Int32) < nI 6 by decide)]
    | succ d ih =>
      intro a m ro le ld re c lf rg er h1 h2
      obtain ⟨m, rfl⟩ : ∃ m', m = m' + 1 := ⟨m - 1, by omega⟩
      rw [f_X3_seekIn_3, if_neg (show ¬ (5 : Int32) < nI a from nI_nlt (a := 5) (by omega) (by decide)), show (0 : Int32) = nI 0 from rfl]
      obtain ⟨ro1, le1, ld1, re1, c1, lf1, rg1, ⟨e1, e2⟩ | ⟨b', e1, er', e2, hE⟩⟩ := sk_in (kk := f_X3_seekIn_3 co m) hX hK hj hl hjl (show a ≤ 5 by omega) 6 0 FU ro le ld re c lf rg er rfl (by decide)
      · rw [e2, nI_1]
        have e3 : fA F j l (d + 1) a = fA F j l d (a + 1) := by simp only [fA]; rw [e1]
        rw [e3]
        exact ih (a + 1) m _ _ _ _ _ _ _ er (by omega) (by omega)
      · have e3 : fA F j l (d + 1) a = some (a, b') := by simp only [fA]; rw [e1]
        exact ⟨ro1, le1, ld1, re1, c1, lf1, rg1, Or.inr ⟨a, b', e3, er', e2, hE⟩⟩
  exact key 6 0 FU ro le ld re c lf rg er rfl (by decide)
