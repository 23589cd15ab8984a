/-! write -/
def gr (F : Int64) (s : Nat) : Bool := (tb F s && decide (F &&& abv s = 0)) && decide (s ≠ 0)
def gl (F : Int64) : Nat → Nat
  | 0 => 0
  | s + 1 => gl F s + (if gr F s = true then 1 + sz s else 0)
def gq : Nat → Nat
  | 0 => 0
  | t + 1 => gq t + (2 + sz (2 * t))
theorem sz_odd : ∀ t : Fin 32, sz (2 * t.val + 1) = sz (2 * t.val) + 1 ∧ (sub (2 * t.val) (2 * t.val + 1) && sz (2 * t.val) + 1 == sz (2 * t.val + 1)) = true := by decide +kernel
theorem gl_le {F : Int64} : ∀ t, t ≤ 32 → gl F (2 * t) ≤ gq t := by
  intro t
  induction t with
  | zero => intro _; exact Nat.le_refl _
  | succ t ih =>
    intro h
    have i := ih (by omega)
    obtain ⟨z1, z2⟩ := sz_odd ⟨t, by omega⟩
    simp only at z1 z2
    rw [show 2 * (t + 1) = (2 * t + 1) + 1 by omega]
    simp only [gl, gq]
    rw [z1]
    by_cases c1 : gr F (2 * t) = true
    · have c2 : ¬ gr F (2 * t + 1) = true := by
        intro c2
        unfold gr at c1 c2
        rw [Bool.and_eq_true, Bool.and_eq_true, decide_eq_true_iff, decide_eq_true_iff] at c1 c2
        have := eq0_iff.mp c1.1.2 (2 * t + 1) (by omega)
        rw [tb_and, c2.1.1, tb_abv (by omega), z2] at this
        exact absurd this (by decide)
      rw [if_pos c1, if_neg c2]
      omega
    · rw [if_neg c1]
      by_cases c2 : gr F (2 * t + 1) = true
      · rw [if_pos c2]; omega
      · rw [if_neg c2]; omega
theorem gl_mono (F : Int64) (a : Nat) : ∀ d, gl F a ≤ gl F (a + d) := by
  intro d
  induction d with
  | zero => exact Nat.le_refl _
  | succ d ih =>
    show _ ≤ gl F (a + d) + _
    omega
theorem gl_144 {F : Int64} {s : Nat} (h : s ≤ 64) : gl F s ≤ 144 := by
  have a := gl_mono F s (64 - s)
  rw [show s + (64 - s) = 2 * 32 by omega] at a
  have b := gl_le (F := F) 32 (by omega)
  have c : gq 32 = 144 := by decide +kernel
  omega
theorem t_abvp : ∀ (s t : Fin 64), (sub s.val t.val && sz s.val + 1 == sz t.val) = true ↔ ∃ p : Fin 6, s.val.testBit p.val = false ∧ t.val = s.val ||| 2 ^ p.val := by decide +kernel
theorem t_has1 : ∀ (s : Fin 64) (p : Fin 6), ((nI s.val >>> (nI p.val &&& 31)) &&& (1 : Int32)) = 1 ↔ s.val.testBit p.val = true := by decide +kernel
def grp (F : Int64) (s p : Nat) : Bool := s.testBit p || !(tb F (s ||| 2 ^ p))
theorem gr_iff {N s : Nat} {F : Int64} (hX : CX N F) (hs : s < 2 ^ N) : decide (F &&& abv s = 0) = alb (grp F s) 0 N := by
  have h6 := hX.2.1
  have h64 := pow_le64 h6
  rw [Bool.eq_iff_iff, decide_eq_true_iff, alb_t, eq0_iff]
  constructor
  · intro h p _ hp
    unfold grp
    cases hb : s.testBit p with
    | true => rfl
    | false =>
      have hlt : s ||| 2 ^ p < 64 := or_lt64 (by omega) (by have := pow5 (show p < 6 by omega); omega)
      have := h (s ||| 2 ^ p) hlt
      rw [tb_and, tb_abv hlt, (t_abvp ⟨s, by omega⟩ ⟨s ||| 2 ^ p, hlt⟩).mpr ⟨⟨p, by omega⟩, hb, rfl⟩, Bool.and_true] at this
      rw [this]; rfl
  · intro h t ht
    rw [tb_and, tb_abv ht]
    cases hF : tb F t with
    | false => rfl
    | true =>
      cases hc : (sub s t && sz s + 1 == sz t) with
      | false => rfl
      | true =>
        obtain ⟨p, hp, e⟩ := (t_abvp ⟨s, by omega⟩ ⟨t, ht⟩).mp hc
        simp only at hp e
        have htb : t.testBit p.val = true := by
          rw [e, Nat.testBit_or, Nat.testBit_two_pow]; simp
        have hpN : p.val < N := by
          by_cases c : p.val < N
          · exact c
          · have := Nat.testBit_lt_two_pow (Nat.lt_of_lt_of_le (hX.2.2.2.1 t ht hF) (Nat.pow_le_pow_right (show 0 < 2 by decide) (show N ≤ p.val by omega)))
            rw [htb] at this; exact absurd this (by decide)
        have := h p.val (by omega) (by omega)
        unfold grp at this
        rw [hp, ← e, hF] at this
        exact absurd this (by decide)
theorem f_isGreatest {N s : Nat} {F : Int64} (hX : CX N F) (hs : s < 2 ^ N) : f_X9_isGreatest (nI N) F (nI s) = some (tf (gr F s)) := by
  have h6 := hX.2.1
  have h64 := pow_le64 h6
  have key : ∀ d p m (b : Bool), p + d = N → d < m → f_X9_isGreatest_18 (nI N) F m (nI s) (tf b) (nI p) = some (tf (b && alb (grp F s) p d)) := by
    intro d
    induction d with
    | zero =>
      intro p m b g1 g2
      obtain ⟨m, rfl⟩ : ∃ m', m = m' + 1 := ⟨m - 1, by omega⟩
      rw [f_X9_isGreatest_18, if_pos (nI_le (show N ≤ p by omega) (by omega))]
      cases b <;> rfl
    | succ d ih =>
      intro p m b g1 g2
      obtain ⟨m, rfl⟩ : ∃ m', m = m' + 1 := ⟨m - 1, by omega⟩
      have hp64 : 2 ^ p < 64 := by have := pow5 (show p < 6 by omega); omega
      rw [f_X9_isGreatest_18, if_neg (nI_ge (show p < N by omega) (by omega)), f_pow (show p ≤ 6 by omega), nI_or (show s < 64 by omega) hp64, sbg (f_isFace (or_lt64 (show s < 64 by omega) hp64))]
      unfold f_X9_isGreatest_55 f_X9_isGreatest_51
      simp only [f_X9_isGreatest_56]
      rw [nI_1]
      have i0 := ih (p + 1) m false (by omega) (by omega)
      have i1 := ih (p + 1) m true (by omega) (by omega)
      have ea : alb (grp F s) p (d + 1) = ((s.testBit p || !(tb F (s ||| 2 ^ p))) && alb (grp F s) (p + 1) d) := rfl
      cases b with
      | false => rw [if_pos (by decide)]; exact i0
      | true =>
        rw [if_neg (by decide), ea]
        cases hb : s.testBit p with
        | true =>
          rw [if_pos ((t_has1 ⟨s, by omega⟩ ⟨p, by omega⟩).mpr hb)]
          exact i1
        | false =>
          rw [if_neg (fun h => by
            have := (t_has1 ⟨s, by omega⟩ ⟨p, by omega⟩).mp h
            simp only at this
            rw [hb] at this; exact absurd this (by decide))]
          cases hF : tb F (s ||| 2 ^ p) with
          | false => exact i1
          | true => exact i0
  unfold f_X9_isGreatest f_X9_isGreatest_0
  rw [sbg (f_isFace (show s < 64 by omega))]
  unfold gr
  rw [gr_iff hX hs]
  cases hF : tb F s with
  | false => rfl
  | true =>
    rw [if_neg (by decide)]
    by_cases z : s = 0
    · subst z
      rw [if_pos (show nI 0 = 0 from rfl)]
      cases alb (grp F 0) 0 N <;> rfl
    · rw [if_neg (nI_ne0 (show 0 < s by omega) (by omega))]
      have := key N 0 FU true (by omega) (Nat.lt_of_lt_of_le (show N < 7 by omega) (by decide))
      rw [decide_eq_true z, Bool.and_true]
      exact this
def bt (s : Nat) : Nat → Nat → Nat
  | _, 0 => 0
  | p, d + 1 => (s.testBit p).toNat + bt s (p + 1) d
theorem bt_sz : ∀ (N : Fin 7) (s : Fin 64), s.val < 2 ^ N.val → bt s.val 0 N.val = sz s.val := by decide +kernel
theorem dig_end {N s : Nat} (hs : s < 2 ^ N) (h6 : N ≤ 6) : ∀ e p m (bx : Nat → Int32) (l : Int32), p + e = 6 → N ≤ p → e < m → f_X5_addDigitsOf_2 m (nI s) (nI p) bx l = some (bx, l) := by
  have h64 := pow_le64 h6
  intro e
  induction e with
  | zero =>
    intro p m bx l g1 g2 g3
    obtain ⟨m, rfl⟩ : ∃ m', m = m' + 1 := ⟨m - 1, by omega⟩
    have e : p = 6 := by omega
    subst e
    rw [f_X5_addDigitsOf_2, if_pos (by decide)]
  | succ e ih =>
    intro p m bx l g1 g2 g3
    obtain ⟨m, rfl⟩ : ∃ m', m = m' + 1 := ⟨m - 1, by omega⟩
    rw [f_X5_addDigitsOf_2, if_neg (show ¬ (6 : Int32) ≤ nI p from nI_ge (b := 6) (by omega) (by decide)), sbg (t_hasPoint ⟨s, by omega⟩ ⟨p, by omega⟩)]
    simp only
    rw [Nat.testBit_lt_two_pow (Nat.lt_of_lt_of_le hs (Nat.pow_le_pow_right (show 0 < 2 by decide) g2)), if_pos (by decide), nI_1]
    exact ih (p + 1) m bx l (by omega) (by omega) (by omega)
theorem f_puts {n : Nat} (hn : n < 200) (y : Int32) (bm : Nat → Int32) : f_X9_puts y bm (nI n) = some (upd bm n y, nI (n + 1)) := by
  unfold f_X9_puts f_X9_puts_0
  rw [ix_nI hn (by decide), cl_nI (show n < 2 ^ 31 by omega)]
  simp only [gd]
  rw [nI_1]
theorem put_both {n b : Nat} {bx bm : Nat → Int32} (h : TXn n bx bm) (hn : n < 200) (hb : b < 256) : ∃ bx' bm', f_X5_add (nI b) bx (nI n) = some (bx', nI (n + 1)) ∧ f_X9_puts (nI b) bm (nI n) = some (bm', nI (n + 1)) ∧ TXn (n + 1) bx' bm' := by
  refine ⟨_, _, f_add5 hn _ _, f_puts hn _ _, ?_⟩
  rw [byte_id ⟨b, hb⟩]
  exact h.add hn hb
theorem dig_both {N s : Nat} {F : Int64} {K : Int32 → (Nat → Int32) → (Int32) → Option (Int32 × (Nat → Int32) × Int32)} (hs : s < 2 ^ N) (h6 : N ≤ 6) : ∀ d p n m m' (bx bm : Nat → Int32), p + d = N → d + 7 < m → d < m' → TXn n bx bm → n + bt s p d ≤ 200 →
    ∃ bx' bm', f_X5_addDigitsOf_2 m (nI s) (nI p) bx (nI n) = some (bx', nI (n + bt s p d)) ∧ f_X9_write_51 (nI N) F K m' (nI s) (nI p) bm (nI n) = K (nI (s + 1)) bm' (nI (n + bt s p d)) ∧ TXn (n + bt s p d) bx' bm' := by
  have h64 := pow_le64 h6
  intro d
  induction d with
  | zero =>
    intro p n m m' bx bm g1 g2 g3 hT hn
    obtain ⟨m', rfl⟩ : ∃ x, m' = x + 1 := ⟨m' - 1, by omega⟩
    refine ⟨bx, bm, dig_end hs h6 (6 - p) p m bx _ (by omega) (by omega) (by omega), ?_, hT⟩
    rw [f_X9_write_51, if_pos (nI_le (show N ≤ p by omega) (by omega)), nI_1]
    rfl
  | succ d ih =>
    intro p n m m' bx bm g1 g2 g3 hT hn
    obtain ⟨m, rfl⟩ : ∃ x, m = x + 1 := ⟨m - 1, by omega⟩
    obtain ⟨m', rfl⟩ : ∃ x, m' = x + 1 := ⟨m' - 1, by omega⟩
    have eb : bt s p (d + 1) = (s.testBit p).toNat + bt s (p + 1) d := rfl
    have e48 : (48 : Int32) + nI p = nI (48 + p) := nI_add 48 p
    rw [f_X5_addDigitsOf_2, f_X9_write_51, if_neg (show ¬ (6 : Int32) ≤ nI p from nI_ge (b := 6) (by omega) (by decide)), sbg (t_hasPoint ⟨s, by omega⟩ ⟨p, by omega⟩), if_neg (nI_ge (show p < N by omega) (by omega)), nI_1, e48]
    simp only
    rw [eb] at hn ⊢
    cases hb : s.testBit p with
    | false =>
      rw [hb] at hn
      rw [if_pos (by decide), if_neg (fun h => by
        have := (t_has1 ⟨s, by omega⟩ ⟨p, by omega⟩).mp h
        simp only at this
        rw [hb] at this; exact absurd this (by decide))]
      simp only [Bool.toNat_false, Nat.zero_add] at hn ⊢
      exact ih (p + 1) n m m' bx bm (by omega) (by omega) (by omega) hT hn
    | true =>
      rw [hb] at hn
      simp only [Bool.toNat_true] at hn ⊢
      obtain ⟨bx1, bm1, a1, a2, a3⟩ := put_both (b := 48 + p) hT (by omega) (by omega)
      rw [if_neg (by decide), if_pos ((t_has1 ⟨s, by omega⟩ ⟨p, by omega⟩).mpr hb), sbg a1, sbg a2]
      simp only
      have := ih (p + 1) (n + 1) m m' bx1 bm1 (by omega) (by omega) (by omega) a3 (by omega)
      rw [show n + 1 + bt s (p + 1) d = n + (1 + bt s (p + 1) d) by omega] at this
      exact this
theorem w_write {N : Nat} {F : Int64} (hX : CX N F) {bx bm : Nat → Int32} {lx lm : Int32} (h : TX bx lx bm lm) : ∃ R1 R2, f_X8_write (nI N) F bx lx = some R1 ∧ f_X9_write (nI N) F bm lm = some R2 ∧ R1.1 = R2.1 ∧ TX R1.2.1 R1.2.2 R2.2.1 R2.2.2 := by
  have h6 := hX.2.1
  have h64 := pow_le64 h6
  obtain ⟨n0, rfl, rfl, hT0⟩ := h
  have key : ∀ d s m m' (bx bm : Nat → Int32), s + d = 2 ^ N → 1 ≤ s → d < m → d < m' → TXn (2 + gl F s) bx bm → ∃ bx' bm', f_X8_write_33 (nI N) F m (nI s) bx (nI (2 + gl F s)) = some (nI (2 + gl F (2 ^ N)), bx', nI (2 + gl F (2 ^ N))) ∧ f_X9_write_24 (nI N) F m' (nI s) bm (nI (2 + gl F s)) = some (nI (2 + gl F (2 ^ N)), bm', nI (2 + gl F (2 ^ N))) ∧ TXn (2 + gl F (2 ^ N)) bx' bm' := by
    intro d
    induction d with
    | zero =>
      intro s m m' bx bm g1 gs g2 g3 hT
      obtain ⟨m, rfl⟩ : ∃ x, m = x + 1 := ⟨m - 1, by omega⟩
      obtain ⟨m', rfl⟩ : ∃ x, m' = x + 1 := ⟨m' - 1, by omega⟩
      have e : s = 2 ^ N := by omega
      subst e
      refine ⟨bx, bm, ?_, ?_, hT⟩
      · rw [f_X8_write_33, sbg (f_all8 h6), if_pos (all_end h6)]
        rfl
      · rw [f_X9_write_24, sbg (f_all h6), if_pos (all_end h6)]
    | succ d ih =>
      intro s m m' bx bm g1 gs g2 g3 hT
      obtain ⟨m, rfl⟩ : ∃ x, m = x + 1 := ⟨m - 1, by omega⟩
      obtain ⟨m', rfl⟩ : ∃ x, m' = x + 1 := ⟨m' - 1, by omega⟩
      have hs : s < 2 ^ N := by omega
      have hg : gl F (s + 1) = gl F s + (if gr F s = true then 1 + sz s else 0) := rfl
      have hle := gl_144 (F := F) (s := s + 1) (by omega)
      have i := ih (s + 1) m m'
      rw [f_X8_write_33, f_X9_write_24, sbg (f_all8 h6), sbg (f_all h6), if_neg (all_lt h6 hs), if_neg (all_lt h6 hs), sbg (f_holds (show s < 64 by omega)), sbg (f_isGreatest hX hs), sbg (f_above (show s < 64 by omega)), nI_1]
      have hgr : gr F s = ((tb F s && decide (F &&& abv s = 0)) && decide (s ≠ 0)) := rfl
      rw [decide_eq_true (show s ≠ 0 by omega), Bool.and_true] at hgr
      cases hF : tb F s with
      | false =>
        rw [hF, Bool.false_and] at hgr
        rw [hgr, if_neg (by decide), Nat.add_zero] at hg
        rw [hgr, if_pos (show tf false = 0 by decide), if_pos (show tf false = 0 by decide)]
        rw [hg] at i
        exact i bx bm (by omega) (by omega) (by omega) (by omega) hT
      | true =>
        rw [if_neg (show ¬ tf true = 0 by decide)]
        by_cases c : F &&& abv s = 0
        · rw [hF, decide_eq_true c, Bool.true_and] at hgr
          rw [hgr, if_pos rfl] at hg
          rw [if_pos c, hgr, if_neg (show ¬ tf true = 0 by decide)]
          rw [hg] at hle
          obtain ⟨bx1, bm1, a1, a2, a3⟩ := put_both (b := 32) hT (by omega) (by omega)
          have hbt := bt_sz ⟨N, by omega⟩ ⟨s, by omega⟩ hs
          simp only at hbt
          obtain ⟨bx2, bm2, c1, c2, c3⟩ := dig_both (F := F) (K := f_X9_write_24 (nI N) F m') hs h6 N 0 (2 + gl F s + 1) FU FU bx1 bm1 (by omega) (Nat.lt_of_lt_of_le (show N + 7 < 14 by omega) (by decide)) (Nat.lt_of_lt_of_le (show N < 7 by omega) (by decide)) a3 (by rw [hbt]; omega)
          rw [hbt, show 2 + gl F s + 1 + sz s = 2 + gl F (s + 1) by omega] at c1 c2 c3
          rw [show (32 : Int32) = nI 32 from rfl, sbg a1, sbg a2]
          simp only
          rw [f_X5_addDigitsOf, f_X5_addDigitsOf_0, show (0 : Int32) = nI 0 from rfl, sbg c1, c2]
          exact i bx2 bm2 (by omega) (by omega) (by omega) (by omega) c3
        · rw [hF, decide_eq_false c, Bool.and_false] at hgr
          rw [hgr, if_neg (by decide), Nat.add_zero] at hg
          rw [if_neg c, hgr, if_pos (show tf false = 0 by decide)]
          rw [hg] at i
          exact i bx bm (by omega) (by omega) (by omega) (by omega) hT
  have hn0 := hT0.1
  unfold f_X8_write f_X8_write_0 f_X9_write f_X9_write_0
  obtain ⟨bx1, bm1, a1, a2, a3⟩ := put_both (n := 0) (b := 48 + N) (bx := bx) (bm := bm) ⟨by omega, fun i hi => by omega⟩ (by omega) (by omega)
  obtain ⟨bx2, bm2, b1, b2, b3⟩ := put_both (b := 58) a3 (by omega) (by omega)
  have e48 : (48 : Int32) + nI N = nI (48 + N) := nI_add 48 N
  have hg1 : gl F 1 = 0 := by
    show 0 + (if gr F 0 = true then 1 + sz 0 else 0) = 0
    have : gr F 0 = false := by unfold gr; simp
    rw [this, if_neg (by decide)]
  have hp : 0 < 2 ^ N := Nat.pow_pos (by decide)
  have k := key (2 ^ N - 1) 1 FU FU bx2 bm2 (by omega) (by omega) (Nat.lt_of_lt_of_le (show 2 ^ N - 1 < 64 by omega) (by decide)) (Nat.lt_of_lt_of_le (show 2 ^ N - 1 < 64 by omega) (by decide)) (by rw [hg1]; exact b3)
  rw [hg1] at k
  obtain ⟨bx', bm', k1, k2, k3⟩ := k
  rw [sbg (sho0 (show n0 < 2 ^ 31 by omega)), e48, sbg a1, show (0 : Int32) = nI 0 from rfl, sbg a2]
  simp only
  rw [show (58 : Int32) = nI 58 from rfl, sbg b1, sbg b2]
  exact ⟨_, _, k1, k2, rfl, _, rfl, rfl, k3⟩
