/-! rank, first, alike, look -/
theorem w_rank {N : Nat} {F : Int64} (hX : CX N F) (a1 a2 a3 a4 : Int32) {co bo : Nat → Int32} {ro le : Nat → Int64} {ld re : Int64} {c kp : Int32} {kf : Int64} (hI : PI co kp kf) (pro ple : Nat → Int64) (pld pre : Int64) (pc : Int32) (lf rg : Nat → Int64) (bs rs ms cj cl : Nat → Int64) :
    ∃ R1 R2, f_X8_rank (nI N) F a1 a2 a3 a4 co bo ro le ld re c kp kf pro ple pld pre pc lf rg = some R1 ∧ f_X9_rank (nI N) F a1 a2 a3 a4 bs rs ms cj cl = some R2 ∧ R1.1 = R2.1 ∧ PI R1.2.1 R1.2.2.2.2.2.2.2.2.1 R1.2.2.2.2.2.2.2.2.2.1 := by
  have h64 := pow_le64 hX.2.1
  have no : f_X8_rank_34 (nI N) F a1 a2 a3 a4 co bo ro le ld re c kp kf pro ple pld pre pc lf rg = some ((-1 : Int32), co, bo, ro, le, ld, re, c, kp, kf, pro, ple, pld, pre, pc, lf, rg) := by
    unfold f_X8_rank_34 f_X8_rank_35 f_X8_rank_61 f_X8_rank_62
    simp only [ite_self, if_true]
  have no2 : ∀ l5, f_X8_rank_61 (nI N) F a1 a2 a3 a4 l5 co bo ro le ld re c kp kf pro ple pld pre pc lf rg = some ((-1 : Int32), co, bo, ro, le, ld, re, c, kp, kf, pro, ple, pld, pre, pc, lf, rg) := by
    intro l5
    unfold f_X8_rank_61 f_X8_rank_62
    simp only [ite_self, if_true]
  unfold f_X8_rank f_X8_rank_0 f_X9_rank f_X9_rank_0
  rcases set_cases hX.2.1 a1 with ⟨j, hj, rfl, e1, e2⟩ | ⟨e1, e2⟩
  · rw [sbg e1, sbg e2, if_neg (show ¬ (1 : Int32) = 0 by decide), if_neg (show ¬ (1 : Int32) = 0 by decide)]
    rcases set_cases hX.2.1 a2 with ⟨l, hl, rfl, e1, e2⟩ | ⟨e1, e2⟩
    · rw [sbg e1, sbg e2, if_neg (show ¬ (1 : Int32) = 0 by decide), if_neg (show ¬ (1 : Int32) = 0 by decide)]
      by_cases z1 : nI j = 0
      · rw [if_pos z1, if_pos z1, no]
        exact ⟨_, _, rfl, rfl, rfl, hI⟩
      rw [if_neg z1, if_neg z1]
      by_cases z2 : nI l = 0
      · rw [if_pos z2, if_pos z2, no]
        exact ⟨_, _, rfl, rfl, rfl, hI⟩
      rw [if_neg z2, if_neg z2]
      by_cases z3 : (nI j &&& nI l) = 0
      · rw [if_pos z3, if_pos z3]
        have hjl : j &&& l = 0 := by
          rw [nI_and (by omega) (by omega)] at z3
          have := and_lt64 (b := l) (show j < 64 by omega)
          exact (nI_inj (b := 0) (by omega) (by decide)).mp z3
        unfold f_X8_rank_35
        rcases in_cases a3 (b := 5) with ⟨e, p1, p2⟩ | ⟨e, p1 | ⟨p1, p2⟩⟩
        · rw [sbg e, if_neg p1, if_neg p2, if_neg (show ¬ (1 : Int32) = 0 by decide)]
          rcases in_cases a4 (b := 5) with ⟨e, q1, q2⟩ | ⟨e, q1 | ⟨q1, q2⟩⟩
          · rw [sbg e, if_neg q1, if_neg q2, if_neg (show ¬ (1 : Int32) = 0 by decide)]
            obtain ⟨a, ha, rfl⟩ := nI_of2 (x := a3) (M := 5) (n := 5) (by decide) p1 (nlt_le p2)
            obtain ⟨b, hb, rfl⟩ := nI_of2 (x := a4) (M := 5) (n := 5) (by decide) q1 (nlt_le q2)
            obtain ⟨co', bo', ro', le', ld', re', c', k1, k2⟩ := f_know hX co bo ro le ld re c kp kf hI
            obtain ⟨x1, x2, x3, x4, x5, x6, x7, m1⟩ := f_measure hX.2.1 k2 hj hl ha hb pro ple pld pre pc lf rg
            obtain ⟨y1, y2, y3, y4, y5, m2⟩ := f_rankOf hX (show j < 64 by omega) (show l < 64 by omega) hjl ha hb bs rs ms cj cl
            rw [mval_eq hX hjl] at m1
            unfold f_X8_rank_62
            rw [if_neg (show ¬ (1 : Int32) = 0 by decide), if_neg (show ¬ (1 : Int32) = 0 by decide), sbg k1, sbg m2]
            simp only
            rw [sbg m1]
            exact ⟨_, _, rfl, rfl, rfl, Or.inr ⟨N, rfl, hX, k2⟩⟩
          · rw [sbg e, if_pos q1, if_pos rfl, no2]
            exact ⟨_, _, rfl, rfl, rfl, hI⟩
          · rw [sbg e, if_neg q1, if_pos q2, if_pos rfl, no2]
            exact ⟨_, _, rfl, rfl, rfl, hI⟩
        · rw [sbg e, if_pos p1, if_pos rfl, no2]
          exact ⟨_, _, rfl, rfl, rfl, hI⟩
        · rw [sbg e, if_neg p1, if_pos p2, if_pos rfl, no2]
          exact ⟨_, _, rfl, rfl, rfl, hI⟩
      · rw [if_neg z3, if_neg z3, no]
        exact ⟨_, _, rfl, rfl, rfl, hI⟩
    · rw [sbg e1, sbg e2, if_pos rfl, if_pos rfl, no]
      exact ⟨_, _, rfl, rfl, rfl, hI⟩
  · rw [sbg e1, sbg e2, if_pos rfl, if_pos rfl, no]
    exact ⟨_, _, rfl, rfl, rfl, hI⟩
theorem w_alike {N : Nat} {F : Int64} (hX : CX N F) (a1 a2 : Int32) {v re : Nat → Int32} {kp : Int32} {kf : Int64} {ct : Int32} (hI : TI v re kp kf ct) (od : Nat → Int32) :
    ∃ R1 R2, f_X8_alike (nI N) F a1 a2 v re kp kf ct = some R1 ∧ f_X9_alike (nI N) F a1 a2 od = some R2 ∧ R1.1 = R2.1 ∧ TI R1.2.1 R1.2.2.1 R1.2.2.2.1 R1.2.2.2.2.1 R1.2.2.2.2.2 := by
  have h1 := hX.1
  have h6 := hX.2.1
  have pt : ∀ a : Int32, (∃ p, p < N ∧ a = nI p ∧ f_X8_isPoint (nI N) a = some 1 ∧ f_X9_isPoint (nI N) a = some 1) ∨ (f_X8_isPoint (nI N) a = some 0 ∧ f_X9_isPoint (nI N) a = some 0) := by
    intro a
    obtain ⟨n, rfl⟩ : ∃ n, N = n + 1 := ⟨N - 1, by omega⟩
    unfold f_X8_isPoint f_X8_isPoint_0 f_X9_isPoint f_X9_isPoint_0 f_X9_isIn f_X9_isIn_0
    rw [nI_pred]
    by_cases c1 : a < 0
    · rw [if_pos c1, if_pos c1]; exact Or.inr ⟨rfl, rfl⟩
    · rw [if_neg c1, if_neg c1]
      obtain ⟨p, hp, rfl⟩ := nI_of c1
      by_cases c2 : p < n + 1
      · rw [if_neg (nI_ge c2 (by omega)), if_neg (nI_nlt (show p ≤ n by omega) (by omega))]
        exact Or.inl ⟨p, c2, rfl, rfl, rfl⟩
      · rw [if_pos (nI_le (show n + 1 ≤ p by omega) hp), if_pos (nI_lt (show n < p by omega) hp)]
        exact Or.inr ⟨rfl, rfl⟩
  unfold f_X8_alike f_X8_alike_0 f_X9_alike f_X9_alike_0 f_X9_alike_16
  rcases pt a1 with ⟨p, hp, rfl, e1, e2⟩ | ⟨e1, e2⟩
  · rw [sbg e1, sbg e2, if_neg (show ¬ (1 : Int32) = 0 by decide), if_neg (show ¬ (1 : Int32) = 0 by decide)]
    rcases pt a2 with ⟨q, hq, rfl, e1, e2⟩ | ⟨e1, e2⟩
    · rw [sbg e1, sbg e2, if_neg (show ¬ (1 : Int32) = 0 by decide), if_neg (show ¬ (1 : Int32) = 0 by decide)]
      obtain ⟨v', re', k1, k2, k3⟩ := f_know7 hX hI
      obtain ⟨od', t1⟩ := f_turnsOf' h1 h6 hp hq F od
      rw [sbg k1, sbg t1]
      simp only
      rw [sbg (f_bring h6 hp hq k3)]
      have hI' : TI v' re' (nI N) F (nI (trn F N)) := ⟨k2, Or.inr ⟨N, rfl, hX, rfl, k3⟩⟩
      have hle := tof_le (F := F) (p := p) (q := q) h1 h6
      have hps := tof_pos (F := F) (p := p) (q := q) h1 h6
      cases hb : brg F N p q with
      | false =>
        rw [hb] at hps
        have : ¬ 0 < tof F N p q := fun h => absurd (hps.mp h) (by decide)
        rw [if_pos (by rw [show tof F N p q = 0 by omega]; decide)]
        exact ⟨_, _, rfl, rfl, rfl, hI'⟩
      | true =>
        have : 0 < tof F N p q := hps.mpr hb
        rw [if_neg (nI_nle this (by omega))]
        exact ⟨_, _, rfl, rfl, rfl, hI'⟩
    · rw [sbg e1, sbg e2, if_pos rfl, if_pos rfl]
      exact ⟨_, _, rfl, rfl, rfl, hI⟩
  · rw [sbg e1, sbg e2, if_pos rfl, if_pos rfl]
    exact ⟨_, _, rfl, rfl, rfl, hI⟩
theorem w_first {N : Nat} {F : Int64} (hX : CX N F) (a1 : Int32) {co bo : Nat → Int32} {pro ple : Nat → Int64} {pld pre : Int64} {pc pkp : Int32} {pkf : Int64} {ro le : Nat → Int64} {ld re : Int64} {c : Int32} {lf rg : Nat → Int64} {er : Nat → Int32} {pl kp : Int32} {kf : Int64} (hP : PI co pkp pkf) (hQ : QI3 er pl kp kf) {bs rs ms cj cl : Nat → Int64} {fj fl fa fb fr : Int32} {ta : Nat → Int32} {af : Int64} {ap hf : Int32} (hR : RI9 fj fl fa fb fr af ap hf) :
    ∃ R1 R2, f_X8_first (nI N) F a1 co bo pro ple pld pre pc pkp pkf ro le ld re c lf rg er pl kp kf = some R1 ∧ f_X9_first (nI N) F a1 bs rs ms cj cl fj fl fa fb fr ta af ap hf = some R2 ∧ R1.1 = R2.1 ∧ PI R1.2.1 R1.2.2.2.2.2.2.2.2.1 R1.2.2.2.2.2.2.2.2.2.1 ∧ QI3 R1.2.2.2.2.2.2.2.2.2.2.2.2.2.2.2.2.2.1 R1.2.2.2.2.2.2.2.2.2.2.2.2.2.2.2.2.2.2.1 R1.2.2.2.2.2.2.2.2.2.2.2.2.2.2.2.2.2.2.2.1 R1.2.2.2.2.2.2.2.2.2.2.2.2.2.2.2.2.2.2.2.2 ∧ RI9 R2.2.2.2.2.2.2.1 R2.2.2.2.2.2.2.2.1 R2.2.2.2.2.2.2.2.2.1 R2.2.2.2.2.2.2.2.2.2.1 R2.2.2.2.2.2.2.2.2.2.2.1 R2.2.2.2.2.2.2.2.2.2.2.2.2.1 R2.2.2.2.2.2.2.2.2.2.2.2.2.2.1 R2.2.2.2.2.2.2.2.2.2.2.2.2.2.2 := by
  obtain ⟨co', bo', pro', ple', pld', pre', pc', pkp', pkf', ro', le', ld', re', c', lf', rg', er', k1, k2, k3⟩ := f_know3 hX co bo pro ple pld pre pc pkp pkf ro le ld re c lf rg er pl kp kf hP hQ
  have hQ' : QI3 er' (tf (!(FO N F).isSome)) (nI N) F := Or.inr ⟨N, rfl, hX, rfl, k3⟩
  unfold f_X8_first f_X8_first_0 f_X9_first f_X9_first_0
  rw [sbg k1]
  simp only
  unfold f_X3_told f_X3_told_0 f_X3_told_16
  rcases in_cases a1 (b := 4) with ⟨e, p1, p2⟩ | ⟨e, p1⟩
  · obtain ⟨bs', rs', ms', cj', cl', fj', fl', fa', fb', fr', ta', g1, g2⟩ := f_finds hX bs rs ms cj cl fj fl fa fb fr ta af ap hf hR
    have hR' : RI9 fj' fl' fa' fb' fr' F (nI N) (tf (FO N F).isSome) := Or.inr ⟨N, rfl, hX, rfl, g2⟩
    rw [sbg e, if_neg (show ¬ (1 : Int32) = 0 by decide), sbg g1]
    simp only
    obtain ⟨i, hi, rfl⟩ := nI_of2 (x := a1) (M := 4) (n := 4) (by decide) p1 (nlt_le p2)
    cases hfo : FO N F with
    | none =>
      rw [show (none : Option (Nat × Nat × Nat × Nat)).isSome = false from rfl]
      rw [if_neg (show ¬ tf (!false) = 0 by decide), if_pos (show tf false = 0 by decide)]
      rw [hfo] at hQ' hR'
      exact ⟨_, _, rfl, rfl, rfl, k2, hQ', hR'⟩
    | some w =>
      obtain ⟨j, l, a, b⟩ := w
      rw [show (some (j, l, a, b)).isSome = true from rfl]
      rw [if_pos (show tf (!true) = 0 by decide), if_neg (show ¬ tf true = 0 by decide), if_neg p1, if_pos (show nI i < (5 : Int32) from nI_lt (b := 5) (by omega) (by decide)), ix_nI (show i < 5 by omega) (by decide), cl_nI (show i < 2 ^ 31 by omega)]
      simp only [gd]
      have hE := k3 j l a b hfo
      have hG := g2 j l a b hfo
      rw [hfo] at hQ' hR'
      obtain ⟨E0, E1, E2, E3, E4⟩ := hE
      obtain ⟨G0, G1, G2, G3, G4⟩ := hG
      have hc : i = 0 ∨ i = 1 ∨ i = 2 ∨ i = 3 ∨ i = 4 := by omega
      rcases hc with rfl | rfl | rfl | rfl | rfl
      · rw [if_pos (show nI 0 = 0 from rfl)]
        exact ⟨_, _, rfl, rfl, by simp only; rw [E0, G0], k2, hQ', hR'⟩
      · rw [if_neg (show ¬ nI 1 = 0 by decide), if_pos (show nI 1 = 1 from rfl)]
        exact ⟨_, _, rfl, rfl, by simp only; rw [E1, G1], k2, hQ', hR'⟩
      · rw [if_neg (show ¬ nI 2 = 0 by decide), if_neg (show ¬ nI 2 = 1 by decide), if_pos (show nI 2 = 2 from rfl)]
        exact ⟨_, _, rfl, rfl, by simp only; rw [E2, G2], k2, hQ', hR'⟩
      · rw [if_neg (show ¬ nI 3 = 0 by decide), if_neg (show ¬ nI 3 = 1 by decide), if_neg (show ¬ nI 3 = 2 by decide), if_pos (show nI 3 = 3 from rfl)]
        exact ⟨_, _, rfl, rfl, by simp only; rw [E3, G3], k2, hQ', hR'⟩
      · rw [if_neg (show ¬ nI 4 = 0 by decide), if_neg (show ¬ nI 4 = 1 by decide), if_neg (show ¬ nI 4 = 2 by decide), if_neg (show ¬ nI 4 = 3 by decide)]
        exact ⟨_, _, rfl, rfl, by simp only; rw [E4, G4], k2, hQ', hR'⟩
  · rw [sbg e, if_pos rfl]
    have e5 : ∀ (X : Option Int32), (if tf (!(FO N F).isSome) = 0 then if a1 < 0 then some (-1 : Int32) else if a1 < 5 then X else some (-1) else some (-1)) = some (-1) := by
      intro X
      by_cases z : tf (!(FO N F).isSome) = 0
      · rw [if_pos z]
        rcases p1 with p1 | ⟨p1, p2⟩
        · rw [if_pos p1]
        · rw [if_neg p1, if_neg (show ¬ a1 < 5 by
            rw [Int32.lt_iff_toInt_lt] at p2 ⊢
            have e4 : (4 : Int32).toInt = 4 := by decide
            have e5 : (5 : Int32).toInt = 5 := by decide
            rw [e4] at p2
            rw [e5]; omega)]
      · rw [if_neg z]
    rw [sbg (e5 _)]
    exact ⟨_, _, rfl, rfl, rfl, k2, hQ', hR⟩
