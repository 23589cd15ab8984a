/-! look -/
theorem w_look {N : Nat} {F : Int64} (hX : CX N F) (a1 : Int32) {co bo : Nat → Int32} {pro ple : Nat → Int64} {pld pre : Int64} {pc pkp : Int32} {pkf : Int64} {ro le : Nat → Int64} {ld re : Int64} {c : Int32} {lf rg : Nat → Int64} {er : Nat → Int32} {pl kp : Int32} {kf : Int64} (hP : PI co pkp pkf) (hQ : QI3 er pl kp kf) {v rc : Nat → Int32} {tkp : Int32} {tkf : Int64} {ct : Int32} (hT : TI v rc tkp tkf ct) {bs rs ms cj cl : Nat → Int64} {fj fl fa fb fr : Int32} {ta : Nat → Int32} {af : Int64} {ap hf : Int32} (hR : RI9 fj fl fa fb fr af ap hf) (od : Nat → Int32) :
    ∃ R1 R2, f_X8_look (nI N) F a1 co bo pro ple pld pre pc pkp pkf ro le ld re c lf rg er pl kp kf v rc tkp tkf ct = some R1 ∧ f_X9_look (nI N) F a1 bs rs ms cj cl fj fl fa fb fr ta af ap hf od = some R2 ∧ R1.1 = R2.1 ∧ PI R1.2.1 R1.2.2.2.2.2.2.2.2.1 R1.2.2.2.2.2.2.2.2.2.1 ∧ QI3 R1.2.2.2.2.2.2.2.2.2.2.2.2.2.2.2.2.2.1 R1.2.2.2.2.2.2.2.2.2.2.2.2.2.2.2.2.2.2.1 R1.2.2.2.2.2.2.2.2.2.2.2.2.2.2.2.2.2.2.2.1 R1.2.2.2.2.2.2.2.2.2.2.2.2.2.2.2.2.2.2.2.2.1 ∧ TI R1.2.2.2.2.2.2.2.2.2.2.2.2.2.2.2.2.2.2.2.2.2.1 R1.2.2.2.2.2.2.2.2.2.2.2.2.2.2.2.2.2.2.2.2.2.2.1 R1.2.2.2.2.2.2.2.2.2.2.2.2.2.2.2.2.2.2.2.2.2.2.2.1 R1.2.2.2.2.2.2.2.2.2.2.2.2.2.2.2.2.2.2.2.2.2.2.2.2.1 R1.2.2.2.2.2.2.2.2.2.2.2.2.2.2.2.2.2.2.2.2.2.2.2.2.2 ∧ RI9 R2.2.2.2.2.2.2.1 R2.2.2.2.2.2.2.2.1 R2.2.2.2.2.2.2.2.2.1 R2.2.2.2.2.2.2.2.2.2.1 R2.2.2.2.2.2.2.2.2.2.2.1 R2.2.2.2.2.2.2.2.2.2.2.2.2.1 R2.2.2.2.2.2.2.2.2.2.2.2.2.2.1 R2.2.2.2.2.2.2.2.2.2.2.2.2.2.2.1 := by
  have h1 := hX.1
  have h6 := hX.2.1
  unfold f_X8_look f_X8_look_0 f_X9_look f_X9_look_0
  by_cases c0 : a1 = 0
  · rw [if_pos c0, if_pos c0]
    exact ⟨_, _, rfl, rfl, rfl, hP, hQ, hT, hR⟩
  rw [if_neg c0, if_neg c0]
  by_cases c1 : a1 = 1
  · rw [if_pos c1, if_pos c1, sbg (f_bitCount _), sbg (f_many _)]
    exact ⟨_, _, rfl, rfl, rfl, hP, hQ, hT, hR⟩
  rw [if_neg c1, if_neg c1]
  by_cases c2 : a1 = 2
  · obtain ⟨r, g1, g2⟩ := f_greatest hX bs rs ms cj cl fj fl fa fb fr ta af ap hf od
    rw [if_pos c2, if_pos c2, sbg g1]
    exact ⟨_, _, rfl, g2, rfl, hP, hQ, hT, hR⟩
  rw [if_neg c2, if_neg c2]
  by_cases c3 : a1 = 3
  · rw [if_pos c3, if_pos c3, sbg (f_missingFamily hX), sbg (f_bitCount _), sbg (f_missMany hX)]
    exact ⟨_, _, rfl, rfl, rfl, hP, hQ, hT, hR⟩
  rw [if_neg c3, if_neg c3]
  by_cases c4 : a1 = 4
  · rw [if_pos c4, if_pos c4, sbg (f_missingFamily hX), show (2 : Int32) = nI 2 from rfl, sbg (f_ofSize (show 2 < 16 by decide)), sbg (f_isFlag hX)]
    unfold f_X8_look_97
    have hfl := flag_iff hX
    cases hb : alb (flg F) 0 (2 ^ N) with
    | false =>
      rw [hb] at hfl
      rw [if_neg (fun h => absurd (hfl.mp h) (by decide)), if_pos (show tf false = 0 by decide)]
      exact ⟨_, _, rfl, rfl, rfl, hP, hQ, hT, hR⟩
    | true =>
      rw [if_pos (hfl.mpr hb), if_neg (show ¬ tf true = 0 by decide)]
      exact ⟨_, _, rfl, rfl, rfl, hP, hQ, hT, hR⟩
  rw [if_neg c4, if_neg c4]
  by_cases c5 : a1 = 5
  · obtain ⟨co', bo', pro', ple', pld', pre', pc', pkp', pkf', ro', le', ld', re', c', lf', rg', er', k1, k2, k3⟩ := f_know3 hX co bo pro ple pld pre pc pkp pkf ro le ld re c lf rg er pl kp kf hP hQ
    have hQ' : QI3 er' (tf (!(FO N F).isSome)) (nI N) F := Or.inr ⟨N, rfl, hX, rfl, k3⟩
    obtain ⟨bs', rs', ms', cj', cl', fj', fl', fa', fb', fr', ta', g1, g2⟩ := f_finds hX bs rs ms cj cl fj fl fa fb fr ta af ap hf hR
    have hR' : RI9 fj' fl' fa' fb' fr' F (nI N) (tf (FO N F).isSome) := Or.inr ⟨N, rfl, hX, rfl, g2⟩
    rw [if_pos c5, if_pos c5, sbg k1, sbg g1]
    simp only
    unfold f_X3_arePlain f_X3_arePlain_0
    cases hb : (FO N F).isSome with
    | false =>
      rw [hb] at hQ' hR'
      rw [if_pos (show tf false = 0 by decide)]
      exact ⟨_, _, rfl, rfl, rfl, k2, hQ', hT, hR'⟩
    | true =>
      rw [hb] at hQ' hR'
      rw [if_neg (show ¬ tf true = 0 by decide)]
      exact ⟨_, _, rfl, rfl, rfl, k2, hQ', hT, hR'⟩
  rw [if_neg c5, if_neg c5]
  by_cases c6 : a1 = 6
  · obtain ⟨v', re', k1, k2, k3⟩ := f_know7 hX hT
    obtain ⟨od', t1⟩ := f_turns7 h1 h6 F (-1) od
    have hT' : TI v' re' (nI N) F (nI (trn F N)) := ⟨k2, Or.inr ⟨N, rfl, hX, rfl, k3⟩⟩
    rw [if_pos c6, if_pos c6, sbg k1, sbg t1]
    exact ⟨_, _, rfl, rfl, rfl, hP, hQ, hT', hR⟩
  rw [if_neg c6, if_neg c6]
  by_cases c7 : a1 = 7
  · obtain ⟨v', re', k1, k2, k3⟩ := f_know7 hX hT
    obtain ⟨od', t1⟩ := f_classes9 (F := F) h1 h6 od
    have hT' : TI v' re' (nI N) F (nI (trn F N)) := ⟨k2, Or.inr ⟨N, rfl, hX, rfl, k3⟩⟩
    rw [if_pos c7, if_pos c7, sbg k1, sbg t1]
    simp only
    rw [sbg (f_classes7 h6 k3)]
    exact ⟨_, _, rfl, rfl, rfl, hP, hQ, hT', hR⟩
  rw [if_neg c7, if_neg c7]
  exact ⟨_, _, rfl, rfl, rfl, hP, hQ, hT, hR⟩
