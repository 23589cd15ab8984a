/-! what the class keeps of the turns, and the counts of classes on both sides -/
def trn (F : Int64) (N : Nat) : Nat := ctl (fm F N) (prm N)
def TK7 (F : Int64) (N : Nat) (re : Nat → Int32) : Prop := RC N re (fun p q => brg F N p q = true)
def TI (v re : Nat → Int32) (kp : Int32) (kf : Int64) (ct : Int32) : Prop := v 0 = 0 ∧ (kp = 0 ∨ ∃ N, kp = nI N ∧ CX N kf ∧ ct = nI (trn kf N) ∧ TK7 kf N re)
theorem f_know7 {N : Nat} {F : Int64} (hX : CX N F) {v re : Nat → Int32} {kp : Int32} {kf : Int64} {ct : Int32} (hI : TI v re kp kf ct) :
    ∃ v' re', f_X7_know (nI N) F v re kp kf ct = some (v', re', nI N, F, nI (trn F N)) ∧ v' 0 = 0 ∧ TK7 F N re' := by
  have h1 := hX.1
  have hN := hX.2.1
  have key : ∀ d p m (re : Nat → Int32), p + d = 6 → d < m → (∀ i, i < p → re i = 0) → ∃ v' re', f_X7_know_36 m (nI p) v re (nI N) F (nI 0) = some (v', re', nI N, F, nI (trn F N)) ∧ v' 0 = 0 ∧ TK7 F N re' := by
    intro d
    induction d with
    | zero =>
      intro p m re g1 g2 hz
      obtain ⟨m, rfl⟩ : ∃ m', m = m' + 1 := ⟨m - 1, by omega⟩
      have e : p = 6 := by omega
      subst e
      obtain ⟨v', re', a1, a2, a3⟩ := place_spec (F := F) h1 hN N 0 8 0 0 [] v re (fun _ _ => False) (by omega) (by omega) rfl (fun i hi => by omega) ⟨by decide, fun q _ => by rw [Nat.zero_testBit]; rfl⟩ (fun s hs => by
        have : s = 0 := by rw [Nat.pow_zero] at hs; omega
        rw [this, hI.1]; rfl) (by
        rw [pf_t]
        intro s hs
        have : s = 0 := by rw [Nat.pow_zero] at hs; omega
        rw [this]; rfl) (fun p hp => ⟨0, by decide, hz p (by omega), fun q => by rw [Nat.zero_testBit]; exact ⟨fun h => absurd h (by decide), False.elim⟩⟩)
      refine ⟨v', re', ?_, ?_, ?_⟩
      · rw [f_X7_know_36, if_pos (by decide), show (0 : Int32) = nI 0 from rfl, sbg a1, Nat.zero_add]
        rfl
      · rw [a2 0 (by decide)]; rfl
      · exact a3.congr (fun p q _ => by
          rw [brg_t]
          exact ⟨fun h => h.elim False.elim id, Or.inr⟩)
    | succ d ih =>
      intro p m re g1 g2 hz
      obtain ⟨m, rfl⟩ : ∃ m', m = m' + 1 := ⟨m - 1, by omega⟩
      rw [f_X7_know_36, if_neg (show ¬ (6 : Int32) ≤ nI p from nI_ge (b := 6) (by omega) (by decide)), six6 (show p < 6 by omega), nI_1, cl_nI (show p < 2 ^ 31 by omega)]
      simp only [gd]
      refine ih (p + 1) m _ (by omega) (by omega) (fun i hi => ?_)
      by_cases e : i = p
      · subst e; rw [up_s]
      · rw [up_n e]; exact hz i (by omega)
  have go : ∃ v' re', f_X7_know_18 (nI N) F v re kp kf ct = some (v', re', nI N, F, nI (trn F N)) ∧ v' 0 = 0 ∧ TK7 F N re' := by
    unfold f_X7_know_18
    exact key 6 0 FU re (by omega) (by decide) (fun i hi => by omega)
  unfold f_X7_know f_X7_know_0
  by_cases c1 : nI N = kp
  · rw [if_pos c1]
    by_cases c2 : F = kf
    · rw [if_pos c2]
      subst c1; subst c2
      rcases hI with ⟨h0, h | ⟨N', e, hX2, hc, hT⟩⟩
      · exact absurd h (nI_ne_0 h1 hN)
      · have e2 : N = N' := (nI_inj (by omega) (by have := hX2.2.1; omega)).mp e
        subst e2
        exact ⟨v, re, by rw [hc], h0, hT⟩
    · rw [if_neg c2]; exact go
  · rw [if_neg c1]; exact go
theorem f_bring {N p q : Nat} {F : Int64} {re : Nat → Int32} (hN : N ≤ 6) (hp : p < N) (hq : q < N) (hT : TK7 F N re) : f_X7_bring re (nI p) (nI q) = some (tf (brg F N p q)) := by
  obtain ⟨m, m1, m2, m3⟩ := hT p hp
  unfold f_X7_bring f_X7_bring_0
  rw [if_neg (nI_pos (show p < 2 ^ 31 by omega)), if_neg (show ¬ (6 : Int32) ≤ nI p from nI_ge (b := 6) (by omega) (by decide)), if_neg (nI_pos (show q < 2 ^ 31 by omega)), if_neg (show ¬ (6 : Int32) ≤ nI q from nI_ge (b := 6) (by omega) (by decide)), six6 (show p < 6 by omega), cl_nI (show p < 2 ^ 31 by omega), m2]
  simp only [gd]
  rw [sbg (t_hasPoint ⟨m, m1⟩ ⟨q, by omega⟩)]
  have : m.testBit q = brg F N p q := Bool.eq_iff_iff.mpr (m3 q)
  simp only [this]
  cases brg F N p q <;> rfl
def fst7 (F : Int64) (N p : Nat) : Bool := alb (fun q => !(brg F N p q)) 0 p
def kls (F : Int64) (N : Nat) : Nat → Nat
  | 0 => 0
  | p + 1 => kls F N p + (fst7 F N p).toNat
theorem low0 {m p : Nat} : m &&& (2 ^ p - 1) = 0 ↔ ∀ q, q < p → m.testBit q = false := by
  rw [Nat.and_two_pow_sub_one_eq_mod]
  constructor
  · intro h q hq
    have := congrArg (fun x => x.testBit q) h
    simp only [Nat.zero_testBit, Nat.testBit_mod_two_pow, hq, decide_true, Bool.true_and] at this
    exact this
  · intro h
    apply Nat.eq_of_testBit_eq
    intro q
    rw [Nat.testBit_mod_two_pow, Nat.zero_testBit]
    by_cases c : q < p
    · rw [h q c, Bool.and_false]
    · simp [c]
theorem f_classes7 {N : Nat} {F : Int64} {re : Nat → Int32} (hN : N ≤ 6) (hT : TK7 F N re) : f_X7_classes re (nI N) = some (nI (kls F N N)) := by
  have key : ∀ d p m, p + d = N → d < m → f_X7_classes_4 re (nI N) m (nI (kls F N p)) (nI p) = some (nI (kls F N N)) := by
    intro d
    induction d with
    | zero =>
      intro p m g1 g2
      obtain ⟨m, rfl⟩ : ∃ m', m = m' + 1 := ⟨m - 1, by omega⟩
      have e : p = N := by omega
      subst e
      rw [f_X7_classes_4, if_pos (nI_le (Nat.le_refl _) (by omega))]
    | succ d ih =>
      intro p m g1 g2
      obtain ⟨m, rfl⟩ : ∃ m', m = m' + 1 := ⟨m - 1, by omega⟩
      obtain ⟨x, x1, x2, x3⟩ := hT p (by omega)
      have h32 := pow5 (show p < 6 by omega)
      rw [f_X7_classes_4, if_neg (nI_ge (show p < N by omega) (by omega)), if_neg (show ¬ (6 : Int32) ≤ nI p from nI_ge (b := 6) (by omega) (by decide)), six6 (show p < 6 by omega), cl_nI (show p < 2 ^ 31 by omega), t_all ⟨p, by omega⟩, x2, nI_and x1 (show 2 ^ p - 1 < 64 by omega), nI_1, nI_1]
      simp only [gd]
      have hx : ∀ q, x.testBit q = brg F N p q := fun q => Bool.eq_iff_iff.mpr (x3 q)
      have e0 : nI (x &&& (2 ^ p - 1)) = 0 ↔ x &&& (2 ^ p - 1) = 0 := by
        have := and_lt64 (b := 2 ^ p - 1) x1
        exact nI_inj (b := 0) (by omega) (by decide)
      have ek : kls F N (p + 1) = kls F N p + (fst7 F N p).toNat := rfl
      by_cases c : x &&& (2 ^ p - 1) = 0
      · rw [if_pos (e0.mpr c)]
        have : fst7 F N p = true := by
          unfold fst7
          rw [alb_t]
          intro q _ hq
          rw [← hx q, low0.mp c q (by omega)]; rfl
        rw [this] at ek
        have := ih (p + 1) m (by omega) (by omega)
        rw [ek] at this
        exact this
      · rw [if_neg (fun h => c (e0.mp h))]
        have : fst7 F N p = false := by
          cases hf : fst7 F N p with
          | false => rfl
          | true =>
            unfold fst7 at hf
            rw [alb_t] at hf
            exact absurd (low0.mpr (fun q hq => by
              have := hf q (by omega) (by omega)
              rw [hx q]
              simpa using this)) c
        rw [this] at ek
        have := ih (p + 1) m (by omega) (by omega)
        rw [ek] at this
        exact this
  unfold f_X7_classes f_X7_classes_0
  exact key N 0 FU (by omega) (Nat.lt_of_lt_of_le (show N < 7 by omega) (by decide))
theorem f_turnsOf' {N p q : Nat} (h1 : 1 ≤ N) (hN : N ≤ 6) (hp : p < N) (hq : q < N) (F : Int64) (v : Nat → Int32) : ∃ v', f_X9_turns (nI N) F (nI p) (nI q) v = some (nI (tof F N p q), v') := f_turnsOf h1 hN hp hq F v
theorem f_turns7 {N : Nat} (h1 : 1 ≤ N) (hN : N ≤ 6) (F : Int64) (b : Int32) (v : Nat → Int32) : ∃ v', f_X9_turns (nI N) F (-1) b v = some (nI (trn F N), v') := by
  obtain ⟨v', e⟩ := f_turnsAll h1 hN F b v
  refine ⟨v', ?_⟩
  rw [e, ctl_congr (fun x hx => kp_fm h1 hN hx)]
  rfl
theorem f_classes9 {N : Nat} {F : Int64} (h1 : 1 ≤ N) (hN : N ≤ 6) (v : Nat → Int32) : ∃ v', f_X9_classes (nI N) F v = some (nI (kls F N N), v') := by
  have inner : ∀ (K : Int32 → Int32 → (Nat → Int32) → Option (Int32 × (Nat → Int32))) (c p : Nat), p < N → ∀ d q m (v : Nat → Int32) (b : Bool), q + d = p → d + 1 < m → ∃ v', f_X9_classes_17 (nI N) F K m (nI c) (nI p) (tf b) (nI q) v = K (nI (c + (b && alb (fun x => !(brg F N p x)) q d).toNat)) (nI (p + 1)) v' := by
    intro K c p hp
    have fin : ∀ (v : Nat → Int32) (b : Bool), f_X9_classes_49 (nI N) F K (nI c) (nI p) (tf b) v = K (nI (c + b.toNat)) (nI (p + 1)) v := by
      intro v b
      unfold f_X9_classes_49 f_X9_classes_59
      cases b with
      | false => rw [if_pos (by decide), nI_1]; exact congrArg (fun x => K x (nI (p + 1)) v) (nI_add c 0)
      | true => rw [if_neg (by decide), nI_1, nI_1]; rfl
    intro d
    induction d with
    | zero =>
      intro q m v b g1 g2
      obtain ⟨m, rfl⟩ : ∃ m', m = m' + 1 := ⟨m - 1, by omega⟩
      refine ⟨v, ?_⟩
      rw [f_X9_classes_17, if_pos (nI_le (show p ≤ q by omega) (by omega)), fin]
      simp only [alb, Bool.and_true]
    | succ d ih =>
      intro q m v b g1 g2
      obtain ⟨m, rfl⟩ : ∃ m', m = m' + 1 := ⟨m - 1, by omega⟩
      rw [f_X9_classes_17, if_neg (nI_ge (show q < p by omega) (by omega))]
      cases b with
      | false =>
        refine ⟨v, ?_⟩
        rw [if_pos (by decide), fin]
        rfl
      | true =>
        rw [if_neg (by decide)]
        obtain ⟨v1, e⟩ := f_turnsOf' h1 hN (show q < N by omega) hp F v
        rw [sbg e]
        simp only [f_X9_classes_42]
        rw [nI_1]
        have hle := tof_le (F := F) (p := q) (q := p) h1 hN
        have hal : alb (fun x => !(brg F N p x)) q (d + 1) = (!(brg F N p q) && alb (fun x => !(brg F N p x)) (q + 1) d) := rfl
        have hsym : brg F N p q = brg F N q p := Bool.eq_iff_iff.mpr ⟨brg_sym h1 hN hp, brg_sym h1 hN (show q < N by omega)⟩
        rw [hal, hsym]
        cases hb : brg F N q p with
        | false =>
          have h0 : ¬ 0 < tof F N q p := fun h => by
            rw [tof_pos h1 hN, hb] at h; exact absurd h (by decide)
          rw [if_pos (show nI (tof F N q p) = 0 by rw [show tof F N q p = 0 by omega]; rfl)]
          exact ih (q + 1) m v1 true (by omega) (by omega)
        | true =>
          have h0 : 0 < tof F N q p := (tof_pos h1 hN).mpr hb
          rw [if_neg (nI_ne0 h0 (by omega))]
          exact ih (q + 1) m v1 false (by omega) (by omega)
  have key : ∀ d p m (v : Nat → Int32), p + d = N → d < m → ∃ v', f_X9_classes_4 (nI N) F m (nI (kls F N p)) (nI p) v = some (nI (kls F N N), v') := by
    intro d
    induction d with
    | zero =>
      intro p m v g1 g2
      obtain ⟨m, rfl⟩ : ∃ m', m = m' + 1 := ⟨m - 1, by omega⟩
      have e : p = N := by omega
      subst e
      exact ⟨v, by rw [f_X9_classes_4, if_pos (nI_le (Nat.le_refl _) (by omega))]⟩
    | succ d ih =>
      intro p m v g1 g2
      obtain ⟨m, rfl⟩ : ∃ m', m = m' + 1 := ⟨m - 1, by omega⟩
      rw [f_X9_classes_4, if_neg (nI_ge (show p < N by omega) (by omega))]
      obtain ⟨v1, e⟩ := inner (f_X9_classes_4 (nI N) F m) (kls F N p) p (by omega) p 0 FU v true (by omega) (Nat.lt_of_lt_of_le (show p + 1 < 7 by omega) (by decide))
      have e' : f_X9_classes_17 (nI N) F (f_X9_classes_4 (nI N) F m) FU (nI (kls F N p)) (nI p) 1 0 v = f_X9_classes_4 (nI N) F m (nI (kls F N (p + 1))) (nI (p + 1)) v1 := e
      rw [e']
      exact ih (p + 1) m v1 (by omega) (by omega)
  unfold f_X9_classes f_X9_classes_0
  exact key N 0 FU v (by omega) (Nat.lt_of_lt_of_le (show N < 7 by omega) (by decide))
