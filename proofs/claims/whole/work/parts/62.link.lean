/-! the moves: link, dual, undo -/
def sp1 (r s : Nat) : Nat → Nat × Nat
  | 0 => (0, 0)
  | p + 1 => if s.testBit p = true then sp1 r s p else ((sp1 r s p).1 ||| ((if r.testBit (sp1 r s p).2 = true then 2 ^ p else 0)), (sp1 r s p).2 + 1)
def spd (N r s : Nat) : Nat := (sp1 r s N).1
theorem t_spr9 : ∀ (N : Fin 7) (s r : Fin 64), s.val < 2 ^ N.val → r.val < 2 ^ (N.val - sz s.val) → f_X9_spread (nI N.val) (nI r.val) (nI s.val) = some (nI (spd N.val r.val s.val)) ∧ f_X6_spread (nI r.val) (nI (2 ^ N.val - 1 - s.val)) = some (nI (spd N.val r.val s.val)) ∧ spd N.val r.val s.val < 2 ^ N.val := by decide +kernel
theorem t_rest : ∀ (N : Fin 7) (s : Fin 64), s.val < 2 ^ N.val → nI (2 ^ N.val - 1) &&& (nI s.val ^^^ (-1 : Int32)) = nI (2 ^ N.val - 1 - s.val) ∧ sz (2 ^ N.val - 1 - s.val) = N.val - sz s.val ∧ sz s.val ≤ N.val ∧ (s.val ≠ 2 ^ N.val - 1 → sz s.val < N.val) ∧ nI N.val - nI (sz s.val) = nI (N.val - sz s.val) := by decide +kernel
theorem sub_iff {a b : Nat} : sub a b = true ↔ ∀ i, a.testBit i = true → b.testBit i = true := by
  unfold sub
  constructor
  · intro h i hi
    have := eq_of_beq h
    rw [← this, Nat.testBit_and, Bool.and_eq_true] at hi
    exact hi.2
  · intro h
    have : a &&& b = a := Nat.eq_of_testBit_eq (fun i => by
      rw [Nat.testBit_and]
      cases ha : a.testBit i with
      | false => rfl
      | true => rw [h i ha]; rfl)
    rw [this]; exact beq_self_eq_true a
theorem sp1_mono {t r s : Nat} (h : ∀ i, t.testBit i = true → r.testBit i = true) : ∀ p, (sp1 t s p).2 = (sp1 r s p).2 ∧ ∀ q, (sp1 t s p).1.testBit q = true → (sp1 r s p).1.testBit q = true := by
  intro p
  induction p with
  | zero => exact ⟨rfl, fun q h => h⟩
  | succ p ih =>
    simp only [sp1]
    by_cases c : s.testBit p = true
    · rw [if_pos c, if_pos c]; exact ih
    · rw [if_neg c, if_neg c]
      refine ⟨by simp only [ih.1], fun q hq => ?_⟩
      simp only at hq ⊢
      rw [Nat.testBit_or, Bool.or_eq_true] at hq ⊢
      rcases hq with hq | hq
      · exact Or.inl (ih.2 q hq)
      · right
        by_cases d : t.testBit (sp1 t s p).2 = true
        · rw [if_pos d] at hq
          rw [ih.1] at d
          rw [if_pos (h _ d)]; exact hq
        · rw [if_neg d, Nat.zero_testBit] at hq
          exact absurd hq (by decide)
theorem spd_mono (N : Nat) {s r t : Nat} (h : sub t r = true) : sub (spd N t s ||| s) (spd N r s ||| s) = true := by
  rw [sub_iff] at h ⊢
  intro i hi
  rw [Nat.testBit_or, Bool.or_eq_true] at hi ⊢
  rcases hi with hi | hi
  · exact Or.inl ((sp1_mono h N).2 i hi)
  · exact Or.inr hi
theorem spd_0 : ∀ (N : Fin 7) (s : Fin 64), spd N.val 0 s.val = 0 := by decide +kernel
def lk (N s : Nat) (F : Int64) (r : Nat) : Bool := tb F (spd N r s ||| s)
theorem mk_sub {P : Nat → Bool} {n : Nat} (h1 : 1 ≤ n) (h6 : n ≤ 6) (h0 : P 0 = true) (hd : ∀ s t, s < 2 ^ n → P s = true → sub t s = true → P t = true) : CX n (mk P (2 ^ n)) := by
  have h64 := pow_le64 h6
  refine ⟨h1, h6, ?_, fun s hs h => ?_, fun s t hs h ht => ?_⟩
  · rw [tb_mk h64 (by decide), h0, Bool.and_true]
    exact decide_eq_true (Nat.pow_pos (by decide))
  · rw [tb_mk h64 hs, Bool.and_eq_true, decide_eq_true_iff] at h
    exact h.1
  · have := sub_leN ht
    rw [tb_mk h64 hs, Bool.and_eq_true, decide_eq_true_iff] at h
    rw [tb_mk h64 (by omega), Bool.and_eq_true, decide_eq_true_iff]
    exact ⟨by omega, hd s t h.1 h.2 ht⟩
theorem i64_or0 (x : Int64) : x ||| 0 = x := tb_ext (fun i _ => by rw [tb_or, tb_0, Bool.or_false])
theorem CX_link {N s : Nat} {F : Int64} (hX : CX N F) (hs : s < 2 ^ N) (hF : tb F s = true) (hne : s ≠ 2 ^ N - 1) : CX (N - sz s) (mk (lk N s F) (2 ^ (N - sz s))) := by
  have h64 := pow_le64 hX.2.1
  obtain ⟨_, _, r3, r4, _⟩ := t_rest ⟨N, by have := hX.2.1; omega⟩ ⟨s, by omega⟩ hs
  simp only at r3 r4
  have r4 := r4 hne
  have h6 := hX.2.1
  refine mk_sub (by omega) (by omega) ?_ (fun r t hr h ht => ?_)
  · unfold lk
    rw [spd_0 ⟨N, by omega⟩ ⟨s, by omega⟩, Nat.zero_or]; exact hF
  · unfold lk at h ⊢
    have hr64 : r < 64 := Nat.lt_of_lt_of_le hr (pow_le64 (by omega))
    have := (t_spr9 ⟨N, by omega⟩ ⟨s, by omega⟩ ⟨r, hr64⟩ hs hr).2.2
    simp only at this
    exact hX.2.2.2.2 _ _ (or_lt64 (by omega) (by omega)) h (spd_mono N ht)
theorem link_loop8 {N s : Nat} {F : Int64} {hp : Nat → Int32} {hf : Nat → Int64} {hc : Int32} (hX : CX N F) (hs : s < 2 ^ N) : ∀ d i m, i + d = 2 ^ (N - sz s) → d < m → f_X8_link_38 m (nI s) (nI (2 ^ N - 1 - s)) (nI (N - sz s)) (mk (lk N s F) i) (nI i) hp hf hc (nI N) F = (f_X8_change (nI (N - sz s)) (mk (lk N s F) (2 ^ (N - sz s))) hp hf hc (nI N) F).bind (fun R1 => some (nI (N - sz s), R1.1, R1.2.1, R1.2.2.1, R1.2.2.2.1, R1.2.2.2.2)) := by
  have h6 := hX.2.1
  have h64 := pow_le64 h6
  have hn64 := pow_le64 (show N - sz s ≤ 6 by omega)
  intro d
  induction d with
  | zero =>
    intro i m g1 g2
    obtain ⟨m, rfl⟩ : ∃ m', m = m' + 1 := ⟨m - 1, by omega⟩
    have e : i = 2 ^ (N - sz s) := by omega
    rw [f_X8_link_38, f_pow (by omega), if_pos (nI_le (by omega) (by omega)), e]
  | succ d ih =>
    intro i m g1 g2
    obtain ⟨m, rfl⟩ : ∃ m', m = m' + 1 := ⟨m - 1, by omega⟩
    obtain ⟨_, q2, q3⟩ := t_spr9 ⟨N, by omega⟩ ⟨s, by omega⟩ ⟨i, by omega⟩ hs (show i < 2 ^ (N - sz s) by omega)
    simp only at q2 q3
    rw [f_X8_link_38, f_pow (by omega), if_neg (nI_ge (by omega) (by omega)), sbg q2, nI_or (by omega) (by omega), sbg (f_holds (or_lt64 (by omega) (by omega))), nI_1, Nat.or_comm]
    simp only [bnd]
    have e := mk_s (lk N s F) i
    have el : lk N s F i = tb F (spd N i s ||| s) := rfl
    cases hc2 : tb F (spd N i s ||| s) with
    | false =>
      rw [el, hc2, if_neg (by decide)] at e
      rw [if_pos (by decide), ← e]
      exact ih (i + 1) m (by omega) (by omega)
    | true =>
      rw [el, hc2, if_pos rfl] at e
      rw [if_neg (by decide), show ((1 : Int64) <<< ((nI i).toInt64 &&& 63)) = b1 i from rfl, ← e]
      exact ih (i + 1) m (by omega) (by omega)
theorem link_loop9 {N s : Nat} {F : Int64} {pH : Nat → Int32} {fH : Nat → Int64} {kp : Int32} (hX : CX N F) (hs : s < 2 ^ N) : ∀ d i m, i + d = 2 ^ (N - sz s) → d < m → f_X9_link_45 m (nI s) (nI (N - sz s)) (mk (lk N s F) i) (nI i) (nI N) F kp pH fH = (f_X9_becomes (nI (N - sz s)) (mk (lk N s F) (2 ^ (N - sz s))) (nI N) F kp pH fH).bind (fun R1 => some (nI (N - sz s), R1.1, R1.2.1, R1.2.2.1, R1.2.2.2.1, R1.2.2.2.2)) := by
  have h6 := hX.2.1
  have h64 := pow_le64 h6
  have hn64 := pow_le64 (show N - sz s ≤ 6 by omega)
  intro d
  induction d with
  | zero =>
    intro i m g1 g2
    obtain ⟨m, rfl⟩ : ∃ m', m = m' + 1 := ⟨m - 1, by omega⟩
    have e : i = 2 ^ (N - sz s) := by omega
    rw [f_X9_link_45, f_pow (by omega), if_pos (nI_le (by omega) (by omega)), e]
  | succ d ih =>
    intro i m g1 g2
    obtain ⟨m, rfl⟩ : ∃ m', m = m' + 1 := ⟨m - 1, by omega⟩
    obtain ⟨q1, _, q3⟩ := t_spr9 ⟨N, by omega⟩ ⟨s, by omega⟩ ⟨i, by omega⟩ hs (show i < 2 ^ (N - sz s) by omega)
    simp only at q1 q3
    rw [f_X9_link_45, f_pow (by omega), if_neg (nI_ge (by omega) (by omega)), sbg q1, nI_or (by omega) (by omega), sbg (f_isFace (or_lt64 (by omega) (by omega)))]
    simp only [f_X9_link_78]
    rw [nI_1]
    have e := mk_s (lk N s F) i
    have el : lk N s F i = tb F (spd N i s ||| s) := rfl
    cases hc2 : tb F (spd N i s ||| s) with
    | false =>
      rw [el, hc2, if_neg (by decide)] at e
      rw [if_pos (by decide), i64_or0, ← e]
      exact ih (i + 1) m (by omega) (by omega)
    | true =>
      rw [el, hc2, if_pos rfl] at e
      rw [if_neg (by decide), show ((1 : Int64) <<< ((nI i).toInt64 &&& 63)) = b1 i from rfl, ← e]
      exact ih (i + 1) m (by omega) (by omega)
theorem f_size8 {s : Nat} (h : s < 64) : f_J6_bitCount_0f7a4 (nI s) = some (nI (sz s)) := t_bitCount ⟨s, h⟩
theorem f_all8 {N : Nat} (h : N ≤ 6) : f_X8_allPoints (nI N) = some (nI (2 ^ N - 1)) := congrArg some (t_all ⟨N, by omega⟩)
theorem mv_link {hp pH : Nat → Int32} {hf fH : Nat → Int64} {hc kp xp mp : Int32} {xf mf : Int64} (h : MVI hp hf hc xp xf mp mf kp pH fH) (a : Int32) : MVR (f_X8_link a hp hf hc xp xf) (f_X9_link a mp mf kp pH fH) := by
  have hI := h
  obtain ⟨hK, N, rfl, rfl, rfl, hX⟩ := h
  have h6 := hX.2.1
  have h64 := pow_le64 h6
  unfold f_X8_link f_X8_link_0 f_X9_link f_X9_link_0
  rcases face_cases hX a with ⟨s, h1s, hs, rfl, hF, e1, e2, e3, e4⟩ | ⟨e1, e2⟩
  · rw [sbg e1, sbg e2, if_neg (by decide), if_neg (by decide), if_neg e3, sbg (f_all8 h6), sbg (f_all h6)]
    by_cases hne : s = 2 ^ N - 1
    · rw [if_pos (by rw [hne]), if_pos (by rw [hne])]
      exact ⟨_, _, rfl, rfl, rfl, hI⟩
    · have hne' : ¬ nI s = nI (2 ^ N - 1) := fun e => hne ((nI_inj (by omega) (by omega)).mp e)
      obtain ⟨r1, r2, r3, r4, r5⟩ := t_rest ⟨N, by omega⟩ ⟨s, by omega⟩ hs
      simp only at r1 r2 r3 r4 r5
      obtain ⟨hp', hf', hc', kp', pH', fH', c1, c2, c3⟩ := f_change hX hK (CX_link hX hs hF hne)
      rw [if_neg hne', if_neg hne', sbg (f_all8 h6), sbg e4, if_neg (by decide), r1, sbg (f_size8 (by omega)), r2, sbg (f_size (by omega)), r5]
      have k1 := link_loop8 (hp := hp) (hf := hf) (hc := hc) hX hs (2 ^ (N - sz s)) 0 FU (by omega) (Nat.lt_of_le_of_lt (pow_le64 (show N - sz s ≤ 6 by omega)) (by decide))
      have k2 := link_loop9 (pH := pH) (fH := fH) (kp := kp) hX hs (2 ^ (N - sz s)) 0 FU (by omega) (Nat.lt_of_le_of_lt (pow_le64 (show N - sz s ≤ 6 by omega)) (by decide))
      rw [sbg c1] at k1
      rw [sbg c2] at k2
      exact ⟨_, _, k1, k2, rfl, c3⟩
  · rw [sbg e1, if_pos rfl]
    have : ∀ K : Int32 → Option (Int32 × Int32 × Int64 × Int32 × (Nat → Int32) × (Nat → Int64)), ((f_X9_isSet (nI N) a).bind (fun R1 => if R1 = 0 then some ((-1 : Int32), nI N, mf, kp, pH, fH) else if a = 0 then some ((-1 : Int32), nI N, mf, kp, pH, fH) else (f_X9_all (nI N)).bind (fun R2 => if a = R2 then some ((-1 : Int32), nI N, mf, kp, pH, fH) else (f_X9_isFace mf a).bind (fun R3 => if R3 = 0 then some ((-1 : Int32), nI N, mf, kp, pH, fH) else (f_X9_size a).bind K)))) = some ((-1 : Int32), nI N, mf, kp, pH, fH) := by
      intro K
      rcases e2 with z | z | ⟨z1, z2⟩
      · rcases set_cases hX.2.1 a with ⟨s, _, _, _, z2⟩ | ⟨_, z2⟩
        · rw [sbg z2, if_neg (by decide), if_pos z]
        · rw [sbg z2, if_pos rfl]
      · rw [sbg z, if_pos rfl]
      · rw [sbg z1, if_neg (by decide)]
        by_cases z : a = 0
        · rw [if_pos z]
        · rw [if_neg z, sbg (f_all h6)]
          by_cases z3 : a = nI (2 ^ N - 1)
          · rw [if_pos z3]
          · rw [if_neg z3, sbg z2, if_pos rfl]
    rw [this]
    exact ⟨_, _, rfl, rfl, rfl, hI⟩
