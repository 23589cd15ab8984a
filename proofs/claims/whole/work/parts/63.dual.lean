/-! the moves: dual, undo -/
def du (N : Nat) (F : Int64) (t : Nat) : Bool := !(tb F (2 ^ N - 1 - t))
theorem rest_anti : ∀ (N : Fin 7) (s t : Fin 64), s.val < 2 ^ N.val → sub t.val s.val = true → sub (2 ^ N.val - 1 - s.val) (2 ^ N.val - 1 - t.val) = true := by decide +kernel
theorem CX_dual {N : Nat} {F : Int64} (hX : CX N F) (hF : tb F (2 ^ N - 1) = false) : CX N (mk (du N F) (2 ^ N)) := by
  have h6 := hX.2.1
  have h64 := pow_le64 h6
  refine mk_sub hX.1 h6 ?_ (fun s t hs h ht => ?_)
  · unfold du
    rw [Nat.sub_zero, hF]; rfl
  · unfold du at h ⊢
    have hts := sub_leN ht
    have := rest_anti ⟨N, by omega⟩ ⟨s, by omega⟩ ⟨t, by omega⟩ hs ht
    simp only at this
    cases hc : tb F (2 ^ N - 1 - t) with
    | false => rfl
    | true =>
      rw [hX.2.2.2.2 _ _ (by omega) hc this] at h
      exact absurd h (by decide)
theorem dual_loop8 {N : Nat} {F : Int64} {hp : Nat → Int32} {hf : Nat → Int64} {hc : Int32} (hX : CX N F) : ∀ d i m, i + d = 2 ^ N → d < m → f_X8_dual_23 m (nI (2 ^ N - 1)) (mk (du N F) i) (nI i) hp hf hc (nI N) F = (f_X8_change (nI N) (mk (du N F) (2 ^ N)) hp hf hc (nI N) F).bind (fun R1 => some ((1 : Int32), R1.1, R1.2.1, R1.2.2.1, R1.2.2.2.1, R1.2.2.2.2)) := by
  have h6 := hX.2.1
  have h64 := pow_le64 h6
  intro d
  induction d with
  | zero =>
    intro i m g1 g2
    obtain ⟨m, rfl⟩ : ∃ m', m = m' + 1 := ⟨m - 1, by omega⟩
    have e : i = 2 ^ N := by omega
    rw [f_X8_dual_23, e, if_pos (all_end h6)]
  | succ d ih =>
    intro i m g1 g2
    obtain ⟨m, rfl⟩ : ∃ m', m = m' + 1 := ⟨m - 1, by omega⟩
    obtain ⟨r1, _⟩ := t_rest ⟨N, by omega⟩ ⟨i, by omega⟩ (show i < 2 ^ N by omega)
    simp only at r1
    rw [f_X8_dual_23, if_neg (all_lt h6 (show i < 2 ^ N by omega)), r1, sbg (f_holds (by omega)), nI_1]
    simp only [bnd]
    have e := mk_s (du N F) i
    have el : du N F i = !(tb F (2 ^ N - 1 - i)) := rfl
    cases hc2 : tb F (2 ^ N - 1 - i) with
    | true =>
      rw [el, hc2, if_neg (by decide)] at e
      rw [if_neg (by decide), ← e]
      exact ih (i + 1) m (by omega) (by omega)
    | false =>
      rw [el, hc2, if_pos (by decide)] at e
      rw [if_pos (by decide), show ((1 : Int64) <<< ((nI i).toInt64 &&& 63)) = b1 i from rfl, ← e]
      exact ih (i + 1) m (by omega) (by omega)
theorem dual_loop9 {N : Nat} {F : Int64} {pH : Nat → Int32} {fH : Nat → Int64} {kp : Int32} (hX : CX N F) : ∀ d i m, i + d = 2 ^ N → d < m → f_X9_dual_17 m (mk (du N F) i) (nI i) (nI N) F kp pH fH = (f_X9_becomes (nI N) (mk (du N F) (2 ^ N)) (nI N) F kp pH fH).bind (fun R2 => some ((1 : Int32), R2.1, R2.2.1, R2.2.2.1, R2.2.2.2.1, R2.2.2.2.2)) := by
  have h6 := hX.2.1
  have h64 := pow_le64 h6
  intro d
  induction d with
  | zero =>
    intro i m g1 g2
    obtain ⟨m, rfl⟩ : ∃ m', m = m' + 1 := ⟨m - 1, by omega⟩
    have e : i = 2 ^ N := by omega
    rw [f_X9_dual_17, sbg (f_all h6), e, if_pos (all_end h6)]
  | succ d ih =>
    intro i m g1 g2
    obtain ⟨m, rfl⟩ : ∃ m', m = m' + 1 := ⟨m - 1, by omega⟩
    obtain ⟨r1, _⟩ := t_rest ⟨N, by omega⟩ ⟨i, by omega⟩ (show i < 2 ^ N by omega)
    simp only at r1
    rw [f_X9_dual_17, sbg (f_all h6), if_neg (all_lt h6 (show i < 2 ^ N by omega)), sbg (f_all h6), r1, sbg (f_isFace (by omega))]
    simp only [f_X9_dual_48]
    rw [nI_1]
    have e := mk_s (du N F) i
    have el : du N F i = !(tb F (2 ^ N - 1 - i)) := rfl
    cases hc2 : tb F (2 ^ N - 1 - i) with
    | true =>
      rw [el, hc2, if_neg (by decide)] at e
      rw [if_neg (by decide), i64_or0, ← e]
      exact ih (i + 1) m (by omega) (by omega)
    | false =>
      rw [el, hc2, if_pos (by decide)] at e
      rw [if_pos (by decide), show ((1 : Int64) <<< ((nI i).toInt64 &&& 63)) = b1 i from rfl, ← e]
      exact ih (i + 1) m (by omega) (by omega)
theorem mv_dual {hp pH : Nat → Int32} {hf fH : Nat → Int64} {hc kp xp mp : Int32} {xf mf : Int64} (h : MVI hp hf hc xp xf mp mf kp pH fH) : MVR (f_X8_dual hp hf hc xp xf) (f_X9_dual mp mf kp pH fH) := by
  have hI := h
  obtain ⟨hK, N, rfl, rfl, rfl, hX⟩ := h
  have h6 := hX.2.1
  have h64 := pow_le64 h6
  unfold f_X8_dual f_X8_dual_0 f_X9_dual f_X9_dual_0
  rw [sbg (f_all8 h6), sbg (f_all h6), sbg (f_holds (by omega)), sbg (f_isFace (by omega))]
  cases hF : tb mf (2 ^ N - 1) with
  | true =>
    rw [if_neg (by decide), if_neg (by decide)]
    exact ⟨_, _, rfl, rfl, rfl, hI⟩
  | false =>
    rw [if_pos (by decide), if_pos (by decide)]
    obtain ⟨hp', hf', hc', kp', pH', fH', c1, c2, c3⟩ := f_change hX hK (CX_dual hX hF)
    have k1 := dual_loop8 (hp := hp) (hf := hf) (hc := hc) hX (2 ^ N) 0 FU (by omega) (Nat.lt_of_le_of_lt h64 (by decide))
    have k2 := dual_loop9 (pH := pH) (fH := fH) (kp := kp) hX (2 ^ N) 0 FU (by omega) (Nat.lt_of_le_of_lt h64 (by decide))
    rw [sbg c1] at k1
    rw [sbg c2] at k2
    exact ⟨_, _, k1, k2, rfl, c3⟩
theorem mv_undo {hp pH : Nat → Int32} {hf fH : Nat → Int64} {hc kp xp mp : Int32} {xf mf : Int64} (h : MVI hp hf hc xp xf mp mf kp pH fH) : ∃ R1 R2, f_X8_undo hp hf hc xp xf = some R1 ∧ f_X9_undo pH fH mp mf kp = some R2 ∧ R1.1 = R2.1 ∧ MVI hp hf R1.2.1 R1.2.2.1 R1.2.2.2 R2.2.1 R2.2.2.1 R2.2.2.2 pH fH := by
  have hI := h
  obtain ⟨⟨k, k8, rfl, rfl, hE⟩, N, rfl, rfl, rfl, hX⟩ := h
  unfold f_X8_undo f_X8_undo_0 f_X9_undo f_X9_undo_0 f_X1_drop f_X1_drop_0
  by_cases c : k = 0
  · subst c
    rw [if_neg (show ¬ 0 < nI 0 by decide), if_pos (show nI 0 = 0 from rfl), sbg rfl, if_pos rfl]
    exact ⟨_, _, rfl, rfl, rfl, hI⟩
  · obtain ⟨k, rfl⟩ : ∃ k', k = k' + 1 := ⟨k - 1, by omega⟩
    rw [if_pos (show 0 < nI (k + 1) from nI_lt (a := 0) (by omega) (by omega)), if_neg (nI_ne0 (show 0 < k + 1 by omega) (by omega)), sbg rfl, nI_pred]
    simp only
    rw [if_neg (show ¬ (1 : Int32) = 0 by decide)]
    unfold f_X1_droppedPoints f_X1_droppedPoints_0 f_X1_droppedFamily f_X1_droppedFamily_0
    rw [if_neg (show ¬ (8 : Int32) ≤ nI k from nI_ge (b := 8) (by omega) (by decide)), if_neg (show ¬ (8 : Int32) ≤ nI k from nI_ge (b := 8) (by omega) (by decide)), ix_nI (show k < 8 by omega) (by decide), cl_nI (show k < 2 ^ 31 by omega)]
    simp only [gd, bnd, Option.bind_some]
    obtain ⟨a1, a2, n, a3, a4⟩ := hE k (by omega)
    refine ⟨_, _, rfl, rfl, rfl, ⟨k, by omega, rfl, rfl, fun i hi => hE i (by omega)⟩, n, a3, ?_, ?_, a4⟩
    · simp only; rw [← a1]; exact a3
    · simp only; rw [← a2]
