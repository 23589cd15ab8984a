/-! ===== pure part: closed marks of the class ===== -/
noncomputable def cls (F : Int64) (p n : Nat) : List Int64 × List Int64 := cst (fp F p n) (um F p n) (mk (fp F p (n + 1)) 64) 64
theorem tb_fp {F : Int64} {p n i : Nat} (hi : i < 64) : tb (mk (fp F p n) 64) i = fp F p n i := by
  rw [tb_mk (Nat.le_refl _) hi]
  simp [hi]
theorem f_above {s : Nat} (h : s < 64) : f_X6_above (nI s) = some (abv s) := t_above ⟨s, h⟩
theorem fill_loop {F : Int64} {p n : Nat} : ∀ k i m (ro le : Nat → Int64) (re : Int64) (c : Nat) (row : Nat → Int64) (out : List Int64), i + k = 64 → k < m → CB ro le c (mk (fp F p (n + 1)) 64) (cst (fp F p n) (um F p n) (mk (fp F p (n + 1)) 64) i).1 → out = (cst (fp F p n) (um F p n) (mk (fp F p (n + 1)) 64) i).2 → RI row out → out.length ≤ i →
    ∃ (ro' le' : Nat → Int64) (re' : Int64) (c' : Int32) (row' : Nat → Int64), f_X3_fillClosed_37 m (mk (fp F p n) 64) (mk (fp F p (n + 1)) 64) (nI out.length) (nI i) ro le (mk (fp F p (n + 1)) 64) re (nI c) row = some (nI (cls F p n).2.length, ro', le', mk (fp F p (n + 1)) 64, re', c', row') ∧ RI row' (cls F p n).2 := by
  intro k
  induction k with
  | zero =>
    intro i m ro le re c row out h1 h2 hC ho hR hlen
    obtain ⟨m, rfl⟩ : ∃ m', m = m' + 1 := ⟨m - 1, by omega⟩
    have e : i = 64 := by omega
    subst e
    have e2 : out = (cls F p n).2 := ho
    refine ⟨ro, le, re, nI c, row, ?_, by rw [← e2]; exact hR⟩
    rw [f_X3_fillClosed_37, if_pos (show (64 : Int32) ≤ nI 64 by decide), e2]
  | succ k ih =>
    intro i m ro le re c row out h1 h2 hC ho hR hlen
    obtain ⟨m, rfl⟩ : ∃ m', m = m' + 1 := ⟨m - 1, by omega⟩
    have hi : i < 64 := by omega
    rw [f_X3_fillClosed_37, if_neg (show ¬ (64 : Int32) ≤ nI i from nI_ge (b := 64) hi (by decide)), sbg (f_above hi)]
    simp only [bnd]
    rw [sbg (f_holds hi), tb_fp hi, nI_1]
    rw [show ((1 : Int64) <<< ((nI i).toInt64 &&& 63)) = b1 i from rfl, or_xor hi]
    cases hP : fp F p n i with
    | false =>
      rw [if_pos (show tf false = 0 from rfl)]
      exact ih (i + 1) m ro le re c row out (by omega) (by omega) (by rw [cst_skip hP]; exact hC) (by rw [cst_skip hP]; exact ho) hR (by omega)
    | true =>
      rw [if_neg (show ¬ tf true = 0 by decide)]
      obtain ⟨rest', hs, hu, h | h⟩ := f_addU hC (um F p n i) re
      · have hd : dep (mk (fp F p (n + 1)) 64) (cst (fp F p n) (um F p n) (mk (fp F p (n + 1)) 64) i).1 (um F p n i) := ⟨rest' ^^^ um F p n i, hs, by rw [x_comm rest', x_can']; exact h.1⟩
        have e1 : rest' = clo1 (mk (fp F p (n + 1)) 64) (cst (fp F p n) (um F p n) (mk (fp F p (n + 1)) 64) i).1 (um F p n i) := by
          have hc := clo1_s hd
          have := hu _ hc.1 (by rw [x_comm (clo1 _ _ _), x_can']; exact hc.2)
          rw [x_comm (clo1 _ _ _), x_can'] at this
          exact this
        rw [sbg h.2, if_pos rfl, if_neg (show ¬ (64 : Int32) ≤ nI out.length from nI_ge (b := 64) (by omega) (by decide))]
        rw [show f_X0_remainder rest' = some rest' from rfl, ix_nI (show out.length < 64 by omega) (by decide), cl_nI (show out.length < 2 ^ 31 by omega), nI_1]
        have := ih (i + 1) m ro le rest' c (vp_updL row out.length rest') (rest' :: out) (by omega) (by omega) (by rw [cst_dep hP hd]; exact hC) (by rw [cst_dep hP hd, ← e1, ← ho]) (RI_push rest' hR) (by simp only [List.length_cons]; omega)
        exact this
      · obtain ⟨h0, ro', le', he, hC2⟩ := h
        have hd : ¬ dep (mk (fp F p (n + 1)) 64) (cst (fp F p n) (um F p n) (mk (fp F p (n + 1)) 64) i).1 (um F p n i) := by
          rintro ⟨d, hd1, hd2⟩
          have := hu d hd1 hd2
          rw [this] at h0
          exact h0 hd2
        rw [sbg he, if_neg (show ¬ ((1 : Int32) = 0) by decide)]
        exact ih (i + 1) m ro' le' rest' (c + 1) row out (by omega) (by omega) (by rw [cst_new hP hd]; exact hC2) (by rw [cst_new hP hd]; exact ho) hR (by omega)
theorem nI_2 (a : Nat) : nI a + 2 = nI (a + 2) := nI_add a 2
theorem f_fill {F inP : Int64} {p a : Nat} (hIn : ∀ s, s < 64 → tb inP s = (tb F s && sub s p)) (ha : a ≤ 5) (ro le : Nat → Int64) (ld re : Int64) (c : Int32) (row : Nat → Int64) :
    ∃ (ro' le' : Nat → Int64) (ld' re' : Int64) (c' : Int32) (row' : Nat → Int64), f_X3_fillClosed inP (nI a) ro le ld re c row = some (nI (cls F p (a + 1)).2.length, ro', le', ld', re', c', row') ∧ RI row' (cls F p (a + 1)).2 := by
  unfold f_X3_fillClosed f_X3_fillClosed_0
  rw [nI_1, nI_2, sbg (show f_X6_ofSize (nI (a + 1)) = some (ofs (a + 1)) from t_ofSize ⟨a + 1, by omega⟩), sbg (show f_X6_ofSize (nI (a + 2)) = some (ofs (a + 2)) from t_ofSize ⟨a + 2, by omega⟩), inP_mask hIn, inP_mask hIn]
  rw [sbg (show f_X0_clear (mk (fp F p (a + 2)) 64) ld re c = some (mk (fp F p (a + 2)) 64, 0, 0) from rfl)]
  obtain ⟨ro', le', re', c', row', h, hR⟩ := fill_loop (F := F) (p := p) (n := a + 1) 64 0 FU ro le 0 0 row [] rfl (by decide) (CB.nil ro le _) rfl trivial (Nat.le_refl _)
  exact ⟨ro', le', _, re', c', row', h, hR⟩
