/-! orders of the points: the list of all of them, and the reference's step from one to the next -/
def dfs (N : Nat) : Nat → List Nat → List (List Nat)
  | 0, pre => [pre]
  | d + 1, pre => (List.range N).flatMap (fun q => if pre.contains q then [] else dfs N d (pre ++ [q]))
def prm (N : Nat) : List (List Nat) := dfs N N []
def cn (l : List Nat) (i : Nat) : Int32 := nI (l.getD i 0)
def AG (N : Nat) (v w : Nat → Int32) : Prop := ∀ i, i < N → v i = w i
theorem ag_upd {N : Nat} {v w : Nat → Int32} (h : AG N v w) (k : Nat) (x : Int32) : AG N (upd v k x) (upd w k x) := by
  intro i hi
  by_cases e : i = k
  · subst e; rw [up_s, up_s]
  · rw [up_n e, up_n e]; exact h i hi
theorem km_nn (a : Nat) : nI (a + 1) + (-1) = nI a := by
  have := nI_pred a
  rw [← this, Int32.sub_eq_add_neg]
theorem six6 {a : Nat} (h : a < 6) : ix (nI a) 6 = true := ix_nI h (by decide)
theorem ag_107 {N : Nat} (hN : N ≤ 6) : ∀ d a b m (v w : Nat → Int32), b ≤ a + d → a ≤ N → b < N → d < m → AG N v w → ∃ v' w', f_X9_nextOrder_107 (nI N) m (nI a) (nI b) v = some (1, v') ∧ f_X9_nextOrder_107 (nI N) m (nI a) (nI b) w = some (1, w') ∧ AG N v' w' := by
  intro d
  induction d with
  | zero =>
    intro a b m v w h1 h0 h2 h3 h
    obtain ⟨m, rfl⟩ : ∃ m', m = m' + 1 := ⟨m - 1, by omega⟩
    exact ⟨v, w, by rw [f_X9_nextOrder_107, if_pos (nI_le (show b ≤ a by omega) (by omega))], by rw [f_X9_nextOrder_107, if_pos (nI_le (show b ≤ a by omega) (by omega))], h⟩
  | succ d ih =>
    intro a b m v w h1 h0 h2 h3 h
    obtain ⟨m, rfl⟩ : ∃ m', m = m' + 1 := ⟨m - 1, by omega⟩
    by_cases hb : b ≤ a
    · exact ⟨v, w, by rw [f_X9_nextOrder_107, if_pos (nI_le hb (by omega))], by rw [f_X9_nextOrder_107, if_pos (nI_le hb (by omega))], h⟩
    obtain ⟨b, rfl⟩ : ∃ b', b = b' + 1 := ⟨b - 1, by omega⟩
    rw [f_X9_nextOrder_107, f_X9_nextOrder_107, if_neg (nI_ge (show a < b + 1 by omega) (by omega)), six6 (show a < 6 by omega), six6 (show b + 1 < 6 by omega), if_neg (nI_ge (show a < b + 1 by omega) (by omega)), km_nn, nI_1, cl_nI (show a < 2 ^ 31 by omega), cl_nI (show b + 1 < 2 ^ 31 by omega)]
    simp only [gd]
    rw [h a (by omega), h (b + 1) (by omega)]
    exact ih (a + 1) b m _ _ (by omega) (by omega) (by omega) (by omega) (ag_upd (ag_upd h _ _) _ _)
theorem ag_47 {N a : Nat} (hN : N ≤ 6) {v w : Nat → Int32} (h : AG N v w) (ha : v a ≤ v (a + 1)) : ∀ d b m, b = a + 1 + d → b < N → d < m → ∃ v' w', f_X9_nextOrder_47 (nI N) m (nI a) (nI b) v = some (1, v') ∧ f_X9_nextOrder_47 (nI N) m (nI a) (nI b) w = some (1, w') ∧ AG N v' w' := by
  intro d
  induction d with
  | zero =>
    intro b m h1 h2 h3
    obtain ⟨m, rfl⟩ : ∃ m', m = m' + 1 := ⟨m - 1, by omega⟩
    have e : b = a + 1 := by omega
    subst e
    obtain ⟨N, rfl⟩ : ∃ N', N = N' + 1 := ⟨N - 1, by omega⟩
    rw [f_X9_nextOrder_47, f_X9_nextOrder_47, six6 (show a < 6 by omega), six6 (show a + 1 < 6 by omega), nI_1, nI_pred, cl_nI (show a < 2 ^ 31 by omega), cl_nI (show a + 1 < 2 ^ 31 by omega)]
    simp only [gd]
    rw [← h a (by omega), ← h (a + 1) (by omega), if_pos ha, if_pos ha]
    exact ag_107 hN N (a + 1) N FU _ _ (by omega) (by omega) (by omega) (Nat.lt_of_lt_of_le (show N < 7 by omega) (by decide)) (ag_upd (ag_upd h _ _) _ _)
  | succ d ih =>
    intro b m h1 h2 h3
    obtain ⟨m, rfl⟩ : ∃ m', m = m' + 1 := ⟨m - 1, by omega⟩
    obtain ⟨b, rfl⟩ : ∃ b', b = b' + 1 := ⟨b - 1, by omega⟩
    obtain ⟨N, rfl⟩ : ∃ N', N = N' + 1 := ⟨N - 1, by omega⟩
    rw [f_X9_nextOrder_47, f_X9_nextOrder_47, six6 (show a < 6 by omega), six6 (show b + 1 < 6 by omega), nI_1, nI_pred, cl_nI (show a < 2 ^ 31 by omega), cl_nI (show b + 1 < 2 ^ 31 by omega), km_nn]
    simp only [gd]
    rw [← h a (by omega), ← h (b + 1) (by omega)]
    by_cases hc : v a ≤ v (b + 1)
    · rw [if_pos hc, if_pos hc]
      exact ag_107 hN N (a + 1) N FU _ _ (by omega) (by omega) (by omega) (Nat.lt_of_lt_of_le (show N < 7 by omega) (by decide)) (ag_upd (ag_upd h _ _) _ _)
    · rw [if_neg hc, if_neg hc]
      exact ih b m (by omega) (by omega) (by omega)
theorem ag_7 {N : Nat} (hN : N ≤ 6) {v w : Nat → Int32} (h : AG N v w) : ∀ d m, d + 1 ≤ N → d < m → ∃ r v' w', f_X9_nextOrder_7 (nI N) m (km d) v = some (r, v') ∧ f_X9_nextOrder_7 (nI N) m (km d) w = some (r, w') ∧ AG N v' w' := by
  intro d
  induction d with
  | zero =>
    intro m h2 h3
    obtain ⟨m, rfl⟩ : ∃ m', m = m' + 1 := ⟨m - 1, by omega⟩
    refine ⟨0, v, w, ?_, ?_, h⟩ <;> rw [f_X9_nextOrder_7, if_pos (by decide), f_X9_nextOrder_34, if_neg (by decide)]
  | succ d ih =>
    intro m h2 h3
    obtain ⟨m, rfl⟩ : ∃ m', m = m' + 1 := ⟨m - 1, by omega⟩
    obtain ⟨N, rfl⟩ : ∃ N', N = N' + 1 := ⟨N - 1, by omega⟩
    have e : km (d + 1) = nI d := km_nn d
    rw [e, f_X9_nextOrder_7, f_X9_nextOrder_7, if_neg (nI_pos (show d < 2 ^ 31 by omega)), if_neg (nI_pos (show d < 2 ^ 31 by omega)), nI_1, six6 (show d < 6 by omega), six6 (show d + 1 < 6 by omega), cl_nI (show d < 2 ^ 31 by omega), cl_nI (show d + 1 < 2 ^ 31 by omega)]
    simp only [gd]
    rw [← h d (by omega), ← h (d + 1) (by omega)]
    by_cases hc : v d ≤ v (d + 1)
    · rw [if_pos hc, if_pos hc, f_X9_nextOrder_34, f_X9_nextOrder_34, if_pos (nI_pos' (show d < 2 ^ 31 by omega)), if_pos (nI_pos' (show d < 2 ^ 31 by omega)), nI_pred]
      obtain ⟨v', w', h4, h5, h6⟩ := ag_47 hN h hc (N - (d + 1)) N FU (by omega) (by omega) (Nat.lt_of_lt_of_le (show N - (d + 1) < 7 by omega) (by decide))
      exact ⟨1, v', w', h4, h5, h6⟩
    · rw [if_neg hc, if_neg hc]
      exact ih m (by omega) (by omega)
theorem ag_next {N : Nat} (h1 : 1 ≤ N) (hN : N ≤ 6) {v w : Nat → Int32} (h : AG N v w) : ∃ r v' w', f_X9_nextOrder (nI N) v = some (r, v') ∧ f_X9_nextOrder (nI N) w = some (r, w') ∧ AG N v' w' := by
  obtain ⟨N, rfl⟩ : ∃ N', N = N' + 1 := ⟨N - 1, by omega⟩
  unfold f_X9_nextOrder f_X9_nextOrder_0
  have e : nI (N + 1) - (2 : Int32) = km N := by
    unfold km
    rw [Int32.sub_eq_iff_eq_add, Int32.add_assoc]
    exact (nI_1 N).symm
  rw [e]
  exact ag_7 hN h N FU (by omega) (Nat.lt_of_lt_of_le (show N < 7 by omega) (by decide))
def nxOK (N : Nat) : List (List Nat) → Bool
  | [] => false
  | [l] => match f_X9_nextOrder (nI N) (cn l) with
    | some R => R.1 == 0
    | none => false
  | l :: l' :: t => (match f_X9_nextOrder (nI N) (cn l) with
    | some R => R.1 == 1 && (List.range N).all (fun i => R.2 i == cn l' i)
    | none => false) && nxOK N (l' :: t)
theorem nx_ok1 : ∀ N : Fin 6, nxOK (N.val + 1) (prm (N.val + 1)) = true := by decide +kernel
theorem prm_len : ∀ N : Fin 6, (prm (N.val + 1)).length ≤ 720 := by decide +kernel
theorem prm_head : ∀ N : Fin 6, (prm (N.val + 1)).head? = some (List.range (N.val + 1)) := by decide +kernel
