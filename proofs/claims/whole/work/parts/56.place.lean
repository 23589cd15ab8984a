/-! the class's search for turns -/
def pf (F : Int64) (l : List Nat) (k : Nat) : Bool := alb (fun s => tb F s == tb F (im l k s)) 0 (2 ^ k)
theorem pf_t {F : Int64} {l : List Nat} {k : Nat} : pf F l k = true ↔ ∀ s, s < 2 ^ k → tb F s = tb F (im l k s) := by
  unfold pf
  rw [alb_t]
  exact ⟨fun h s hs => eq_of_beq (h s (by omega) (by omega)), fun h s _ hs => by rw [h s (by omega)]; exact beq_self_eq_true _⟩
theorem gd_app (pre suf : List Nat) {i : Nat} (h : i < pre.length) : (pre ++ suf).getD i 0 = pre.getD i 0 := by
  rw [List.getD_eq_getElem?_getD, List.getD_eq_getElem?_getD, List.getElem?_append_left h]
theorem gd_snoc {pre : List Nat} {k q : Nat} (h : pre.length = k) : (pre ++ [q]).getD k 0 = q := by
  rw [List.getD_eq_getElem?_getD, List.getElem?_append_right (by omega), h, Nat.sub_self]
  rfl
theorem im_app (pre suf : List Nat) (s : Nat) : ∀ {i : Nat}, i ≤ pre.length → im (pre ++ suf) i s = im pre i s := by
  intro i
  induction i with
  | zero => intro _; rfl
  | succ i ih =>
    intro h
    show im (pre ++ suf) i s ||| _ = im pre i s ||| _
    rw [ih (by omega)]
    rw [gd_app _ _ (by omega)]
theorem im_hi (l : List Nat) {s k : Nat} : ∀ {i : Nat}, i ≤ k → im l i (2 ^ k + s) = im l i s := by
  intro i
  induction i with
  | zero => intro _; rfl
  | succ i ih =>
    intro h
    show im l i (2 ^ k + s) ||| _ = im l i s ||| _
    rw [ih (by omega), Nat.testBit_two_pow_add_gt (by omega)]
theorem im_lo (l : List Nat) {s k : Nat} (h : s < 2 ^ k) : im l (k + 1) s = im l k s := by
  show im l k s ||| (if s.testBit k = true then _ else 0) = _
  rw [Nat.testBit_lt_two_pow h, if_neg (by decide), Nat.or_zero]
theorem im_up (l : List Nat) {s k : Nat} (h : s < 2 ^ k) : im l (k + 1) (2 ^ k + s) = im l k s ||| 2 ^ (l.getD k 0) := by
  show im l k (2 ^ k + s) ||| (if (2 ^ k + s).testBit k = true then _ else 0) = _
  rw [im_hi l (Nat.le_refl k), Nat.testBit_two_pow_add_eq, Nat.testBit_lt_two_pow h, if_pos (by decide)]
theorem im_one (l : List Nat) (p : Nat) : ∀ k, im l k (2 ^ p) = if p < k then 2 ^ (l.getD p 0) else 0 := by
  intro k
  induction k with
  | zero => rfl
  | succ k ih =>
    show im l k (2 ^ p) ||| _ = _
    rw [ih, Nat.testBit_two_pow]
    by_cases e : p = k
    · subst e
      rw [if_neg (by omega), if_pos (by simp), if_pos (by omega), Nat.zero_or]
    · by_cases h : p < k
      · rw [if_pos h, if_neg (by simp [e]), if_pos (by omega), Nat.or_zero]
      · rw [if_neg h, if_neg (by simp [e]), if_neg (by omega)]; rfl
theorem im_snoc_lo {pre : List Nat} {k q s : Nat} (hk : pre.length = k) (h : s < 2 ^ k) : im (pre ++ [q]) (k + 1) s = im pre k s := by
  rw [im_lo _ h, im_app _ _ _ (by omega)]
theorem im_snoc_up {pre : List Nat} {k q s : Nat} (hk : pre.length = k) (h : s < 2 ^ k) : im (pre ++ [q]) (k + 1) (2 ^ k + s) = im pre k s ||| 2 ^ q := by
  rw [im_up _ h, im_app _ _ _ (by omega)]
  congr 2
  exact gd_snoc hk
def stp (F : Int64) (pre : List Nat) (k q s : Nat) : Bool := tb F (2 ^ k + s) == tb F (im pre k s ||| 2 ^ q)
theorem pf_snoc {F : Int64} {pre : List Nat} {k q : Nat} (hk : pre.length = k) (h : pf F pre k = true) : pf F (pre ++ [q]) (k + 1) = alb (stp F pre k q) 0 (2 ^ k) := by
  rw [Bool.eq_iff_iff, pf_t, alb_t]
  rw [pf_t] at h
  constructor
  · intro g s _ hs
    have := g (2 ^ k + s) (by rw [Nat.pow_succ]; omega)
    rw [im_snoc_up hk (by omega)] at this
    unfold stp
    rw [this]; exact beq_self_eq_true _
  · intro g s hs
    rw [Nat.pow_succ] at hs
    by_cases hl : s < 2 ^ k
    · rw [im_snoc_lo hk hl]; exact h s hl
    · have e : s = 2 ^ k + (s - 2 ^ k) := by omega
      rw [e, im_snoc_up hk (by omega)]
      exact eq_of_beq (g (s - 2 ^ k) (by omega) (by omega))
theorem pf_pre {F : Int64} {pre suf : List Nat} {k n : Nat} (hk : pre.length = k) (hkn : k ≤ n) (h : pf F (pre ++ suf) n = true) : pf F pre k = true := by
  rw [pf_t] at h ⊢
  have hlo : ∀ d s, s < 2 ^ k → im (pre ++ suf) (k + d) s = im pre k s := by
    intro d
    induction d with
    | zero => intro s hs; exact im_app _ _ _ (by omega)
    | succ d ih =>
      intro s hs
      have := Nat.pow_le_pow_right (show 0 < 2 by decide) (show k ≤ k + d by omega)
      rw [show k + (d + 1) = (k + d) + 1 by omega, im_lo _ (by omega)]
      exact ih s hs
  intro s hs
  have := Nat.pow_le_pow_right (show 0 < 2 by decide) hkn
  have g := h s (by omega)
  rw [show n = k + (n - k) by omega, hlo _ s hs] at g
  exact g
theorem dfs_pre {N : Nat} : ∀ {d : Nat} {pre l : List Nat}, l ∈ dfs N d pre → ∃ suf, l = pre ++ suf ∧ suf.length = d := by
  intro d
  induction d with
  | zero =>
    intro pre l h
    rw [dfs, List.mem_singleton] at h
    exact ⟨[], by rw [h, List.append_nil], rfl⟩
  | succ d ih =>
    intro pre l h
    rw [dfs, List.mem_flatMap] at h
    obtain ⟨q, _, hq⟩ := h
    by_cases c : pre.contains q = true
    · rw [if_pos c] at hq; exact absurd hq (by simp)
    · rw [if_neg c] at hq
      obtain ⟨suf, e, hl⟩ := ih hq
      exact ⟨q :: suf, by rw [e, List.append_assoc]; rfl, by simp [hl]⟩
theorem tf_inj {a b : Bool} : tf a = tf b ↔ a = b := by cases a <;> cases b <;> decide
theorem pow5 {k : Nat} (h : k < 6) : 2 ^ k ≤ 32 := by
  have := Nat.pow_le_pow_right (show 0 < 2 by decide) (show k ≤ 5 by omega)
  exact this
theorem f_fits {F : Int64} {pre : List Nat} {k q : Nat} (hk : k < 6) (hq : q < 6) (hpre : ∀ i, i < k → pre.getD i 0 < 6) (v : Nat → Int32) (hv : ∀ s, s < 2 ^ k → v s = nI (im pre k s)) :
    ∃ v', f_X7_fits F (nI k) (nI q) v = some (tf (alb (stp F pre k q) 0 (2 ^ k)), v') ∧ (∀ s, s < 2 ^ k → v' s = nI (im pre k s)) ∧ (alb (stp F pre k q) 0 (2 ^ k) = true → ∀ s, s < 2 ^ k → v' (2 ^ k + s) = nI (im pre k s ||| 2 ^ q)) := by
  have h32 := pow5 hk
  have hq64 : 2 ^ q < 64 := by have := pow5 hq; omega
  have key : ∀ d j m (v : Nat → Int32), j + d = 2 ^ k → d < m → (∀ s, s < 2 ^ k → v s = nI (im pre k s)) → (∀ s, s < j → v (2 ^ k + s) = nI (im pre k s ||| 2 ^ q)) →
      ∃ v', f_X7_fits_7 F m (nI q) (nI (2 ^ k)) (nI j) v = some (tf (alb (stp F pre k q) j d), v') ∧ (∀ s, s < 2 ^ k → v' s = nI (im pre k s)) ∧ (alb (stp F pre k q) j d = true → ∀ s, s < 2 ^ k → v' (2 ^ k + s) = nI (im pre k s ||| 2 ^ q)) := by
    intro d
    induction d with
    | zero =>
      intro j m v h1 h2 hv hw
      obtain ⟨m, rfl⟩ : ∃ m', m = m' + 1 := ⟨m - 1, by omega⟩
      have e : j = 2 ^ k := by omega
      subst e
      exact ⟨v, by rw [f_X7_fits_7, if_pos (nI_le (Nat.le_refl _) (by omega))]; rfl, hv, fun _ => hw⟩
    | succ d ih =>
      intro j m v h1 h2 hv hw
      obtain ⟨m, rfl⟩ : ∃ m', m = m' + 1 := ⟨m - 1, by omega⟩
      have hj : j < 2 ^ k := by omega
      have hi := im_lt (s := j) hpre
      rw [f_X7_fits_7, if_neg (nI_ge hj (by omega)), nI_add, if_neg (show ¬ (64 : Int32) ≤ nI (j + 2 ^ k) from nI_ge (b := 64) (by omega) (by decide)), ix_nI (show j < 64 by omega) (by decide), cl_nI (show j < 2 ^ 31 by omega), f_pow (show q ≤ 6 by omega), hv j hj, nI_or hi hq64, nI_1, ix_nI (show j + 2 ^ k < 64 by omega) (by decide), cl_nI (show j + 2 ^ k < 2 ^ 31 by omega)]
      simp only [gd, bnd]
      rw [sbg (f_holds (show j + 2 ^ k < 64 by omega)), sbg (f_holds (or_lt64 hi hq64)), Nat.add_comm j (2 ^ k)]
      by_cases c : tb F (2 ^ k + j) = tb F (im pre k j ||| 2 ^ q)
      · have e : stp F pre k q j = true := by unfold stp; rw [c]; exact beq_self_eq_true _
        have e2 : alb (stp F pre k q) j (d + 1) = alb (stp F pre k q) (j + 1) d := by
          show (stp F pre k q j && _) = _
          rw [e, Bool.true_and]
        rw [if_pos (by rw [c]), e2]
        refine ih (j + 1) m _ (by omega) (by omega) (fun s hs => by rw [up_n (by omega)]; exact hv s hs) (fun s hs => ?_)
        by_cases e3 : s = j
        · subst e3; rw [up_s]
        · rw [up_n (by omega)]; exact hw s (by omega)
      · have e : stp F pre k q j = false := by
          unfold stp
          exact beq_false_of_ne c
        have e2 : alb (stp F pre k q) j (d + 1) = false := by
          show (stp F pre k q j && _) = _
          rw [e, Bool.false_and]
        rw [if_neg (fun h => c (tf_inj.mp h)), e2]
        exact ⟨v, rfl, hv, fun h => absurd h (by decide)⟩
  unfold f_X7_fits f_X7_fits_0
  rw [f_pow (show k ≤ 6 by omega)]
  exact key (2 ^ k) 0 FU v (by omega) (Nat.lt_of_le_of_lt h32 (by decide)) hv (fun s hs => by omega)
