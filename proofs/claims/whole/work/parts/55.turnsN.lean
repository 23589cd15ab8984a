/-! the reference's count of turns -/
def ctl (P : List Nat → Bool) : List (List Nat) → Nat
  | [] => 0
  | l :: t => (P l).toNat + ctl P t
theorem nx_next {N : Nat} (h1 : 1 ≤ N) (hN : N ≤ 6) {l l' : List Nat} {t : List (List Nat)} (h : nxOK N (l :: l' :: t) = true) {v : Nat → Int32} (hv : AG N v (cn l)) : ∃ v', f_X9_nextOrder (nI N) v = some (1, v') ∧ AG N v' (cn l') ∧ nxOK N (l' :: t) = true := by
  obtain ⟨r, v', w', e1, e2, e3⟩ := ag_next h1 hN hv
  rw [nxOK, Bool.and_eq_true, e2] at h
  obtain ⟨h, h'⟩ := h
  rw [Bool.and_eq_true, List.all_eq_true] at h
  have hr : r = 1 := eq_of_beq h.1
  refine ⟨v', by rw [e1, hr], fun i hi => ?_, h'⟩
  rw [e3 i hi]
  exact eq_of_beq (h.2 i (List.mem_range.mpr hi))
theorem nx_last {N : Nat} (h1 : 1 ≤ N) (hN : N ≤ 6) {l : List Nat} (h : nxOK N [l] = true) {v : Nat → Int32} (hv : AG N v (cn l)) : ∃ v', f_X9_nextOrder (nI N) v = some (0, v') := by
  obtain ⟨r, v', w', e1, e2, e3⟩ := ag_next h1 hN hv
  rw [nxOK, e2] at h
  have hr : r = 0 := eq_of_beq h
  exact ⟨v', by rw [e1, hr]⟩
theorem turns_loop {N : Nat} (h1 : 1 ≤ N) (hN : N ≤ 6) (F : Int64) {a b : Int32} {sel : List Nat → Bool} (hs : ∀ m c (v : Nat → Int32) l, okl N l = true → AG N v (cn l) → f_X9_turns_28 (nI N) F (m + 1) a b c 1 v = if sel l = true then f_X9_turns_49 (nI N) F (f_X9_turns_28 (nI N) F m) a b c v else f_X9_turns_60 (nI N) F (f_X9_turns_28 (nI N) F m) a b c v) :
    ∀ (t : List (List Nat)) (l : List Nat) (m c : Nat) (v : Nat → Int32), nxOK N (l :: t) = true → (∀ x ∈ l :: t, okl N x = true) → AG N v (cn l) → t.length + 1 < m → ∃ v', f_X9_turns_28 (nI N) F m a b (nI c) 1 v = some (nI (c + ctl (fun x => sel x && kp9 F N x) (l :: t)), v') := by
  intro t
  induction t with
  | nil =>
    intro l m c v hx ho hv hm
    obtain ⟨m, rfl⟩ : ∃ m', m = m' + 1 := ⟨m - 1, by omega⟩
    obtain ⟨m, rfl⟩ : ∃ m', m = m' + 1 := ⟨m - 1, by simp at hm; omega⟩
    obtain ⟨v', e⟩ := nx_last h1 hN hx hv
    refine ⟨v', ?_⟩
    have fin : ∀ y : Nat, f_X9_turns_61 (nI N) F (f_X9_turns_28 (nI N) F (m + 1)) a b (nI y) (nI c) v = some (nI (c + y), v') := by
      intro y
      rw [f_X9_turns_61, sbg e, nI_add, f_X9_turns_28, if_pos rfl]
    rw [hs _ _ _ l (ho l List.mem_cons_self) hv, f_X9_turns_49, sbg (f_keeps h1 hN (ho l List.mem_cons_self) hv F), f_X9_turns_60]
    simp only [ctl]
    cases sel l with
    | false => exact fin 0
    | true =>
      cases kp9 F N l with
      | false => exact fin 0
      | true => exact fin 1
  | cons l' t ih =>
    intro l m c v hx ho hv hm
    obtain ⟨m, rfl⟩ : ∃ m', m = m' + 1 := ⟨m - 1, by omega⟩
    obtain ⟨v1, e, hv1, hx1⟩ := nx_next h1 hN hx hv
    have fin : ∀ y : Nat, f_X9_turns_61 (nI N) F (f_X9_turns_28 (nI N) F m) a b (nI y) (nI c) v = f_X9_turns_28 (nI N) F m a b (nI (c + y)) 1 v1 := by
      intro y
      rw [f_X9_turns_61, sbg e, nI_add]
    have hm' : t.length + 1 < m := by simp only [List.length_cons] at hm; omega
    rw [hs _ _ _ l (ho l List.mem_cons_self) hv, f_X9_turns_49, sbg (f_keeps h1 hN (ho l List.mem_cons_self) hv F), f_X9_turns_60]
    have go : ∀ y : Nat, y = (sel l && kp9 F N l).toNat → ∃ v', f_X9_turns_61 (nI N) F (f_X9_turns_28 (nI N) F m) a b (nI y) (nI c) v = some (nI (c + ctl (fun x => sel x && kp9 F N x) (l :: l' :: t)), v') := by
      intro y hy
      rw [fin y]
      obtain ⟨v', e'⟩ := ih l' m (c + y) v1 hx1 (fun x hx => ho x (List.mem_cons_of_mem _ hx)) hv1 hm'
      refine ⟨v', ?_⟩
      rw [e', hy, Nat.add_assoc]
      rfl
    cases hsl : sel l with
    | false => exact go 0 (by rw [hsl]; rfl)
    | true =>
      cases hk : kp9 F N l with
      | false => exact go 0 (by rw [hsl, hk]; rfl)
      | true => exact go 1 (by rw [hsl, hk]; rfl)
theorem prm_cons {N : Nat} (h1 : 1 ≤ N) (hN : N ≤ 6) : ∃ t, prm N = List.range N :: t ∧ nxOK N (List.range N :: t) = true ∧ t.length + 1 ≤ 720 ∧ ∀ x ∈ List.range N :: t, okl N x = true := by
  have e : N - 1 + 1 = N := by omega
  have a := prm_head ⟨N - 1, by omega⟩
  have b := prm_len ⟨N - 1, by omega⟩
  have c := nx_ok1 ⟨N - 1, by omega⟩
  have d : ∀ x ∈ prm N, okl N x = true := fun x hx => prm_ok h1 hN hx
  rw [show (⟨N - 1, by omega⟩ : Fin 6).val + 1 = N from e] at a b c
  cases hp : prm N with
  | nil => rw [hp] at a; exact absurd a (by simp)
  | cons l t =>
    rw [hp] at a b c d
    simp only [List.head?_cons, Option.some.injEq] at a
    rw [← a]
    rw [a] at d c ⊢
    exact ⟨t, rfl, c, by simpa using b, d⟩
theorem turns_start {N : Nat} (hN : N ≤ 6) (F : Int64) (a b : Int32) : ∀ d i m (v : Nat → Int32), i + d = N → d < m → AG i v (cn (List.range N)) → ∃ v', f_X9_turns_2 (nI N) F m a b (nI i) v = f_X9_turns_28 (nI N) F FU a b (nI 0) 1 v' ∧ AG N v' (cn (List.range N)) := by
  intro d
  induction d with
  | zero =>
    intro i m v h1 h2 hv
    obtain ⟨m, rfl⟩ : ∃ m', m = m' + 1 := ⟨m - 1, by omega⟩
    have e : i = N := by omega
    subst e
    exact ⟨v, by rw [f_X9_turns_2, if_pos (nI_le (Nat.le_refl _) (by omega))]; rfl, hv⟩
  | succ d ih =>
    intro i m v h1 h2 hv
    obtain ⟨m, rfl⟩ : ∃ m', m = m' + 1 := ⟨m - 1, by omega⟩
    rw [f_X9_turns_2, if_neg (nI_ge (show i < N by omega) (by omega)), six6 (show i < 6 by omega), nI_1, cl_nI (show i < 2 ^ 31 by omega)]
    refine ih (i + 1) m _ (by omega) (by omega) (fun j hj => ?_)
    by_cases e : j = i
    · subst e
      rw [up_s, cn, List.getD_eq_getElem?_getD, List.getElem?_range (by omega)]
      rfl
    · rw [up_n e]; exact hv j (by omega)
theorem f_turns {N : Nat} (h1 : 1 ≤ N) (hN : N ≤ 6) (F : Int64) {a b : Int32} {sel : List Nat → Bool} (hs : ∀ m c (v : Nat → Int32) l, okl N l = true → AG N v (cn l) → f_X9_turns_28 (nI N) F (m + 1) a b c 1 v = if sel l = true then f_X9_turns_49 (nI N) F (f_X9_turns_28 (nI N) F m) a b c v else f_X9_turns_60 (nI N) F (f_X9_turns_28 (nI N) F m) a b c v) (v : Nat → Int32) :
    ∃ v', f_X9_turns (nI N) F a b v = some (nI (ctl (fun x => sel x && kp9 F N x) (prm N)), v') := by
  obtain ⟨t, e1, e2, e3, e4⟩ := prm_cons h1 hN
  obtain ⟨v1, e5, hv⟩ := turns_start hN F a b N 0 FU v (by omega) (Nat.lt_of_lt_of_le (show N < 7 by omega) (by decide)) (fun i hi => by omega)
  obtain ⟨v', e6⟩ := turns_loop h1 hN F hs t _ FU 0 v1 e2 e4 hv (Nat.lt_of_le_of_lt e3 (by decide))
  refine ⟨v', ?_⟩
  unfold f_X9_turns f_X9_turns_0
  rw [show (0 : Int32) = nI 0 from rfl, e5, e6, e1, Nat.zero_add]
theorem f_turnsAll {N : Nat} (h1 : 1 ≤ N) (hN : N ≤ 6) (F : Int64) (b : Int32) (v : Nat → Int32) : ∃ v', f_X9_turns (nI N) F (-1) b v = some (nI (ctl (kp9 F N) (prm N)), v') := by
  obtain ⟨v', e⟩ := f_turns h1 hN F (a := -1) (b := b) (sel := fun _ => true) (fun m c v l _ _ => by
    rw [f_X9_turns_28, if_neg (by decide), if_pos rfl, if_pos rfl]) v
  exact ⟨v', by simpa using e⟩
theorem nI_m1 {p : Nat} (h : p < 2 ^ 31) : ¬ nI p = (-1 : Int32) := fun e => by
  have := nI_pos h
  rw [e] at this
  exact this (by decide)
theorem f_turnsOf {N p q : Nat} (h1 : 1 ≤ N) (hN : N ≤ 6) (hp : p < N) (hq : q < N) (F : Int64) (v : Nat → Int32) : ∃ v', f_X9_turns (nI N) F (nI p) (nI q) v = some (nI (ctl (fun x => x.getD p 0 == q && kp9 F N x) (prm N)), v') := by
  refine f_turns h1 hN F (a := nI p) (b := nI q) (sel := fun x => x.getD p 0 == q) (fun m c v l hl hv => ?_) v
  rw [f_X9_turns_28, if_neg (by decide), if_neg (nI_m1 (by omega)), six6 (show p < 6 by omega), cl_nI (show p < 2 ^ 31 by omega), hv p hp]
  simp only [gd]
  have hlt := okl_lt hl hp
  by_cases e : l.getD p 0 = q
  · rw [if_pos (show cn l p = nI q by rw [cn, e]), if_pos (by rw [e]; exact beq_self_eq_true q)]
  · rw [if_neg (show ¬ cn l p = nI q from fun h => e ((nI_inj (by omega) (by omega)).mp h)), if_neg (fun h => e (eq_of_beq h))]
