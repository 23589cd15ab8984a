/-! an order that keeps the FACES one way keeps them both ways, and so does its inverse -/
theorem im_tb {l : List Nat} {s q : Nat} : ∀ {k : Nat}, (im l k s).testBit q = true ↔ ∃ i, i < k ∧ s.testBit i = true ∧ l.getD i 0 = q := by
  intro k
  induction k with
  | zero =>
    constructor
    · intro h; rw [im, Nat.zero_testBit] at h; exact absurd h (by decide)
    · rintro ⟨i, h, _⟩; omega
  | succ k ih =>
    rw [im, Nat.testBit_or, Bool.or_eq_true, ih]
    constructor
    · rintro (⟨i, h1, h2, h3⟩ | h)
      · exact ⟨i, by omega, h2, h3⟩
      · by_cases c : s.testBit k = true
        · rw [if_pos c, Nat.testBit_two_pow, decide_eq_true_iff] at h
          exact ⟨k, by omega, c, h⟩
        · rw [if_neg c, Nat.zero_testBit] at h; exact absurd h (by decide)
    · rintro ⟨i, h1, h2, h3⟩
      by_cases e : i = k
      · subst e
        right
        rw [if_pos h2, Nat.testBit_two_pow, decide_eq_true_iff]; exact h3
      · exact Or.inl ⟨i, by omega, h2, h3⟩
theorem im_ltN {N : Nat} {l : List Nat} {s : Nat} : ∀ {k : Nat}, (∀ i, i < k → l.getD i 0 < N) → im l k s < 2 ^ N := by
  intro k
  induction k with
  | zero => intro _; exact Nat.pow_pos (by decide)
  | succ k ih =>
    intro h
    refine Nat.or_lt_two_pow (ih (fun i hi => h i (by omega))) ?_
    by_cases c : s.testBit k = true
    · rw [if_pos c]; exact Nat.pow_lt_pow_right (by decide) (h k (by omega))
    · rw [if_neg c]; exact Nat.pow_pos (by decide)
def comp (l m : List Nat) : List Nat := m.map (fun i => l.getD i 0)
theorem comp_gd (l : List Nat) {m : List Nat} {i : Nat} (h : i < m.length) : (comp l m).getD i 0 = l.getD (m.getD i 0) 0 := by
  unfold comp
  rw [List.getD_eq_getElem?_getD (l := List.map _ _), List.getElem?_map, List.getD_eq_getElem?_getD (l := m), List.getElem?_eq_getElem h]
  rfl
theorem okl_mk {N : Nat} {l : List Nat} (h1 : l.length = N) (h2 : ∀ i, i < N → l.getD i 0 < N) : okl N l = true := by
  unfold okl
  rw [Bool.and_eq_true, List.all_eq_true]
  exact ⟨by rw [h1]; exact beq_self_eq_true N, fun i hi => decide_eq_true (h2 i (List.mem_range.mp hi))⟩
theorem okl_comp {N : Nat} {l m : List Nat} (h1 : okl N l = true) (h2 : okl N m = true) : okl N (comp l m) = true := by
  have e := okl_len h2
  refine okl_mk (by unfold comp; rw [List.length_map]; exact e) (fun i hi => ?_)
  rw [comp_gd l (by omega)]
  exact okl_lt h1 (okl_lt h2 hi)
theorem im_comp {N : Nat} {l m : List Nat} (h2 : okl N m = true) (s : Nat) : im (comp l m) N s = im l N (im m N s) := by
  apply Nat.eq_of_testBit_eq
  intro q
  rw [Bool.eq_iff_iff, im_tb, im_tb]
  have e := okl_len h2
  constructor
  · rintro ⟨i, a1, a2, a3⟩
    rw [comp_gd l (by omega)] at a3
    exact ⟨m.getD i 0, okl_lt h2 a1, im_tb.mpr ⟨i, a1, a2, rfl⟩, a3⟩
  · rintro ⟨j, a1, a2, a3⟩
    obtain ⟨i, b1, b2, b3⟩ := im_tb.mp a2
    refine ⟨i, b1, b2, ?_⟩
    rw [comp_gd l (by omega), b3]; exact a3
theorem im_id {N s : Nat} (h : s < 2 ^ N) : im (List.range N) N s = s := by
  apply Nat.eq_of_testBit_eq
  intro q
  have hg : ∀ i, i < N → (List.range N).getD i 0 = i := fun i hi => by
    rw [List.getD_eq_getElem?_getD, List.getElem?_range hi]; rfl
  rw [Bool.eq_iff_iff, im_tb]
  constructor
  · rintro ⟨i, a1, a2, a3⟩
    rw [hg i a1] at a3
    rw [← a3]; exact a2
  · intro hq
    have hqN : q < N := by
      by_cases c : q < N
      · exact c
      · have := Nat.testBit_lt_two_pow (Nat.lt_of_lt_of_le h (Nat.pow_le_pow_right (show 0 < 2 by decide) (show N ≤ q by omega)))
        rw [hq] at this; exact absurd this (by decide)
    exact ⟨q, hqN, hq, hg q hqN⟩
theorem kp_t {F : Int64} {N : Nat} {l : List Nat} : kp9 F N l = true ↔ ∀ s, s < 2 ^ N → tb F s = true → tb F (im l N s) = true := by
  unfold kp9
  rw [alb_t]
  constructor
  · intro h s hs hF
    have := h s (by omega) (by omega)
    unfold kpP at this
    rw [hF] at this
    simpa using this
  · intro h s _ hs
    unfold kpP
    cases hF : tb F s with
    | false => rfl
    | true => rw [h s (by omega) hF]; rfl
def inl (N : Nat) (l : List Nat) : List Nat := (List.range N).map (fun q => l.idxOf q)
def nd : List Nat → Bool
  | [] => true
  | a :: t => !(t.contains a) && nd t
theorem in_all : ∀ N : Fin 6, (prm (N.val + 1)).all (fun l => comp (inl (N.val + 1) l) l == List.range (N.val + 1) && comp l (inl (N.val + 1) l) == List.range (N.val + 1) && nd (inl (N.val + 1) l) && okl (N.val + 1) (inl (N.val + 1) l)) = true := by decide +kernel
theorem mem_dfs {N : Nat} : ∀ (suf pre : List Nat), (∀ x ∈ suf, x < N) → (∀ x ∈ suf, pre.contains x = false) → nd suf = true → pre ++ suf ∈ dfs N suf.length pre := by
  intro suf
  induction suf with
  | nil => intro pre _ _ _; rw [List.append_nil]; exact List.mem_singleton.mpr rfl
  | cons a t ih =>
    intro pre h1 h2 h3
    rw [nd, Bool.and_eq_true, Bool.not_eq_true'] at h3
    rw [List.length_cons, dfs, List.mem_flatMap]
    refine ⟨a, List.mem_range.mpr (h1 a List.mem_cons_self), ?_⟩
    rw [h2 a List.mem_cons_self, if_neg (by decide), show pre ++ a :: t = (pre ++ [a]) ++ t by rw [List.append_assoc]; rfl]
    refine ih _ (fun x hx => h1 x (List.mem_cons_of_mem _ hx)) (fun x hx => ?_) h3.2
    have h4 := h2 x (List.mem_cons_of_mem _ hx)
    cases hc : (pre ++ [a]).contains x with
    | false => rfl
    | true =>
      rw [List.contains_iff_mem, List.mem_append, List.mem_singleton] at hc
      rcases hc with hc | hc
      · rw [← List.contains_iff_mem, h4] at hc; exact absurd hc (by decide)
      · subst hc
        rw [← List.contains_iff_mem, h3.1] at hx; exact absurd hx (by decide)
theorem in_prm {N : Nat} (h1 : 1 ≤ N) (h6 : N ≤ 6) {l : List Nat} (h : l ∈ prm N) : comp (inl N l) l = List.range N ∧ comp l (inl N l) = List.range N ∧ inl N l ∈ prm N := by
  have := in_all ⟨N - 1, by omega⟩
  rw [show (⟨N - 1, by omega⟩ : Fin 6).val + 1 = N from by show N - 1 + 1 = N; omega] at this
  have := List.all_eq_true.mp this l h
  rw [Bool.and_eq_true, Bool.and_eq_true, Bool.and_eq_true] at this
  obtain ⟨⟨⟨a1, a2⟩, a3⟩, a4⟩ := this
  refine ⟨eq_of_beq a1, eq_of_beq a2, ?_⟩
  have e := okl_len a4
  have m := mem_dfs (N := N) (inl N l) [] (fun x hx => ?_) (fun x _ => rfl) a3
  · rw [List.nil_append, e] at m; exact m
  · obtain ⟨i, hi, hx⟩ := List.getElem_of_mem hx
    have := okl_lt a4 (show i < N by omega)
    rw [List.getD_eq_getElem?_getD, List.getElem?_eq_getElem hi, hx] at this
    exact this
def itr (g : Nat → Nat) (s : Nat) : Nat → Nat
  | 0 => s
  | n + 1 => g (itr g s n)
theorem cyc {M : Nat} {g : Nat → Nat} (hg : ∀ x, x < M → g x < M) (hi : ∀ x y, x < M → y < M → g x = g y → x = y) {s : Nat} (hs : s < M) : ∃ n, itr g s (n + 1) = s := by
  have hlt : ∀ n, itr g s n < M := by
    intro n
    induction n with
    | zero => exact hs
    | succ n ih => exact hg _ ih
  have red : ∀ i j, itr g s i = itr g s (i + j) → itr g s j = s := by
    intro i
    induction i with
    | zero => intro j h; rw [Nat.zero_add] at h; exact h.symm
    | succ i ih =>
      intro j h
      rw [show i + 1 + j = (i + j) + 1 by omega] at h
      exact ih j (hi _ _ (hlt _) (hlt _) h)
  by_cases c : ∃ i j, i < j ∧ itr g s i = itr g s j
  · obtain ⟨i, j, h1, h2⟩ := c
    refine ⟨j - i - 1, ?_⟩
    refine red i _ ?_
    rw [h2]
    congr 1
    omega
  · have := pigeon M (M + 1) (itr g s) (fun i _ => hlt i) (fun i j _ _ h => by
      rcases Nat.lt_trichotomy i j with h1 | h1 | h1
      · exact absurd ⟨i, j, h1, h⟩ c
      · exact h1
      · exact absurd ⟨j, i, h1, h.symm⟩ c)
    omega
theorem kp_fm {F : Int64} {N : Nat} (h1 : 1 ≤ N) (h6 : N ≤ 6) {l : List Nat} (h : l ∈ prm N) : kp9 F N l = fm F N l := by
  rw [Bool.eq_iff_iff, fm, pf_t]
  have ho := prm_ok h1 h6 h
  have hg : ∀ x, im l N x < 2 ^ N := fun x => im_ltN (fun i hi => okl_lt ho hi)
  constructor
  · intro hk s hs
    rw [kp_t] at hk
    rw [Bool.eq_iff_iff]
    refine ⟨hk s hs, fun hF => ?_⟩
    obtain ⟨n, e⟩ := cyc (M := 2 ^ N) (g := im l N) (fun x _ => hg x) (fun x y hx hy e => by
      have := congrArg (im (inl N l) N) e
      rw [← im_comp ho, ← im_comp ho, (in_prm h1 h6 h).1, im_id hx, im_id hy] at this
      exact this) hs
    have all : ∀ n, itr (im l N) s (n + 1) < 2 ^ N ∧ tb F (itr (im l N) s (n + 1)) = true := by
      intro n
      induction n with
      | zero => exact ⟨hg _, hF⟩
      | succ n ih => exact ⟨hg _, hk _ ih.1 ih.2⟩
    have := (all n).2
    rw [e] at this
    exact this
  · intro hf
    rw [kp_t]
    intro s hs hF
    rw [← hf s hs]; exact hF
def brg (F : Int64) (N p q : Nat) : Bool := (prm N).any (fun l => fm F N l && l.getD p 0 == q)
theorem brg_t {F : Int64} {N p q : Nat} : brg F N p q = true ↔ ∃ l ∈ prm N, fm F N l = true ∧ l.getD p 0 = q := by
  unfold brg
  rw [List.any_eq_true]
  constructor
  · rintro ⟨l, h1, h2⟩
    rw [Bool.and_eq_true] at h2
    exact ⟨l, h1, h2.1, eq_of_beq h2.2⟩
  · rintro ⟨l, h1, h2, h3⟩
    exact ⟨l, h1, by rw [h2, h3, beq_self_eq_true]; rfl⟩
theorem brg_sym {F : Int64} {N p q : Nat} (h1 : 1 ≤ N) (h6 : N ≤ 6) (hp : p < N) : brg F N p q = true → brg F N q p = true := by
  intro h
  obtain ⟨l, m1, m2, m3⟩ := brg_t.mp h
  have ho := prm_ok h1 h6 m1
  obtain ⟨e1, e2, e3⟩ := in_prm h1 h6 m1
  have ho2 := prm_ok h1 h6 e3
  refine brg_t.mpr ⟨inl N l, e3, ?_, ?_⟩
  · unfold fm at m2 ⊢
    rw [pf_t] at m2 ⊢
    intro s hs
    have := m2 (im (inl N l) N s) (im_ltN (fun i hi => okl_lt ho2 hi))
    rw [← im_comp ho2, e2, im_id hs] at this
    exact this.symm
  · have e4 := congrArg (fun x : List Nat => x.getD p 0) e1
    rw [comp_gd _ (by rw [okl_len ho]; exact hp), m3, List.getD_eq_getElem?_getD (l := List.range N), List.getElem?_range hp] at e4
    exact e4
theorem ctl_congr {P Q : List Nat → Bool} : ∀ {a : List (List Nat)}, (∀ x ∈ a, P x = Q x) → ctl P a = ctl Q a := by
  intro a
  induction a with
  | nil => intro _; rfl
  | cons x a ih =>
    intro h
    simp only [ctl]
    rw [h x List.mem_cons_self, ih (fun y hy => h y (List.mem_cons_of_mem _ hy))]
theorem ctl_le (P : List Nat → Bool) : ∀ a, ctl P a ≤ a.length := by
  intro a
  induction a with
  | nil => exact Nat.le_refl _
  | cons x a ih =>
    simp only [ctl, List.length_cons]
    have : (P x).toNat ≤ 1 := by cases P x <;> decide
    omega
theorem ctl_pos {P : List Nat → Bool} : ∀ {a : List (List Nat)}, 0 < ctl P a ↔ ∃ x ∈ a, P x = true := by
  intro a
  constructor
  · intro h
    by_cases c : ∃ x ∈ a, P x = true
    · exact c
    · have := ctl_0 (P := P) (a := a) (fun x hx => by
        cases hp : P x with
        | false => rfl
        | true => exact absurd ⟨x, hx, hp⟩ c)
      omega
  · rintro ⟨x, hx, hp⟩
    induction a with
    | nil => exact absurd hx (by simp)
    | cons y a ih =>
      simp only [ctl]
      rcases List.mem_cons.mp hx with h | h
      · rw [← h, hp]; exact Nat.lt_of_lt_of_le (show 0 < 1 by decide) (Nat.le_add_right _ _)
      · have := ih h; omega
def tof (F : Int64) (N p q : Nat) : Nat := ctl (fun x => x.getD p 0 == q && kp9 F N x) (prm N)
theorem tof_pos {F : Int64} {N p q : Nat} (h1 : 1 ≤ N) (h6 : N ≤ 6) : 0 < tof F N p q ↔ brg F N p q = true := by
  unfold tof
  rw [ctl_pos, brg_t]
  constructor
  · rintro ⟨l, h, e⟩
    rw [Bool.and_eq_true, kp_fm h1 h6 h] at e
    exact ⟨l, h, e.2, eq_of_beq e.1⟩
  · rintro ⟨l, h, e1, e2⟩
    refine ⟨l, h, ?_⟩
    rw [kp_fm h1 h6 h, e1, e2, beq_self_eq_true]; rfl
theorem tof_le {F : Int64} {N p q : Nat} (h1 : 1 ≤ N) (h6 : N ≤ 6) : tof F N p q ≤ 720 := by
  have := ctl_le (fun x => x.getD p 0 == q && kp9 F N x) (prm N)
  have b := prm_len ⟨N - 1, by omega⟩
  rw [show (⟨N - 1, by omega⟩ : Fin 6).val + 1 = N from by show N - 1 + 1 = N; omega] at b
  unfold tof
  omega
