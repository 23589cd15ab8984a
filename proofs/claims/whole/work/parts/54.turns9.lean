/-! the image of a set under an order, and the reference's count of turns -/
def im (l : List Nat) : Nat → Nat → Nat
  | 0, _ => 0
  | k + 1, s => im l k s ||| (if s.testBit k = true then 2 ^ (l.getD k 0) else 0)
def alb (P : Nat → Bool) : Nat → Nat → Bool
  | _, 0 => true
  | i, k + 1 => P i && alb P (i + 1) k
theorem alb_t {P : Nat → Bool} : ∀ {k i : Nat}, alb P i k = true ↔ ∀ s, i ≤ s → s < i + k → P s = true := by
  intro k
  induction k with
  | zero => intro i; exact ⟨fun _ s h1 h2 => by omega, fun _ => rfl⟩
  | succ k ih =>
    intro i
    show (P i && alb P (i + 1) k) = true ↔ _
    rw [Bool.and_eq_true, ih]
    constructor
    · intro h s h1 h2
      by_cases e : s = i
      · rw [e]; exact h.1
      · exact h.2 s (by omega) (by omega)
    · intro h
      exact ⟨h i (by omega) (by omega), fun s h1 h2 => h s (by omega) (by omega)⟩
def okl (N : Nat) (l : List Nat) : Bool := l.length == N && (List.range N).all (fun i => decide (l.getD i 0 < N))
theorem okl_lt {N : Nat} {l : List Nat} (h : okl N l = true) {i : Nat} (hi : i < N) : l.getD i 0 < N := by
  unfold okl at h
  rw [Bool.and_eq_true, List.all_eq_true] at h
  have := h.2 i (List.mem_range.mpr hi)
  exact of_decide_eq_true this
theorem okl_len {N : Nat} {l : List Nat} (h : okl N l = true) : l.length = N := by
  unfold okl at h
  rw [Bool.and_eq_true] at h
  exact eq_of_beq h.1
theorem prm_ok1 : ∀ N : Fin 6, (prm (N.val + 1)).all (okl (N.val + 1)) = true := by decide +kernel
theorem prm_ok {N : Nat} (h1 : 1 ≤ N) (h6 : N ≤ 6) {l : List Nat} (h : l ∈ prm N) : okl N l = true := by
  have := prm_ok1 ⟨N - 1, by omega⟩
  rw [show N - 1 + 1 = N by omega] at this
  exact List.all_eq_true.mp this l h
theorem t_put : ∀ (s : Fin 64) (k q : Fin 6), ((nI s.val >>> (nI k.val &&& 31)) &&& (1 : Int32)) <<< (nI q.val &&& 31) = nI (if s.val.testBit k.val = true then 2 ^ q.val else 0) := by decide +kernel
theorem put_lt : ∀ (q : Fin 6) (b : Bool), (if b = true then 2 ^ q.val else 0) < 64 := by decide +kernel
theorem im_lt {l : List Nat} {s : Nat} : ∀ {k : Nat}, (∀ i, i < k → l.getD i 0 < 6) → im l k s < 64 := by
  intro k
  induction k with
  | zero => intro _; exact Nat.le_of_ble_eq_true rfl
  | succ k ih =>
    intro h
    exact or_lt64 (ih (fun i hi => h i (by omega))) (put_lt ⟨l.getD k 0, h k (by omega)⟩ _)
def kpP (F : Int64) (N : Nat) (l : List Nat) (s : Nat) : Bool := !(tb F s) || tb F (im l N s)
def kp9 (F : Int64) (N : Nat) (l : List Nat) : Bool := alb (kpP F N l) 0 (2 ^ N)
theorem f_keeps {N : Nat} (h1 : 1 ≤ N) (hN : N ≤ 6) {l : List Nat} (hl : okl N l = true) {v : Nat → Int32} (hv : AG N v (cn l)) (F : Int64) : f_X9_keeps (nI N) F v = some (tf (kp9 F N l)) := by
  have h64 := pow_le64 hN
  have hl6 : ∀ i, i < N → l.getD i 0 < 6 := fun i hi => Nat.lt_of_lt_of_le (okl_lt hl hi) hN
  have inner : ∀ (K : Int32 → Int32 → Option Int32) (s : Nat), s < 64 → ∀ d k m, k + d = N → d < m → f_X9_keeps_21 (nI N) F v K m (nI s) (nI (im l k s)) (nI k) = K (tf (kpP F N l s)) (nI s + 1) := by
    intro K s hs d
    induction d with
    | zero =>
      intro k m h1 h2
      obtain ⟨m, rfl⟩ : ∃ m', m = m' + 1 := ⟨m - 1, by omega⟩
      have e : k = N := by omega
      subst e
      rw [f_X9_keeps_21, if_pos (nI_le (Nat.le_refl _) (by omega)), sbg (f_isFace hs), sbg (f_isFace (im_lt hl6))]
      unfold kpP
      cases tb F s with
      | false => rfl
      | true => cases tb F (im l k s) <;> rfl
    | succ d ih =>
      intro k m h1 h2
      obtain ⟨m, rfl⟩ : ∃ m', m = m' + 1 := ⟨m - 1, by omega⟩
      rw [f_X9_keeps_21, if_neg (nI_ge (show k < N by omega) (by omega)), six6 (show k < 6 by omega), cl_nI (show k < 2 ^ 31 by omega), hv k (by omega)]
      simp only [gd, bnd, cn]
      rw [t_put ⟨s, hs⟩ ⟨k, by omega⟩ ⟨l.getD k 0, hl6 k (by omega)⟩, nI_or (im_lt (fun i hi => hl6 i (by omega))) (put_lt ⟨l.getD k 0, hl6 k (by omega)⟩ _), nI_1]
      exact ih (k + 1) m (by omega) (by omega)
  have stop : ∀ i m, i ≤ 64 → f_X9_keeps_4 (nI N) F v (m + 1) (tf false) (nI i) = some (tf false) := by
    intro i m hi
    rw [f_X9_keeps_4, sbg (f_all hN)]
    by_cases hc : nI (2 ^ N - 1) < nI i
    · rw [if_pos hc]; rfl
    · rw [if_neg hc, if_pos (by decide)]; rfl
  have key : ∀ d i m, i + d = 2 ^ N → d + 1 < m → f_X9_keeps_4 (nI N) F v m (tf true) (nI i) = some (tf (alb (kpP F N l) i d)) := by
    intro d
    induction d with
    | zero =>
      intro i m h1 h2
      obtain ⟨m, rfl⟩ : ∃ m', m = m' + 1 := ⟨m - 1, by omega⟩
      have e : i = 2 ^ N := by omega
      subst e
      rw [f_X9_keeps_4, sbg (f_all hN), if_pos (all_end hN)]
      rfl
    | succ d ih =>
      intro i m h1 h2
      obtain ⟨m, rfl⟩ : ∃ m', m = m' + 1 := ⟨m - 1, by omega⟩
      rw [f_X9_keeps_4, sbg (f_all hN), if_neg (all_lt hN (show i < 2 ^ N by omega)), if_neg (by decide)]
      have := inner (f_X9_keeps_4 (nI N) F v m) i (by omega) N 0 FU (by omega) (Nat.lt_of_lt_of_le (show N < 7 by omega) (by decide))
      rw [show (0 : Int32) = nI 0 from rfl]
      rw [show im l 0 i = 0 from rfl] at this
      rw [this, nI_1]
      show _ = some (tf (kpP F N l i && alb (kpP F N l) (i + 1) d))
      cases kpP F N l i with
      | false =>
        obtain ⟨m, rfl⟩ : ∃ m', m = m' + 1 := ⟨m - 1, by omega⟩
        exact stop (i + 1) m (by omega)
      | true => exact ih (i + 1) m (by omega) (by omega)
  unfold f_X9_keeps f_X9_keeps_0
  exact key (2 ^ N) 0 FU (by omega) (Nat.lt_of_lt_of_le (show 2 ^ N + 1 < 66 by omega) (by decide))
