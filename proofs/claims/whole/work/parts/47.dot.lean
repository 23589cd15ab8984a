/-! ===== pure part: counting, dots, sums over sets ===== -/
def ct (P : Nat → Bool) : Nat → Nat
  | 0 => 0
  | n + 1 => ct P n + (P n).toNat
theorem ct_le {P Q : Nat → Bool} {n : Nat} (h : ∀ i, i < n → P i = true → Q i = true) : ct P n ≤ ct Q n := by
  induction n with
  | zero => exact Nat.le_refl _
  | succ n ih =>
    have ih := ih (fun i hi => h i (by omega))
    have h1 := h n (by omega)
    simp only [ct]
    cases e : P n
    · simp only [Bool.toNat_false]; omega
    · rw [h1 e]; omega
theorem ct_eq {P Q : Nat → Bool} {n : Nat} (h : ∀ i, i < n → P i = true → Q i = true) (he : ct P n = ct Q n) : ∀ i, i < n → P i = Q i := by
  induction n with
  | zero => intro i hi; omega
  | succ n ih =>
    have hl := ct_le (n := n) (fun i hi => h i (by omega))
    have h1 := h n (by omega)
    simp only [ct] at he
    have hn : P n = Q n ∧ ct P n = ct Q n := by
      cases e : P n <;> cases e2 : Q n
      · rw [e, e2] at he; exact ⟨rfl, by omega⟩
      · rw [e, e2] at he; simp only [Bool.toNat_false, Bool.toNat_true] at he; omega
      · rw [h1 e] at e2; cases e2
      · rw [e, e2] at he; exact ⟨rfl, by omega⟩
    intro i hi
    by_cases e : i = n
    · subst e; exact hn.1
    · exact ih (fun i hi => h i (by omega)) hn.2 i (by omega)
theorem ct_congr {P Q : Nat → Bool} {n : Nat} (h : ∀ i, i < n → P i = Q i) : ct P n = ct Q n := by
  induction n with
  | zero => rfl
  | succ n ih => simp only [ct]; rw [h n (by omega), ih (fun i hi => h i (by omega))]
theorem ct_add {P Q : Nat → Bool} (n : Nat) : ct (fun i => P i && Q i) n + ct (fun i => P i && !Q i) n = ct P n := by
  induction n with
  | zero => rfl
  | succ n ih =>
    simp only [ct]
    cases P n <;> cases Q n <;> simp <;> omega
theorem cnt_ct (F : Int64) (n : Nat) : cnt F n = ct (tb F) n := by
  induction n with
  | zero => rfl
  | succ n ih => simp only [cnt, ct, ih]
theorem rk_vl (P : Nat → Bool) (g : Nat → Int64) (n : Nat) : rk (vl P g n) = ct (fun s => P s && !dq (sp (vl P g s) (g s))) n := by
  induction n with
  | zero => rfl
  | succ n ih =>
    simp only [ct]
    rw [← ih]
    show rk (if P n = true then _ else _) = _
    cases hP : P n
    · rw [if_neg (by decide)]; simp
    · rw [if_pos rfl]; simp [rk]
def nz (base : Nat → Int64) (k : Nat) : Bool := decide (base k ≠ 0)
theorem ct_upd {base : Nat → Int64} {k : Nat} {x : Int64} (h0 : base k = 0) (hx : x ≠ 0) : ∀ n, ct (nz (vp_updL base k x)) n = ct (nz base) n + (decide (k < n)).toNat := by
  intro n
  induction n with
  | zero => simp [ct]
  | succ n ih =>
    simp only [ct, ih]
    by_cases e : n = k
    · subst e
      have e1 : nz (vp_updL base n x) n = true := by unfold nz; rw [uL_s]; simpa using hx
      have e2 : nz base n = false := by unfold nz; simp [h0]
      rw [e1, e2]
      simp
    · have e1 : nz (vp_updL base k x) n = nz base n := by unfold nz; rw [uL_n e]
      rw [e1]
      have e2 : decide (k < n + 1) = decide (k < n) := by simp; omega
      rw [e2]
      omega
theorem rk_base (l : List Int64) : ∃ base : Nat → Int64, BM base l ∧ ct (nz base) 64 = rk l := by
  induction l with
  | nil => exact ⟨fun _ => 0, ⟨fun k _ h => absurd rfl h, fun v hv h => absurd hv h⟩, by decide⟩
  | cons v l ih =>
    obtain ⟨base, hB, hc⟩ := ih
    obtain ⟨R, h1, h2⟩ := lays_loop hB 64 FU v (Nat.le_refl _) (by decide) (fun j h1 h2 => by omega) (by rw [x_self]; exact sp_0 l)
    rcases h2 with ⟨-, hs⟩ | ⟨-, hs, hB2, k, x, hk, h0, hx, e⟩
    · have hsp : ∀ u, sp (v :: l) u ↔ sp l u := fun u => ⟨fun h => by
        rcases h with h | h
        · exact h
        · have := sp_xor h hs; rw [x_can] at this; exact this, fun h => Or.inl h⟩
      refine ⟨base, ⟨fun k hk hne => ⟨(hB.1 k hk hne).1, (hsp _).mpr (hB.1 k hk hne).2⟩, fun u hu hu0 => hB.2 u ((hsp u).mp hu) hu0⟩, ?_⟩
      simp only [rk]
      rw [hc, dq_t.mpr hs]; rfl
    · rw [e] at hB2
      refine ⟨_, hB2, ?_⟩
      simp only [rk]
      rw [ct_upd h0 hx, hc, dq_f.mpr hs]
      simp [hk]
/-- parity -/
def par2 (P : Nat → Bool) : Nat → Bool
  | 0 => false
  | n + 1 => par2 P n ^^ P n
theorem par2_congr {P Q : Nat → Bool} {n : Nat} (h : ∀ i, i < n → P i = Q i) : par2 P n = par2 Q n := by
  induction n with
  | zero => rfl
  | succ n ih => simp only [par2]; rw [h n (by omega), ih (fun i hi => h i (by omega))]
theorem par2_0 {P : Nat → Bool} {n : Nat} (h : ∀ i, i < n → P i = false) : par2 P n = false := by
  induction n with
  | zero => rfl
  | succ n ih => simp only [par2]; rw [h n (by omega), ih (fun i hi => h i (by omega))]; rfl
theorem par2_xor (P Q : Nat → Bool) (n : Nat) : par2 (fun i => P i ^^ Q i) n = (par2 P n ^^ par2 Q n) := by
  induction n with
  | zero => rfl
  | succ n ih => simp only [par2]; rw [ih]; cases par2 P n <;> cases par2 Q n <;> cases P n <;> cases Q n <;> rfl
theorem par2_and (c : Bool) (P : Nat → Bool) (n : Nat) : par2 (fun i => P i && c) n = (par2 P n && c) := by
  induction n with
  | zero => cases c <;> rfl
  | succ n ih => simp only [par2]; rw [ih]; cases par2 P n <;> cases P n <;> cases c <;> rfl
theorem par2_one {P : Nat → Bool} {n k : Nat} (hk : k < n) : par2 (fun i => P i && decide (i = k)) n = P k := by
  induction n with
  | zero => omega
  | succ n ih =>
    simp only [par2]
    by_cases e : k = n
    · subst e
      rw [par2_0 (fun i hi => by have : decide (i = k) = false := by simp; omega
                                 rw [this, Bool.and_false])]
      simp
    · have : decide (n = k) = false := by simp; omega
      rw [ih (by omega), this, Bool.and_false, Bool.xor_false]
def dot (c v : Int64) : Bool := par2 (fun i => tb c i && tb v i) 64
theorem dot_xor (c u v : Int64) : dot c (u ^^^ v) = (dot c u ^^ dot c v) := by
  unfold dot
  rw [← par2_xor]
  refine par2_congr (fun i _ => ?_)
  rw [tb_xor]
  cases tb c i <;> cases tb u i <;> cases tb v i <;> rfl
theorem dot_comm (c v : Int64) : dot c v = dot v c := par2_congr (fun i _ => Bool.and_comm _ _)
theorem dot_xorl (c d v : Int64) : dot (c ^^^ d) v = (dot c v ^^ dot d v) := by rw [dot_comm, dot_xor, dot_comm v c, dot_comm v d]
theorem dot_0 (c : Int64) : dot c 0 = false := par2_0 (fun i _ => by rw [tb_0, Bool.and_false])
theorem dot_b1 {k : Nat} (hk : k < 64) (v : Int64) : dot (b1 k) v = tb v k := by
  unfold dot
  rw [← par2_one (P := tb v) hk]
  exact par2_congr (fun i hi => by rw [tb_b1 hk hi, Bool.and_comm])
theorem dot_sp {l : List Int64} {c : Int64} (h : ∀ a ∈ l, dot c a = false) : ∀ v, sp l v → dot c v = false := by
  induction l with
  | nil => intro v hv; rw [show v = 0 from hv]; exact dot_0 c
  | cons a l ih =>
    intro v hv
    have ih := ih (fun b hb => h b (List.mem_cons_of_mem _ hb))
    rcases hv with hv | hv
    · exact ih v hv
    · have := ih _ hv
      rw [dot_xor, h a List.mem_cons_self, Bool.xor_false] at this
      exact this
theorem separate {l : List Int64} : ∀ {z : Int64}, ¬ sp l z → ∃ c, (∀ a ∈ l, dot c a = false) ∧ dot c z = true := by
  induction l with
  | nil =>
    intro z hz
    obtain ⟨k, hk, h1, -⟩ := lb_ex hz
    exact ⟨b1 k, fun a ha => (by cases ha), by rw [dot_b1 hk]; exact h1⟩
  | cons a l ih =>
    intro z hz
    obtain ⟨c1, p1, q1⟩ := ih (fun h => hz (Or.inl h))
    obtain ⟨c2, p2, q2⟩ := ih (fun h => hz (Or.inr h))
    rw [dot_xor] at q2
    cases e1 : dot c1 a
    · exact ⟨c1, fun b hb => by
        rcases List.mem_cons.mp hb with rfl | hb
        · exact e1
        · exact p1 b hb, q1⟩
    · cases e2 : dot c2 a
      · rw [e2, Bool.xor_false] at q2
        exact ⟨c2, fun b hb => by
          rcases List.mem_cons.mp hb with rfl | hb
          · exact e2
          · exact p2 b hb, q2⟩
      · rw [e2] at q2
        have q3 : dot c2 z = false := by cases h : dot c2 z <;> rw [h] at q2 <;> simp_all
        refine ⟨c1 ^^^ c2, fun b hb => ?_, by rw [dot_xorl, q1, q3]; rfl⟩
        rw [dot_xorl]
        rcases List.mem_cons.mp hb with rfl | hb
        · rw [e1, e2]; rfl
        · rw [p1 b hb, p2 b hb]; rfl
/-- the sum of g over the sets of x -/
def xs2 (g : Nat → Int64) (x : Int64) : Nat → Int64
  | 0 => 0
  | m + 1 => if tb x m = true then xs2 g x m ^^^ g m else xs2 g x m
theorem tb_xs2 (g : Nat → Int64) (x : Int64) (m t : Nat) : tb (xs2 g x m) t = par2 (fun s => tb x s && tb (g s) t) m := by
  induction m with
  | zero => exact tb_0 t
  | succ m ih =>
    simp only [xs2, par2]
    cases e : tb x m
    · rw [if_neg (by decide), ih]; simp
    · rw [if_pos rfl, tb_xor, ih]; simp
theorem xs2_sp {g : Nat → Int64} {x : Int64} {P : Nat → Bool} {m : Nat} (h : ∀ s, s < m → tb x s = true → P s = true) : sp (vl P g m) (xs2 g x m) := by
  induction m with
  | zero => exact sp_0 _
  | succ m ih =>
    have ih := ih (fun s hs => h s (by omega))
    have hup : ∀ v, sp (vl P g m) v → sp (vl P g (m + 1)) v := fun v hv => by
      show sp (if P m = true then _ else _) v
      split
      · exact Or.inl hv
      · exact hv
    simp only [xs2]
    cases e : tb x m
    · rw [if_neg (by decide)]; exact hup _ ih
    · rw [if_pos rfl]
      refine sp_xor (hup _ ih) (sp_mem (vl_mem.mpr ⟨m, by omega, h m (by omega) e, rfl⟩))
theorem xs2_xor (g : Nat → Int64) (x y : Int64) (m : Nat) : xs2 g (x ^^^ y) m = xs2 g x m ^^^ xs2 g y m := tb_ext (fun t _ => by
  rw [tb_xor, tb_xs2, tb_xs2, tb_xs2, ← par2_xor]
  refine par2_congr (fun i _ => ?_)
  rw [tb_xor]
  cases tb x i <;> cases tb y i <;> cases tb (g i) t <;> rfl)
theorem xs2_b1 {g : Nat → Int64} {s : Nat} (hs : s < 64) : xs2 g (b1 s) 64 = g s := tb_ext (fun t _ => by
  rw [tb_xs2, ← par2_one (P := fun i => tb (g i) t) hs]
  refine par2_congr (fun i hi => ?_)
  rw [tb_b1 hs hi, Bool.and_comm])
/-- a sum of a family is the sum over some sets of it -/
theorem sp_xs2 {g : Nat → Int64} {P : Nat → Bool} {v : Int64} (h : sp (vl P g 64) v) : ∃ u : Int64, (∀ s, s < 64 → tb u s = true → P s = true) ∧ v = xs2 g u 64 := by
  have key : ∀ m, m ≤ 64 → ∀ v, sp (vl P g m) v → ∃ u : Int64, (∀ s, s < 64 → tb u s = true → P s = true) ∧ v = xs2 g u 64 := by
    intro m
    induction m with
    | zero =>
      intro _ v hv
      refine ⟨0, fun s _ h => (by rw [tb_0] at h; cases h), ?_⟩
      rw [show v = 0 from hv]
      exact tb_ext (fun t _ => by rw [tb_0, tb_xs2, par2_0 (fun i _ => by rw [tb_0, Bool.false_and])])
    | succ m ih =>
      intro hm v hv
      have hv : sp (if P m = true then g m :: vl P g m else vl P g m) v := hv
      cases hP : P m
      · rw [hP, if_neg (by decide)] at hv
        exact ih (by omega) v hv
      · rw [hP, if_pos rfl] at hv
        rcases hv with hv | hv
        · exact ih (by omega) v hv
        · obtain ⟨u, h1, h2⟩ := ih (by omega) _ hv
          refine ⟨u ^^^ b1 m, fun s hs hb => ?_, ?_⟩
          · rw [tb_xor, tb_b1 (by omega) hs] at hb
            by_cases e : s = m
            · subst e; exact hP
            · have : decide (s = m) = false := by simpa using e
              rw [this, Bool.xor_false] at hb
              exact h1 s hs hb
          · rw [xs2_xor, ← h2, xs2_b1 (by omega), x_can]
  exact key 64 (Nat.le_refl _) v h
