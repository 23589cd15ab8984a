/-! ===== pure part: the class's Basis ===== -/
theorem and_b1 (x : Int64) {k : Nat} (hk : k < 64) : x &&& b1 k = 0 ↔ tb x k = false := by
  constructor
  · intro h
    have := eq0_iff.mp h k hk
    rw [tb_and, tb_b1 hk hk] at this
    simpa using this
  · intro h
    refine eq0_iff.mpr (fun i hi => ?_)
    rw [tb_and, tb_b1 hk hi]
    by_cases e : i = k
    · subst e; rw [h]; rfl
    · simp [e]
theorem tb_neg (x : Int64) {i : Nat} (hi : i < 64) : tb (-x) i = (tb x i ^^ decide (∃ j, j < i ∧ tb x j = true)) := by
  simp only [tb, Int64.toBitVec_neg, BitVec.getLsbD_neg, hi, decide_true, Bool.true_and]
  congr
theorem lb_ex {x : Int64} (h : x ≠ 0) : ∃ k, k < 64 ∧ tb x k = true ∧ ∀ j, j < k → tb x j = false := by
  have key : ∀ m, m ≤ 64 → (∃ k, k < m ∧ tb x k = true ∧ ∀ j, j < k → tb x j = false) ∨ (∀ j, j < m → tb x j = false) := by
    intro m
    induction m with
    | zero => intro _; exact Or.inr (fun j hj => by omega)
    | succ m ih =>
      intro hm
      rcases ih (by omega) with ⟨k, h1, h2⟩ | h0
      · exact Or.inl ⟨k, by omega, h2⟩
      · by_cases hb : tb x m = true
        · exact Or.inl ⟨m, by omega, hb, h0⟩
        · refine Or.inr (fun j hj => ?_)
          by_cases e : j = m
          · subst e; simpa using hb
          · exact h0 j (by omega)
  rcases key 64 (Nat.le_refl _) with h1 | h1
  · exact h1
  · exact absurd (eq0_iff.mpr h1) h
theorem lowbit {x : Int64} (h : x ≠ 0) : ∃ k, k < 64 ∧ tb x k = true ∧ x &&& (-x) = b1 k := by
  obtain ⟨k, hk, h1, h2⟩ := lb_ex h
  refine ⟨k, hk, h1, tb_ext (fun i hi => ?_)⟩
  rw [tb_and, tb_neg x hi, tb_b1 hk hi]
  rcases Nat.lt_trichotomy i k with hik | hik | hik
  · rw [h2 i hik]
    have : decide (i = k) = false := by simp; omega
    rw [this]; rfl
  · subst hik
    have : decide (∃ j, j < i ∧ tb x j = true) = false := by
      simp only [decide_eq_false_iff_not]
      rintro ⟨j, hj, hb⟩
      rw [h2 j hj] at hb
      cases hb
    rw [h1, this]; simp
  · have e1 : decide (∃ j, j < i ∧ tb x j = true) = true := by simp only [decide_eq_true_eq]; exact ⟨k, hik, h1⟩
    have e2 : decide (i = k) = false := by simp; omega
    rw [e1, e2]
    cases tb x i <;> rfl
/-- different numbers below m are at most m -/
theorem pigeon : ∀ (m c : Nat) (f : Nat → Nat), (∀ i, i < c → f i < m) → (∀ i j, i < c → j < c → f i = f j → i = j) → c ≤ m := by
  intro m
  induction m with
  | zero =>
    intro c f h1 _
    cases c with
    | zero => exact Nat.le_refl _
    | succ c => exact absurd (h1 0 (by omega)) (by omega)
  | succ m ih =>
    intro c f h1 h2
    by_cases hex : ∃ i, i < c ∧ f i = m
    · obtain ⟨i0, hi0, e0⟩ := hex
      have := ih (c - 1) (fun i => if i < i0 then f i else f (i + 1)) (fun i hi => by
        by_cases hlt : i < i0
        · simp only [hlt, if_true]
          have a1 := h1 i (by omega)
          have a2 : f i ≠ m := fun e => by have := h2 i i0 (by omega) hi0 (by rw [e, e0]); omega
          omega
        · simp only [hlt, if_false]
          have a1 := h1 (i + 1) (by omega)
          have a2 : f (i + 1) ≠ m := fun e => by have := h2 (i + 1) i0 (by omega) hi0 (by rw [e, e0]); omega
          omega) (fun i j hi hj e => by
        by_cases a : i < i0 <;> by_cases b : j < i0 <;> simp only [a, b, if_true, if_false] at e
        · exact h2 i j (by omega) (by omega) e
        · have := h2 i (j + 1) (by omega) (by omega) e; omega
        · have := h2 (i + 1) j (by omega) (by omega) e; omega
        · have := h2 (i + 1) (j + 1) (by omega) (by omega) e; omega)
      omega
    · have := ih c f (fun i hi => by
        have a1 := h1 i hi
        have a2 : f i ≠ m := fun e => hex ⟨i, hi, e⟩
        omega) h2
      omega
def rl (rows : Nat → Int64) : Nat → List Int64
  | 0 => []
  | c + 1 => rows c :: rl rows c
theorem rl_congr {r1 r2 : Nat → Int64} : ∀ {c : Nat}, (∀ i, i < c → r1 i = r2 i) → rl r1 c = rl r2 c := by
  intro c
  induction c with
  | zero => intro _; rfl
  | succ c ih => intro h; simp only [rl]; rw [h c (by omega), ih (fun i hi => h i (by omega))]
theorem rl_mem (rows : Nat → Int64) {i c : Nat} (h : i < c) : rows i ∈ rl rows c := by
  induction c with
  | zero => omega
  | succ c ih =>
    by_cases e : i = c
    · subst e; exact List.mem_cons_self
    · exact List.mem_cons_of_mem _ (ih (by omega))
/-- the leads: single bits within Lm; a row's bit is in no later row -/
def LD (rows leads : Nat → Int64) (c : Nat) (Lm : Int64) (b : Nat → Nat) : Prop := ∀ i, i < c → b i < 64 ∧ leads i = b1 (b i) ∧ tb (rows i) (b i) = true ∧ tb Lm (b i) = true ∧ ∀ i', i < i' → i' < c → tb (rows i') (b i) = false
def CB (rows leads : Nat → Int64) (c : Nat) (Lm : Int64) (l : List Int64) : Prop := c ≤ 64 ∧ (∃ b : Nat → Nat, LD rows leads c Lm b) ∧ ∀ v, sp l v ↔ sp (rl rows c) v
theorem ech {rows leads : Nat → Int64} {Lm : Int64} {b : Nat → Nat} : ∀ {c : Nat}, LD rows leads c Lm b → ∀ u, sp (rl rows c) u → (∀ i, i < c → tb u (b i) = false) → u = 0 := by
  intro c
  induction c with
  | zero => intro _ u hu _; exact hu
  | succ c ih =>
    intro hL u hu hz
    have hL' : LD rows leads c Lm b := fun i hi => ⟨(hL i (by omega)).1, (hL i (by omega)).2.1, (hL i (by omega)).2.2.1, (hL i (by omega)).2.2.2.1, fun i' h1 h2 => (hL i (by omega)).2.2.2.2 i' h1 (by omega)⟩
    rcases hu with hu | hu
    · exact ih hL' u hu (fun i hi => hz i (by omega))
    · have ht := ih hL' _ hu (fun i hi => by
        rw [tb_xor, hz i (by omega), (hL i (by omega)).2.2.2.2 c hi (by omega)]; rfl)
      have e := x_eq ht
      have h1 := hz c (by omega)
      rw [e, (hL c (by omega)).2.2.1] at h1
      cases h1
theorem CB.uniq {rows leads : Nat → Int64} {c : Nat} {Lm : Int64} {l : List Int64} (h : CB rows leads c Lm l) {u u' : Int64} (hs : sp l (u ^^^ u')) (h1 : u &&& Lm = 0) (h2 : u' &&& Lm = 0) : u = u' := by
  obtain ⟨-, ⟨b, hL⟩, hsp⟩ := h
  refine x_eq (ech hL _ ((hsp _).mp hs) (fun i hi => ?_))
  have hb := hL i hi
  have e1 := eq0_iff.mp h1 (b i) hb.1
  have e2 := eq0_iff.mp h2 (b i) hb.1
  rw [tb_and, hb.2.2.2.1, Bool.and_true] at e1 e2
  rw [tb_xor, e1, e2]; rfl
theorem add_end {rows leads : Nat → Int64} {c : Nat} {Lm rest v : Int64} {l : List Int64} {b : Nat → Nat} (hc : c ≤ 64) (hL : LD rows leads c Lm b) (hsp : ∀ v, sp l v ↔ sp (rl rows c) v) (hs : sp l (rest ^^^ v)) (hz : ∀ i, i < c → tb rest (b i) = false) :
    (rest &&& Lm = 0 ∧ f_X0_add_58 Lm rows leads rest (nI c) = some (0, rows, leads, rest, nI c)) ∨ (rest &&& Lm ≠ 0 ∧ ∃ rows' leads', f_X0_add_58 Lm rows leads rest (nI c) = some (1, rows', leads', rest, nI (c + 1)) ∧ CB rows' leads' (c + 1) Lm (v :: l)) := by
  unfold f_X0_add_58
  by_cases hu : rest &&& Lm = 0
  · exact Or.inl ⟨hu, by rw [if_pos hu]⟩
  · refine Or.inr ⟨hu, ?_⟩
    obtain ⟨k, hk, hk1, hlow⟩ := lowbit hu
    rw [tb_and, Bool.and_eq_true] at hk1
    have hfresh : ∀ i, i < c → b i ≠ k := fun i hi e => by
      have := hz i hi
      rw [e, hk1.1] at this
      cases this
    have hinj : ∀ i j, i < c → j < c → b i = b j → i = j := by
      intro i j hi hj e
      rcases Nat.lt_trichotomy i j with h | h | h
      · have h1 := (hL i hi).2.2.2.2 j h hj
        rw [e, (hL j hj).2.2.1] at h1
        cases h1
      · exact h
      · have h1 := (hL j hj).2.2.2.2 i h hi
        rw [← e, (hL i hi).2.2.1] at h1
        cases h1
    have hc64 : c < 64 := by
      have := pigeon 64 (c + 1) (fun i => if i < c then b i else k) (fun i hi => by
        by_cases h : i < c
        · simp only [h, if_true]; exact (hL i h).1
        · simp only [h, if_false]; exact hk) (fun i j hi hj e => by
        by_cases h1 : i < c <;> by_cases h2 : j < c <;> simp only [h1, h2, if_true, if_false] at e
        · exact hinj i j h1 h2 e
        · exact absurd e (hfresh i h1)
        · exact absurd e.symm (hfresh j h2)
        · omega)
      omega
    rw [if_neg hu, if_pos (show nI c < (64 : Int32) from nI_lt (b := 64) hc64 (by decide)), ix_nI hc64 (by decide), cl_nI (by omega), hlow]
    refine ⟨vp_updL rows c rest, vp_updL leads c (b1 k), ?_, by omega, ⟨fun i => if i < c then b i else k, fun i hi => ?_⟩, ?_⟩
    · simp only [gd, bnd]
      rw [← nI_1]
    · by_cases h : i < c
      · have hb := hL i h
        simp only [h, if_true]
        rw [uL_n (show i ≠ c by omega), uL_n (show i ≠ c by omega)]
        refine ⟨hb.1, hb.2.1, hb.2.2.1, hb.2.2.2.1, fun i' h1 h2 => ?_⟩
        by_cases e : i' = c
        · subst e; rw [uL_s]; exact hz i h
        · rw [uL_n e]; exact hb.2.2.2.2 i' h1 (by omega)
      · have e : i = c := by omega
        subst e
        simp only [h, if_false]
        rw [uL_s, uL_s]
        exact ⟨hk, rfl, hk1.1, hk1.2, fun i' h1 h2 => by omega⟩
    · intro u
      have e1 : rl (vp_updL rows c rest) (c + 1) = rest :: rl rows c := by
        simp only [rl]
        rw [uL_s, rl_congr (r2 := rows) (fun i hi => uL_n (by omega))]
      rw [e1]
      refine sp_cons_iff hsp ?_ u
      rw [x_comm]; exact hs
theorem add_loop {rows leads : Nat → Int64} {c : Nat} {Lm v : Int64} {l : List Int64} {b : Nat → Nat} (hc : c ≤ 64) (hL : LD rows leads c Lm b) (hsp : ∀ v, sp l v ↔ sp (rl rows c) v) : ∀ k i n rest, i + k = c → k < n → sp l (rest ^^^ v) → (∀ j, j < i → tb rest (b j) = false) →
    ∃ rest', sp l (rest' ^^^ v) ∧ (∀ j, j < c → tb rest' (b j) = false) ∧ ((rest' &&& Lm = 0 ∧ f_X0_add_7 Lm n (nI i) rows leads rest (nI c) = some (0, rows, leads, rest', nI c)) ∨ (rest' &&& Lm ≠ 0 ∧ ∃ rows' leads', f_X0_add_7 Lm n (nI i) rows leads rest (nI c) = some (1, rows', leads', rest', nI (c + 1)) ∧ CB rows' leads' (c + 1) Lm (v :: l))) := by
  intro k
  induction k with
  | zero =>
    intro i n rest h1 h2 hs hz
    obtain ⟨n, rfl⟩ : ∃ n', n = n' + 1 := ⟨n - 1, by omega⟩
    have e : i = c := by omega
    subst e
    refine ⟨rest, hs, hz, ?_⟩
    rw [f_X0_add_7, if_pos (nI_le (Nat.le_refl _) (by omega))]
    exact add_end hc hL hsp hs hz
  | succ k ih =>
    intro i n rest h1 h2 hs hz
    obtain ⟨n, rfl⟩ : ∃ n', n = n' + 1 := ⟨n - 1, by omega⟩
    have hic : i < c := by omega
    have hb := hL i hic
    rw [f_X0_add_7, if_neg (nI_ge hic (by omega)), if_neg (show ¬ (64 : Int32) ≤ nI i from nI_ge (b := 64) (by omega) (by decide)), ix_nI (show i < 64 by omega) (by decide), cl_nI (show i < 2 ^ 31 by omega), nI_1]
    simp only [gd, bnd]
    by_cases h0 : tb rest (b i) = false
    · rw [if_pos (by rw [hb.2.1]; exact (and_b1 rest hb.1).mpr h0)]
      exact ih (i + 1) n rest (by omega) (by omega) hs (fun j hj => by
        by_cases e : j = i
        · subst e; exact h0
        · exact hz j (by omega))
    · rw [if_neg (by rw [hb.2.1]; exact fun h => h0 ((and_b1 rest hb.1).mp h))]
      refine ih (i + 1) n (rest ^^^ rows i) (by omega) (by omega) ?_ (fun j hj => ?_)
      · have := sp_xor hs ((hsp _).mpr (sp_mem (rl_mem rows hic)))
        rw [x_assoc, x_comm v (rows i), ← x_assoc] at this
        exact this
      · rw [tb_xor]
        by_cases e : j = i
        · subst e
          rw [hb.2.2.1]
          have : tb rest (b j) = true := by simpa using h0
          rw [this]; rfl
        · rw [hz j (by omega), (hL j (by omega)).2.2.2.2 i (by omega) hic]; rfl
theorem f_add {rows leads : Nat → Int64} {c : Nat} {Lm : Int64} {l : List Int64} (hB : CB rows leads c Lm l) (v rest0 : Int64) :
    ∃ rest', sp l (rest' ^^^ v) ∧ (sp l v → rest' = 0) ∧ ((rest' &&& Lm = 0 ∧ f_X0_add Lm v rows leads rest0 (nI c) = some (0, rows, leads, rest', nI c)) ∨ (rest' &&& Lm ≠ 0 ∧ ∃ rows' leads', f_X0_add Lm v rows leads rest0 (nI c) = some (1, rows', leads', rest', nI (c + 1)) ∧ CB rows' leads' (c + 1) Lm (v :: l))) := by
  obtain ⟨hc, ⟨b, hL⟩, hsp⟩ := hB
  obtain ⟨rest', h1, h2, h3⟩ := add_loop (v := v) hc hL hsp c 0 FU v (by omega) (Nat.lt_of_le_of_lt hc (by decide)) (by rw [x_self]; exact sp_0 l) (fun j hj => by omega)
  refine ⟨rest', h1, fun hv => ?_, h3⟩
  have := sp_xor h1 hv
  rw [x_can] at this
  exact ech hL _ ((hsp _).mp this) h2
theorem and_m1 (x : Int64) : x &&& (-1) = x := tb_ext (fun i hi => by rw [tb_and, tb_m1 ⟨i, hi⟩, Bool.and_true])
theorem f_addAll {rows leads : Nat → Int64} {c : Nat} {l : List Int64} (hB : CB rows leads c (-1) l) (v rest0 : Int64) :
    ∃ rows' leads' rest' c', f_X0_add (-1) v rows leads rest0 (nI c) = some (tf (!dq (sp l v)), rows', leads', rest', nI c') ∧ CB rows' leads' c' (-1) (v :: l) := by
  obtain ⟨rest', hs, hv0, h | h⟩ := f_add hB v rest0
  · rw [and_m1] at h
    have hv : sp l v := by
      have := hs
      rw [h.1, x_0l] at this
      exact this
    refine ⟨rows, leads, rest', c, ?_, hB.1, hB.2.1, fun u => ?_⟩
    · rw [h.2, dq_t.mpr hv]; rfl
    · rw [← hB.2.2 u]
      constructor
      · intro hu
        rcases hu with hu | hu
        · exact hu
        · have := sp_xor hu hv; rw [x_can] at this; exact this
      · exact fun hu => Or.inl hu
  · rw [and_m1] at h
    obtain ⟨h0, rows', leads', he, hC⟩ := h
    exact ⟨rows', leads', rest', c + 1, by rw [he, dq_f.mpr (fun hv => h0 (hv0 hv))]; rfl, hC⟩
theorem CB.nil (rows leads : Nat → Int64) (Lm : Int64) : CB rows leads 0 Lm [] := ⟨by omega, ⟨fun _ => 0, fun i hi => by omega⟩, fun v => Iff.rfl⟩
