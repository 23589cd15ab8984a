/-! ===== pure part: closed marks ===== -/
theorem uniq_of {rows leads : Nat → Int64} {c : Nat} {Lm : Int64} {l : List Int64} {b : Nat → Nat} (hL : LD rows leads c Lm b) (hsp : ∀ v, sp l v ↔ sp (rl rows c) v) {v rest' : Int64} (h1 : sp l (rest' ^^^ v)) (h2 : ∀ j, j < c → tb rest' (b j) = false) : ∀ d, sp l d → (v ^^^ d) &&& Lm = 0 → rest' = v ^^^ d := by
  intro d hd h0
  refine x_eq (ech hL _ ((hsp _).mp ?_) (fun i hi => ?_))
  · have := sp_xor h1 hd
    rw [x_assoc] at this
    exact this
  · have hb := hL i hi
    have e1 := eq0_iff.mp h0 (b i) hb.1
    rw [tb_and, hb.2.2.2.1, Bool.and_true] at e1
    rw [tb_xor, h2 i hi, e1]; rfl
theorem f_addU {rows leads : Nat → Int64} {c : Nat} {Lm : Int64} {l : List Int64} (hB : CB rows leads c Lm l) (v rest0 : Int64) :
    ∃ rest', sp l (rest' ^^^ v) ∧ (∀ d, sp l d → (v ^^^ d) &&& Lm = 0 → rest' = v ^^^ d) ∧ ((rest' &&& Lm = 0 ∧ f_X0_add Lm v rows leads rest0 (nI c) = some (0, rows, leads, rest', nI c)) ∨ (rest' &&& Lm ≠ 0 ∧ ∃ rows' leads', f_X0_add Lm v rows leads rest0 (nI c) = some (1, rows', leads', rest', nI (c + 1)) ∧ CB rows' leads' (c + 1) Lm (v :: l))) := by
  obtain ⟨hc, ⟨b, hL⟩, hsp⟩ := hB
  obtain ⟨rest', h1, h2, h3⟩ := add_loop (v := v) hc hL hsp c 0 FU v (by omega) (Nat.lt_of_le_of_lt hc (by decide)) (by rw [x_self]; exact sp_0 l) (fun j hj => by omega)
  exact ⟨rest', h1, uniq_of hL hsp h1 h2, h3⟩
/-- u is, up to sums of l, without bits of nx -/
def dep (nx : Int64) (l : List Int64) (u : Int64) : Prop := ∃ d, sp l d ∧ (u ^^^ d) &&& nx = 0
noncomputable def clo1 (nx : Int64) (l : List Int64) (u : Int64) : Int64 := @dite _ (dep nx l u) (Classical.propDecidable _) (fun h => u ^^^ Classical.choose h) (fun _ => 0)
theorem clo1_s {nx u : Int64} {l : List Int64} (h : dep nx l u) : sp l (clo1 nx l u ^^^ u) ∧ clo1 nx l u &&& nx = 0 := by
  have hs := Classical.choose_spec h
  have e : clo1 nx l u = u ^^^ Classical.choose h := by
    unfold clo1
    rw [dif_pos h]
  rw [e]
  refine ⟨?_, hs.2⟩
  rw [x_comm, ← x_assoc, x_self, x_0l]
  exact hs.1
/-- the accepted ones, and the closed marks, as the sets are gone through; the newest first -/
noncomputable def cst (P : Nat → Bool) (u : Nat → Int64) (nx : Int64) : Nat → List Int64 × List Int64
  | 0 => ([], [])
  | m + 1 => if P m = true then (match dq (dep nx (cst P u nx m).1 (u m)) with
      | true => ((cst P u nx m).1, clo1 nx (cst P u nx m).1 (u m) :: (cst P u nx m).2)
      | false => (u m :: (cst P u nx m).1, (cst P u nx m).2)) else cst P u nx m
theorem cst_skip {P : Nat → Bool} {u : Nat → Int64} {nx : Int64} {m : Nat} (h : P m = false) : cst P u nx (m + 1) = cst P u nx m := by
  show (if P m = true then _ else _) = _
  rw [if_neg (by rw [h]; decide)]
theorem cst_dep {P : Nat → Bool} {u : Nat → Int64} {nx : Int64} {m : Nat} (h : P m = true) (hd : dep nx (cst P u nx m).1 (u m)) : cst P u nx (m + 1) = ((cst P u nx m).1, clo1 nx (cst P u nx m).1 (u m) :: (cst P u nx m).2) := by
  show (if P m = true then _ else _) = _
  rw [if_pos h, dq_t.mpr hd]
theorem cst_new {P : Nat → Bool} {u : Nat → Int64} {nx : Int64} {m : Nat} (h : P m = true) (hd : ¬ dep nx (cst P u nx m).1 (u m)) : cst P u nx (m + 1) = (u m :: (cst P u nx m).1, (cst P u nx m).2) := by
  show (if P m = true then _ else _) = _
  rw [if_pos h, dq_f.mpr hd]
/-- a row holds the list, the newest last -/
def RI (row : Nat → Int64) : List Int64 → Prop
  | [] => True
  | x :: l => row l.length = x ∧ RI row l
theorem RI_up {row : Nat → Int64} {l : List Int64} {k : Nat} {x : Int64} (h : RI row l) (hk : l.length ≤ k) : RI (vp_updL row k x) l := by
  induction l with
  | nil => trivial
  | cons y l ih =>
    simp only [List.length_cons] at hk
    exact ⟨by rw [uL_n (by omega)]; exact h.1, ih h.2 (by omega)⟩
theorem RI_push {row : Nat → Int64} {l : List Int64} (x : Int64) (h : RI row l) : RI (vp_updL row l.length x) (x :: l) := ⟨uL_s _ _ _, RI_up h (Nat.le_refl _)⟩
def rowOf (l : List Int64) (i : Nat) : Int64 := l.getD (l.length - 1 - i) 0
theorem RI_get {row : Nat → Int64} {l : List Int64} (h : RI row l) {i : Nat} (hi : i < l.length) : row i = rowOf l i := by
  induction l with
  | nil => simp at hi
  | cons y l ih =>
    simp only [List.length_cons] at hi
    by_cases e : i = l.length
    · subst e
      rw [h.1]
      simp [rowOf]
    · have h2 := ih h.2 (by omega)
      rw [h2]
      unfold rowOf
      rw [show (y :: l).length - 1 - i = (l.length - 1 - i) + 1 by simp only [List.length_cons]; omega]
      simp
theorem cst_len (P : Nat → Bool) (u : Nat → Int64) (nx : Int64) (m : Nat) : (cst P u nx m).1.length + (cst P u nx m).2.length = (vl P (fun _ => 0) m).length := by
  induction m with
  | zero => rfl
  | succ m ih =>
    cases hP : P m with
    | false =>
      rw [cst_skip hP, ih]
      show _ = (if P m = true then _ else _ : List Int64).length
      rw [if_neg (by rw [hP]; decide)]
    | true =>
      have e : (vl P (fun _ => 0) (m + 1)).length = (vl P (fun _ => 0) m).length + 1 := by
        show (if P m = true then _ else _ : List Int64).length = _
        rw [if_pos hP]; rfl
      rw [e, ← ih]
      by_cases hd : dep nx (cst P u nx m).1 (u m)
      · rw [cst_dep hP hd]; simp only [List.length_cons]; omega
      · rw [cst_new hP hd]; simp only [List.length_cons]; omega
/-- a mark and its rise -/
def um (F : Int64) (p n s : Nat) : Int64 := b1 s ^^^ (abv s &&& mk (fp F p (n + 1)) 64)
theorem or_xor {F : Int64} {p n s : Nat} (hs : s < 64) : b1 s ||| (abv s &&& mk (fp F p (n + 1)) 64) = um F p n s := by
  refine tb_ext (fun i hi => ?_)
  unfold um
  rw [tb_or, tb_xor, tb_b1 hs hi, tb_and, tb_abv hi]
  by_cases e : i = s
  · subst e
    have : ¬ sz i + 1 = sz i := by omega
    simp [this]
  · simp [e]
