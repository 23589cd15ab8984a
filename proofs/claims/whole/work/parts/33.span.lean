/-! ===== pure part: sums modulo 2 ===== -/
def sp : List Int64 → Int64 → Prop
  | [], v => v = 0
  | a :: l, v => sp l v ∨ sp l (v ^^^ a)
noncomputable def dq (P : Prop) : Bool := @decide P (Classical.propDecidable P)
theorem dq_t {P : Prop} : dq P = true ↔ P := by
  unfold dq
  exact @decide_eq_true_iff P (Classical.propDecidable P)
theorem dq_f {P : Prop} : dq P = false ↔ ¬ P := by
  constructor
  · intro h hp
    rw [dq_t.mpr hp] at h
    cases h
  · intro h
    cases hd : dq P with
    | false => rfl
    | true => exact absurd (dq_t.mp hd) h
theorem dq_congr {P Q : Prop} (h : P ↔ Q) : dq P = dq Q := by
  cases hq : dq Q with
  | true => exact dq_t.mpr (h.mpr (dq_t.mp hq))
  | false => exact dq_f.mpr (fun hp => dq_f.mp hq (h.mp hp))
theorem x_comm (a b : Int64) : a ^^^ b = b ^^^ a := tb_ext (fun i _ => by rw [tb_xor, tb_xor, Bool.xor_comm])
theorem x_assoc (a b c : Int64) : (a ^^^ b) ^^^ c = a ^^^ (b ^^^ c) := tb_ext (fun i _ => by simp only [tb_xor, Bool.xor_assoc])
theorem x_self (a : Int64) : a ^^^ a = 0 := tb_ext (fun i _ => by rw [tb_xor, tb_0, Bool.xor_self])
theorem x_0 (a : Int64) : a ^^^ 0 = a := tb_ext (fun i _ => by rw [tb_xor, tb_0, Bool.xor_false])
theorem x_0l (a : Int64) : 0 ^^^ a = a := by rw [x_comm, x_0]
theorem x_can (a b : Int64) : (a ^^^ b) ^^^ b = a := by rw [x_assoc, x_self, x_0]
theorem x_can' (a b : Int64) : a ^^^ (a ^^^ b) = b := by rw [← x_assoc, x_self, x_0l]
theorem x_eq {a b : Int64} (h : a ^^^ b = 0) : a = b := by
  have := x_can a b
  rw [h, x_0l] at this
  exact this.symm
theorem sp_0 (l : List Int64) : sp l 0 := by
  induction l with
  | nil => rfl
  | cons a l ih => exact Or.inl ih
theorem sp_xor {l : List Int64} : ∀ {u v : Int64}, sp l u → sp l v → sp l (u ^^^ v) := by
  induction l with
  | nil => intro u v h1 h2; rw [show u = 0 from h1, show v = 0 from h2]; exact x_self 0
  | cons a l ih =>
    intro u v h1 h2
    rcases h1 with h1 | h1 <;> rcases h2 with h2 | h2
    · exact Or.inl (ih h1 h2)
    · refine Or.inr ?_
      have := ih h1 h2
      rw [← x_assoc] at this
      exact this
    · refine Or.inr ?_
      have := ih h1 h2
      rw [x_assoc, x_comm a v, ← x_assoc] at this
      exact this
    · refine Or.inl ?_
      have := ih h1 h2
      rw [x_assoc, x_comm v a, ← x_assoc a a v, x_self, x_0l] at this
      exact this
theorem sp_cons {l : List Int64} {a v : Int64} (h : sp l v) : sp (a :: l) v := Or.inl h
theorem sp_self (l : List Int64) (a : Int64) : sp (a :: l) a := Or.inr (by rw [x_self]; exact sp_0 l)
theorem sp_mem {l : List Int64} {a : Int64} (h : a ∈ l) : sp l a := by
  induction l with
  | nil => cases h
  | cons b l ih =>
    rcases List.mem_cons.mp h with rfl | h
    · exact sp_self l a
    · exact sp_cons (ih h)
theorem sp_le {l m : List Int64} (h : ∀ a ∈ l, sp m a) : ∀ (v : Int64), sp l v → sp m v := by
  induction l with
  | nil => intro v hv; rw [show v = 0 from hv]; exact sp_0 m
  | cons a l ih =>
    intro v hv
    have ih := ih (fun b hb => h b (List.mem_cons_of_mem _ hb))
    rcases hv with hv | hv
    · exact ih v hv
    · have h1 := sp_xor (ih _ hv) (h a List.mem_cons_self)
      rw [x_can] at h1
      exact h1
theorem sp_cons_iff {l m : List Int64} {a b : Int64} (hlm : ∀ v, sp l v ↔ sp m v) (hab : sp l (a ^^^ b)) (v : Int64) : sp (a :: l) v ↔ sp (b :: m) v := by
  constructor
  · intro h
    rcases h with h | h
    · exact Or.inl ((hlm v).mp h)
    · refine Or.inr ((hlm _).mp ?_)
      have := sp_xor h hab
      rw [x_assoc, ← x_assoc a a b, x_self, x_0l] at this
      exact this
  · intro h
    rcases h with h | h
    · exact Or.inl ((hlm v).mpr h)
    · refine Or.inr ?_
      have := sp_xor ((hlm _).mpr h) hab
      rw [x_assoc, x_comm a b, ← x_assoc b b a, x_self, x_0l] at this
      exact this
noncomputable def rk : List Int64 → Nat
  | [] => 0
  | a :: l => rk l + (!dq (sp l a)).toNat
/-- the reference's base: by the highest bits -/
def hbt (v : Int64) (k : Nat) : Prop := tb v k = true ∧ ∀ j, k < j → j < 64 → tb v j = false
def BM (base : Nat → Int64) (l : List Int64) : Prop := (∀ k, k < 64 → base k ≠ 0 → hbt (base k) k ∧ sp l (base k)) ∧ ∀ v, sp l v → v ≠ 0 → ∃ k, k < 64 ∧ base k ≠ 0 ∧ hbt v k
theorem hb_ex {v : Int64} (h : v ≠ 0) : ∃ k, k < 64 ∧ hbt v k := by
  have key : ∀ m, m ≤ 64 → (∀ j, m ≤ j → j < 64 → tb v j = false) → ∃ k, k < 64 ∧ hbt v k := by
    intro m
    induction m with
    | zero => intro _ hz; exact absurd (eq0_iff.mpr (fun i hi => hz i (Nat.zero_le _) hi)) h
    | succ m ih =>
      intro hm hz
      by_cases hb : tb v m = true
      · exact ⟨m, by omega, hb, fun j h1 h2 => hz j (by omega) h2⟩
      · refine ih (by omega) (fun j h1 h2 => ?_)
        by_cases hj : j = m
        · subst hj; simpa using hb
        · exact hz j (by omega) h2
  exact key 64 (Nat.le_refl _) (fun j h1 h2 => by omega)
theorem hb_uniq {v : Int64} {k j : Nat} (hk : k < 64) (hj : j < 64) (h1 : hbt v k) (h2 : hbt v j) : k = j := by
  rcases Nat.lt_trichotomy k j with h | h | h
  · have := h1.2 j h hj; rw [h2.1] at this; cases this
  · exact h
  · have := h2.2 k h hk; rw [h1.1] at this; cases this
theorem hb_ne {v : Int64} {k : Nat} (h : hbt v k) : v ≠ 0 := by
  intro e
  have := h.1
  rw [e, tb_0] at this
  cases this
theorem uL_s (f : Nat → Int64) (k : Nat) (x : Int64) : vp_updL f k x k = x := pk_uLs
theorem uL_n {f : Nat → Int64} {k j : Nat} {x : Int64} (h : j ≠ k) : vp_updL f k x j = f j := pk_uLn h
theorem ix_nI {k N : Nat} (h : k < N) (hN : N < 2 ^ 31) : ix (nI k) N = true := by
  unfold ix
  rw [nI_clamp (by omega)]
  simp [nI_pos (n := k) (by omega), h]
theorem cl_nI {k : Nat} (h : k < 2 ^ 31) : (nI k).toNatClampNeg = k := nI_clamp h
theorem bit0_iff (x : Int64) {k : Nat} (hk : k < 64) : ((x >>> ((nI k).toInt64 &&& 63)) &&& 1) = 0 ↔ tb x k = false := by
  rw [bit_shr x hk]
  cases tb x k
  · simp
  · simp
theorem lays_loop {base : Nat → Int64} {l : List Int64} {v : Int64} (hB : BM base l) : ∀ m n w, m ≤ 64 → m < n → (∀ j, m ≤ j → j < 64 → tb w j = false) → sp l (w ^^^ v) → ∃ R, f_X9_lays_6 n w (nI m + (-1)) base = some R ∧ ((R = (0, base) ∧ sp l v) ∨ (R.1 = 1 ∧ ¬ sp l v ∧ BM R.2 (v :: l) ∧ ∃ k x, k < 64 ∧ base k = 0 ∧ x ≠ 0 ∧ R.2 = vp_updL base k x)) := by
  intro m
  induction m with
  | zero =>
    intro n w _ hn hz hs
    obtain ⟨n, rfl⟩ : ∃ n', n = n' + 1 := ⟨n - 1, by omega⟩
    refine ⟨(0, base), ?_, Or.inl ⟨rfl, ?_⟩⟩
    · rw [f_X9_lays_6, if_pos (show nI 0 + (-1) < 0 by decide)]
    · have hw : w = 0 := eq0_iff.mpr (fun i hi => hz i (Nat.zero_le _) hi)
      rw [hw, x_0l] at hs
      exact hs
  | succ m ih =>
    intro n w hm hn hz hs
    obtain ⟨n, rfl⟩ : ∃ n', n = n' + 1 := ⟨n - 1, by omega⟩
    have hm64 : m < 64 := by omega
    have e1 : nI (m + 1) + (-1) = nI m := pk_m1 m
    rw [f_X9_lays_6, e1, if_neg (nI_pos (by omega))]
    by_cases hb : tb w m = false
    · rw [if_pos ((bit0_iff w hm64).mpr hb)]
      refine ih n w (by omega) (by omega) (fun j h1 h2 => ?_) hs
      by_cases hj : j = m
      · subst hj; exact hb
      · exact hz j (by omega) h2
    · have hb1 : tb w m = true := by simpa using hb
      have hw : hbt w m := ⟨hb1, fun j h1 h2 => hz j (by omega) h2⟩
      rw [if_neg (fun h => hb ((bit0_iff w hm64).mp h))]
      rw [ix_nI hm64 (by decide), cl_nI (show m < 2 ^ 31 by omega)]
      by_cases h0 : base m = 0
      · refine ⟨(1, vp_updL base m w), ?_, Or.inr ⟨rfl, ?_, ?_, m, w, hm64, h0, hb_ne hw, rfl⟩⟩
        · simp only [gd]
          rw [if_pos h0]
        · intro hv
          have h1 := sp_xor hs hv
          rw [x_can] at h1
          obtain ⟨k, hk, hbk, hh⟩ := hB.2 w h1 (hb_ne hw)
          have := hb_uniq hk hm64 hh hw
          subst this
          exact hbk h0
        · have swv : sp (v :: l) w := Or.inr hs
          show BM (vp_updL base m w) (v :: l)
          refine ⟨fun k hk hne => ?_, fun u hu hu0 => ?_⟩
          · by_cases hkm : k = m
            · subst hkm
              rw [uL_s]
              exact ⟨hw, swv⟩
            · rw [uL_n hkm] at hne ⊢
              exact ⟨(hB.1 k hk hne).1, sp_cons (hB.1 k hk hne).2⟩
          · rcases hu with hu | hu
            · obtain ⟨k, hk, hbk, hh⟩ := hB.2 u hu hu0
              have hkm : k ≠ m := fun e => by subst e; exact hbk h0
              exact ⟨k, hk, by rw [uL_n hkm]; exact hbk, hh⟩
            · have ht : sp l (u ^^^ w) := by
                have := sp_xor hu hs
                rw [x_assoc, x_comm w v, ← x_assoc v v w, x_self, x_0l] at this
                exact this
              by_cases ht0 : u ^^^ w = 0
              · have := x_eq ht0
                subst this
                exact ⟨m, hm64, by rw [uL_s]; exact hb_ne hw, hw⟩
              · obtain ⟨k, hk, hbk, hh⟩ := hB.2 _ ht ht0
                have hkm : k ≠ m := fun e => by subst e; exact hbk h0
                have eu : u = (u ^^^ w) ^^^ w := (x_can u w).symm
                rcases Nat.lt_or_gt_of_ne hkm with h | h
                · refine ⟨m, hm64, by rw [uL_s]; exact hb_ne hw, ?_, fun j h1 h2 => ?_⟩
                  · rw [eu, tb_xor, hw.1, hh.2 m h hm64]; rfl
                  · rw [eu, tb_xor, hw.2 j h1 h2, hh.2 j (by omega) h2]; rfl
                · refine ⟨k, hk, by rw [uL_n hkm]; exact hbk, ?_, fun j h1 h2 => ?_⟩
                  · rw [eu, tb_xor, hw.2 k h hk, hh.1]; rfl
                  · rw [eu, tb_xor, hw.2 j (by omega) h2, hh.2 j h1 h2]; rfl
      · have hbm := hB.1 m hm64 h0
        simp only [gd, bnd]
        rw [if_neg h0]
        refine ih n (w ^^^ base m) (by omega) (by omega) (fun j h1 h2 => ?_) ?_
        · rw [tb_xor]
          by_cases hj : j = m
          · subst hj; rw [hb1, hbm.1.1]; rfl
          · rw [hz j (by omega) h2, hbm.1.2 j (by omega) h2]; rfl
        · have := sp_xor hs hbm.2
          rw [x_assoc, x_comm v (base m), ← x_assoc] at this
          exact this
theorem f_lays {base : Nat → Int64} {l : List Int64} (hB : BM base l) (v : Int64) : ∃ b', f_X9_lays v base = some (tf (!dq (sp l v)), b') ∧ BM b' (v :: l) := by
  obtain ⟨R, h1, h2⟩ := lays_loop hB 64 FU v (Nat.le_refl _) (by decide) (fun j h1 h2 => by omega) (by rw [x_self]; exact sp_0 l)
  have e : f_X9_lays v base = f_X9_lays_6 FU v (nI 64 + (-1)) base := rfl
  rcases h2 with ⟨rfl, hs⟩ | ⟨hr, hs, hB2, -⟩
  · refine ⟨base, ?_, ?_⟩
    · rw [e, h1, dq_t.mpr hs]; rfl
    · have hsp : ∀ u, sp (v :: l) u ↔ sp l u := fun u => ⟨fun h => by
        rcases h with h | h
        · exact h
        · have := sp_xor h hs; rw [x_can] at this; exact this, fun h => Or.inl h⟩
      exact ⟨fun k hk hne => ⟨(hB.1 k hk hne).1, (hsp _).mpr (hB.1 k hk hne).2⟩, fun u hu hu0 => hB.2 u ((hsp u).mp hu) hu0⟩
  · refine ⟨R.2, ?_, hB2⟩
    rw [e, h1, dq_f.mpr hs]
    have : R = (R.1, R.2) := rfl
    rw [this, hr]
    rfl
theorem f_clear (base : Nat → Int64) : ∃ b', f_X9_clear base = some b' ∧ BM b' [] := by
  have h := loop_up (fun n i (s : Nat → Int64) => f_X9_clear_2 n (nI i) s) 64 (fun i s => vp_updL s i 0) (fun s => some s) (fun i s => ∀ j, j < i → s j = 0)
    (fun n s _ => by
      show f_X9_clear_2 (n + 1) (nI 64) s = some s
      rw [f_X9_clear_2, if_pos (show (64 : Int32) ≤ nI 64 from by decide)])
    (fun n i s hi hI => by
      refine ⟨?_, ?_⟩
      · show f_X9_clear_2 (n + 1) (nI i) s = f_X9_clear_2 n (nI (i + 1)) (vp_updL s i 0)
        rw [f_X9_clear_2, if_neg (show ¬ (64 : Int32) ≤ nI i from nI_ge (b := 64) hi (by decide)), ix_nI hi (by decide), cl_nI (by omega), ← nI_1]
        rfl
      · intro j hj
        by_cases h : j = i
        · subst h; exact uL_s s j 0
        · rw [uL_n h]; exact hI j (by omega)) 64 0 FU base rfl (by decide) (fun j hj => by omega)
  refine ⟨_, h.1, fun k hk hne => absurd (h.2 k hk) hne, fun v hv h0 => absurd hv h0⟩
