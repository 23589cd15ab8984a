/-! the class's search for turns: the whole tree -/
def RC (N : Nat) (re : Nat → Int32) (S : Nat → Nat → Prop) : Prop := ∀ p, p < N → ∃ m, m < 64 ∧ re p = nI m ∧ ∀ q, m.testBit q = true ↔ S p q
theorem RC.congr {N : Nat} {re : Nat → Int32} {S T : Nat → Nat → Prop} (h : RC N re S) (e : ∀ p q, p < N → (S p q ↔ T p q)) : RC N re T := by
  intro p hp
  obtain ⟨m, h1, h2, h3⟩ := h p hp
  exact ⟨m, h1, h2, fun q => (h3 q).trans (e p q hp)⟩
theorem f_tally {N c : Nat} {l : List Nat} {v re : Nat → Int32} {S : Nat → Nat → Prop} (hN : N ≤ 6) (hl : ∀ i, i < N → l.getD i 0 < 6) (hv : ∀ s, s < 2 ^ N → v s = nI (im l N s)) (hR : RC N re S) :
    ∃ re', f_X7_tally v (nI N) re (nI c) = some (re', nI (c + 1)) ∧ RC N re' (fun p q => S p q ∨ l.getD p 0 = q) := by
  have key : ∀ d p m (re : Nat → Int32) (c : Int32), p + d = N → d < m → RC N re (fun i q => S i q ∨ (i < p ∧ l.getD i 0 = q)) → ∃ re', f_X7_tally_12 v (nI N) m (nI p) re c = some (re', c) ∧ RC N re' (fun p q => S p q ∨ l.getD p 0 = q) := by
    intro d
    induction d with
    | zero =>
      intro p m re c h1 h2 hR
      obtain ⟨m, rfl⟩ : ∃ m', m = m' + 1 := ⟨m - 1, by omega⟩
      have e : p = N := by omega
      subst e
      refine ⟨re, by rw [f_X7_tally_12, if_pos (nI_le (Nat.le_refl _) (by omega))], hR.congr (fun i q hi => ?_)⟩
      exact ⟨fun h => h.elim Or.inl (fun h => Or.inr h.2), fun h => h.elim Or.inl (fun h => Or.inr ⟨hi, h⟩)⟩
    | succ d ih =>
      intro p m re c h1 h2 hR
      obtain ⟨m, rfl⟩ : ∃ m', m = m' + 1 := ⟨m - 1, by omega⟩
      have h32 := pow5 (show p < 6 by omega)
      have hlt : 2 ^ p < 2 ^ N := Nat.pow_lt_pow_right (by decide) (by omega)
      obtain ⟨x, x1, x2, x3⟩ := hR p (by omega)
      have hq := hl p (by omega)
      have hq64 : 2 ^ (l.getD p 0) < 64 := by have := pow5 hq; omega
      rw [f_X7_tally_12, if_neg (nI_ge (show p < N by omega) (by omega)), if_neg (show ¬ (6 : Int32) ≤ nI p from nI_ge (b := 6) (by omega) (by decide)), six6 (show p < 6 by omega), f_pow (show p ≤ 6 by omega), ix_nI (show 2 ^ p < 64 by omega) (by decide), cl_nI (show p < 2 ^ 31 by omega), cl_nI (show 2 ^ p < 2 ^ 31 by omega), hv _ hlt, im_one, if_pos (show p < N by omega), x2, nI_or x1 hq64, nI_1]
      simp only [gd, bnd]
      refine ih (p + 1) m _ c (by omega) (by omega) (fun i hi => ?_)
      by_cases e : i = p
      · subst e
        refine ⟨x ||| 2 ^ (l.getD i 0), or_lt64 x1 hq64, by rw [up_s], fun q => ?_⟩
        rw [Nat.testBit_or, Nat.testBit_two_pow, Bool.or_eq_true, x3 q, decide_eq_true_iff]
        constructor
        · rintro ((h | h) | h)
          · exact Or.inl h
          · omega
          · exact Or.inr ⟨by omega, h⟩
        · rintro (h | h)
          · exact Or.inl (Or.inl h)
          · exact Or.inr h.2
      · obtain ⟨y, y1, y2, y3⟩ := hR i hi
        refine ⟨y, y1, by rw [up_n e]; exact y2, fun q => (y3 q).trans ?_⟩
        constructor
        · rintro (h | h)
          · exact Or.inl h
          · exact Or.inr ⟨by omega, h.2⟩
        · rintro (h | h)
          · exact Or.inl h
          · exact Or.inr ⟨by omega, h.2⟩
  unfold f_X7_tally f_X7_tally_0
  rw [show nI c + (1 : Int32) = nI (c + 1) from nI_1 c]
  exact key N 0 FU re _ (by omega) (Nat.lt_of_lt_of_le (show N < 7 by omega) (by decide)) (hR.congr (fun i q _ => ⟨Or.inl, fun h => h.elim id (fun h => by omega)⟩))
theorem ctl_app (P : List Nat → Bool) (b : List (List Nat)) : ∀ a, ctl P (a ++ b) = ctl P a + ctl P b := by
  intro a
  induction a with
  | nil => simp [ctl]
  | cons x a ih => simp only [List.cons_append, ctl, ih]; omega
theorem ctl_0 {P : List Nat → Bool} : ∀ {a : List (List Nat)}, (∀ x ∈ a, P x = false) → ctl P a = 0 := by
  intro a
  induction a with
  | nil => intro _; rfl
  | cons x a ih =>
    intro h
    simp only [ctl]
    rw [h x List.mem_cons_self, ih (fun y hy => h y (List.mem_cons_of_mem _ hy))]
    rfl
def US (u : Nat) (pre : List Nat) : Prop := u < 64 ∧ ∀ q, q < 6 → u.testBit q = pre.contains q
theorem US.snoc {u q : Nat} {pre : List Nat} (h : US u pre) (hq : q < 6) : US (u ||| 2 ^ q) (pre ++ [q]) := by
  refine ⟨or_lt64 h.1 (by have := pow5 hq; omega), fun x hx => ?_⟩
  rw [Nat.testBit_or, Nat.testBit_two_pow, h.2 x hx, Bool.eq_iff_iff, Bool.or_eq_true, decide_eq_true_iff, List.contains_iff_mem, List.contains_iff_mem, List.mem_append, List.mem_singleton]
  exact ⟨fun h => h.elim Or.inl (fun h => Or.inr h.symm), fun h => h.elim Or.inl (fun h => Or.inr h.symm)⟩
def fm (F : Int64) (N : Nat) (l : List Nat) : Bool := pf F l N
theorem place_spec {N : Nat} {F : Int64} (h1N : 1 ≤ N) (hN : N ≤ 6) : ∀ (d k fu u c : Nat) (pre : List Nat) (v re : Nat → Int32) (S : Nat → Nat → Prop), k + d = N → d < fu → pre.length = k → (∀ i, i < k → pre.getD i 0 < 6) → US u pre → (∀ s, s < 2 ^ k → v s = nI (im pre k s)) → pf F pre k = true → RC N re S →
    ∃ v' re', f_X7_place (nI N) F fu (nI k) (nI u) v re (nI c) = some (v', re', nI (c + ctl (fm F N) (dfs N d pre))) ∧ (∀ s, s < 2 ^ k → v' s = nI (im pre k s)) ∧ RC N re' (fun p q => S p q ∨ ∃ l ∈ dfs N d pre, fm F N l = true ∧ l.getD p 0 = q) := by
  intro d
  induction d with
  | zero =>
    intro k fu u c pre v re S h1 h2 hlen hpre hU hv hpf hR
    obtain ⟨fu, rfl⟩ : ∃ f', fu = f' + 1 := ⟨fu - 1, by omega⟩
    have e : k = N := by omega
    subst e
    obtain ⟨re', e1, hR'⟩ := f_tally (c := c) hN hpre hv hR
    refine ⟨v, re', ?_, hv, ?_⟩
    · rw [f_X7_place, f_X7_place_0, if_pos (nI_le (Nat.le_refl _) (by omega)), f_X7_place_14, sbg e1]
      have : ctl (fm F k) (dfs k 0 pre) = 1 := by
        simp only [dfs, ctl, fm, hpf]
        rfl
      rw [this]
    · refine hR'.congr (fun p q _ => ?_)
      simp only [dfs, List.mem_singleton]
      constructor
      · rintro (h | h)
        · exact Or.inl h
        · exact Or.inr ⟨pre, rfl, hpf, h⟩
      · rintro (h | ⟨l, e, _, h⟩)
        · exact Or.inl h
        · rw [e] at h; exact Or.inr h
  | succ d ih =>
    intro k fu u c pre v re S h1 h2 hlen hpre hU hv hpf hR
    obtain ⟨fu, rfl⟩ : ∃ f', fu = f' + 1 := ⟨fu - 1, by omega⟩
    have hk : k < 6 := by omega
    have loop : ∀ e q m c (v re : Nat → Int32) (S : Nat → Nat → Prop), q + e = N → e < m → (∀ s, s < 2 ^ k → v s = nI (im pre k s)) → RC N re S →
        ∃ v' re', f_X7_place_21 (nI N) F (f_X7_place (nI N) F fu) m (nI k) (nI u) (nI q) v re (nI c) = some (v', re', nI (c + ctl (fm F N) ((List.range' q e).flatMap (fun q => if pre.contains q then [] else dfs N d (pre ++ [q]))))) ∧ (∀ s, s < 2 ^ k → v' s = nI (im pre k s)) ∧ RC N re' (fun p x => S p x ∨ ∃ l ∈ (List.range' q e).flatMap (fun q => if pre.contains q then [] else dfs N d (pre ++ [q])), fm F N l = true ∧ l.getD p 0 = x) := by
      intro e
      induction e with
      | zero =>
        intro q m c v re S g1 g2 hv hR
        obtain ⟨m, rfl⟩ : ∃ m', m = m' + 1 := ⟨m - 1, by omega⟩
        refine ⟨v, re, ?_, hv, ?_⟩
        · rw [f_X7_place_21, if_pos (nI_le (show N ≤ q by omega) (by omega))]
          rfl
        · exact hR.congr (fun p x _ => ⟨Or.inl, fun h => h.elim id (fun ⟨l, h, _⟩ => absurd h (by simp))⟩)
      | succ e ihe =>
        intro q m c v re S g1 g2 hv hR
        obtain ⟨m, rfl⟩ : ∃ m', m = m' + 1 := ⟨m - 1, by omega⟩
        have hq : q < 6 := by omega
        rw [f_X7_place_21, if_neg (nI_ge (show q < N by omega) (by omega)), sbg (t_hasPoint ⟨u, hU.1⟩ ⟨q, by omega⟩), hU.2 q hq, nI_1, nI_1, f_pow (show q ≤ 6 by omega), nI_or hU.1 (show 2 ^ q < 64 by have := pow5 hq; omega), List.range'_succ, List.flatMap_cons, ctl_app]
        cases hc : pre.contains q with
        | true =>
          rw [if_neg (by decide)]
          obtain ⟨v', re', a1, a2, a3⟩ := ihe (q + 1) m c v re S (by omega) (by omega) hv hR
          refine ⟨v', re', ?_, a2, ?_⟩
          · rw [a1, if_pos rfl, ctl, Nat.zero_add]
          · rw [if_pos rfl, List.nil_append]; exact a3
        | false =>
          rw [if_pos (by decide)]
          obtain ⟨v1, b1, b2, b3⟩ := f_fits (F := F) hk hq hpre v hv
          rw [sbg b1, if_neg (show ¬ false = true by decide)]
          simp only
          have hst := pf_snoc (q := q) hlen hpf
          cases hal : alb (stp F pre k q) 0 (2 ^ k) with
          | false =>
            rw [hal] at hst
            rw [if_pos (by decide)]
            have hno : ∀ l ∈ dfs N d (pre ++ [q]), fm F N l = false := by
              intro l hl
              obtain ⟨suf, e1, e2⟩ := dfs_pre hl
              cases hf : fm F N l with
              | false => rfl
              | true =>
                unfold fm at hf
                rw [e1] at hf
                have := pf_pre (k := k + 1) (by simp [hlen]) (by omega) hf
                rw [hst] at this
                exact absurd this (by decide)
            obtain ⟨v', re', a1, a2, a3⟩ := ihe (q + 1) m c v1 re S (by omega) (by omega) b2 hR
            refine ⟨v', re', ?_, a2, ?_⟩
            · rw [a1, ctl_0 hno, Nat.zero_add]
            · refine a3.congr (fun p x _ => ?_)
              constructor
              · rintro (h | ⟨l, h, h'⟩)
                · exact Or.inl h
                · exact Or.inr ⟨l, List.mem_append_right _ h, h'⟩
              · rintro (h | ⟨l, h, h'⟩)
                · exact Or.inl h
                · rcases List.mem_append.mp h with h | h
                  · rw [hno l h] at h'; exact absurd h'.1 (by decide)
                  · exact Or.inr ⟨l, h, h'⟩
          | true =>
            rw [hal] at hst
            rw [if_neg (by decide)]
            have hpre2 : ∀ i, i < k + 1 → (pre ++ [q]).getD i 0 < 6 := by
              intro i hi
              by_cases e : i = k
              · subst e; rw [gd_snoc hlen]; exact hq
              · rw [gd_app _ _ (by omega)]; exact hpre i (by omega)
            have hv1 : ∀ s, s < 2 ^ (k + 1) → v1 s = nI (im (pre ++ [q]) (k + 1) s) := by
              intro s hs
              rw [Nat.pow_succ] at hs
              by_cases hl : s < 2 ^ k
              · rw [im_snoc_lo hlen hl]; exact b2 s hl
              · have e : s = 2 ^ k + (s - 2 ^ k) := by omega
                rw [e, im_snoc_up hlen (by omega)]
                exact b3 hal _ (by omega)
            obtain ⟨v2, re2, c1, c2, c3⟩ := ih (k + 1) fu (u ||| 2 ^ q) c (pre ++ [q]) v1 re S (by omega) (by omega) (by simp [hlen]) hpre2 (hU.snoc hq) hv1 hst hR
            rw [sbg c1]
            simp only
            obtain ⟨v', re', a1, a2, a3⟩ := ihe (q + 1) m _ v2 re2 _ (by omega) (by omega) (fun s hs => by
              have h2 : s < 2 ^ (k + 1) := by rw [Nat.pow_succ]; omega
              rw [c2 s h2, im_snoc_lo hlen hs]) c3
            refine ⟨v', re', ?_, a2, ?_⟩
            · rw [a1, Nat.add_assoc]
            · refine a3.congr (fun p x _ => ?_)
              constructor
              · rintro ((h | ⟨l, h, h'⟩) | ⟨l, h, h'⟩)
                · exact Or.inl h
                · exact Or.inr ⟨l, List.mem_append_left _ h, h'⟩
                · exact Or.inr ⟨l, List.mem_append_right _ h, h'⟩
              · rintro (h | ⟨l, h, h'⟩)
                · exact Or.inl (Or.inl h)
                · rcases List.mem_append.mp h with h | h
                  · exact Or.inl (Or.inr ⟨l, h, h'⟩)
                  · exact Or.inr ⟨l, h, h'⟩
    rw [f_X7_place, f_X7_place_0, if_neg (nI_ge (show k < N by omega) (by omega)), if_pos (show nI k < (6 : Int32) from nI_lt (b := 6) hk (by decide)), dfs, List.range_eq_range']
    exact loop N 0 FU c v re S (by omega) (Nat.lt_of_lt_of_le (show N < 7 by omega) (by decide)) hv hR
