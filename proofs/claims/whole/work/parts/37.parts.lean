/-! ===== pure part: holes, the class's Parts ===== -/
theorem sp_mask {L M : List Int64} {msk : Int64} (h : ∀ a ∈ L, sp M (a &&& msk)) : ∀ v, sp L v → sp M (v &&& msk) := by
  have dist (a b : Int64) : (a ^^^ b) &&& msk = (a &&& msk) ^^^ (b &&& msk) := tb_ext (fun i _ => by
    simp only [tb_and, tb_xor]
    cases tb a i <;> cases tb b i <;> cases tb msk i <;> rfl)
  induction L with
  | nil =>
    intro v hv
    rw [show v = 0 from hv, show (0 : Int64) &&& msk = 0 from tb_ext (fun i _ => by rw [tb_and, tb_0]; rfl)]
    exact sp_0 M
  | cons a L ih =>
    intro v hv
    have ih := ih (fun b hb => h b (List.mem_cons_of_mem _ hb))
    rcases hv with hv | hv
    · exact ih v hv
    · have h1 := ih _ hv
      rw [dist] at h1
      have h2 := sp_xor h1 (h a List.mem_cons_self)
      rw [x_can] at h2
      exact h2
theorem tb_bel {s t : Nat} (ht : t < 64) : tb (bel s) t = (sub t s && sz t + 1 == sz s) := by
  unfold bel
  rw [tb_mk (Nat.le_refl _) ht]
  simp [ht]
theorem tb_abv {s t : Nat} (ht : t < 64) : tb (abv s) t = (sub s t && sz s + 1 == sz t) := by
  unfold abv
  rw [tb_mk (Nat.le_refl _) ht]
  simp [ht]
theorem tb_ofs {k t : Nat} (ht : t < 64) : tb (ofs k) t = (sz t == k) := by
  unfold ofs
  rw [tb_mk (Nat.le_refl _) ht]
  simp [ht]
theorem tb_ins {s t : Nat} (ht : t < 64) : tb (ins s) t = sub t s := by
  unfold ins
  rw [tb_mk (Nat.le_refl _) ht]
  simp [ht]
theorem bel_mask {t k : Nat} : bel t &&& ofs k = if sz t = k + 1 then bel t else 0 := by
  by_cases h : sz t = k + 1
  · rw [if_pos h]
    refine tb_ext (fun i hi => ?_)
    rw [tb_and, tb_bel hi, tb_ofs hi, h]
    cases sub i t
    · rfl
    · by_cases e : sz i = k
      · simp [e]
      · have : ¬ sz i + 1 = k + 1 := by omega
        simp [e]
  · rw [if_neg h]
    refine tb_ext (fun i hi => ?_)
    rw [tb_and, tb_bel hi, tb_ofs hi, tb_0]
    by_cases e : sz i = k
    · have : ¬ sz i + 1 = sz t := by omega
      simp [this]
    · simp [e]
def pp (F : Int64) (part s : Nat) : Bool := decide (1 ≤ s) && (tb F s && sub s part)
theorem sz_pos : ∀ s : Fin 64, 1 ≤ s.val → 1 ≤ sz s.val := by decide +kernel
theorem sz_0 : ∀ s : Fin 64, sz s.val = 0 → s.val = 0 := by decide +kernel
theorem grade {F : Int64} {part i s : Nat} (hi : i ≤ 64) (hs : s < 64) (h1 : 1 ≤ s) : sp (vl (pp F part) bel i) (bel s) ↔ sp (vl (fp F part (sz s)) bel i) (bel s) := by
  obtain ⟨k, hk⟩ : ∃ k, sz s = k + 1 := ⟨sz s - 1, by have := sz_pos ⟨s, hs⟩ h1; simp only at this; omega⟩
  constructor
  · intro h
    have h2 := sp_mask (msk := ofs k) (M := vl (fp F part (sz s)) bel i) (fun a ha => by
      obtain ⟨t, ht, hP, rfl⟩ := vl_mem.mp ha
      rw [bel_mask]
      by_cases e : sz t = k + 1
      · rw [if_pos e]
        refine sp_mem (vl_mem.mpr ⟨t, ht, ?_, rfl⟩)
        simp only [pp, Bool.and_eq_true, decide_eq_true_eq] at hP
        simp [fp, hP.2.1, hP.2.2, e, hk]
      · rw [if_neg e]
        exact sp_0 _) _ h
    rw [bel_mask, if_pos hk] at h2
    exact h2
  · intro h
    refine sp_le (fun a ha => ?_) _ h
    obtain ⟨t, ht, hP, rfl⟩ := vl_mem.mp ha
    refine sp_mem (vl_mem.mpr ⟨t, ht, ?_, rfl⟩)
    simp only [fp, Bool.and_eq_true, beq_iff_eq] at hP
    have : 1 ≤ t := by
      rcases Nat.eq_zero_or_pos t with e | e
      · subst e; rw [hk] at hP; exact absurd hP.2 (by rw [show sz 0 = 0 from rfl]; omega)
      · exact e
    simp [pp, this, hP.1.1, hP.1.2]
theorem sub_le : ∀ t s : Fin 64, sub t.val s.val = true → t.val ≤ s.val := by decide +kernel
theorem up_s (f : Nat → Int32) (k : Nat) (x : Int32) : upd f k x k = x := pk_us
theorem up_n {f : Nat → Int32} {k j : Nat} {x : Int32} (h : j ≠ k) : upd f k x j = f j := pk_un h
theorem cb_loop {F inP : Int64} {part : Nat} (hp : part < 64) (hIn : ∀ s, s < 64 → tb inP s = (tb F s && sub s part)) : ∀ k i m (bo : Nat → Int32) (ro le : Nat → Int64) (re : Int64) (c : Nat), i + k = part + 1 → 1 ≤ i → k < m → CB ro le c (-1) (vl (pp F part) bel i) → (∀ q, q < 8 → bo q = nI (rk (vl (fp F part q) bel i))) →
    ∃ (bo' : Nat → Int32) (ro' le' : Nat → Int64) (re' : Int64) (c' : Nat), f_X2_countBorders_37 m (nI part) inP (nI i) bo ro le (-1) re (nI c) = some (bo', ro', le', -1, re', nI c') ∧ ∀ q, q < 8 → bo' q = nI (rk (vl (fp F part q) bel (part + 1))) := by
  intro k
  induction k with
  | zero =>
    intro i m bo ro le re c h1 hi1 h2 hC hbo
    obtain ⟨m, rfl⟩ : ∃ m', m = m' + 1 := ⟨m - 1, by omega⟩
    have e : i = part + 1 := by omega
    subst e
    refine ⟨bo, ro, le, re, c, ?_, hbo⟩
    rw [f_X2_countBorders_37, if_pos (nI_lt (by omega) (by omega))]
  | succ k ih =>
    intro i m bo ro le re c h1 hi1 h2 hC hbo
    obtain ⟨m, rfl⟩ : ∃ m', m = m' + 1 := ⟨m - 1, by omega⟩
    have hi64 : i < 64 := by omega
    rw [f_X2_countBorders_37, if_neg (nI_nlt (by omega) (by omega)), if_neg (show ¬ (64 : Int32) ≤ nI i from nI_ge (b := 64) hi64 (by decide)), sbg (f_holds hi64), nI_1, hIn i hi64]
    by_cases hP : (tb F i && sub i part) = true
    · rw [hP, if_neg (show ¬ tf true = 0 by decide), sbg (show f_X6_below (nI i) = some (bel i) from t_below ⟨i, hi64⟩)]
      obtain ⟨ro2, le2, re2, c2, ha, hC2⟩ := f_addAll hC (bel i) re
      rw [sbg ha]
      have hpp : pp F part i = true := by simp only [pp, Bool.and_eq_true, decide_eq_true_eq]; exact ⟨hi1, by simpa using hP⟩
      have e1 : vl (pp F part) bel (i + 1) = bel i :: vl (pp F part) bel i := by
        show (if pp F part i = true then _ else _) = _
        rw [if_pos hpp]
      have hg := dq_congr (grade (F := F) (part := part) (i := i) (s := i) (by omega) hi64 hi1)
      have hfp : fp F part (sz i) i = true := by
        simp only [Bool.and_eq_true] at hP
        simp [fp, hP.1, hP.2]
      have e2 : vl (fp F part (sz i)) bel (i + 1) = bel i :: vl (fp F part (sz i)) bel i := by
        show (if fp F part (sz i) i = true then _ else _) = _
        rw [if_pos hfp]
      have e3 : ∀ q, q ≠ sz i → vl (fp F part q) bel (i + 1) = vl (fp F part q) bel i := fun q hq => by
        show (if fp F part q i = true then _ else _) = _
        rw [if_neg]
        simp only [fp, Bool.and_eq_true, beq_iff_eq]
        exact fun h => hq h.2.symm
      have hsz := sz_lt i
      rw [hg] at ha ⊢
      cases hd : dq (sp (vl (fp F part (sz i)) bel i) (bel i)) with
      | true =>
        rw [if_pos (show tf (!true) = 0 from rfl)]
        refine ih (i + 1) m bo ro2 le2 re2 c2 (by omega) (by omega) (by omega) (by rw [e1]; exact hC2) (fun q hq => ?_)
        rw [hbo q hq]
        by_cases eq : q = sz i
        · subst eq
          rw [e2]
          show _ = nI (rk _ + (!dq _).toNat)
          rw [hd]; rfl
        · rw [e3 q eq]
      | false =>
        rw [if_neg (show ¬ tf (!false) = 0 by decide), sbg (show f_J6_bitCount_0f7a4 (nI i) = some (nI (sz i)) from t_bitCount ⟨i, hi64⟩), ix_nI (show sz i < 8 by omega) (by decide), cl_nI (show sz i < 2 ^ 31 by omega)]
        refine ih (i + 1) m _ ro2 le2 re2 c2 (by omega) (by omega) (by omega) (by rw [e1]; exact hC2) (fun q hq => ?_)
        by_cases eq : q = sz i
        · subst eq
          rw [up_s, e2, hbo _ hq]
          show _ = nI (rk _ + (!dq _).toNat)
          rw [hd, nI_1]; rfl
        · rw [up_n eq, e3 q eq]
          exact hbo q hq
    · have hP' : (tb F i && sub i part) = false := by simpa using hP
      rw [hP', if_pos (show tf false = 0 from rfl)]
      have hpp : ¬ pp F part i = true := by simp [pp, hP']
      refine ih (i + 1) m bo ro le re c (by omega) (by omega) (by omega) ?_ (fun q hq => ?_)
      · have : vl (pp F part) bel (i + 1) = vl (pp F part) bel i := by
          show (if pp F part i = true then _ else _) = _
          rw [if_neg hpp]
        rw [this]; exact hC
      · have : vl (fp F part q) bel (i + 1) = vl (fp F part q) bel i := by
          show (if fp F part q i = true then _ else _) = _
          rw [if_neg]
          simp [fp, hP']
        rw [this]; exact hbo q hq
theorem bel0 : bel 0 = 0 := by decide +kernel
theorem rk_1 (F : Int64) (part q : Nat) : rk (vl (fp F part q) bel 1) = 0 := by
  show rk (if fp F part q 0 = true then _ else _) = 0
  split
  · show rk [] + (!dq (sp [] (bel 0))).toNat = 0
    rw [dq_t.mpr (show sp [] (bel 0) from bel0)]; rfl
  · rfl
theorem brk_part {F : Int64} {part q : Nat} (hp : part < 64) : rk (vl (fp F part q) bel (part + 1)) = brk F part q := by
  have := vl_tail (P := fp F part q) (g := bel) (m := part + 1) (63 - part) (fun i h1 h2 => by
    have : sub i part = false := by
      cases h : sub i part
      · rfl
      · have := sub_le ⟨i, by omega⟩ ⟨part, hp⟩ h; simp only at this; omega
    simp [fp, this])
  rw [show part + 1 + (63 - part) = 64 by omega] at this
  unfold brk
  rw [this]
theorem f_countBorders {F inP : Int64} {part : Nat} (hp : part < 64) (hIn : ∀ s, s < 64 → tb inP s = (tb F s && sub s part)) (bo : Nat → Int32) (ro le : Nat → Int64) (ld re : Int64) (c : Int32) :
    ∃ (bo' : Nat → Int32) (ro' le' : Nat → Int64) (re' : Int64) (c' : Nat), f_X2_countBorders (nI part) inP bo ro le ld re c = some (bo', ro', le', -1, re', nI c') ∧ ∀ q, q < 8 → bo' q = nI (brk F part q) := by
  have key : ∀ k i m (bo : Nat → Int32), i + k = 8 → k < m → (∀ q, q < i → bo q = 0) → ∃ (bo' : Nat → Int32) (ro' le' : Nat → Int64) (re' : Int64) (c' : Nat), f_X2_countBorders_3 m (nI part) inP (nI i) bo ro le ld re c = some (bo', ro', le', -1, re', nI c') ∧ ∀ q, q < 8 → bo' q = nI (brk F part q) := by
    intro k
    induction k with
    | zero =>
      intro i m bo h1 h2 hz
      obtain ⟨m, rfl⟩ : ∃ m', m = m' + 1 := ⟨m - 1, by omega⟩
      have e : i = 8 := by omega
      subst e
      rw [f_X2_countBorders_3, if_pos (show (7 : Int32) < nI 8 by decide), sbg (show f_X0_clear (-1) ld re c = some (-1, 0, 0) from rfl)]
      obtain ⟨bo', ro', le', re', c', h, hb⟩ := cb_loop hp hIn part 1 FU bo ro le 0 0 (by omega) (by omega) (Nat.lt_of_lt_of_le hp (by decide)) (CB.nil ro le (-1)) (fun q hq => by rw [rk_1, hz q hq]; rfl)
      refine ⟨bo', ro', le', re', c', ?_, fun q hq => by rw [hb q hq, brk_part hp]⟩
      exact h
    | succ k ih =>
      intro i m bo h1 h2 hz
      obtain ⟨m, rfl⟩ : ∃ m', m = m' + 1 := ⟨m - 1, by omega⟩
      have hi : i < 8 := by omega
      rw [f_X2_countBorders_3, if_neg (show ¬ (7 : Int32) < nI i from nI_nlt (a := 7) (by omega) (by decide)), ix_nI hi (by decide), cl_nI (show i < 2 ^ 31 by omega), nI_1]
      exact ih (i + 1) m _ (by omega) (by omega) (fun q hq => by
        by_cases e : q = i
        · subst e; exact up_s _ _ _
        · rw [up_n e]; exact hz q (by omega))
  exact key 8 0 FU bo rfl (by decide) (fun q hq => by omega)
