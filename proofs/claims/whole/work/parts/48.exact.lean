/-! ===== pure part: where there are no holes, closed marks are rises ===== -/
def rmv (t p : Nat) : Nat := t &&& (63 - 2 ^ p)
/-- the sum of a mark over the border of t -/
def dl (x : Int64) (t : Nat) : Bool := par2 (fun p => t.testBit p && tb x (rmv t p)) 6
theorem rmv_lt {t p : Nat} (h : t < 64) : rmv t p < 64 := and_lt64 h
theorem t_rmv : ∀ t s : Fin 64, par2 (fun p => t.val.testBit p && decide (s.val = rmv t.val p)) 6 = (sub s.val t.val && sz s.val + 1 == sz t.val) := by decide +kernel
theorem par2_swap (P : Nat → Nat → Bool) (m n : Nat) : par2 (fun i => par2 (fun j => P i j) n) m = par2 (fun j => par2 (fun i => P i j) m) n := by
  induction m with
  | zero => simp only [par2]; exact (par2_0 (fun i _ => rfl)).symm
  | succ m ih =>
    simp only [par2]
    rw [ih, ← par2_xor]
theorem dl_eq {x : Int64} {t : Nat} (ht : t < 64) : par2 (fun s => tb x s && (sub s t && sz s + 1 == sz t)) 64 = dl x t := by
  have e1 : ∀ s, s < 64 → (tb x s && (sub s t && sz s + 1 == sz t)) = par2 (fun p => t.testBit p && decide (s = rmv t p) && tb x s) 6 := fun s hs => by
    rw [par2_and, t_rmv ⟨t, ht⟩ ⟨s, hs⟩, Bool.and_comm]
  rw [par2_congr e1, par2_swap]
  unfold dl
  refine par2_congr (fun p _ => ?_)
  have e2 : ∀ s, s < 64 → (t.testBit p && decide (s = rmv t p) && tb x s) = (tb x s && t.testBit p && decide (s = rmv t p)) := fun s _ => by
    cases t.testBit p <;> cases decide (s = rmv t p) <;> cases tb x s <;> rfl
  rw [par2_congr e2, par2_one (P := fun s => tb x s && t.testBit p) (rmv_lt ht), Bool.and_comm]
def ris (F : Int64) (q k : Nat) (x : Int64) : Int64 := xs2 (fun s => abv s &&& mk (fp F q (k + 1)) 64) x 64
theorem tb_ris {F x : Int64} {q k t : Nat} (ht : t < 64) : tb (ris F q k x) t = (fp F q (k + 1) t && dl x t) := by
  unfold ris
  rw [tb_xs2, ← dl_eq ht, Bool.and_comm, ← par2_and]
  refine par2_congr (fun s _ => ?_)
  rw [tb_and, tb_abv ht, tb_fp ht]
  cases tb x s <;> cases sub s t <;> cases (sz s + 1 == sz t) <;> cases fp F q (k + 1) t <;> rfl
/-- a mark on FACES of n points within q, closed -/
def clm (F : Int64) (q n : Nat) (z : Int64) : Prop := (∀ t, t < 64 → tb z t = true → fp F q n t = true) ∧ ∀ t, t < 64 → fp F q (n + 1) t = true → dl z t = false
theorem bdbd : ∀ t : Fin 64, xs2 bel (bel t.val) 64 = 0 := by decide +kernel
theorem fp_down {N : Nat} {F : Int64} {q n s t : Nat} (hX : CX N F) (ht : t < 64) (hP : fp F q (n + 1) t = true) (hs : sub s t = true) (hz : sz s + 1 = sz t) : fp F q n s = true := by
  simp only [fp, Bool.and_eq_true, beq_iff_eq] at hP ⊢
  refine ⟨⟨hX.2.2.2.2 t s ht hP.1.1 hs, ?_⟩, by omega⟩
  have e1 : s &&& t = s := by simpa [sub] using hs
  have e2 : t &&& q = t := by simpa [sub] using hP.1.2
  have e3 : s &&& q = s := by
    rw [← e1, Nat.and_assoc, e2]
  simp [sub, e3]
theorem hol_nat {F : Int64} {q n : Nat} (h : hol F q n = 0) : cnt (mk (fp F q n) 64) 64 = brk F q n + brk F q (n + 1) := by
  unfold hol at h
  have h1 : brk F q n ≤ 64 := Nat.le_trans (rk_le _) (vl_len _ _ _)
  have h2 : brk F q (n + 1) ≤ 64 := Nat.le_trans (rk_le _) (vl_len _ _ _)
  have h3 := cnt_le (mk (fp F q n) 64) 64
  rw [Int32.sub_eq_iff_eq_add, Int32.zero_add, Int32.sub_eq_iff_eq_add, nI_add] at h
  have := (nI_inj (by omega) (by omega)).mp h
  omega
theorem exact_c {N : Nat} {F : Int64} {q n : Nat} (hX : CX N F) (h0 : hol F q n = 0) : ∀ m c, m ≤ 64 → (∀ t, t < 64 → tb c t = true → fp F q n t = true ∧ t < m) → xs2 bel c 64 = 0 → sp (vl (fp F q (n + 1)) bel 64) c := by
  obtain ⟨base, hB, hct⟩ := rk_base (vl (fp F q (n + 1)) bel 64)
  have hdep : ∀ c s, s < 64 → hbt c s → (∀ t, t < 64 → tb c t = true → fp F q n t = true) → xs2 bel c 64 = 0 → (fp F q n s && dq (sp (vl (fp F q n) bel s) (bel s))) = true := by
    intro c s hs hh hsup hbd
    rw [Bool.and_eq_true]
    refine ⟨hsup s hs hh.1, dq_t.mpr ?_⟩
    have e1 : xs2 bel c 64 = xs2 bel c s ^^^ bel s := tb_ext (fun t ht => by
      rw [tb_xor, tb_xs2, tb_xs2]
      have : ∀ k, s + 1 + k ≤ 64 → par2 (fun i => tb c i && tb (bel i) t) (s + 1 + k) = par2 (fun i => tb c i && tb (bel i) t) (s + 1) := by
        intro k
        induction k with
        | zero => intro _; rfl
        | succ k ih =>
          intro hk
          have this : tb c (s + 1 + k) = false := hh.2 _ (by omega) (by omega)
          show (par2 (fun i => tb c i && tb (bel i) t) (s + 1 + k) ^^ (tb c (s + 1 + k) && tb (bel (s + 1 + k)) t)) = _
          rw [ih (by omega), this]; simp
      have e := this (63 - s) (by omega)
      rw [show s + 1 + (63 - s) = 64 by omega] at e
      rw [e]
      show (par2 _ s ^^ (tb c s && tb (bel s) t)) = _
      rw [hh.1]; simp)
    rw [hbd] at e1
    have e2 : bel s = xs2 bel c s := (x_eq e1.symm).symm
    rw [e2]
    exact xs2_sp (fun t ht hb => hsup t (by omega) hb)
  have hbnd : ∀ v, sp (vl (fp F q (n + 1)) bel 64) v → (∀ t, t < 64 → tb v t = true → fp F q n t = true) ∧ xs2 bel v 64 = 0 := by
    intro v hv
    refine ⟨sp_bits (fun a ha t ht hb => ?_) v hv, ?_⟩
    · obtain ⟨s, hs, hP, rfl⟩ := vl_mem.mp ha
      rw [tb_bel ht, Bool.and_eq_true, beq_iff_eq] at hb
      exact fp_down hX hs hP hb.1 hb.2
    · have gen : ∀ (l : List Int64), (∀ a ∈ l, xs2 bel a 64 = 0) → ∀ v, sp l v → xs2 bel v 64 = 0 := by
        intro l
        induction l with
        | nil =>
          intro _ v hv
          rw [show v = 0 from hv]
          exact tb_ext (fun t _ => by rw [tb_0, tb_xs2, par2_0 (fun i _ => by rw [tb_0, Bool.false_and])])
        | cons a l ih =>
          intro h v hv
          have ih := ih (fun b hb => h b (List.mem_cons_of_mem _ hb))
          rcases hv with hv | hv
          · exact ih v hv
          · have := ih _ hv
            rw [xs2_xor, h a List.mem_cons_self, x_0] at this
            exact this
      exact gen _ (fun a ha => by
        obtain ⟨s, hs, hP, rfl⟩ := vl_mem.mp ha
        exact bdbd ⟨s, hs⟩) v hv
  have hlead : ∀ k, k < 64 → nz base k = (fp F q n k && dq (sp (vl (fp F q n) bel k) (bel k))) := by
    refine ct_eq (fun k hk h => ?_) ?_
    · have hne : base k ≠ 0 := by simpa [nz] using h
      have hb := hB.1 k hk hne
      have h2 := hbnd _ hb.2
      exact hdep (base k) k hk hb.1 h2.1 h2.2
    · have h1 := ct_add (P := fp F q n) (Q := fun s => dq (sp (vl (fp F q n) bel s) (bel s))) 64
      have h2 := hol_nat h0
      have h3 : cnt (mk (fp F q n) 64) 64 = ct (fp F q n) 64 := by
        rw [cnt_ct]
        exact ct_congr (fun i hi => tb_fp hi)
      have h4 : brk F q n = ct (fun s => fp F q n s && !dq (sp (vl (fp F q n) bel s) (bel s))) 64 := rk_vl _ _ _
      have h5 : brk F q (n + 1) = rk (vl (fp F q (n + 1)) bel 64) := rfl
      omega
  intro m
  induction m with
  | zero =>
    intro c _ hs _
    have : c = 0 := eq0_iff.mpr (fun t ht => by
      cases e : tb c t
      · rfl
      · have := (hs t ht e).2; omega)
    rw [this]
    exact sp_0 _
  | succ m ih =>
    intro c hm hs hbd
    cases e : tb c m
    · exact ih c (by omega) (fun t ht hb => ⟨(hs t ht hb).1, by
        have h1 := (hs t ht hb).2
        have h2 : t ≠ m := fun h => by subst h; rw [e] at hb; cases hb
        omega⟩) hbd
    · have hh : hbt c m := ⟨e, fun j h1 h2 => by
        cases e2 : tb c j
        · rfl
        · have := (hs j h2 e2).2; omega⟩
      have hd := hdep c m (by omega) hh (fun t ht hb => (hs t ht hb).1) hbd
      rw [← hlead m (by omega)] at hd
      have hne : base m ≠ 0 := by simpa [nz] using hd
      have hb := hB.1 m (by omega) hne
      have h2 := hbnd _ hb.2
      have := ih (c ^^^ base m) (by omega) (fun t ht hbt' => by
        rw [tb_xor] at hbt'
        have hor : fp F q n t = true := by
          cases e3 : tb c t
          · rw [e3, Bool.false_xor] at hbt'; exact h2.1 t ht hbt'
          · exact (hs t ht e3).1
        refine ⟨hor, ?_⟩
        rcases Nat.lt_trichotomy t m with h | h | h
        · exact h
        · subst h; rw [e, hb.1.1] at hbt'; cases hbt'
        · have e3 : tb c t = false := hh.2 t h ht
          rw [e3, hb.1.2 t h ht] at hbt'; cases hbt') (by rw [xs2_xor, hbd, h2.2, x_self])
      have h3 := sp_xor this hb.2
      rw [x_can] at h3
      exact h3
theorem exact_z {N : Nat} {F z : Int64} {q k : Nat} (hX : CX N F) (h0 : hol F q (k + 1) = 0) (hz : clm F q (k + 1) z) : sp (rsl F q k) z := by
  apply Classical.byContradiction
  intro hn
  obtain ⟨c0, hp, hq⟩ := separate hn
  have hmask : ∀ v : Int64, (∀ t, t < 64 → tb v t = true → fp F q (k + 1) t = true) → dot (c0 &&& mk (fp F q (k + 1)) 64) v = dot c0 v := fun v hv => par2_congr (fun t ht => by
    rw [tb_and, tb_fp ht]
    cases e : tb v t
    · simp
    · rw [hv t ht e]; simp)
  generalize hc : c0 &&& mk (fp F q (k + 1)) 64 = c at hmask
  have hsup : ∀ t, t < 64 → tb c t = true → fp F q (k + 1) t = true := fun t ht hb => by
    rw [← hc, tb_and, tb_fp ht, Bool.and_eq_true] at hb
    exact hb.2
  have hbd : xs2 bel c 64 = 0 := eq0_iff.mpr (fun s hs => by
    rw [tb_xs2]
    have e1 : par2 (fun t => tb c t && tb (bel t) s) 64 = dot c (abv s &&& mk (fp F q (k + 1)) 64) := par2_congr (fun t ht => by
      rw [tb_bel hs, tb_and, tb_abv ht, tb_fp ht]
      cases e : tb c t
      · rfl
      · rw [hsup t ht e]; simp)
    rw [e1]
    cases hP : fp F q k s
    · refine par2_0 (fun t ht => ?_)
      cases e : tb c t
      · rfl
      · rw [tb_and, tb_abv ht]
        cases e2 : (sub s t && sz s + 1 == sz t)
        · rfl
        · rw [Bool.and_eq_true, beq_iff_eq] at e2
          have := fp_down hX ht (hsup t ht e) e2.1 e2.2
          rw [hP] at this; cases this
    · rw [hmask _ (fun t ht hb => by
        rw [tb_and, tb_fp ht, Bool.and_eq_true] at hb
        exact hb.2)]
      exact hp _ (vl_mem.mpr ⟨s, hs, hP, rfl⟩))
  have hin := exact_c hX h0 64 c (Nat.le_refl _) (fun t ht hb => ⟨hsup t ht hb, ht⟩) hbd
  have hdz : dot z c = false := dot_sp (fun a ha => by
    obtain ⟨t, ht, hP, rfl⟩ := vl_mem.mp ha
    rw [← hz.2 t ht hP, ← dl_eq ht]
    exact par2_congr (fun s hs => by rw [tb_bel hs])) c hin
  rw [dot_comm, hmask z hz.1, hq] at hdz
  cases hdz
