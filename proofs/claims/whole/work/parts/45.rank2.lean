/-! ===== pure part: measure of the class, rankOf of the reference ===== -/
theorem cls_len {F : Int64} {p n : Nat} (hn : n < 20) : (cls F p n).2.length ≤ 20 := by
  have h1 := cst_len (fp F p n) (um F p n) (mk (fp F p (n + 1)) 64) 64
  have h3 := vl_len_mono (P := fp F p n) (Q := fun s => sz s == n) (g := fun _ => 0) (m := 64) (fun j hj h => by
    simp only [fp, Bool.and_eq_true] at h
    exact h.2)
  have h4 := cnt20 ⟨n, hn⟩
  simp only at h4
  unfold cls
  omega
theorem km_s (a : Nat) : nI a = km (a + 1) := (pk_m1 a).symm
noncomputable def mval (F : Int64) (j l a b : Nat) : Int32 := if hol F j (a + 1) = 0 then 0 else if hol F l (b + 1) = 0 then 0 else if 5 < a + b + 1 ∨ hol F (j ||| l) (a + b + 2) = 0 then 0 else nI (rnk F j l a b)
theorem or_lt_pow {j l N : Nat} (hj : j < 2 ^ N) (hl : l < 2 ^ N) : j ||| l < 2 ^ N := Nat.or_lt_two_pow hj hl
theorem f_measure {N j l a b : Nat} {F : Int64} {co : Nat → Int32} (hN : N ≤ 6) (hK : PK F (2 ^ N) co) (hj : j < 2 ^ N) (hl : l < 2 ^ N) (ha : a ≤ 5) (hb : b ≤ 5) (ro le : Nat → Int64) (ld re : Int64) (c : Int32) (lf rg : Nat → Int64) :
    ∃ (ro' le' : Nat → Int64) (ld' re' : Int64) (c' : Int32) (lf' rg' : Nat → Int64), f_X3_measure co F (nI j) (nI l) (nI a) (nI b) ro le ld re c lf rg = some (mval F j l a b, ro', le', ld', re', c', lf', rg') := by
  have h64 := pow_le64 hN
  have hj64 : j < 64 := by omega
  have hl64 : l < 64 := by omega
  have hq := or_lt_pow hj hl
  unfold f_X3_measure f_X3_measure_0 mval
  rw [sbg (show f_X2_holesOf co (nI j) (nI a) = some (hol F j (a + 1)) by rw [km_s a]; exact f_holesOf2 hK h64 hj (by omega))]
  by_cases h1 : hol F j (a + 1) = 0
  · rw [if_pos h1, if_pos h1]
    exact ⟨ro, le, ld, re, c, lf, rg, rfl⟩
  rw [if_neg h1, if_neg h1, sbg (show f_X2_holesOf co (nI l) (nI b) = some (hol F l (b + 1)) by rw [km_s b]; exact f_holesOf2 hK h64 hl (by omega))]
  by_cases h2 : hol F l (b + 1) = 0
  · rw [if_pos h2, if_pos h2]
    exact ⟨ro, le, ld, re, c, lf, rg, rfl⟩
  rw [if_neg h2, if_neg h2, nI_or hj64 hl64, nI_add, nI_1, nI_2]
  by_cases h5 : 5 < a + b + 1
  · rw [sbg (f_holesOf2x (co := co) (k := nI (a + b + 1)) (show j ||| l < 64 by omega) (Or.inr (show (5 : Int32) < nI (a + b + 1) from nI_lt (a := 5) h5 (by omega)))), if_pos rfl, if_pos (Or.inl h5)]
    exact ⟨ro, le, ld, re, c, lf, rg, rfl⟩
  rw [sbg (show f_X2_holesOf co (nI (j ||| l)) (nI (a + b + 1)) = some (hol F (j ||| l) (a + b + 2)) by rw [km_s (a + b + 1)]; exact f_holesOf2 hK h64 hq (by omega))]
  by_cases h3 : hol F (j ||| l) (a + b + 2) = 0
  · rw [if_pos h3, if_pos (Or.inr h3)]
    exact ⟨ro, le, ld, re, c, lf, rg, rfl⟩
  rw [if_neg h3, if_neg (fun h => by rcases h with h | h; exact h5 h; exact h3 h)]
  have hIn (p : Nat) : ∀ s, s < 64 → tb (F &&& ins p) s = (tb F s && sub s p) := fun s hs => by rw [tb_and, tb_ins hs]
  obtain ⟨ro1, le1, ld1, re1, c1, lf1, e1, hR1⟩ := f_fill (F := F) (p := j) (hIn j) ha ro le ld re c lf
  rw [sbg (f_inside hj64), sbg e1]
  obtain ⟨ro2, le2, ld2, re2, c2, rg1, e2, hR2⟩ := f_fill (F := F) (p := l) (hIn l) hb ro1 le1 ld1 re1 c1 rg
  rw [sbg (f_inside hl64)]
  simp only
  rw [sbg e2, sbg (f_inside (show j ||| l < 64 by omega)), sbg (show f_X6_ofSize (nI (a + b + 2)) = some (ofs (a + b + 2)) from t_ofSize ⟨a + b + 2, by omega⟩), sbg (show f_X6_ofSize (nI (a + b + 1)) = some (ofs (a + b + 1)) from t_ofSize ⟨a + b + 1, by omega⟩), inP_mask (hIn (j ||| l)), inP_mask (hIn (j ||| l))]
  obtain ⟨ro3, le3, re3, c3, e3, hC3⟩ := f_addRises (F := F) (q := j ||| l) (k := a + b + 1) ro2 le2 ld2 re2 c2
  simp only
  rw [sbg e3]
  have hlj := cls_len (F := F) (p := j) (n := a + 1) (by omega)
  have hll := cls_len (F := F) (p := l) (n := b + 1) (by omega)
  obtain ⟨ro4, le4, re4, c4, e4⟩ := ms_out (co := co) (F := F) (k := a + b + 2) (lf := lf1) (rg := rg1) hj64 hl64 (show (cls F j (a + 1)).2.length ≤ 64 by omega) (show (cls F l (b + 1)).2.length ≤ 64 by omega) (Nat.le_refl (rk (rsl F (j ||| l) (a + b + 1)))) (cls F j (a + 1)).2.length 0 FU ro3 le3 re3 c3 (by omega) (Nat.lt_of_le_of_lt (show (cls F j (a + 1)).2.length ≤ 64 by omega) (by decide)) hC3
  have e5 : outl (fun x y => prd F j l (a + b + 2) (lf1 x) (rg1 y)) (cls F l (b + 1)).2.length (rsl F (j ||| l) (a + b + 1)) (cls F j (a + 1)).2.length = all2 F j l a b := outl_congr (fun x y hx hy => by
    unfold prc
    rw [RI_get hR1 hx, RI_get hR2 hy])
  refine ⟨ro4, le4, -1, re4, nI c4, lf1, rg1, ?_⟩
  rw [e5] at e4
  have e6 : rk (outl (fun x y => prd F j l (a + b + 2) (lf1 x) (rg1 y)) (cls F l (b + 1)).2.length (rsl F (j ||| l) (a + b + 1)) 0) - rk (rsl F (j ||| l) (a + b + 1)) = 0 := Nat.sub_self _
  rw [e6] at e4
  exact e4
/-! the reference -/
/-- all bits of sums: marks, or rises -/
theorem sp_bits {l : List Int64} {P : Nat → Prop} (h : ∀ a ∈ l, ∀ t, t < 64 → tb a t = true → P t) : ∀ v, sp l v → ∀ t, t < 64 → tb v t = true → P t := by
  induction l with
  | nil => intro v hv t _ ht; rw [show v = 0 from hv, tb_0] at ht; cases ht
  | cons a l ih =>
    intro v hv t ht hb
    have ih := ih (fun b hb => h b (List.mem_cons_of_mem _ hb))
    rcases hv with hv | hv
    · exact ih v hv t ht hb
    · cases e : tb a t
      · exact ih _ hv t ht (by rw [tb_xor, hb, e]; rfl)
      · exact h a List.mem_cons_self t ht e
theorem um_bits {F : Int64} {p n s t : Nat} (hs : s < 64) (hP : fp F p n s = true) (ht : t < 64) (h : tb (um F p n s) t = true) : fp F p n t = true ∨ fp F p (n + 1) t = true := by
  unfold um at h
  rw [tb_xor, tb_b1 hs ht, tb_and, tb_fp ht] at h
  by_cases e : t = s
  · subst e; exact Or.inl hP
  · have : decide (t = s) = false := by simpa using e
    rw [this] at h
    simp only [Bool.false_xor, Bool.and_eq_true] at h
    exact Or.inr h.2
theorem cst_bits {F : Int64} {p n : Nat} : ∀ m, m ≤ 64 → (∀ a ∈ (cst (fp F p n) (um F p n) (mk (fp F p (n + 1)) 64) m).1, ∀ t, t < 64 → tb a t = true → fp F p n t = true ∨ fp F p (n + 1) t = true) ∧ ∀ a ∈ (cst (fp F p n) (um F p n) (mk (fp F p (n + 1)) 64) m).2, (∀ t, t < 64 → tb a t = true → fp F p n t = true) := by
  intro m
  induction m with
  | zero => intro _; exact ⟨fun a ha => (by cases ha), fun a ha => (by cases ha)⟩
  | succ m ih =>
    intro hm
    obtain ⟨i1, i2⟩ := ih (by omega)
    cases hP : fp F p n m with
    | false => rw [cst_skip hP]; exact ⟨i1, i2⟩
    | true =>
      by_cases hd : dep (mk (fp F p (n + 1)) 64) (cst (fp F p n) (um F p n) (mk (fp F p (n + 1)) 64) m).1 (um F p n m)
      · rw [cst_dep hP hd]
        refine ⟨i1, fun a ha t ht hb => ?_⟩
        rcases List.mem_cons.mp ha with rfl | ha
        · have hc := clo1_s hd
          have h0 := eq0_iff.mp hc.2 t ht
          rw [tb_and, tb_fp ht, hb] at h0
          have hn : fp F p (n + 1) t = false := by simpa using h0
          have hor : fp F p n t = true ∨ fp F p (n + 1) t = true := by
            cases e : tb (um F p n m) t
            · exact sp_bits i1 _ hc.1 t ht (by rw [tb_xor, hb, e]; rfl)
            · exact um_bits (by omega) hP ht e
          rcases hor with h | h
          · exact h
          · rw [hn] at h; cases h
        · exact i2 a ha t ht hb
      · rw [cst_new hP hd]
        refine ⟨fun a ha t ht hb => ?_, i2⟩
        rcases List.mem_cons.mp ha with rfl | ha
        · exact um_bits (by omega) hP ht hb
        · exact i1 a ha t ht hb
theorem rowOf_mem {l : List Int64} {i : Nat} (h : i < l.length) : rowOf l i ∈ l := by
  unfold rowOf
  rw [List.getD_eq_getElem?_getD, List.getElem?_eq_getElem (by omega)]
  exact List.getElem_mem _
theorem cls_on {F : Int64} {p n i : Nat} (h : i < (cls F p n).2.length) : onSz n (rowOf (cls F p n).2 i) := by
  intro t ht hb
  have := (cst_bits (F := F) (p := p) (n := n) 64 (Nat.le_refl _)).2 _ (rowOf_mem h) t ht hb
  simp only [fp, Bool.and_eq_true, beq_iff_eq] at this
  exact this.2
