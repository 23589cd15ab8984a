/-! ===== pure part: products of closed marks, and the short ways of the class ===== -/
theorem lin0 {l : List Int64} (f : Int64 → Int64) (hf : ∀ u v, f (u ^^^ v) = f u ^^^ f v) (h : ∀ a ∈ l, f a = 0) : ∀ v, sp l v → f v = 0 := by
  have f0 : f 0 = 0 := by
    have := hf 0 0
    rw [x_self, x_self] at this
    exact this
  induction l with
  | nil => intro v hv; rw [show v = 0 from hv]; exact f0
  | cons a l ih =>
    intro v hv
    have ih := ih (fun b hb => h b (List.mem_cons_of_mem _ hb))
    rcases hv with hv | hv
    · exact ih v hv
    · have := ih _ hv
      rw [hf, h a List.mem_cons_self, x_0] at this
      exact this
theorem and_xor_d (a b m : Int64) : (a ^^^ b) &&& m = (a &&& m) ^^^ (b &&& m) := tb_ext (fun i _ => by
  simp only [tb_and, tb_xor]
  cases tb a i <;> cases tb b i <;> cases tb m i <;> rfl)
/-- a sum's rise, less the rise of its mark -/
def lq (F : Int64) (p n : Nat) (v : Int64) : Int64 := (v &&& mk (fp F p (n + 1)) 64) ^^^ ris F p n (v &&& mk (fp F p n) 64)
theorem lq_xor (F : Int64) (p n : Nat) (u v : Int64) : lq F p n (u ^^^ v) = lq F p n u ^^^ lq F p n v := by
  unfold lq ris
  rw [and_xor_d, and_xor_d, xs2_xor]
  exact tb_ext (fun i _ => by
    simp only [tb_xor]
    cases tb (u &&& mk (fp F p (n + 1)) 64) i <;> cases tb (v &&& mk (fp F p (n + 1)) 64) i <;> cases tb (xs2 (fun s => abv s &&& mk (fp F p (n + 1)) 64) (u &&& mk (fp F p n) 64) 64) i <;> cases tb (xs2 (fun s => abv s &&& mk (fp F p (n + 1)) 64) (v &&& mk (fp F p n) 64) 64) i <;> rfl)
theorem lq_um {F : Int64} {p n s : Nat} (hs : s < 64) (hP : fp F p n s = true) : lq F p n (um F p n s) = 0 := by
  have hsz : sz s = n := by
    simp only [fp, Bool.and_eq_true, beq_iff_eq] at hP
    exact hP.2
  have e1 : um F p n s &&& mk (fp F p (n + 1)) 64 = abv s &&& mk (fp F p (n + 1)) 64 := tb_ext (fun t ht => by
    unfold um
    rw [tb_and, tb_xor, tb_b1 hs ht, tb_and, tb_fp ht]
    by_cases e : t = s
    · subst e
      have : fp F p (n + 1) t = false := by simp [fp, hsz]
      rw [this]; simp
    · have : decide (t = s) = false := by simpa using e
      rw [this]; cases tb (abv s) t <;> cases fp F p (n + 1) t <;> rfl)
  have e2 : um F p n s &&& mk (fp F p n) 64 = b1 s := tb_ext (fun t ht => by
    unfold um
    rw [tb_and, tb_xor, tb_b1 hs ht, tb_and, tb_fp ht, tb_fp ht]
    by_cases e : t = s
    · subst e
      have : fp F p (n + 1) t = false := by simp [fp, hsz]
      rw [this, hP]; simp
    · have h1 : decide (t = s) = false := by simpa using e
      rw [h1]
      cases h2 : fp F p n t
      · simp
      · have : fp F p (n + 1) t = false := by
          simp only [fp, Bool.and_eq_true, beq_iff_eq] at h2
          simp [fp, h2.2]
        rw [this]; simp)
  unfold lq
  rw [e1, e2]
  unfold ris
  rw [xs2_b1 hs, x_self]
theorem cst_um {F : Int64} {p n : Nat} : ∀ m, m ≤ 64 → (∀ a ∈ (cst (fp F p n) (um F p n) (mk (fp F p (n + 1)) 64) m).1, lq F p n a = 0) ∧ ∀ a ∈ (cst (fp F p n) (um F p n) (mk (fp F p (n + 1)) 64) m).2, lq F p n a = 0 ∧ a &&& mk (fp F p (n + 1)) 64 = 0 := by
  intro m
  induction m with
  | zero => intro _; exact ⟨fun a ha => (by cases ha), fun a ha => (by cases ha)⟩
  | succ m ih =>
    intro hm
    obtain ⟨i1, i2⟩ := ih (by omega)
    cases hP : fp F p n m with
    | false => rw [cst_skip hP]; exact ⟨i1, i2⟩
    | true =>
      by_cases hd : dep (mk (fp F p (n + 1)) 64) (cst (fp F p n) (um F p n) (mk (fp F p (n + 1)) 64) m).1 (um F p n m)
      · rw [cst_dep hP hd]
        refine ⟨i1, fun a ha => ?_⟩
        rcases List.mem_cons.mp ha with rfl | ha
        · have hc := clo1_s hd
          have := lin0 (lq F p n) (lq_xor F p n) i1 _ hc.1
          rw [lq_xor, lq_um (by omega) hP, x_0] at this
          exact ⟨this, hc.2⟩
        · exact i2 a ha
      · rw [cst_new hP hd]
        refine ⟨fun a ha => ?_, i2⟩
        rcases List.mem_cons.mp ha with rfl | ha
        · exact lq_um (by omega) hP
        · exact i1 a ha
theorem cls_clm {F : Int64} {p n i : Nat} (h : i < (cls F p n).2.length) : clm F p n (rowOf (cls F p n).2 i) := by
  have hb := (cst_bits (F := F) (p := p) (n := n) 64 (Nat.le_refl _)).2 _ (rowOf_mem h)
  have hq := (cst_um (F := F) (p := p) (n := n) 64 (Nat.le_refl _)).2 _ (rowOf_mem h)
  refine ⟨hb, fun t ht hP => ?_⟩
  have e : rowOf (cls F p n).2 i &&& mk (fp F p n) 64 = rowOf (cls F p n).2 i := tb_ext (fun t ht => by
    rw [tb_and, tb_fp ht]
    cases h1 : tb (rowOf (cls F p n).2 i) t
    · rfl
    · rw [hb t ht h1]; rfl)
  have h1 := hq.1
  unfold lq at h1
  rw [show rowOf (cst (fp F p n) (um F p n) (mk (fp F p (n + 1)) 64) 64).2 i = rowOf (cls F p n).2 i from rfl] at h1
  have h2 := hq.2
  rw [show rowOf (cst (fp F p n) (um F p n) (mk (fp F p (n + 1)) 64) 64).2 i = rowOf (cls F p n).2 i from rfl] at h2
  rw [h2, e, x_0l] at h1
  have h3 := eq0_iff.mp h1 t ht
  rw [tb_ris ht, hP, Bool.true_and] at h3
  exact h3
theorem tb_prd {F u y : Int64} {j l k s : Nat} (hs : s < 64) : tb (prd F j l k u y) s = (fp F (j ||| l) k s && (tb u (s &&& j) && tb y (s &&& l))) := by
  unfold prd
  rw [tb_mk (Nat.le_refl _) hs]
  simp [hs]
theorem t_rm1 : ∀ (t : Fin 64) (p : Fin 6), t.val.testBit p.val = true → sub (rmv t.val p.val) t.val = true ∧ sz (rmv t.val p.val) + 1 = sz t.val := by decide +kernel
theorem t_rm0 : ∀ (t : Fin 64) (p : Fin 6), t.val.testBit p.val = false → rmv t.val p.val = t.val := by decide +kernel
theorem nand_rc (a b c : Nat) : (a &&& b) &&& c = (a &&& c) &&& b := by rw [Nat.and_assoc, Nat.and_comm b c, ← Nat.and_assoc]
theorem rmv_and (t p j : Nat) : rmv t p &&& j = rmv (t &&& j) p := by
  unfold rmv
  rw [nand_rc]
theorem leib {N : Nat} {F u y : Int64} {j l k t : Nat} (hX : CX N F) (hjl : j &&& l = 0) (ht : t < 64) (hP : fp F (j ||| l) (k + 1) t = true) : dl (prd F j l k u y) t = ((dl u (t &&& j) && tb y (t &&& l)) ^^ (tb u (t &&& j) && dl y (t &&& l))) := by
  have hsub : sub t (j ||| l) = true := by
    simp only [fp, Bool.and_eq_true] at hP
    exact hP.1.2
  have e2 : (tb u (t &&& j) && dl y (t &&& l)) = (dl y (t &&& l) && tb u (t &&& j)) := Bool.and_comm _ _
  rw [e2]
  unfold dl
  rw [← par2_and, ← par2_and, ← par2_xor]
  refine par2_congr (fun p hp => ?_)
  rw [Nat.testBit_and, Nat.testBit_and]
  cases htp : t.testBit p
  · simp
  · have hr := t_rm1 ⟨t, ht⟩ ⟨p, hp⟩ htp
    rw [tb_prd (rmv_lt ht), fp_down hX ht hP hr.1 hr.2, rmv_and, rmv_and]
    have a := sub_or hsub htp
    have b := and0_bit (i := p) hjl
    cases hj : j.testBit p
    · have hjb : (t &&& j).testBit p = false := by rw [Nat.testBit_and, hj, Bool.and_false]
      rw [t_rm0 ⟨t &&& j, and_lt64 ht⟩ ⟨p, hp⟩ hjb]
      have hl : l.testBit p = true := by rw [hj] at a; simpa using a
      rw [hl]
      cases tb u (t &&& j) <;> cases tb y (rmv (t &&& l) p) <;> rfl
    · have hl : l.testBit p = false := by rw [hj] at b; simpa using b
      have hlb : (t &&& l).testBit p = false := by rw [Nat.testBit_and, hl, Bool.and_false]
      rw [t_rm0 ⟨t &&& l, and_lt64 ht⟩ ⟨p, hp⟩ hlb, hl]
      cases tb u (rmv (t &&& j) p) <;> cases tb y (t &&& l) <;> rfl
theorem sub_and (t j : Nat) : sub (t &&& j) t = true ∧ sub (t &&& j) j = true := by
  constructor
  · simp only [sub, beq_iff_eq]
    rw [nand_rc, Nat.and_self]
  · simp only [sub, beq_iff_eq]
    rw [Nat.and_assoc, Nat.and_self]
theorem fp_and {N : Nat} {F : Int64} {q k n t j : Nat} (hX : CX N F) (ht : t < 64) (hP : fp F q k t = true) (hs : sz (t &&& j) = n) : fp F j n (t &&& j) = true := by
  simp only [fp, Bool.and_eq_true, beq_iff_eq] at hP ⊢
  exact ⟨⟨hX.2.2.2.2 t _ ht hP.1.1 (sub_and t j).1, (sub_and t j).2⟩, hs⟩
theorem fp_sz {F : Int64} {q k t : Nat} (hP : fp F q k t = true) : sub t q = true ∧ sz t = k := by
  simp only [fp, Bool.and_eq_true, beq_iff_eq] at hP
  exact ⟨hP.1.2, hP.2⟩
theorem prd_clm {N : Nat} {F x y : Int64} {j l a b : Nat} (hX : CX N F) (hjl : j &&& l = 0) (hx : clm F j a x) (hy : clm F l b y) : clm F (j ||| l) (a + b) (prd F j l (a + b) x y) := by
  refine ⟨fun t ht hb => by rw [tb_prd ht, Bool.and_eq_true] at hb; exact hb.1, fun t ht hP => ?_⟩
  rw [leib hX hjl ht hP]
  have hz := fp_sz hP
  have hsp := sz_split hz.1 hjl
  have e1 : (dl x (t &&& j) && tb y (t &&& l)) = false := by
    cases h : tb y (t &&& l)
    · exact Bool.and_false _
    · have h1 := (fp_sz (hy.1 _ (and_lt64 ht) h)).2
      rw [hx.2 _ (and_lt64 ht) (fp_and hX ht hP (by omega))]; rfl
  have e2 : (tb x (t &&& j) && dl y (t &&& l)) = false := by
    cases h : tb x (t &&& j)
    · rfl
    · have h1 := (fp_sz (hx.1 _ (and_lt64 ht) h)).2
      rw [hy.2 _ (and_lt64 ht) (fp_and hX ht hP (by omega))]; rfl
  rw [e1, e2]; rfl
theorem ris_sp {F : Int64} {q k : Nat} {u : Int64} (h : ∀ s, s < 64 → tb u s = true → fp F q k s = true) : sp (rsl F q k) (ris F q k u) := xs2_sp h
theorem prd_l {N : Nat} {F x y : Int64} {j l a b : Nat} (hX : CX N F) (hjl : j &&& l = 0) (h0 : hol F j (a + 1) = 0) (hx : clm F j (a + 1) x) (hy : clm F l (b + 1) y) : sp (rsl F (j ||| l) (a + b + 1)) (prd F j l (a + b + 2) x y) := by
  obtain ⟨u, hu, rfl⟩ := sp_xs2 (exact_z hX h0 hx)
  have e : prd F j l (a + b + 2) (xs2 (fun s => abv s &&& mk (fp F j (a + 1)) 64) u 64) y = ris F (j ||| l) (a + b + 1) (prd F j l (a + b + 1) u y) := tb_ext (fun t ht => by
    rw [tb_prd ht, tb_ris ht]
    cases hP : fp F (j ||| l) (a + b + 2) t
    · rfl
    · rw [leib hX hjl ht hP, show tb (xs2 (fun s => abv s &&& mk (fp F j (a + 1)) 64) u 64) (t &&& j) = tb (ris F j a u) (t &&& j) from rfl, tb_ris (and_lt64 ht)]
      have hz := fp_sz hP
      have hsp := sz_split hz.1 hjl
      have e2 : (tb u (t &&& j) && dl y (t &&& l)) = false := by
        cases h : tb u (t &&& j)
        · rfl
        · have h1 := (fp_sz (hu _ (and_lt64 ht) h)).2
          rw [hy.2 _ (and_lt64 ht) (fp_and hX ht hP (by omega))]; rfl
      rw [e2, Bool.xor_false]
      cases h : tb y (t &&& l)
      · simp
      · have h1 := (fp_sz (hy.1 _ (and_lt64 ht) h)).2
        rw [fp_and hX ht hP (show sz (t &&& j) = a + 1 by omega)]; simp)
  rw [e]
  exact ris_sp (fun s hs hb => by rw [tb_prd hs, Bool.and_eq_true] at hb; exact hb.1)
theorem prd_r {N : Nat} {F x y : Int64} {j l a b : Nat} (hX : CX N F) (hjl : j &&& l = 0) (h0 : hol F l (b + 1) = 0) (hx : clm F j (a + 1) x) (hy : clm F l (b + 1) y) : sp (rsl F (j ||| l) (a + b + 1)) (prd F j l (a + b + 2) x y) := by
  obtain ⟨u, hu, rfl⟩ := sp_xs2 (exact_z hX h0 hy)
  have e : prd F j l (a + b + 2) x (xs2 (fun s => abv s &&& mk (fp F l (b + 1)) 64) u 64) = ris F (j ||| l) (a + b + 1) (prd F j l (a + b + 1) x u) := tb_ext (fun t ht => by
    rw [tb_prd ht, tb_ris ht]
    cases hP : fp F (j ||| l) (a + b + 2) t
    · rfl
    · rw [leib hX hjl ht hP, show tb (xs2 (fun s => abv s &&& mk (fp F l (b + 1)) 64) u 64) (t &&& l) = tb (ris F l b u) (t &&& l) from rfl, tb_ris (and_lt64 ht)]
      have hz := fp_sz hP
      have hsp := sz_split hz.1 hjl
      have e2 : (dl x (t &&& j) && tb u (t &&& l)) = false := by
        cases h : tb u (t &&& l)
        · exact Bool.and_false _
        · have h1 := (fp_sz (hu _ (and_lt64 ht) h)).2
          rw [hx.2 _ (and_lt64 ht) (fp_and hX ht hP (by omega))]; rfl
      rw [e2, Bool.false_xor]
      cases h : tb x (t &&& j)
      · simp
      · have h1 := (fp_sz (hx.1 _ (and_lt64 ht) h)).2
        rw [fp_and hX ht hP (show sz (t &&& l) = b + 1 by omega)]; simp)
  rw [e]
  exact ris_sp (fun s hs hb => by rw [tb_prd hs, Bool.and_eq_true] at hb; exact hb.1)
theorem outl_0 {pr : Nat → Nat → Int64} {nl nj : Nat} {R : List Int64} (h : ∀ x y, x < nj → y < nl → sp R (pr x y)) : rk (outl pr nl R nj) = rk R ∧ ∀ v, sp R v → sp (outl pr nl R nj) v := by
  induction nj with
  | zero => exact ⟨rfl, fun v hv => hv⟩
  | succ nj ih =>
    obtain ⟨i1, i2⟩ := ih (fun x y hx hy => h x y (by omega) hy)
    have key : ∀ n, n ≤ nl → rk (inn (pr nj) (outl pr nl R nj) n) = rk R ∧ ∀ v, sp R v → sp (inn (pr nj) (outl pr nl R nj) n) v := by
      intro n
      induction n with
      | zero => intro _; exact ⟨i1, i2⟩
      | succ n ihn =>
        intro hn
        obtain ⟨j1, j2⟩ := ihn (by omega)
        refine ⟨?_, fun v hv => Or.inl (j2 v hv)⟩
        simp only [inn, rk]
        rw [j1, dq_t.mpr (j2 _ (h nj n (by omega) (by omega)))]; rfl
    exact key nl (Nat.le_refl _)
theorem rnk_0 {F : Int64} {j l a b : Nat} (h : ∀ x y, x < (cls F j (a + 1)).2.length → y < (cls F l (b + 1)).2.length → sp (rsl F (j ||| l) (a + b + 1)) (prc F j l a b x y)) : rnk F j l a b = 0 := by
  unfold rnk all2
  rw [(outl_0 h).1]
  exact Nat.sub_self _
/-- the short ways of the class are right -/
theorem mval_eq {N : Nat} {F : Int64} {j l a b : Nat} (hX : CX N F) (hjl : j &&& l = 0) : mval F j l a b = nI (rnk F j l a b) := by
  unfold mval
  by_cases h1 : hol F j (a + 1) = 0
  · rw [if_pos h1, rnk_0 (fun x y hx hy => prd_l hX hjl h1 (cls_clm hx) (cls_clm hy))]; rfl
  rw [if_neg h1]
  by_cases h2 : hol F l (b + 1) = 0
  · rw [if_pos h2, rnk_0 (fun x y hx hy => prd_r hX hjl h2 (cls_clm hx) (cls_clm hy))]; rfl
  rw [if_neg h2]
  by_cases h3 : 5 < a + b + 1 ∨ hol F (j ||| l) (a + b + 2) = 0
  · rw [if_pos h3, rnk_0 (fun x y hx hy => ?_)]
    · rfl
    · rcases h3 with h3 | h3
      · have : prc F j l a b x y = 0 := eq0_iff.mpr (fun t ht => by
          unfold prc
          rw [tb_prd ht]
          have : fp F (j ||| l) (a + b + 2) t = false := by
            have := sz_lt t
            have hne : ¬ sz t = a + b + 2 := by omega
            simp [fp, hne]
          rw [this]; rfl)
        rw [this]
        exact sp_0 _
      · have hc := prd_clm hX hjl (cls_clm (F := F) hx) (cls_clm (F := F) hy)
        rw [show a + 1 + (b + 1) = a + b + 2 by omega] at hc
        exact exact_z hX h3 hc
  · rw [if_neg h3]
