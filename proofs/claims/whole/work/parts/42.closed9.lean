/-! ===== pure part: closed marks of the reference ===== -/
def ML (rs ms : Nat → Int64) (c : Nat) (nx : Int64) (b : Nat → Nat) : Prop := ∀ i, i < c → b i < 64 ∧ hbt (rs i) (b i) ∧ (∀ t, t < 64 → tb (rs i) t = true → tb nx t = true) ∧ (∀ t, t < 64 → tb (ms i) t = true → tb nx t = false) ∧ ∀ i', i < i' → i' < c → tb (rs i') (b i) = false
def rows2 (rs ms : Nat → Int64) (i : Nat) : Int64 := ms i ^^^ rs i
theorem ML.ld {rs ms : Nat → Int64} {c : Nat} {nx : Int64} {b : Nat → Nat} (h : ML rs ms c nx b) : LD (rows2 rs ms) (fun i => b1 (b i)) c nx b := by
  intro i hi
  obtain ⟨h1, h2, h3, h4, h5⟩ := h i hi
  have hn := h3 _ h1 h2.1
  have nomark : ∀ j, j < c → tb (ms j) (b i) = false := fun j hj => by
    cases e : tb (ms j) (b i)
    · rfl
    · have := (h j hj).2.2.2.1 _ h1 e; rw [hn] at this; cases this
  refine ⟨h1, rfl, ?_, hn, fun i' a1 a2 => ?_⟩
  · unfold rows2; rw [tb_xor, nomark i hi, h2.1]; rfl
  · unfold rows2; rw [tb_xor, nomark i' a2, h5 i' a1 a2]; rfl
theorem bit_and0 {r : Int64} {k : Nat} (hk : k < 64) : (r &&& b1 k) = 0 ↔ tb r k = false := and_b1 r hk
theorem closed_in {N : Nat} {F : Int64} {kk : Int32 → Int32 → Int32 → Int32 → Int32 → (Nat → Int64) → (Nat → Int64) → (Nat → Int64) → Option (Int32 × (Nat → Int64) × (Nat → Int64) × (Nat → Int64))} {p1 p2 ou ss : Int32} {rs ms row : Nat → Int64} {c : Nat} {nx u : Int64} {b : Nat → Nat} {l : List Int64} (hc : c ≤ 20) (hM : ML rs ms c nx b) (hsp : ∀ v, sp l v ↔ sp (rl (rows2 rs ms) c) v) :
    ∀ q i m (mk r : Int64), i + q = c → q < m → sp l ((mk ^^^ r) ^^^ u) → (∀ t, t < 64 → tb mk t = true → tb nx t = false) → (∀ t, t < 64 → tb r t = true → tb nx t = true) → (∀ j, j < i → tb r (b j) = false) →
    ∃ mk' r' : Int64, sp l ((mk' ^^^ r') ^^^ u) ∧ (∀ t, t < 64 → tb mk' t = true → tb nx t = false) ∧ (∀ t, t < 64 → tb r' t = true → tb nx t = true) ∧ (∀ j, j < c → tb r' (b j) = false) ∧ f_X9_closed_67 (nI N) F kk m p1 p2 (nI c) ou ss mk r (nI i) rs ms row = (if r' = (0 : Int64) then gd (ix ou 20) (kk p1 p2 (nI c) (ou + 1) (ss + 1) rs ms (vp_updL row ou.toNatClampNeg mk')) else gd (ix (nI c) 20) (gd (ix (nI c) 20) (kk p1 p2 (nI c + 1) ou (ss + 1) (vp_updL rs (nI c).toNatClampNeg r') (vp_updL ms (nI c).toNatClampNeg mk') row))) := by
  intro q
  induction q with
  | zero =>
    intro i m mk r h1 h2 hs hm hr hz
    obtain ⟨m, rfl⟩ : ∃ m', m = m' + 1 := ⟨m - 1, by omega⟩
    have e : i = c := by omega
    subst e
    refine ⟨mk, r, hs, hm, hr, hz, ?_⟩
    rw [f_X9_closed_67, if_pos (nI_le (Nat.le_refl _) (by omega))]
  | succ q ih =>
    intro i m mk r h1 h2 hs hm hr hz
    obtain ⟨m, rfl⟩ : ∃ m', m = m' + 1 := ⟨m - 1, by omega⟩
    have hi : i < c := by omega
    obtain ⟨g1, g2, g3, g4, g5⟩ := hM i hi
    rw [f_X9_closed_67, if_neg (nI_ge hi (by omega)), ix_nI (show i < 20 by omega) (by decide), cl_nI (show i < 2 ^ 31 by omega), nI_1]
    simp only [gd, bnd]
    rw [sbg (f_highest g1 g2)]
    by_cases h0 : tb r (b i) = false
    · rw [if_pos ((bit_and0 g1).mpr h0)]
      have := ih (i + 1) m mk r (by omega) (by omega) hs hm hr (fun j hj => by
        by_cases e : j = i
        · subst e; exact h0
        · exact hz j (by omega))
      simp only [gd] at this
      exact this
    · rw [if_neg (fun h => h0 ((bit_and0 g1).mp h))]
      have hb1 : tb r (b i) = true := by simpa using h0
      have := ih (i + 1) m (mk ^^^ ms i) (r ^^^ rs i) (by omega) (by omega) (by
        have h3 := sp_xor hs ((hsp _).mpr (sp_mem (rl_mem (rows2 rs ms) hi)))
        have e : ((mk ^^^ r) ^^^ u) ^^^ rows2 rs ms i = ((mk ^^^ ms i) ^^^ (r ^^^ rs i)) ^^^ u := tb_ext (fun t _ => by
          unfold rows2
          simp only [tb_xor]
          cases tb mk t <;> cases tb r t <;> cases tb u t <;> cases tb (ms i) t <;> cases tb (rs i) t <;> rfl)
        rw [e] at h3
        exact h3) (fun t ht h => by
        rw [tb_xor] at h
        cases hn : tb nx t
        · rfl
        · have a1 : tb mk t = false := by
            cases e : tb mk t
            · rfl
            · have := hm t ht e; rw [hn] at this; cases this
          have a2 : tb (ms i) t = false := by
            cases e : tb (ms i) t
            · rfl
            · have := g4 t ht e; rw [hn] at this; cases this
          rw [a1, a2] at h; cases h) (fun t ht h => by
        rw [tb_xor] at h
        cases e1 : tb r t
        · rw [e1] at h
          cases e2 : tb (rs i) t
          · rw [e2] at h; cases h
          · exact g3 t ht e2
        · exact hr t ht e1) (fun j hj => by
        rw [tb_xor]
        by_cases e : j = i
        · subst e; rw [hb1, g2.1]; rfl
        · rw [hz j (by omega), (hM j (by omega)).2.2.2.2 i (by omega) hi]; rfl)
      simp only [gd] at this
      exact this
theorem cnt20 : ∀ n : Fin 20, (vl (fun s => sz s == n.val) (fun _ => 0) 64).length ≤ 20 := by decide +kernel
theorem vl_len_mono {P Q : Nat → Bool} {g : Nat → Int64} {m : Nat} (h : ∀ i, i < m → P i = true → Q i = true) : (vl P g m).length ≤ (vl Q g m).length := by
  induction m with
  | zero => exact Nat.le_refl _
  | succ m ih =>
    have ih := ih (fun i hi => h i (by omega))
    simp only [vl]
    by_cases hP : P m = true
    · rw [if_pos hP, if_pos (h m (by omega) hP)]
      simp only [List.length_cons]; omega
    · rw [if_neg hP]
      split
      · simp only [List.length_cons]; omega
      · exact ih
theorem vl_len_up {P : Nat → Bool} {g : Nat → Int64} {m : Nat} (k : Nat) : (vl P g m).length ≤ (vl P g (m + k)).length := by
  induction k with
  | zero => exact Nat.le_refl _
  | succ k ih =>
    show _ ≤ (if P (m + k) = true then g (m + k) :: vl P g (m + k) else vl P g (m + k)).length
    split
    · simp only [List.length_cons]; omega
    · exact ih
theorem len20 {F : Int64} {p n i : Nat} (hn : n < 20) (hi : i < 64) (hP : fp F p n i = true) : (vl (fp F p n) (fun _ => 0) i).length < 20 := by
  have h1 : (vl (fp F p n) (fun _ => 0) (i + 1)).length = (vl (fp F p n) (fun _ => 0) i).length + 1 := by
    show (if fp F p n i = true then _ else _ : List Int64).length = _
    rw [if_pos hP]; rfl
  have h2 := vl_len_up (P := fp F p n) (g := fun _ => 0) (m := i + 1) (63 - i)
  rw [show i + 1 + (63 - i) = 64 by omega] at h2
  have h3 := vl_len_mono (P := fp F p n) (Q := fun s => sz s == n) (g := fun _ => 0) (m := 64) (fun j hj h => by
    simp only [fp, Bool.and_eq_true] at h
    exact h.2)
  have h4 := cnt20 ⟨n, hn⟩
  simp only at h4
  omega
theorem f_closed {N p n : Nat} {F : Int64} (hX : CX N F) (hp : p < 64) (hn : n < 19) (rs ms row : Nat → Int64) : ∃ rs' ms' row' : Nat → Int64, f_X9_closed (nI N) F (nI p) (nI n) rs ms row = some (nI (cls F p n).2.length, rs', ms', row') ∧ RI row' (cls F p n).2 := by
  have hN := hX.2.1
  have h64 := pow_le64 hN
  have key : ∀ k i m (rs ms row : Nat → Int64) (b : Nat → Nat) (ul out : List Int64), i + k = 2 ^ N → k < m → cst (fp F p n) (um F p n) (mk (fp F p (n + 1)) 64) i = (ul, out) → ML rs ms ul.length (mk (fp F p (n + 1)) 64) b → (∀ v, sp ul v ↔ sp (rl (rows2 rs ms) ul.length) v) → RI row out →
      ∃ rs' ms' row' : Nat → Int64, f_X9_closed_9 (nI N) F m (nI p) (nI n) (nI ul.length) (nI out.length) (nI i) rs ms row = some (nI (cst (fp F p n) (um F p n) (mk (fp F p (n + 1)) 64) (2 ^ N)).2.length, rs', ms', row') ∧ RI row' (cst (fp F p n) (um F p n) (mk (fp F p (n + 1)) 64) (2 ^ N)).2 := by
    intro k
    induction k with
    | zero =>
      intro i m rs ms row b ul out h1 h2 hc hM hsp hR
      obtain ⟨m, rfl⟩ : ∃ m', m = m' + 1 := ⟨m - 1, by omega⟩
      have e : i = 2 ^ N := by omega
      subst e
      rw [hc]
      refine ⟨rs, ms, row, ?_, hR⟩
      rw [f_X9_closed_9, sbg (f_all hN), if_pos (all_end hN)]
    | succ k ih =>
      intro i m rs ms row b ul out h1 h2 hc hM hsp hR
      obtain ⟨m, rfl⟩ : ∃ m', m = m' + 1 := ⟨m - 1, by omega⟩
      have hi : i < 2 ^ N := by omega
      have hi64 : i < 64 := by omega
      rw [f_X9_closed_9, sbg (f_all hN), if_neg (all_lt hN hi), sbg (f_size hi64)]
      have skip : fp F p n i = false → ∃ rs' ms' row' : Nat → Int64, f_X9_closed_9 (nI N) F m (nI p) (nI n) (nI ul.length) (nI out.length) (nI i + 1) rs ms row = some (nI (cst (fp F p n) (um F p n) (mk (fp F p (n + 1)) 64) (2 ^ N)).2.length, rs', ms', row') ∧ RI row' (cst (fp F p n) (um F p n) (mk (fp F p (n + 1)) 64) (2 ^ N)).2 := fun hz => by
        rw [nI_1]
        exact ih (i + 1) m rs ms row b ul out (by omega) (by omega) (by rw [cst_skip hz]; exact hc) hM hsp hR
      by_cases hs : sz i = n
      · rw [if_pos (by rw [hs])]
        by_cases hsub : sub i p = true
        · rw [if_pos ((t_sub ⟨i, hi64⟩ ⟨p, hp⟩).mpr hsub), sbg (f_isFace hi64)]
          by_cases hf : tb F i = true
          · have hP : fp F p n i = true := by simp [fp, hf, hsub, hs]
            rw [if_neg (by rw [tf0, hf]; decide)]
            simp only [bnd]
            rw [show ((1 : Int64) <<< ((nI i).toInt64 &&& 63)) = b1 i from rfl, sbg (f_rise hX hp hn hi64)]
            have hl := cst_len (fp F p n) (um F p n) (mk (fp F p (n + 1)) 64) i
            have hl2 := len20 (F := F) (p := p) (n := n) (i := i) (by omega) hi64 hP
            rw [hc] at hl
            simp only at hl
            obtain ⟨mk', r', a1, a2, a3, a4, a5⟩ := closed_in (N := N) (F := F) (kk := f_X9_closed_9 (nI N) F m) (p1 := nI p) (p2 := nI n) (ou := nI out.length) (ss := nI i) (row := row) (u := um F p n i) (by omega) hM hsp ul.length 0 FU (b1 i) (abv i &&& mk (fp F p (n + 1)) 64) (by omega) (Nat.lt_of_lt_of_le (show ul.length < 20 by omega) (by decide)) (by
                rw [show b1 i ^^^ (abv i &&& mk (fp F p (n + 1)) 64) = um F p n i from rfl, x_self]; exact sp_0 _) (fun t ht h => by
                rw [tb_b1 hi64 ht] at h
                have : t = i := by simpa using h
                subst this
                rw [tb_fp ht]
                simp [fp, hs]) (fun t ht h => by
                rw [tb_and, Bool.and_eq_true] at h
                exact h.2) (fun j hj => by omega)
            rw [show (0 : Int32) = nI 0 from rfl, a5]
            have hu := uniq_of hM.ld hsp a1 (fun j hj => by
              have hb := hM j hj
              rw [tb_xor, a4 j hj]
              have : tb mk' (b j) = false := by
                cases e : tb mk' (b j)
                · rfl
                · have q1 := a2 _ hb.1 e
                  have q2 := hb.2.2.1 _ hb.1 hb.2.1.1
                  rw [q1] at q2; cases q2
              rw [this]; rfl)
            have nomk : mk' &&& mk (fp F p (n + 1)) 64 = 0 := eq0_iff.mpr (fun t ht => by
              rw [tb_and]
              cases e : tb mk' t
              · rfl
              · rw [a2 t ht e]; rfl)
            by_cases hr0 : r' = 0
            · rw [if_pos hr0, ix_nI (show out.length < 20 by omega) (by decide), cl_nI (show out.length < 2 ^ 31 by omega)]
              subst hr0
              rw [x_0] at a1 hu
              have hd : dep (mk (fp F p (n + 1)) 64) ul (um F p n i) := ⟨mk' ^^^ um F p n i, a1, by rw [x_comm mk', x_can']; exact nomk⟩
              have e1 : mk' = clo1 (mk (fp F p (n + 1)) 64) ul (um F p n i) := by
                have hcl := clo1_s hd
                have := hu _ hcl.1 (by rw [x_comm (clo1 _ _ _), x_can']; exact hcl.2)
                rw [x_comm (clo1 _ _ _), x_can'] at this
                exact this
              have hd' : dep (mk (fp F p (n + 1)) 64) (cst (fp F p n) (um F p n) (mk (fp F p (n + 1)) 64) i).1 (um F p n i) := by rw [hc]; exact hd
              simp only [gd]
              rw [nI_1, nI_1]
              exact ih (i + 1) m rs ms _ b ul (mk' :: out) (by omega) (by omega) (by rw [cst_dep hP hd', hc, e1]) hM hsp (RI_push mk' hR)
            · rw [if_neg hr0, ix_nI (show ul.length < 20 by omega) (by decide), cl_nI (show ul.length < 2 ^ 31 by omega)]
              have hd : ¬ dep (mk (fp F p (n + 1)) 64) ul (um F p n i) := by
                rintro ⟨d, d1, d2⟩
                have := hu d d1 d2
                rw [← this] at d2
                apply hr0
                refine eq0_iff.mpr (fun t ht => ?_)
                have q := eq0_iff.mp d2 t ht
                rw [tb_and, tb_xor] at q
                cases e : tb r' t
                · rfl
                · have q2 := a3 t ht e
                  have q3 : tb mk' t = false := by
                    cases e3 : tb mk' t
                    · rfl
                    · have := a2 t ht e3; rw [q2] at this; cases this
                  rw [e, q2, q3] at q; cases q
              have hd' : ¬ dep (mk (fp F p (n + 1)) 64) (cst (fp F p n) (um F p n) (mk (fp F p (n + 1)) 64) i).1 (um F p n i) := by rw [hc]; exact hd
              obtain ⟨kb, hkb, hhb⟩ := hb_ex hr0
              simp only [gd]
              rw [nI_1, nI_1]
              refine ih (i + 1) m _ _ row (fun j => if j < ul.length then b j else kb) (um F p n i :: ul) out (by omega) (by omega) (by rw [cst_new hP hd', hc]) (fun j hj => ?_) (fun v => ?_) hR
              · simp only [List.length_cons] at hj
                by_cases hjl : j < ul.length
                · obtain ⟨g1, g2, g3, g4, g5⟩ := hM j hjl
                  simp only [hjl, if_true]
                  rw [uL_n (show j ≠ ul.length by omega), uL_n (show j ≠ ul.length by omega)]
                  refine ⟨g1, g2, g3, g4, fun i' b1' b2' => ?_⟩
                  simp only [List.length_cons] at b2'
                  by_cases e : i' = ul.length
                  · subst e; rw [uL_s]; exact a4 j hjl
                  · rw [uL_n e]; exact g5 i' b1' (by omega)
                · have e : j = ul.length := by omega
                  subst e
                  simp only [hjl, if_false]
                  rw [uL_s, uL_s]
                  exact ⟨hkb, hhb, a3, a2, fun i' b1' b2' => by simp only [List.length_cons] at b2'; omega⟩
              · have e1 : rl (rows2 (vp_updL rs ul.length r') (vp_updL ms ul.length mk')) (um F p n i :: ul).length = (mk' ^^^ r') :: rl (rows2 rs ms) ul.length := by
                  show rows2 _ _ ul.length :: rl _ ul.length = _
                  rw [rl_congr (r2 := rows2 rs ms) (fun j hj => by unfold rows2; rw [uL_n (by omega), uL_n (by omega)])]
                  unfold rows2
                  rw [uL_s, uL_s]
                rw [e1]
                refine sp_cons_iff hsp ?_ v
                rw [x_comm]; exact a1
          · have hz : fp F p n i = false := by simp [fp, hf]
            rw [if_pos ((tf0 _).mpr (by simpa using hf))]
            exact skip hz
        · have hz : fp F p n i = false := by simp [fp, hsub]
          rw [if_neg (fun h => hsub ((t_sub ⟨i, hi64⟩ ⟨p, hp⟩).mp h))]
          exact skip hz
      · have hz : fp F p n i = false := by simp [fp, hs]
        rw [if_neg (fun h => hs ((nI_inj (by have := sz_lt i; omega) (by omega)).mp h))]
        exact skip hz
  have e : cst (fp F p n) (um F p n) (mk (fp F p (n + 1)) 64) (2 ^ N) = cls F p n := by
    have go : ∀ k, k ≤ 64 - 2 ^ N → cst (fp F p n) (um F p n) (mk (fp F p (n + 1)) 64) (2 ^ N + k) = cst (fp F p n) (um F p n) (mk (fp F p (n + 1)) 64) (2 ^ N) := by
      intro k
      induction k with
      | zero => intro _; rfl
      | succ k ih => intro hk; rw [← Nat.add_assoc, cst_skip (fp_tail hX (2 ^ N + k) (by omega) (by omega))]; exact ih (by omega)
    have := go (64 - 2 ^ N) (Nat.le_refl _)
    rw [show 2 ^ N + (64 - 2 ^ N) = 64 by omega] at this
    exact this.symm
  have h := key (2 ^ N) 0 FU rs ms row (fun _ => 0) [] [] (by omega) (Nat.lt_of_le_of_lt h64 (by decide)) rfl (fun i hi => by simp at hi) (fun v => Iff.rfl) trivial
  rw [e] at h
  exact h
