/-! ===== pure part: rises, highest bits, of the reference ===== -/
set_option maxRecDepth 20000 in
theorem t_odd : ∀ (N : Fin 7) (t : Fin 64), t.val < 2 ^ N.val → ∀ s : Fin 64, f_X9_odd (nI N.val) (nI t.val) (b1 s.val) = some (tf (sub s.val t.val && sz s.val + 1 == sz t.val)) := by decide +kernel
def rq (F : Int64) (p n s t : Nat) : Bool := fp F p (n + 1) t && (sub s t && sz s + 1 == sz t)
theorem f_rise {N p n s : Nat} {F : Int64} (hX : CX N F) (hp : p < 64) (hn : n < 19) (hs : s < 64) : f_X9_rise (nI N) F (b1 s) (nI p) (nI n) = some (abv s &&& mk (fp F p (n + 1)) 64) := by
  have hN := hX.2.1
  have h64 := pow_le64 hN
  have key : ∀ k i m, i + k = 2 ^ N → k < m → f_X9_rise_6 (nI N) F m (b1 s) (nI p) (nI n) (mk (rq F p n s) i) (nI i) = some (mk (rq F p n s) (2 ^ N)) := by
    intro k
    induction k with
    | zero =>
      intro i m h1 h2
      obtain ⟨m, rfl⟩ : ∃ m', m = m' + 1 := ⟨m - 1, by omega⟩
      have e : i = 2 ^ N := by omega
      subst e
      rw [f_X9_rise_6, sbg (f_all hN), if_pos (all_end hN)]
    | succ k ih =>
      intro i m h1 h2
      obtain ⟨m, rfl⟩ : ∃ m', m = m' + 1 := ⟨m - 1, by omega⟩
      have hi : i < 2 ^ N := by omega
      have hi64 : i < 64 := by omega
      have ih := ih (i + 1) m (by omega) (by omega)
      rw [f_X9_rise_6, sbg (f_all hN), if_neg (all_lt hN hi), sbg (f_size hi64), nI_1, nI_1]
      by_cases hsz : sz i = n + 1
      · rw [if_pos (by rw [hsz])]
        by_cases hsub : sub i p = true
        · rw [if_pos ((t_sub ⟨i, hi64⟩ ⟨p, hp⟩).mpr hsub), sbg (f_isFace hi64)]
          by_cases hf : tb F i = true
          · rw [if_neg (by rw [tf0, hf]; decide), sbg (show f_X9_odd (nI N) (nI i) (b1 s) = _ from t_odd ⟨N, by omega⟩ ⟨i, hi64⟩ hi ⟨s, hs⟩)]
            have hfp : fp F p (n + 1) i = true := by simp [fp, hf, hsub, hsz]
            unfold f_X9_rise_68
            rw [nI_1]
            cases ho : (sub s i && sz s + 1 == sz i) with
            | true =>
              have hP : rq F p n s i = true := by simp only [rq, hfp, ho]; rfl
              rw [if_neg (show ¬ tf true = 0 by decide)]
              rw [mk_s, if_pos hP] at ih
              exact ih
            | false =>
              have hz : ¬ rq F p n s i = true := by simp only [rq, hfp, ho]; decide
              rw [if_pos (show tf false = 0 from rfl)]
              rw [mk_s, if_neg hz] at ih
              have e0 : mk (rq F p n s) i ||| (0 : Int64) = mk (rq F p n s) i := tb_ext (fun j _ => by rw [tb_or, tb_0, Bool.or_false])
              rw [e0]
              exact ih
          · have hz : ¬ rq F p n s i = true := by simp [rq, fp, hf]
            rw [if_pos ((tf0 _).mpr (by simpa using hf))]
            rw [mk_s, if_neg hz] at ih
            exact ih
        · have hz : ¬ rq F p n s i = true := by simp [rq, fp, hsub]
          rw [if_neg (fun h => hsub ((t_sub ⟨i, hi64⟩ ⟨p, hp⟩).mp h))]
          rw [mk_s, if_neg hz] at ih
          exact ih
      · have hz : ¬ rq F p n s i = true := by simp [rq, fp, hsz]
        rw [if_neg (fun h => hsz ((nI_inj (by have := sz_lt i; omega) (by omega)).mp h))]
        rw [mk_s, if_neg hz] at ih
        exact ih
  have h := key (2 ^ N) 0 FU (by omega) (Nat.lt_of_le_of_lt h64 (by decide))
  have e := mk_tail (P := rq F p n s) (m := 2 ^ N) (64 - 2 ^ N) (fun i h1 h2 => by simp only [rq, fp_tail hX i h1 h2, Bool.false_and])
  rw [show 2 ^ N + (64 - 2 ^ N) = 64 by omega] at e
  have e2 : abv s &&& mk (fp F p (n + 1)) 64 = mk (rq F p n s) 64 := by
    refine tb_ext (fun i hi => ?_)
    rw [tb_and, tb_abv hi, tb_mk (Nat.le_refl _) hi, tb_mk (Nat.le_refl _) hi]
    simp only [rq, hi, decide_true, Bool.true_and]
    rw [Bool.and_comm]
  rw [e2, e]
  exact h
theorem f_highest {v : Int64} {k : Nat} (hk : k < 64) (hv : hbt v k) : f_X9_highest v = some (b1 k) := by
  have key : ∀ d m n, m = k + 1 + d → m ≤ 64 → d < n → f_X9_highest_3 n v (nI m + (-1)) = some (b1 k) := by
    intro d
    induction d with
    | zero =>
      intro m n h1 h2 h3
      obtain ⟨n, rfl⟩ : ∃ n', n = n' + 1 := ⟨n - 1, by omega⟩
      subst h1
      rw [show nI (k + 1 + 0) + (-1) = nI k from pk_m1 k]
      rw [f_X9_highest_3, if_neg (fun h => by have := (bit0_iff v hk).mp h; rw [hv.1] at this; cases this)]
      rfl
    | succ d ih =>
      intro m n h1 h2 h3
      obtain ⟨n, rfl⟩ : ∃ n', n = n' + 1 := ⟨n - 1, by omega⟩
      have e : nI m + (-1) = nI (k + 1 + d) := by rw [h1]; exact pk_m1 (k + 1 + d)
      rw [e, f_X9_highest_3, if_pos ((bit0_iff v (by omega)).mpr (hv.2 _ (by omega) (by omega)))]
      exact ih (k + 1 + d) n rfl (by omega) (by omega)
  exact key (63 - k) 64 FU (by omega) (Nat.le_refl _) (Nat.lt_of_le_of_lt (Nat.sub_le _ _) (by decide))
