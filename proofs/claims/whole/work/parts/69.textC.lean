/-! read -/
def blk (v : Int32) : Prop := v = 32 ∨ v = 10
theorem at_both {n j : Nat} {bx bm : Nat → Int32} (hT : TXn n bx bm) (hj : j ≤ n) : ∃ v, f_X5_at bx (nI n) (nI j) = some v ∧ f_X9_see bm (nI n) (nI j) = some v ∧ ((j < n ∧ v = bx j ∧ ∃ b, b < 256 ∧ v = nI b) ∨ (j = n ∧ v = -1)) := by
  have hn := hT.1
  by_cases c : j < n
  · obtain ⟨q1, b, q2, q3⟩ := hT.2 j c
    refine ⟨bx j, f_at5 hn c bx, ?_, Or.inl ⟨c, rfl, b, q2, q3⟩⟩
    unfold f_X9_see f_X9_see_0
    rw [if_neg (nI_ge c (by omega)), ix_nI (show j < 200 by omega) (by decide), cl_nI (show j < 2 ^ 31 by omega), q1]
    rfl
  · have e : j = n := by omega
    subst e
    refine ⟨-1, ?_, ?_, Or.inr ⟨rfl, rfl⟩⟩
    · unfold f_X5_at f_X5_at_0
      rw [if_neg (nI_pos (show j < 2 ^ 31 by omega)), if_pos (nI_le (Nat.le_refl _) (by omega))]
    · unfold f_X9_see f_X9_see_0
      rw [if_pos (nI_le (Nat.le_refl _) (by omega))]
theorem f_isBlank (v : Int32) : (blk v → f_X4_isBlank v = some 1) ∧ (¬ blk v → f_X4_isBlank v = some 0) := by
  unfold f_X4_isBlank f_X4_isBlank_0 f_X4_isBlank_12
  constructor
  · rintro (h | h)
    · rw [if_pos h]
    · by_cases c : v = 32
      · rw [if_pos c]
      · rw [if_neg c, if_pos h]
  · intro h
    rw [if_neg (fun e => h (Or.inl e)), if_neg (fun e => h (Or.inr e))]
theorem blanks_both {n : Nat} {bx bm : Nat → Int32} (hT : TXn n bx bm) : ∀ d i, i + d = n → ∀ m m', d < m → d < m' → ∃ j, i ≤ j ∧ j ≤ n ∧ f_X4_behindBlanks_2 bx (nI n) m (nI i) = some (nI j) ∧ f_X9_blanks_2 bm (nI n) m' (nI i) = some (nI j) ∧ (j < n → ¬ blk (bx j)) ∧ ∀ k, i ≤ k → k < j → blk (bx k) := by
  have hn := hT.1
  intro d
  induction d with
  | zero =>
    intro i g1 m m' g2 g3
    obtain ⟨m, rfl⟩ : ∃ x, m = x + 1 := ⟨m - 1, by omega⟩
    obtain ⟨m', rfl⟩ : ∃ x, m' = x + 1 := ⟨m' - 1, by omega⟩
    have e : i = n := by omega
    subst e
    obtain ⟨v, v1, v2, v3⟩ := at_both hT (Nat.le_refl i)
    have hv : v = -1 := by
      rcases v3 with h | h
      · omega
      · exact h.2
    refine ⟨i, Nat.le_refl _, Nat.le_refl _, ?_, ?_, fun h => by omega, fun k h1 h2 => by omega⟩
    · rw [f_X4_behindBlanks_2, f_X5_size, f_X5_size_0, sbg rfl, if_pos (nI_le (Nat.le_refl _) (by omega)), sbg rfl]
    · rw [f_X9_blanks_2, sbg v2, if_neg (by rw [hv]; decide), sbg v2, if_neg (by rw [hv]; decide)]
  | succ d ih =>
    intro i g1 m m' g2 g3
    obtain ⟨m, rfl⟩ : ∃ x, m = x + 1 := ⟨m - 1, by omega⟩
    obtain ⟨m', rfl⟩ : ∃ x, m' = x + 1 := ⟨m' - 1, by omega⟩
    obtain ⟨v, v1, v2, v3⟩ := at_both hT (show i ≤ n by omega)
    have hv : v = bx i := by
      rcases v3 with h | h
      · exact h.2.1
      · omega
    rw [f_X4_behindBlanks_2, f_X5_size, f_X5_size_0, sbg rfl, if_neg (nI_ge (show i < n by omega) (by omega)), sbg v1, f_X9_blanks_2, sbg v2, sbg v2, nI_1]
    by_cases c : blk v
    · rw [sbg ((f_isBlank v).1 c), if_neg (by decide)]
      obtain ⟨j, j1, j2, j3, j4, j5, j6⟩ := ih (i + 1) (by omega) m m' (by omega) (by omega)
      refine ⟨j, by omega, j2, j3, ?_, j5, fun k h1 h2 => ?_⟩
      · rcases c with c | c
        · rw [if_pos c]; exact j4
        · by_cases e : v = 32
          · rw [if_pos e]; exact j4
          · rw [if_neg e, if_pos c]; exact j4
      · by_cases e : k = i
        · subst e; rw [← hv]; exact c
        · exact j6 k (by omega) h2
    · rw [sbg ((f_isBlank v).2 c), if_pos rfl, if_neg (fun e => c (Or.inl e)), if_neg (fun e => c (Or.inr e))]
      exact ⟨i, Nat.le_refl _, by omega, rfl, rfl, fun _ => by rw [← hv]; exact c, fun k h1 h2 => by omega⟩
theorem ins0 {G : Int64} (h : tb G 0 = true) : G ||| ins 0 = G := tb_ext (fun t ht => by
  rw [tb_or, tb_ins ht]
  cases hc : sub t 0 with
  | false => rw [Bool.or_false]
  | true => rw [sub_of0 hc, h]; rfl)
theorem skip8 {n : Nat} {bx bm : Nat → Int32} (hT : TXn n bx bm) {told : Int32} {G : Int64} (hG : tb G 0 = true) : ∀ d i m, i + d ≤ n → (∀ k, i ≤ k → k < i + d → blk (bx k)) → f_X4_parseFaces_13 told bx (nI n) (m + d) (-1) 0 (nI i) G = f_X4_parseFaces_13 told bx (nI n) m (-1) 0 (nI (i + d)) G := by
  have hn := hT.1
  intro d
  induction d with
  | zero => intro i m _ _; rfl
  | succ d ih =>
    intro i m g1 g2
    rw [show m + (d + 1) = (m + d) + 1 by omega, f_X4_parseFaces_13, f_X5_size, f_X5_size_0, sbg rfl, if_neg (nI_ge (show i < n by omega) (by omega)), sbg (f_at5 hn (show i < n by omega) bx), sbg ((f_isBlank _).1 (g2 i (by omega) (by omega))), if_neg (show ¬ (1 : Int32) = 0 by decide), show (0 : Int32) = nI 0 from rfl, sbg (f_inside (show 0 < 64 by decide)), ins0 hG, nI_1]
    have := ih (i + 1) m (by omega) (fun k h1 h2 => g2 k (by omega) (by omega))
    rw [show i + 1 + d = i + (d + 1) by omega] at this
    exact this
theorem dgt : ∀ (b : Fin 256) (N : Fin 7) (q : Fin 7), 1 ≤ N.val → ((nI b.val - 48 ≤ km q.val ↔ nI b.val - 48 < km q.val + 1) ∧ (nI b.val - 48 < nI N.val ↔ ¬ nI N.val - 1 < nI b.val - 48) ∧ (¬ nI b.val - 48 ≤ km q.val → nI b.val - 48 < nI N.val → 48 ≤ b.val ∧ b.val - 48 < N.val)) := by decide +kernel
theorem dgt48 : ∀ b : Fin 256, 48 ≤ b.val → nI b.val - 48 = nI (b.val - 48) := by decide +kernel
theorem tok {N n : Nat} (h1 : 1 ≤ N) (h6 : N ≤ 6) {bx bm : Nat → Int32} (hT : TXn n bx bm) : ∀ D d i, d ≤ D → i + d = n → ∀ m m1 m2 u q (G : Int64), d < m → d + 1 < m1 → d < m2 → u < 2 ^ N → q ≤ N → CX N G →
    ∃ r G' Gm, f_X4_parseFaces_13 (nI N) bx (nI n) m (km q) (nI u) (nI i) G = some (r, G') ∧ f_X9_reads_80 bm (nI n) (f_X9_reads_68 bm (nI n) m1) m2 (nI i) (nI u) (km q) G (nI N) = some (r, Gm, nI N) ∧ ((r = -1 ∧ G' = Gm ∧ CX N G') ∨ ∃ k, k ≤ 200 ∧ r = nI k) := by
  have hn := hT.1
  have h64 := pow_le64 h6
  have stop68 : ∀ m1 (G : Int64), f_X9_reads_68 bm (nI n) (m1 + 1) (nI n) G (nI N) = some (-1, G, nI N) := by
    intro m1 G
    rw [f_X9_reads_68, if_pos (nI_le (Nat.le_refl _) (by omega))]
  intro D
  induction D with
  | zero =>
    intro d i hd g1 m m1 m2 u q G f1 f2 f3 hu hq hX
    have e : i = n := by omega
    subst e
    obtain ⟨m, rfl⟩ : ∃ x, m = x + 1 := ⟨m - 1, by omega⟩
    obtain ⟨m1, rfl⟩ : ∃ x, m1 = x + 1 := ⟨m1 - 1, by omega⟩
    obtain ⟨m2, rfl⟩ : ∃ x, m2 = x + 1 := ⟨m2 - 1, by omega⟩
    obtain ⟨v, v1, v2, v3⟩ := at_both hT (Nat.le_refl i)
    have hv : v = -1 := by
      rcases v3 with h | h
      · omega
      · exact h.2
    obtain ⟨j, j1, j2, j3, j4, j5, j6⟩ := blanks_both hT 0 i (by omega) FU FU (by decide) (by decide)
    have ej : j = i := by omega
    subst ej
    refine ⟨-1, G ||| ins u, G ||| ins u, ?_, ?_, Or.inl ⟨rfl, rfl, CX_face hX hu⟩⟩
    · rw [f_X4_parseFaces_13, f_X5_size, f_X5_size_0, sbg rfl, if_pos (nI_le (Nat.le_refl _) (by omega)), sbg (f_inside (show u < 64 by omega))]
    · rw [f_X9_reads_80, sbg v2, if_neg (by rw [hv]; decide), sbg v2, if_neg (by rw [hv]; decide), sbg v2, if_pos hv]
      unfold f_X9_reads_154
      rw [sbg (f_within (show u < 64 by omega)), f_X9_blanks, f_X9_blanks_0, sbg j4]
      exact stop68 m1 _
  | succ D ih =>
    intro d i hd g1 m m1 m2 u q G f1 f2 f3 hu hq hX
    by_cases hd0 : d ≤ D
    · exact ih d i hd0 g1 m m1 m2 u q G f1 f2 f3 hu hq hX
    obtain ⟨m, rfl⟩ : ∃ x, m = x + 1 := ⟨m - 1, by omega⟩
    obtain ⟨m1, rfl⟩ : ∃ x, m1 = x + 1 := ⟨m1 - 1, by omega⟩
    obtain ⟨m2, rfl⟩ : ∃ x, m2 = x + 1 := ⟨m2 - 1, by omega⟩
    have hi : i < n := by omega
    obtain ⟨v, v1, v2, v3⟩ := at_both hT (show i ≤ n by omega)
    obtain ⟨hv, b, hb, hvb⟩ : v = bx i ∧ ∃ b, b < 256 ∧ v = nI b := by
      rcases v3 with h | h
      · exact h.2
      · omega
    rw [f_X4_parseFaces_13, f_X5_size, f_X5_size_0, sbg rfl, if_neg (nI_ge hi (by omega)), sbg v1, f_X9_reads_80, sbg v2]
    by_cases c : blk v
    · rw [sbg ((f_isBlank v).1 c), if_neg (show ¬ (1 : Int32) = 0 by decide), sbg (f_inside (show u < 64 by omega))]
      have hX' := CX_face hX hu
      obtain ⟨j, j1, j2, j3, j4, j5, j6⟩ := blanks_both hT d i (by omega) FU FU (Nat.lt_of_le_of_lt (show d ≤ 200 by omega) (by decide)) (Nat.lt_of_le_of_lt (show d ≤ 200 by omega) (by decide))
      have hij : i + 1 ≤ j := by
        by_cases e : j = i
        · subst e; exact absurd (hv ▸ c) (j5 hi)
        · omega
      have mod : ∀ Z, (if v = 32 then f_X9_reads_154 bm (nI n) (f_X9_reads_68 bm (nI n) (m1 + 1)) (nI i) (nI u) G (nI N) else (f_X9_see bm (nI n) (nI i)).bind (fun R2 => if R2 = 10 then f_X9_reads_154 bm (nI n) (f_X9_reads_68 bm (nI n) (m1 + 1)) (nI i) (nI u) G (nI N) else Z)) = f_X9_reads_68 bm (nI n) (m1 + 1) (nI j) (G ||| ins u) (nI N) := by
        intro Z
        have e154 : f_X9_reads_154 bm (nI n) (f_X9_reads_68 bm (nI n) (m1 + 1)) (nI i) (nI u) G (nI N) = f_X9_reads_68 bm (nI n) (m1 + 1) (nI j) (G ||| ins u) (nI N) := by
          unfold f_X9_reads_154
          rw [sbg (f_within (show u < 64 by omega)), f_X9_blanks, f_X9_blanks_0, sbg j4]
        by_cases e : v = 32
        · rw [if_pos e, e154]
        · rcases c with c | c
          · exact absurd c e
          · rw [if_neg e, sbg v2, if_pos c, e154]
      rw [mod, nI_1]
      obtain ⟨mm, rfl⟩ : ∃ x, m = x + (j - (i + 1)) := ⟨m - (j - (i + 1)), by omega⟩
      have sk := skip8 (told := nI N) hT hX'.2.2.1 (j - (i + 1)) (i + 1) mm (by omega) (fun k h1 h2 => j6 k (by omega) (by omega))
      rw [show i + 1 + (j - (i + 1)) = j by omega] at sk
      rw [sk]
      have hmm : ∃ x, mm = x + 1 := by
        cases mm with
        | zero => exfalso; omega
        | succ x => exact ⟨x, rfl⟩
      by_cases ej : j = n
      · subst ej
        obtain ⟨mm, rfl⟩ := hmm
        refine ⟨-1, G ||| ins u, G ||| ins u, ?_, stop68 m1 _, Or.inl ⟨rfl, rfl, hX'⟩⟩
        rw [f_X4_parseFaces_13, f_X5_size, f_X5_size_0, sbg rfl, if_pos (nI_le (Nat.le_refl _) (by omega)), show (0 : Int32) = nI 0 from rfl, sbg (f_inside (show 0 < 64 by decide)), ins0 hX'.2.2.1]
      · have hp : 0 < 2 ^ N := Nat.pow_pos (by decide)
        obtain ⟨r, G', Gm, r1, r2, r3⟩ := ih (n - j) j (by omega) (by omega) mm m1 FU 0 0 (G ||| ins u) (by omega) (by omega) (Nat.lt_of_le_of_lt (show n - j ≤ 200 by omega) (by decide)) hp (by omega) hX'
        refine ⟨r, G', Gm, r1, ?_, r3⟩
        rw [f_X9_reads_68, if_neg (nI_ge (show j < n by omega) (by omega))]
        exact r2
    · have hv1 : ¬ v = -1 := by rw [hvb]; exact nI_m1 (by omega)
      rw [sbg ((f_isBlank v).2 c), if_pos rfl, if_neg (fun e => c (Or.inl e)), sbg v2, if_neg (fun e => c (Or.inr e)), sbg v2, if_neg hv1, sbg v2]
      obtain ⟨d1, d2, d3⟩ := dgt ⟨b, hb⟩ ⟨N, by omega⟩ ⟨q, by omega⟩ h1
      simp only at d1 d2 d3
      rw [hvb]
      unfold f_X9_isIn f_X9_isIn_0
      by_cases c1 : nI b - 48 ≤ km q
      · rw [if_pos c1, if_pos (d1.mp c1), sbg rfl, if_pos rfl]
        exact ⟨_, _, _, rfl, rfl, Or.inr ⟨i, by omega, rfl⟩⟩
      · rw [if_neg c1, if_neg (fun h => c1 (d1.mpr h))]
        by_cases c2 : nI b - 48 < nI N
        · obtain ⟨p1, p2⟩ := d3 c1 c2
          rw [if_pos c2, if_neg (d2.mp c2), sbg rfl, if_neg (show ¬ (1 : Int32) = 0 by decide), dgt48 ⟨b, hb⟩ p1]
          simp only [bnd]
          have hq64 : 2 ^ (b - 48) < 64 := by have := pow5 (show b - 48 < 6 by omega); omega
          rw [f_pow (show b - 48 ≤ 6 by omega), nI_or (show u < 64 by omega) hq64, nI_1, show nI (b - 48) = km (b - 48 + 1) from (km_nn _).symm]
          exact ih (d - 1) (i + 1) (by omega) (by omega) m (m1 + 1) m2 _ _ G (by omega) (by omega) (by omega) (Nat.or_lt_two_pow hu (Nat.pow_lt_pow_right (by decide) p2)) (by omega) hX
        · rw [if_neg c2, if_pos (by
            by_cases z : nI N - 1 < nI b - 48
            · exact z
            · exact absurd (d2.mpr z) c2), sbg rfl, if_pos rfl]
          exact ⟨_, _, _, rfl, rfl, Or.inr ⟨i, by omega, rfl⟩⟩
theorem dg49 : ∀ b : Fin 256, (nI b.val - 48 < (1 : Int32) ↔ nI b.val < 49) ∧ (nI b.val - 48 ≤ (6 : Int32) ↔ ¬ (54 : Int32) < nI b.val) ∧ (¬ nI b.val < 49 → ¬ (54 : Int32) < nI b.val → 49 ≤ b.val ∧ b.val ≤ 54) := by decide +kernel
theorem parse_both {n : Nat} {bx bm : Nat → Int32} (hT : TXn n bx bm) (t : Int32) (ts : Int64) (rf : Int64) (rp : Int32) : ∃ r t' ts' rf' rp', f_X4_parse bx (nI n) t ts = some (r, t', ts') ∧ f_X9_reads bm (nI n) rf rp = some (r, rf', rp') ∧ ((r = -1 ∧ ∃ N, t' = nI N ∧ rp' = nI N ∧ rf' = ts' ∧ CX N ts') ∨ ∃ k, k ≤ 200 ∧ r = nI k) := by
  have hn := hT.1
  have hFU : ∀ x, x ≤ 200 → x < FU := fun x hx => Nat.lt_of_le_of_lt hx (by decide)
  unfold f_X4_parse f_X4_parse_0 f_X9_reads f_X9_reads_0 f_X4_behindBlanks f_X4_behindBlanks_0 f_X9_blanks f_X9_blanks_0
  obtain ⟨j, j1, j2, j3, j4, j5, j6⟩ := blanks_both hT n 0 (by omega) FU FU (hFU n hn) (hFU n hn)
  obtain ⟨v, v1, v2, v3⟩ := at_both hT j2
  rw [show (0 : Int32) = nI 0 from rfl, sbg j3, sbg j4, sbg v1, sbg v2, sbg v2]
  have fault : ∀ (a : Nat) (X Y Z : Int64) (x y : Int32), a ≤ 200 → ∃ r t' ts' rf' rp', some (nI a, x, X) = some (r, t', ts') ∧ some (nI a, Y, y) = some (r, rf', rp') ∧ ((r = -1 ∧ ∃ N, t' = nI N ∧ rp' = nI N ∧ rf' = ts' ∧ CX N ts') ∨ ∃ k, k ≤ 200 ∧ r = nI k) := fun a X Y Z x y ha => ⟨_, _, _, _, _, rfl, rfl, Or.inr ⟨a, ha, rfl⟩⟩
  unfold f_X9_isIn f_X9_isIn_0
  rcases v3 with ⟨hj, hv, b, hb, hvb⟩ | ⟨hj, hv⟩
  · obtain ⟨q1, q2, q3⟩ := dg49 ⟨b, hb⟩
    simp only at q1 q2 q3
    rw [hvb]
    by_cases c1 : nI b < 49
    · rw [if_pos (q1.mpr c1), if_pos c1, sbg rfl, if_pos (show (0 : Int32) = nI 0 from rfl)]
      exact fault j _ _ 0 _ _ (by omega)
    · rw [if_neg (fun h => c1 (q1.mp h)), if_neg c1]
      by_cases c2 : (54 : Int32) < nI b
      · rw [if_neg (fun h => q2.mp h c2), if_pos c2, sbg rfl, if_pos (show (0 : Int32) = nI 0 from rfl)]
        exact fault j _ _ 0 _ _ (by omega)
      · obtain ⟨p1, p2⟩ := q3 c1 c2
        rw [if_pos (q2.mpr c2), if_neg c2, sbg rfl, if_neg (show ¬ (1 : Int32) = nI 0 by decide), show nI j + (1 : Int32) = nI (j + 1) from nI_1 j]
        obtain ⟨k, k1, k2, k3, k4, k5, k6⟩ := blanks_both hT (n - (j + 1)) (j + 1) (by omega) FU FU (hFU _ (by omega)) (hFU _ (by omega))
        obtain ⟨w, w1, w2, w3⟩ := at_both hT k2
        rw [sbg k3, sbg k4, sbg w1, sbg w2]
        by_cases c3 : w = 58
        · have hkn : k < n := by
            rcases w3 with h | h
            · exact h.1
            · rw [h.2] at c3; exact absurd c3 (by decide)
          rw [if_pos c3, if_pos c3, dgt48 ⟨b, hb⟩ (show 48 ≤ b by omega), show nI k + (1 : Int32) = nI (k + 1) from nI_1 k]
          simp only
          obtain ⟨i, i1, i2, i3, i4, i5, i6⟩ := blanks_both hT (n - (k + 1)) (k + 1) (by omega) FU FU (hFU _ (by omega)) (hFU _ (by omega))
          have hX : CX (b - 48) 1 := CX_one (by omega) (by omega)
          unfold f_X4_parseFaces f_X4_parseFaces_0
          rw [sbg i4]
          have sk := skip8 (told := nI (b - 48)) hT hX.2.2.1 (i - (k + 1)) (k + 1) (FU - (i - (k + 1))) (by omega) (fun x h1 h2 => i6 x (by omega) (by omega))
          have hFb : 400 ≤ FU := by decide
          rw [show k + 1 + (i - (k + 1)) = i by omega, show FU - (i - (k + 1)) + (i - (k + 1)) = FU by omega] at sk
          rw [sk]
          by_cases ei : i = n
          · subst ei
            obtain ⟨z, hz⟩ : ∃ z, FU - (i - (k + 1)) = z + 1 := ⟨FU - (i - (k + 1)) - 1, by omega⟩
            obtain ⟨z2, hz2⟩ : ∃ z, FU = z + 1 := ⟨FU - 1, by omega⟩
            refine ⟨-1, nI (b - 48), 1, 1, nI (b - 48), ?_, ?_, Or.inl ⟨rfl, b - 48, rfl, rfl, rfl, hX⟩⟩
            · rw [hz, f_X4_parseFaces_13, f_X5_size, f_X5_size_0, sbg rfl, if_pos (nI_le (Nat.le_refl _) (by omega)), show (0 : Int32) = nI 0 from rfl, sbg (f_inside (show 0 < 64 by decide)), sbg rfl, ins0 hX.2.2.1]
            · rw [hz2, f_X9_reads_68, if_pos (nI_le (Nat.le_refl _) (by omega))]
          · obtain ⟨z2, hz2⟩ : ∃ z, FU = z + 1 := ⟨FU - 1, by omega⟩
            obtain ⟨r, G', Gm, r1, r2, r3⟩ := tok (N := b - 48) (by omega) (by omega) hT (n - i) (n - i) i (Nat.le_refl _) (by omega) (FU - (i - (k + 1))) z2 FU 0 0 1 (by omega) (by omega) (hFU _ (by omega)) (Nat.pow_pos (by decide)) (by omega) hX
            have r1' : f_X4_parseFaces_13 (nI (b - 48)) bx (nI n) (FU - (i - (k + 1))) (-1) 0 (nI i) 1 = some (r, G') := r1
            refine ⟨r, nI (b - 48), G', Gm, nI (b - 48), by rw [sbg r1'], ?_, ?_⟩
            · rw [hz2, f_X9_reads_68, if_neg (nI_ge (show i < n by omega) (by omega))]
              exact r2
            · rcases r3 with ⟨a1, a2, a3⟩ | a
              · exact Or.inl ⟨a1, b - 48, rfl, rfl, a2.symm, a3⟩
              · exact Or.inr a
        · rw [if_neg c3, if_neg c3]
          exact fault k _ _ 0 _ _ (by omega)
  · rw [hv, if_pos (by decide), if_pos (by decide), sbg rfl, if_pos (show (0 : Int32) = nI 0 from rfl)]
    exact fault j _ _ 0 _ _ (by omega)
theorem w_read {bx bm : Nat → Int32} {lx lm : Int32} (h : TX bx lx bm lm) {hp pH : Nat → Int32} {hf fH : Nat → Int64} {hc kp xp mp : Int32} {xf mf : Int64} (hM : MVI hp hf hc xp xf mp mf kp pH fH) (t : Int32) (ts : Int64) (fp0 wr : Int32) (rf : Int64) (rp : Int32) :
    ∃ R1 R2, f_X8_read bx hp hf hc lx t ts xp xf fp0 = some R1 ∧ f_X9_read bm mp mf kp pH fH lm wr rf rp = some R2 ∧ R1.1 = R2.1 ∧ MVI R1.2.1 R1.2.2.1 R1.2.2.2.1 R1.2.2.2.2.2.2.2.1 R1.2.2.2.2.2.2.2.2.1 R2.2.1 R2.2.2.1 R2.2.2.2.1 R2.2.2.2.2.1 R2.2.2.2.2.2.1 ∧ TX bx R1.2.2.2.2.1 bm R2.2.2.2.2.2.2.1 ∧ R1.2.2.2.2.2.2.2.2.2 = R2.2.2.2.2.2.2.2.1 := by
  obtain ⟨n, rfl, rfl, hT⟩ := h
  have hn := hT.1
  have hI := hM
  obtain ⟨hK, N, rfl, rfl, rfl, hX⟩ := hM
  have t0 : TX bx (nI 0) bm (nI 0) := ⟨0, rfl, rfl, by omega, fun i hi => by omega⟩
  obtain ⟨r, t', ts', rf', rp', e1, e2, e3⟩ := parse_both hT t ts rf rp
  unfold f_X8_read f_X8_read_0 f_X9_read f_X9_read_0
  rw [sbg e1, sbg e2, sbg (sho0 (show n < 2 ^ 31 by omega))]
  simp only
  rcases e3 with ⟨rfl, N', rfl, rfl, rfl, hX'⟩ | ⟨k, hk, rfl⟩
  · obtain ⟨hp', hf', hc', kp', pH', fH', c1, c2, c3⟩ := f_change hX hK hX'
    rw [if_pos rfl, if_pos rfl]
    unfold f_X4_toldPoints f_X4_toldPoints_0 f_X4_toldFamily f_X4_toldFamily_0
    rw [sbg rfl, sbg rfl, sbg c1, sbg c2]
    simp only
    rw [sbg (f_bitCount _), sbg (f_many _)]
    exact ⟨_, _, rfl, rfl, rfl, c3, t0, rfl⟩
  · rw [if_neg (nI_m1 (by omega)), if_neg (nI_m1 (by omega))]
    exact ⟨_, _, rfl, rfl, rfl, hI, t0, rfl⟩
