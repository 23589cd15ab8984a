/-! rows of bytes: feed, end, out, take -/
def wb (x : Int32) (i : Nat) : Bool := x.toBitVec.getLsbD i
theorem wb_ext {x y : Int32} (h : ∀ i, i < 32 → wb x i = wb y i) : x = y := by
  apply Int32.toBitVec_inj.mp
  apply BitVec.eq_of_getLsbD_eq
  intro i hi
  exact h i hi
theorem wb_and (x y : Int32) (i : Nat) : wb (x &&& y) i = (wb x i && wb y i) := by simp [wb]
theorem wb_255 : ∀ i : Fin 32, wb 255 i.val = decide (i.val < 8) := by decide +kernel
theorem sw_s : ∀ k : Fin 32, (((nI k.val) &&& 31).toBitVec.smod 32).toNat = k.val := by decide +kernel
theorem sw_u : ∀ k : Fin 32, ((nI k.val).toUInt32 &&& Int32.toUInt32 31).toBitVec.toNat % 32 = k.val := by decide +kernel
theorem wb_shr (x : Int32) {k i : Nat} (hk : k < 32) (hi : k + i < 32) : wb (x >>> (nI k &&& 31)) i = wb x (k + i) := by
  have h := sw_s ⟨k, hk⟩
  simp only [wb, Int32.toBitVec_shiftRight, BitVec.sshiftRight']
  rw [show ((nI k &&& 31).toBitVec.smod 32).toNat = k from h, BitVec.getLsbD_sshiftRight]
  have h1 : ¬ 32 ≤ i := by omega
  simp [h1, hi]
theorem wb_ushr (x : Int32) {k i : Nat} (hk : k < 32) : wb ((x.toUInt32 >>> ((nI k).toUInt32 &&& Int32.toUInt32 31)).toInt32) i = wb x (k + i) := by
  have h := sw_u ⟨k, hk⟩
  have e : ((x.toUInt32 >>> ((nI k).toUInt32 &&& Int32.toUInt32 31)).toInt32).toBitVec = x.toBitVec >>> k := by
    apply BitVec.eq_of_toNat_eq
    simp only [UInt32.toBitVec_toInt32, UInt32.toBitVec_shiftRight, Int32.toBitVec_toUInt32]
    rw [BitVec.ushiftRight_eq', BitVec.toNat_ushiftRight, BitVec.toNat_ushiftRight]
    have h2 : (((nI k).toUInt32 &&& Int32.toUInt32 31).toBitVec % 32).toNat = k := by
      rw [BitVec.toNat_umod]
      exact h
    rw [h2]
  simp only [wb]
  rw [e, BitVec.getLsbD_ushiftRight]
theorem byte_eq (x : Int32) {k : Nat} (hk : k ≤ 24) : (x >>> (nI k &&& 31)) &&& 255 = ((x.toUInt32 >>> ((nI k).toUInt32 &&& Int32.toUInt32 31)).toInt32) &&& 255 := by
  apply wb_ext
  intro i hi
  rw [wb_and, wb_and, wb_255 ⟨i, hi⟩]
  by_cases c : i < 8
  · rw [wb_shr x (by omega) (by omega), wb_ushr x (by omega)]
  · simp [c]
theorem byte_nI (y : Int32) : ∃ b, b < 256 ∧ y &&& 255 = nI b := by
  refine ⟨(y &&& 255).toBitVec.toNat, ?_, nI_of_toNat rfl⟩
  rw [Int32.toBitVec_and, BitVec.toNat_and]
  exact Nat.lt_of_le_of_lt Nat.and_le_right (by decide)
theorem byte_id : ∀ b : Fin 256, nI b.val &&& (255 : Int32) = nI b.val := by decide +kernel
theorem byte_0 (x : Int32) : (x >>> (nI 0 &&& 31)) &&& 255 = x &&& 255 := by
  apply wb_ext
  intro i hi
  rw [wb_and, wb_and, wb_shr x (by omega) (by omega), Nat.zero_add]
/-- the first n bytes of two rows are the same -/
def TXn (n : Nat) (bx bm : Nat → Int32) : Prop := n ≤ 200 ∧ ∀ i, i < n → bx i = bm i ∧ ∃ b, b < 256 ∧ bx i = nI b
def TX (bx : Nat → Int32) (lx : Int32) (bm : Nat → Int32) (lm : Int32) : Prop := ∃ n, lx = nI n ∧ lm = nI n ∧ TXn n bx bm
theorem TXn.add {n b : Nat} {bx bm : Nat → Int32} (h : TXn n bx bm) (hn : n < 200) (hb : b < 256) : TXn (n + 1) (upd bx n (nI b)) (upd bm n (nI b)) := by
  refine ⟨by omega, fun i hi => ?_⟩
  by_cases e : i = n
  · subst e; rw [up_s, up_s]; exact ⟨rfl, b, hb, rfl⟩
  · rw [up_n e, up_n e]; exact h.2 i (by omega)
theorem f_add5 {n : Nat} (hn : n < 200) (y : Int32) (bx : Nat → Int32) : f_X5_add y bx (nI n) = some (upd bx n (y &&& 255), nI (n + 1)) := by
  unfold f_X5_add f_X5_add_0
  rw [if_neg (nI_pos (show n < 2 ^ 31 by omega)), if_neg (show ¬ (200 : Int32) ≤ nI n from nI_ge (b := 200) hn (by decide)), ix_nI hn (by decide), cl_nI (show n < 2 ^ 31 by omega)]
  simp only [gd]
  rw [nI_1]
theorem t_mod4 : ∀ k : Fin 20, nI k.val - nI k.val / (4 : Int32) * (4 : Int32) = nI (k.val % 4) ∧ (24 : Int32) - (8 : Int32) * nI (k.val % 4) = nI (24 - 8 * (k.val % 4)) := by decide +kernel
theorem feed_step {k n m : Nat} (hk : k < 20) (hn : n < 200) (l1 l2 l3 l4 l5 : Int32) (t : Nat → Int32) : f_X9_feed_18 (m + 1) l1 l2 l3 l4 l5 (nI k) t (nI n) = f_X9_feed_18 m l1 l2 l3 l4 l5 (nI (k + 1)) (upd t n (((if k < 4 then l1 else if k < 8 then l2 else if k < 12 then l3 else if k < 16 then l4 else l5) >>> (nI (24 - 8 * (k % 4)) &&& 31)) &&& 255)) (nI (n + 1)) := by
  have q := t_mod4 ⟨k, hk⟩
  simp only at q
  rw [f_X9_feed_18, if_neg (show ¬ (20 : Int32) ≤ nI k from nI_ge (b := 20) hk (by decide))]
  unfold f_X9_feed_71
  rw [q.1, q.2, nI_1, nI_1, ix_nI hn (by decide), cl_nI (show n < 2 ^ 31 by omega)]
  simp only [gd, bnd]
  by_cases c1 : k < 4
  · rw [if_neg (show ¬ (4 : Int32) ≤ nI k from nI_ge (b := 4) c1 (by decide)), if_pos c1]
  rw [if_pos (show (4 : Int32) ≤ nI k from nI_le (a := 4) (by omega) (by omega)), if_neg c1]
  by_cases c2 : k < 8
  · rw [if_neg (show ¬ (8 : Int32) ≤ nI k from nI_ge (b := 8) c2 (by decide)), if_pos c2]
  rw [if_pos (show (8 : Int32) ≤ nI k from nI_le (a := 8) (by omega) (by omega)), if_neg c2]
  by_cases c3 : k < 12
  · rw [if_neg (show ¬ (12 : Int32) ≤ nI k from nI_ge (b := 12) c3 (by decide)), if_pos c3]
  rw [if_pos (show (12 : Int32) ≤ nI k from nI_le (a := 12) (by omega) (by omega)), if_neg c3]
  by_cases c4 : k < 16
  · rw [if_neg (show ¬ (16 : Int32) ≤ nI k from nI_ge (b := 16) c4 (by decide)), if_pos c4]
  rw [if_pos (show (16 : Int32) ≤ nI k from nI_le (a := 16) (by omega) (by omega)), if_neg c4]
theorem feed_four {g n : Nat} (hg : g < 5) (hn : n + 4 ≤ 200) {bx bm : Nat → Int32} (h : TXn n bx bm) (L l1 l2 l3 l4 l5 : Int32) (hL : ∀ k, 4 * g ≤ k → k < 4 * g + 4 → (if k < 4 then l1 else if k < 8 then l2 else if k < 12 then l3 else if k < 16 then l4 else l5) = L) :
    ∃ bx' bm', f_X5_addNumber L bx (nI n) = some (bx', nI (n + 4)) ∧ (∀ m, f_X9_feed_18 (m + 4) l1 l2 l3 l4 l5 (nI (4 * g)) bm (nI n) = f_X9_feed_18 m l1 l2 l3 l4 l5 (nI (4 * (g + 1))) bm' (nI (n + 4))) ∧ TXn (n + 4) bx' bm' := by
  obtain ⟨b0, g0, e0⟩ := byte_nI ((L.toUInt32 >>> ((24 : Int32).toUInt32 &&& Int32.toUInt32 31)).toInt32)
  obtain ⟨b1, g1, e1⟩ := byte_nI ((L.toUInt32 >>> ((16 : Int32).toUInt32 &&& Int32.toUInt32 31)).toInt32)
  obtain ⟨b2, g2, e2⟩ := byte_nI ((L.toUInt32 >>> ((8 : Int32).toUInt32 &&& Int32.toUInt32 31)).toInt32)
  obtain ⟨b3, g3, e3⟩ := byte_nI L
  refine ⟨_, upd (upd (upd (upd bm n (nI b0)) (n + 1) (nI b1)) (n + 2) (nI b2)) (n + 3) (nI b3), ?_, ?_, (((h.add (by omega) g0).add (by omega) g1).add (by omega) g2).add (by omega) g3⟩
  · unfold f_X5_addNumber f_X5_addNumber_0
    rw [sbg (f_add5 (by omega) _ _), sbg (f_add5 (show n + 1 < 200 by omega) _ _), sbg (f_add5 (show n + 2 < 200 by omega) _ _), sbg (f_add5 (show n + 3 < 200 by omega) _ _), e0, e1, e2, e3]
  · intro m
    rw [feed_step (show 4 * g < 20 by omega) (show n < 200 by omega), feed_step (show 4 * g + 1 < 20 by omega) (show n + 1 < 200 by omega), feed_step (show 4 * g + 1 + 1 < 20 by omega) (show n + 1 + 1 < 200 by omega), feed_step (show 4 * g + 1 + 1 + 1 < 20 by omega) (show n + 1 + 1 + 1 < 200 by omega)]
    rw [hL (4 * g) (by omega) (by omega), hL (4 * g + 1) (by omega) (by omega), hL (4 * g + 1 + 1) (by omega) (by omega), hL (4 * g + 1 + 1 + 1) (by omega) (by omega)]
    rw [show 24 - 8 * (4 * g % 4) = 24 by omega, show 24 - 8 * ((4 * g + 1) % 4) = 16 by omega, show 24 - 8 * ((4 * g + 1 + 1) % 4) = 8 by omega, show 24 - 8 * ((4 * g + 1 + 1 + 1) % 4) = 0 by omega]
    rw [byte_eq L (show 24 ≤ 24 by decide), byte_eq L (show 16 ≤ 24 by decide), byte_eq L (show 8 ≤ 24 by decide), byte_0]
    rw [show ((L.toUInt32 >>> ((nI 24).toUInt32 &&& Int32.toUInt32 31)).toInt32) &&& 255 = nI b0 from e0, show ((L.toUInt32 >>> ((nI 16).toUInt32 &&& Int32.toUInt32 31)).toInt32) &&& 255 = nI b1 from e1, show ((L.toUInt32 >>> ((nI 8).toUInt32 &&& Int32.toUInt32 31)).toInt32) &&& 255 = nI b2 from e2, e3]
    rfl
theorem w_feed {bx bm : Nat → Int32} {lx lm : Int32} (h : TX bx lx bm lm) (l1 l2 l3 l4 l5 : Int32) : ∃ R1 R2, f_X8_feed l1 l2 l3 l4 l5 bx lx = some R1 ∧ f_X9_feed l1 l2 l3 l4 l5 bm lm = some R2 ∧ R1.1 = R2.1 ∧ TX R1.2.1 R1.2.2 R2.2.1 R2.2.2 := by
  obtain ⟨n, rfl, rfl, hT⟩ := h
  have hn := hT.1
  unfold f_X8_feed f_X8_feed_0 f_X9_feed f_X9_feed_0 f_X5_size f_X5_size_0
  rw [sbg rfl]
  have e20 : nI n + (20 : Int32) = nI (n + 20) := nI_add n 20
  rw [e20]
  by_cases c : n + 20 ≤ 200
  · have c1 : nI (n + 20) ≤ (200 : Int32) := nI_le (b := 200) c (by decide)
    rw [if_pos c1, if_pos c1]
    obtain ⟨x1, m1, a1, d1, t1⟩ := feed_four (g := 0) (by omega) (by omega) hT l1 l1 l2 l3 l4 l5 (fun k h1 h2 => by rw [if_pos (by omega)])
    obtain ⟨x2, m2, a2, d2, t2⟩ := feed_four (g := 1) (by omega) (by omega) t1 l2 l1 l2 l3 l4 l5 (fun k h1 h2 => by rw [if_neg (by omega), if_pos (by omega)])
    obtain ⟨x3, m3, a3, d3, t3⟩ := feed_four (g := 2) (by omega) (by omega) t2 l3 l1 l2 l3 l4 l5 (fun k h1 h2 => by rw [if_neg (by omega), if_neg (by omega), if_pos (by omega)])
    obtain ⟨x4, m4, a4, d4, t4⟩ := feed_four (g := 3) (by omega) (by omega) t3 l4 l1 l2 l3 l4 l5 (fun k h1 h2 => by rw [if_neg (by omega), if_neg (by omega), if_neg (by omega), if_pos (by omega)])
    obtain ⟨x5, m5, a5, d5, t5⟩ := feed_four (g := 4) (by omega) (by omega) t4 l5 l1 l2 l3 l4 l5 (fun k h1 h2 => by rw [if_neg (by omega), if_neg (by omega), if_neg (by omega), if_neg (by omega)])
    rw [sbg a1, sbg a2, sbg a3, sbg a4, sbg a5]
    have hm : f_X9_feed_18 FU l1 l2 l3 l4 l5 0 bm (nI n) = some (nI (n + 20), m5, nI (n + 20)) := by
      show f_X9_feed_18 (1003 + 1 + 4 + 4 + 4 + 4 + 4) l1 l2 l3 l4 l5 (nI (4 * 0)) bm (nI n) = _
      rw [d1, d2, d3, d4, d5, f_X9_feed_18, if_pos (by decide)]
    rw [hm]
    exact ⟨_, _, rfl, rfl, rfl, n + 20, rfl, rfl, t5⟩
  · have c1 : ¬ nI (n + 20) ≤ (200 : Int32) := nI_ge (a := 200) (by omega) (by omega)
    rw [if_neg c1, if_neg c1]
    exact ⟨_, _, rfl, rfl, rfl, n, rfl, rfl, hT⟩
theorem w_end {bx bm : Nat → Int32} {lx lm : Int32} (h : TX bx lx bm lm) (a : Int32) : ∃ R1 R2, f_X8_end a lx = some R1 ∧ f_X9_end a lm = some R2 ∧ R1.1 = R2.1 ∧ TX bx R1.2 bm R2.2 := by
  obtain ⟨n, rfl, rfl, hT⟩ := h
  have hn := hT.1
  have hI : TX bx (nI n) bm (nI n) := ⟨n, rfl, rfl, hT⟩
  unfold f_X8_end f_X8_end_0 f_X9_end f_X9_end_0 f_X5_size f_X5_size_0 f_X5_shorten f_X5_shorten_0
  rcases in_cases a (b := nI n) with ⟨e, p1, p2⟩ | ⟨e, p1 | ⟨p1, p2⟩⟩
  · rw [sbg e, if_neg (show ¬ (1 : Int32) = 0 by decide), if_neg p1, sbg rfl, if_pos (nlt_le p2), if_neg p1, if_neg p2, sbg rfl]
    obtain ⟨k, hk, rfl⟩ := nI_of p1
    have hkn : k ≤ n := by
      by_cases c : k ≤ n
      · exact c
      · exact absurd (nI_lt (show n < k by omega) hk) p2
    exact ⟨_, _, rfl, rfl, rfl, k, rfl, rfl, by omega, fun i hi => hT.2 i (by omega)⟩
  · rw [sbg e, if_pos rfl, if_pos p1]
    exact ⟨_, _, rfl, rfl, rfl, hI⟩
  · rw [sbg e, if_pos rfl, if_neg p1, sbg rfl, if_neg (lt_nle p2)]
    exact ⟨_, _, rfl, rfl, rfl, hI⟩
theorem w_out {bx bm : Nat → Int32} {lx lm : Int32} (h : TX bx lx bm lm) (a : Int32) : ∃ R1, f_X8_out bx lx a = some R1 ∧ f_X9_out bm lm a = some R1 := by
  obtain ⟨n, rfl, rfl, hT⟩ := h
  have hn := hT.1
  unfold f_X8_out f_X8_out_0 f_X9_out f_X9_out_0 f_X5_at f_X5_at_0 f_X9_isIn f_X9_isIn_0
  by_cases c : a < 0
  · rw [if_pos c, if_pos c, sbg rfl, sbg rfl, if_pos rfl]
    exact ⟨_, rfl, rfl⟩
  · rw [if_neg c, if_neg c]
    obtain ⟨k, hk, rfl⟩ := nI_of c
    by_cases d : k < n
    · obtain ⟨n, rfl⟩ : ∃ n', n = n' + 1 := ⟨n - 1, by omega⟩
      rw [nI_pred, if_neg (nI_ge d (by omega)), if_neg (nI_nlt (show k ≤ n by omega) (by omega)), if_neg (show ¬ (200 : Int32) ≤ nI k from nI_ge (b := 200) (by omega) (by decide)), sbg rfl, if_neg (show ¬ (1 : Int32) = 0 by decide), ix_nI (show k < 200 by omega) (by decide), cl_nI hk]
      exact ⟨bx k, rfl, by rw [(hT.2 k d).1]; rfl⟩
    · rw [if_pos (nI_le (show n ≤ k by omega) hk), sbg rfl]
      refine ⟨_, rfl, ?_⟩
      by_cases z : n = 0
      · subst z
        rw [if_pos (show nI 0 - (1 : Int32) < nI k from by
          rw [Int32.lt_iff_toInt_lt, nI_toInt hk]
          rw [show (nI 0 - (1 : Int32)).toInt = -1 by decide]
          omega), sbg rfl, if_pos rfl]
      · obtain ⟨n, rfl⟩ : ∃ n', n = n' + 1 := ⟨n - 1, by omega⟩
        rw [nI_pred, if_pos (nI_lt (show n < k by omega) hk), sbg rfl, if_pos rfl]
theorem sho0 {n : Nat} (hn : n < 2 ^ 31) : f_X5_shorten 0 (nI n) = some (nI 0) := by
  unfold f_X5_shorten f_X5_shorten_0
  rw [if_neg (by decide), if_neg (nI_pos hn)]
  rfl
theorem f_at5 {n k : Nat} (hn : n ≤ 200) (hk : k < n) (bx : Nat → Int32) : f_X5_at bx (nI n) (nI k) = some (bx k) := by
  unfold f_X5_at f_X5_at_0
  rw [if_neg (nI_pos (show k < 2 ^ 31 by omega)), if_neg (nI_ge hk (by omega)), if_neg (show ¬ (200 : Int32) ≤ nI k from nI_ge (b := 200) (by omega) (by decide)), ix_nI (show k < 200 by omega) (by decide), cl_nI (show k < 2 ^ 31 by omega)]
  rfl
theorem w_take {ox om tx tm : Nat → Int32} {lo lm t1 t2 : Int32} (h : TX ox lo om lm) (h2 : TX tx t1 tm t2) : ∃ R1 R2, f_X8_take ox lo tx t1 = some R1 ∧ f_X9_take om lm tm t2 = some R2 ∧ R1.1 = R2.1 ∧ TX R1.2.1 R1.2.2 R2.2.1 R2.2.2 := by
  obtain ⟨n, rfl, rfl, hT⟩ := h
  obtain ⟨n2, rfl, rfl, hT2⟩ := h2
  have hn := hT.1
  have hn2 := hT2.1
  have key : ∀ d i m m' (tx tm : Nat → Int32), i + d = n → d < m → d < m' → TXn i tx tm → ∃ tx' tm', f_X8_take_10 ox (nI n) m (nI i) tx (nI i) = some (nI n, tx', nI n) ∧ f_X9_take_10 om (nI n) m' (nI i) tm (nI n) = some (nI n, tm', nI n) ∧ TXn n tx' tm' := by
    intro d
    induction d with
    | zero =>
      intro i m m' tx tm g1 g2 g3 ht
      obtain ⟨m, rfl⟩ : ∃ x, m = x + 1 := ⟨m - 1, by omega⟩
      obtain ⟨m', rfl⟩ : ∃ x, m' = x + 1 := ⟨m' - 1, by omega⟩
      have e : i = n := by omega
      subst e
      refine ⟨tx, tm, ?_, ?_, ht⟩
      · rw [f_X8_take_10, f_X5_size, f_X5_size_0, sbg rfl, if_pos (nI_le (Nat.le_refl _) (by omega))]
        rfl
      · rw [f_X9_take_10, if_pos (nI_le (Nat.le_refl _) (by omega))]
    | succ d ih =>
      intro i m m' tx tm g1 g2 g3 ht
      obtain ⟨m, rfl⟩ : ∃ x, m = x + 1 := ⟨m - 1, by omega⟩
      obtain ⟨m', rfl⟩ : ∃ x, m' = x + 1 := ⟨m' - 1, by omega⟩
      obtain ⟨q1, b, q2, q3⟩ := hT.2 i (by omega)
      have hnl : ¬ nI n ≤ nI i := nI_ge (show i < n by omega) (by omega)
      rw [f_X8_take_10, f_X9_take_10, f_X5_size, f_X5_size_0, sbg rfl, if_neg hnl, if_neg hnl, sbg (f_at5 hn (show i < n by omega) ox), sbg (f_add5 (show i < 200 by omega) _ _), ix_nI (show i < 200 by omega) (by decide), cl_nI (show i < 2 ^ 31 by omega), ← q1, q3, byte_id ⟨b, q2⟩]
      simp only [gd]
      rw [nI_1]
      exact ih (i + 1) m m' _ _ (by omega) (by omega) (by omega) (ht.add (by omega) q2)
  obtain ⟨tx', tm', k1, k2, k3⟩ := key n 0 FU FU tx tm (by omega) (Nat.lt_of_le_of_lt hn (by decide)) (Nat.lt_of_le_of_lt hn (by decide)) ⟨by omega, fun i hi => by omega⟩
  unfold f_X8_take f_X8_take_0 f_X9_take f_X9_take_0
  rw [sbg (sho0 (show n2 < 2 ^ 31 by omega))]
  exact ⟨_, _, k1, k2, rfl, n, rfl, rfl, k3⟩
