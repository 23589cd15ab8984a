/-! the moves: points, face, cut -/
theorem sub_tr : ∀ {a b c : Nat}, sub a b = true → sub b c = true → sub a c = true := by
  intro a b c h1 h2
  unfold sub at *
  have h1 := eq_of_beq h1
  have h2 := eq_of_beq h2
  have : a &&& c = a := by rw [← h1, Nat.and_assoc, h2]
  rw [this]; exact beq_self_eq_true a
theorem sub_0 (t : Nat) : sub 0 t = true := by
  unfold sub; rw [Nat.zero_and]; rfl
theorem sub_of0 {t : Nat} (h : sub t 0 = true) : t = 0 := by
  unfold sub at h
  have := eq_of_beq h
  rw [Nat.and_zero] at this; exact this.symm
theorem sub_leN {t s : Nat} (h : sub t s = true) : t ≤ s := by
  unfold sub at h
  have := eq_of_beq h
  rw [← this]; exact Nat.and_le_right
theorem tb_aro {s t : Nat} (ht : t < 64) : tb (aro s) t = sub s t := by
  unfold aro
  rw [tb_mk (by omega) ht]
  simp [ht]
theorem CX_one {n : Nat} (h1 : 1 ≤ n) (h6 : n ≤ 6) : CX n 1 := by
  refine ⟨h1, h6, by decide, fun s hs h => ?_, fun s t hs h ht => ?_⟩
  · rw [tb_1 hs, decide_eq_true_iff] at h
    rw [h]; exact Nat.pow_pos (by decide)
  · rw [tb_1 hs, decide_eq_true_iff] at h
    rw [h] at ht
    rw [sub_of0 ht]; decide
theorem CX_face {N s : Nat} {F : Int64} (hX : CX N F) (hs : s < 2 ^ N) : CX N (F ||| ins s) := by
  obtain ⟨h1, h6, h0, hin, hdn⟩ := hX
  have h64 := pow_le64 h6
  refine ⟨h1, h6, by rw [tb_or, h0]; rfl, fun t ht h => ?_, fun t r ht h hr => ?_⟩
  · rw [tb_or, Bool.or_eq_true] at h
    rcases h with h | h
    · exact hin t ht h
    · rw [tb_ins ht] at h
      have := sub_leN h
      omega
  · have hrt := sub_leN hr
    rw [tb_or, Bool.or_eq_true] at h ⊢
    rcases h with h | h
    · exact Or.inl (hdn t r ht h hr)
    · rw [tb_ins ht] at h
      rw [tb_ins (by omega)]
      exact Or.inr (sub_tr hr h)
theorem CX_cut {N s : Nat} {F : Int64} (hX : CX N F) (h1s : 1 ≤ s) : CX N (F &&& (aro s ^^^ (-1))) := by
  obtain ⟨h1, h6, h0, hin, hdn⟩ := hX
  have h64 := pow_le64 h6
  refine ⟨h1, h6, ?_, fun t ht h => ?_, fun t r ht h hr => ?_⟩
  · rw [tb_and, tb_not _ (by decide), tb_aro (by decide), h0]
    cases hc : sub s 0 with
    | false => rfl
    | true => have := sub_of0 hc; omega
  · rw [tb_and, Bool.and_eq_true] at h
    exact hin t ht h.1
  · have hrt := sub_leN hr
    rw [tb_and, Bool.and_eq_true, tb_not _ ht, tb_aro ht] at h
    rw [tb_and, Bool.and_eq_true, tb_not _ (by omega), tb_aro (by omega)]
    refine ⟨hdn t r ht h.1 hr, ?_⟩
    cases hc : sub s r with
    | false => rfl
    | true => rw [sub_tr hc hr] at h; exact absurd h.2 (by decide)
def R2M : Type := Int32 × (Nat → Int32) × (Nat → Int64) × Int32 × Int32 × Int64
/-- what a move leaves, on both sides -/
def MVR (A : Option (Int32 × (Nat → Int32) × (Nat → Int64) × Int32 × Int32 × Int64)) (B : Option (Int32 × Int32 × Int64 × Int32 × (Nat → Int32) × (Nat → Int64))) : Prop := ∃ R1 R2, A = some R1 ∧ B = some R2 ∧ R1.1 = R2.1 ∧ MVI R1.2.1 R1.2.2.1 R1.2.2.2.1 R1.2.2.2.2.1 R1.2.2.2.2.2 R2.2.1 R2.2.2.1 R2.2.2.2.1 R2.2.2.2.2.1 R2.2.2.2.2.2
theorem mv_points {hp pH : Nat → Int32} {hf fH : Nat → Int64} {hc kp xp mp : Int32} {xf mf : Int64} (h : MVI hp hf hc xp xf mp mf kp pH fH) (a : Int32) : MVR (f_X8_points a hp hf hc xp xf) (f_X9_points a mp mf kp pH fH) := by
  have hI := h
  obtain ⟨hK, N, rfl, rfl, rfl, hX⟩ := h
  unfold f_X8_points f_X8_points_0 f_X9_points f_X9_points_0 f_X9_isIn f_X9_isIn_0
  by_cases c : a < (1 : Int32)
  · rw [if_pos c, if_pos c, sbg rfl, if_pos rfl]
    exact ⟨_, _, rfl, rfl, rfl, hI⟩
  · rw [if_neg c, if_neg c]
    have h0 : ¬ a < 0 := fun h => c (by
      rw [Int32.lt_iff_toInt_lt] at h ⊢
      have e1 : (1 : Int32).toInt = 1 := rfl
      have e0 : (0 : Int32).toInt = 0 := rfl
      rw [e0] at h; rw [e1]; omega)
    obtain ⟨n, hn, rfl⟩ := nI_of h0
    have h1n : 1 ≤ n := by
      by_cases e : n = 0
      · subst e; exact absurd (show nI 0 < (1 : Int32) by decide) c
      · omega
    by_cases d : n ≤ 6
    · have d1 : nI n ≤ (6 : Int32) := nI_le (b := 6) d (by decide)
      have d2 : ¬ (6 : Int32) < nI n := nI_nlt (a := 6) d (by decide)
      obtain ⟨hp', hf', hc', kp', pH', fH', e1, e2, e3⟩ := f_change hX hK (CX_one h1n d)
      rw [if_pos d1, if_neg d2, sbg rfl, if_neg (show ¬ (1 : Int32) = 0 by decide), sbg e1, sbg e2]
      exact ⟨_, _, rfl, rfl, rfl, e3⟩
    · have d1 : ¬ nI n ≤ (6 : Int32) := nI_ge (a := 6) (by omega) hn
      have d2 : (6 : Int32) < nI n := nI_lt (a := 6) (by omega) hn
      rw [if_neg d1, if_pos d2, sbg rfl, if_pos rfl]
      exact ⟨_, _, rfl, rfl, rfl, hI⟩
theorem f_around {s : Nat} (h : s < 64) : f_X6_around (nI s) = some (aro s) := t_around ⟨s, h⟩
theorem f_within {s : Nat} (h : s < 64) : f_X9_within (nI s) = some (ins s) := t_within ⟨s, h⟩
theorem mv_face {hp pH : Nat → Int32} {hf fH : Nat → Int64} {hc kp xp mp : Int32} {xf mf : Int64} (h : MVI hp hf hc xp xf mp mf kp pH fH) (a : Int32) : MVR (f_X8_face a hp hf hc xp xf) (f_X9_face a mp mf kp pH fH) := by
  have hI := h
  obtain ⟨hK, N, rfl, rfl, rfl, hX⟩ := h
  have h64 := pow_le64 hX.2.1
  unfold f_X8_face f_X8_face_0 f_X9_face f_X9_face_0
  rcases set_cases hX.2.1 a with ⟨s, hs, rfl, e1, e2⟩ | ⟨e1, e2⟩
  · obtain ⟨hp', hf', hc', kp', pH', fH', c1, c2, c3⟩ := f_change hX hK (CX_face hX hs)
    rw [sbg e1, sbg e2, if_neg (by decide), if_neg (by decide), sbg (f_bitCount _), sbg (f_many _), sbg (f_inside (show s < 64 by omega)), sbg (f_within (show s < 64 by omega)), sbg c1, sbg c2]
    simp only
    rw [sbg (f_bitCount _), sbg (f_many _)]
    exact ⟨_, _, rfl, rfl, rfl, c3⟩
  · rw [sbg e1, sbg e2, if_pos rfl, if_pos rfl]
    exact ⟨_, _, rfl, rfl, rfl, hI⟩
theorem face_cases {N : Nat} {F : Int64} (hX : CX N F) (a : Int32) : (∃ s, 1 ≤ s ∧ s < 2 ^ N ∧ a = nI s ∧ tb F s = true ∧ f_X8_isNonemptyFace (nI N) F a = some 1 ∧ f_X9_isSet (nI N) a = some 1 ∧ ¬ a = 0 ∧ f_X9_isFace F a = some 1) ∨ (f_X8_isNonemptyFace (nI N) F a = some 0 ∧ (a = 0 ∨ f_X9_isSet (nI N) a = some 0 ∨ (f_X9_isSet (nI N) a = some 1 ∧ f_X9_isFace F a = some 0))) := by
  have h64 := pow_le64 hX.2.1
  unfold f_X8_isNonemptyFace f_X8_isNonemptyFace_0
  by_cases z : a = 0
  · right
    rw [if_pos z]
    exact ⟨rfl, Or.inl z⟩
  rw [if_neg z]
  rcases set_cases hX.2.1 a with ⟨s, hs, rfl, e1, e2⟩ | ⟨e1, e2⟩
  · have hs0 : 1 ≤ s := by
      by_cases e : s = 0
      · subst e; exact absurd rfl z
      · omega
    rw [sbg e1, if_neg (by decide), sbg (f_holds (show s < 64 by omega)), f_isFace (show s < 64 by omega)]
    cases hc : tb F s with
    | false => exact Or.inr ⟨rfl, Or.inr (Or.inr ⟨e2, rfl⟩)⟩
    | true => exact Or.inl ⟨s, hs0, hs, rfl, hc, rfl, e2, z, rfl⟩
  · rw [sbg e1, if_pos rfl]
    exact Or.inr ⟨rfl, Or.inr (Or.inl e2)⟩
theorem nsub {s t : Nat} (hs : s < 64) (ht : t < 64) : (nI t &&& nI s) = nI s ↔ sub s t = true := by
  rw [nI_and ht hs]
  have := and_lt64 (b := s) ht
  rw [nI_inj (by omega) (by omega), Nat.and_comm]
  unfold sub
  exact ⟨fun h => by rw [h]; exact beq_self_eq_true s, fun h => eq_of_beq h⟩
theorem cut_loop {N s : Nat} {F : Int64} {c : Int32} {pH : Nat → Int32} {fH : Nat → Int64} {kp : Int32} (hX : CX N F) (hs : s < 2 ^ N) : ∀ d i m (G : Int64), i + d = 2 ^ N → d < m → (∀ t, t < 64 → tb G t = (tb F t && !(decide (t < i) && sub s t))) →
    f_X9_cut_38 m (nI s) c G (nI i) (nI N) F kp pH fH = (f_X9_becomes (nI N) (F &&& (aro s ^^^ (-1))) (nI N) F kp pH fH).bind (fun R2 => (f_X9_many (F &&& (aro s ^^^ (-1)))).bind (fun R3 => some (c - R3, R2.1, R2.2.1, R2.2.2.1, R2.2.2.2.1, R2.2.2.2.2))) := by
  have h64 := pow_le64 hX.2.1
  intro d
  induction d with
  | zero =>
    intro i m G g1 g2 hG
    obtain ⟨m, rfl⟩ : ∃ m', m = m' + 1 := ⟨m - 1, by omega⟩
    have e : i = 2 ^ N := by omega
    subst e
    have eG : G = F &&& (aro s ^^^ (-1)) := tb_ext (fun t ht => by
      rw [hG t ht, tb_and, tb_not _ ht, tb_aro ht]
      cases hF : tb F t with
      | false => rfl
      | true => rw [show decide (t < 2 ^ N) = true from decide_eq_true (hX.2.2.2.1 t ht hF), Bool.true_and, Bool.true_and, Bool.true_and])
    rw [f_X9_cut_38, sbg (f_all hX.2.1), if_pos (all_end hX.2.1), eG]
  | succ d ih =>
    intro i m G g1 g2 hG
    obtain ⟨m, rfl⟩ : ∃ m', m = m' + 1 := ⟨m - 1, by omega⟩
    rw [f_X9_cut_38, sbg (f_all hX.2.1), if_neg (all_lt hX.2.1 (show i < 2 ^ N by omega)), nI_1]
    by_cases hc : sub s i = true
    · rw [if_pos ((nsub (by omega) (by omega)).mpr hc)]
      refine ih (i + 1) m _ (by omega) (by omega) (fun t ht => ?_)
      rw [show ((1 : Int64) <<< ((nI i).toInt64 &&& 63)) = b1 i from rfl, tb_and, tb_not _ ht, tb_b1 (by omega) ht, hG t ht]
      by_cases e : t = i
      · subst e
        simp [hc]
      · have : decide (t < i + 1) = decide (t < i) := decide_eq_decide.mpr (by omega)
        rw [this]
        simp [e]
    · rw [if_neg (fun h => hc ((nsub (by omega) (by omega)).mp h))]
      refine ih (i + 1) m _ (by omega) (by omega) (fun t ht => ?_)
      rw [hG t ht]
      by_cases e : t = i
      · subst e
        simp [hc]
      · have : decide (t < i + 1) = decide (t < i) := decide_eq_decide.mpr (by omega)
        rw [this]
theorem mv_cut {hp pH : Nat → Int32} {hf fH : Nat → Int64} {hc kp xp mp : Int32} {xf mf : Int64} (h : MVI hp hf hc xp xf mp mf kp pH fH) (a : Int32) : MVR (f_X8_cut a hp hf hc xp xf) (f_X9_cut a mp mf kp pH fH) := by
  have hI := h
  obtain ⟨hK, N, rfl, rfl, rfl, hX⟩ := h
  have h64 := pow_le64 hX.2.1
  unfold f_X8_cut f_X8_cut_0 f_X9_cut f_X9_cut_0
  rcases face_cases hX a with ⟨s, h1s, hs, rfl, hF, e1, e2, e3, e4⟩ | ⟨e1, e2⟩
  · obtain ⟨hp', hf', hc', kp', pH', fH', c1, c2, c3⟩ := f_change hX hK (CX_cut hX h1s)
    rw [sbg e1, sbg e2, if_neg (by decide), if_neg (by decide), if_neg e3, sbg e4, if_neg (by decide), sbg (f_bitCount _), sbg (f_many _), sbg (f_around (show s < 64 by omega)), sbg c1]
    rw [show (0 : Int32) = nI 0 from rfl, cut_loop hX hs (2 ^ N) 0 FU _ (by omega) (Nat.lt_of_le_of_lt h64 (by decide)) (fun t ht => by simp), sbg c2, sbg (f_many _)]
    simp only
    rw [sbg (f_bitCount _)]
    exact ⟨_, _, rfl, rfl, rfl, c3⟩
  · rw [sbg e1, if_pos rfl]
    have : ((f_X9_isSet (nI N) a).bind (fun R1 => if R1 = 0 then some ((-1 : Int32), nI N, mf, kp, pH, fH) else if a = 0 then some ((-1 : Int32), nI N, mf, kp, pH, fH) else (f_X9_isFace mf a).bind (fun R2 => if R2 = 0 then some ((-1 : Int32), nI N, mf, kp, pH, fH) else (f_X9_many mf).bind (fun R3 => f_X9_cut_38   FU a R3 mf (0 : Int32) (nI N) mf kp pH fH)))) = some ((-1 : Int32), nI N, mf, kp, pH, fH) := by
      rcases e2 with z | z | ⟨z1, z2⟩
      · rcases set_cases hX.2.1 a with ⟨s, _, _, _, z2⟩ | ⟨_, z2⟩
        · rw [sbg z2, if_neg (by decide), if_pos z]
        · rw [sbg z2, if_pos rfl]
      · rw [sbg z, if_pos rfl]
      · rw [sbg z1, if_neg (by decide)]
        by_cases z : a = 0
        · rw [if_pos z]
        · rw [if_neg z, sbg z2, if_pos rfl]
    rw [this]
    exact ⟨_, _, rfl, rfl, rfl, hI⟩
