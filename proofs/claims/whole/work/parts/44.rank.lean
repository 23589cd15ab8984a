/-! ===== pure part: the RANK ===== -/
/-- the rises, in the order in which they are laid -/
def rsl (F : Int64) (q k : Nat) : List Int64 := vl (fp F q k) (fun s => abv s &&& mk (fp F q (k + 1)) 64) 64
def inn (pr : Nat → Int64) (B : List Int64) : Nat → List Int64
  | 0 => B
  | y + 1 => pr y :: inn pr B y
def outl (pr : Nat → Nat → Int64) (nl : Nat) (R : List Int64) : Nat → List Int64
  | 0 => R
  | x + 1 => inn (pr x) (outl pr nl R x) nl
theorem inn_congr {p1 p2 : Nat → Int64} {B : List Int64} : ∀ {n : Nat}, (∀ y, y < n → p1 y = p2 y) → inn p1 B n = inn p2 B n := by
  intro n
  induction n with
  | zero => intro _; rfl
  | succ n ih => intro h; simp only [inn]; rw [h n (by omega), ih (fun y hy => h y (by omega))]
theorem outl_congr {p1 p2 : Nat → Nat → Int64} {nl : Nat} {R : List Int64} : ∀ {n : Nat}, (∀ x y, x < n → y < nl → p1 x y = p2 x y) → outl p1 nl R n = outl p2 nl R n := by
  intro n
  induction n with
  | zero => intro _; rfl
  | succ n ih =>
    intro h
    simp only [outl]
    rw [ih (fun x y hx hy => h x y (by omega) hy), inn_congr (fun y hy => h n y (by omega) hy)]
noncomputable def prc (F : Int64) (j l a b : Nat) (x y : Nat) : Int64 := prd F j l (a + b + 2) (rowOf (cls F j (a + 1)).2 x) (rowOf (cls F l (b + 1)).2 y)
/-- all products on top of all rises -/
noncomputable def all2 (F : Int64) (j l a b : Nat) : List Int64 := outl (prc F j l a b) (cls F l (b + 1)).2.length (rsl F (j ||| l) (a + b + 1)) (cls F j (a + 1)).2.length
noncomputable def rnk (F : Int64) (j l a b : Nat) : Nat := rk (all2 F j l a b) - rk (rsl F (j ||| l) (a + b + 1))
theorem rk_inn (pr : Nat → Int64) (B : List Int64) (n : Nat) : rk B ≤ rk (inn pr B n) := by
  induction n with
  | zero => exact Nat.le_refl _
  | succ n ih => simp only [inn, rk]; omega
theorem rk_outl (pr : Nat → Nat → Int64) (nl : Nat) (R : List Int64) (n : Nat) : rk R ≤ rk (outl pr nl R n) := by
  induction n with
  | zero => exact Nat.le_refl _
  | succ n ih => simp only [outl]; exact Nat.le_trans ih (rk_inn _ _ _)
/-! the class -/
theorem f_addRises {F : Int64} {q k : Nat} (ro le : Nat → Int64) (ld re : Int64) (c : Int32) : ∃ (ro' le' : Nat → Int64) (re' : Int64) (c' : Nat), f_X3_addRises (mk (fp F q k) 64) (mk (fp F q (k + 1)) 64) ro le ld re c = some (ro', le', -1, re', nI c') ∧ CB ro' le' c' (-1) (rsl F q k) := by
  have key : ∀ d i m (ro le : Nat → Int64) (re : Int64) (c : Nat), i + d = 64 → d < m → CB ro le c (-1) (vl (fp F q k) (fun s => abv s &&& mk (fp F q (k + 1)) 64) i) → ∃ (ro' le' : Nat → Int64) (re' : Int64) (c' : Nat), f_X3_addRises_13 m (mk (fp F q k) 64) (mk (fp F q (k + 1)) 64) (nI i) ro le (-1) re (nI c) = some (ro', le', -1, re', nI c') ∧ CB ro' le' c' (-1) (rsl F q k) := by
    intro d
    induction d with
    | zero =>
      intro i m ro le re c h1 h2 hC
      obtain ⟨m, rfl⟩ : ∃ m', m = m' + 1 := ⟨m - 1, by omega⟩
      have e : i = 64 := by omega
      subst e
      refine ⟨ro, le, re, c, ?_, hC⟩
      rw [f_X3_addRises_13, if_pos (show (64 : Int32) ≤ nI 64 by decide)]
    | succ d ih =>
      intro i m ro le re c h1 h2 hC
      obtain ⟨m, rfl⟩ : ∃ m', m = m' + 1 := ⟨m - 1, by omega⟩
      have hi : i < 64 := by omega
      rw [f_X3_addRises_13, if_neg (show ¬ (64 : Int32) ≤ nI i from nI_ge (b := 64) hi (by decide)), sbg (f_holds hi), tb_fp hi, nI_1]
      cases hP : fp F q k i with
      | false =>
        rw [if_pos (show tf false = 0 from rfl)]
        refine ih (i + 1) m ro le re c (by omega) (by omega) ?_
        rw [show vl (fp F q k) (fun s => abv s &&& mk (fp F q (k + 1)) 64) (i + 1) = (if fp F q k i = true then _ else vl (fp F q k) (fun s => abv s &&& mk (fp F q (k + 1)) 64) i) from rfl, if_neg (by rw [hP]; decide)]
        exact hC
      | true =>
        rw [if_neg (show ¬ tf true = 0 by decide), sbg (f_above hi)]
        obtain ⟨ro2, le2, re2, c2, ha, hC2⟩ := f_addAll hC (abv i &&& mk (fp F q (k + 1)) 64) re
        rw [sbg ha]
        refine ih (i + 1) m ro2 le2 re2 c2 (by omega) (by omega) ?_
        rw [show vl (fp F q k) (fun s => abv s &&& mk (fp F q (k + 1)) 64) (i + 1) = (if fp F q k i = true then (abv i &&& mk (fp F q (k + 1)) 64) :: vl (fp F q k) (fun s => abv s &&& mk (fp F q (k + 1)) 64) i else _) from rfl, if_pos hP]
        exact hC2
  unfold f_X3_addRises f_X3_addRises_0
  rw [sbg (show f_X0_clear (-1) ld re c = some (-1, 0, 0) from rfl)]
  exact key 64 0 FU ro le 0 0 rfl (by decide) (CB.nil ro le (-1))
theorem tf_cnt {b : Bool} {r rk0 z : Nat} (hz : z ≤ rk0) : nI (rk0 + b.toNat - z) = if tf b = 0 then nI (rk0 - z) else nI (rk0 - z) + 1 := by
  cases b
  · rfl
  · rw [if_neg (show ¬ tf true = 0 by decide), nI_1]
    congr 1
    show rk0 + 1 - z = rk0 - z + 1
    omega
theorem ms_in {co : Nat → Int32} {F : Int64} {kk : Int32 → Int32 → Int32 → Int32 → Int64 → Int32 → Int32 → (Nat → Int64) → (Nat → Int64) → (Int64) → (Int64) → (Int32) → (Nat → Int64) → (Nat → Int64) → Option (Int32 × (Nat → Int64) × (Nat → Int64) × Int64 × Int64 × Int32 × (Nat → Int64) × (Nat → Int64))} {j l k x nj nl z : Nat} {lf rg : Nat → Int64} (hj : j < 64) (hl : l < 64) (hx : x < 64) (hnl : nl ≤ 64) {B : List Int64} (hz : z ≤ rk B) :
    ∀ d i m (ro le : Nat → Int64) (re : Int64) (c : Nat), i + d = nl → d < m → CB ro le c (-1) (inn (fun y => prd F j l k (lf x) (rg y)) B i) →
    ∃ (ro' le' : Nat → Int64) (re' : Int64) (c' : Nat), f_X3_measure_155 co kk m (nI j) (nI l) (nI nj) (nI nl) (mk (fp F (j ||| l) k) 64) (nI (rk (inn (fun y => prd F j l k (lf x) (rg y)) B i) - z)) (nI x) (nI i) ro le (-1) re (nI c) lf rg = kk (nI j) (nI l) (nI nj) (nI nl) (mk (fp F (j ||| l) k) 64) (nI (rk (inn (fun y => prd F j l k (lf x) (rg y)) B nl) - z)) (nI x + 1) ro' le' (-1) re' (nI c') lf rg ∧ CB ro' le' c' (-1) (inn (fun y => prd F j l k (lf x) (rg y)) B nl) := by
  intro d
  induction d with
  | zero =>
    intro i m ro le re c h1 h2 hC
    obtain ⟨m, rfl⟩ : ∃ m', m = m' + 1 := ⟨m - 1, by omega⟩
    have e : i = nl := by omega
    subst e
    refine ⟨ro, le, re, c, ?_, hC⟩
    rw [f_X3_measure_155, if_pos (nI_le (Nat.le_refl _) (by omega))]
  | succ d ih =>
    intro i m ro le re c h1 h2 hC
    obtain ⟨m, rfl⟩ : ∃ m', m = m' + 1 := ⟨m - 1, by omega⟩
    have hi : i < nl := by omega
    rw [f_X3_measure_155, if_neg (nI_ge hi (by omega)), if_neg (show ¬ (64 : Int32) ≤ nI i from nI_ge (b := 64) (by omega) (by decide)), ix_nI hx (by decide), ix_nI (show i < 64 by omega) (by decide), cl_nI (show x < 2 ^ 31 by omega), cl_nI (show i < 2 ^ 31 by omega)]
    simp only [gd]
    rw [sbg (f_multiply hj hl _ _)]
    obtain ⟨ro2, le2, re2, c2, ha, hC2⟩ := f_addAll hC (prd F j l k (lf x) (rg i)) re
    have hzz : z ≤ rk (inn (fun y => prd F j l k (lf x) (rg y)) B i) := Nat.le_trans hz (rk_inn _ _ _)
    have e := tf_cnt (b := !dq (sp (inn (fun y => prd F j l k (lf x) (rg y)) B i) (prd F j l k (lf x) (rg i)))) (r := 0) hzz
    have ih := ih (i + 1) m ro2 le2 re2 c2 (by omega) (by omega) hC2
    rw [show rk (inn (fun y => prd F j l k (lf x) (rg y)) B (i + 1)) = rk (inn (fun y => prd F j l k (lf x) (rg y)) B i) + (!dq (sp (inn (fun y => prd F j l k (lf x) (rg y)) B i) (prd F j l k (lf x) (rg i)))).toNat from rfl, e] at ih
    rw [sbg ha, nI_1]
    by_cases hd : tf (!dq (sp (inn (fun y => prd F j l k (lf x) (rg y)) B i) (prd F j l k (lf x) (rg i)))) = 0
    · rw [if_pos hd] at ih ⊢
      exact ih
    · rw [if_neg hd] at ih ⊢
      exact ih
theorem ms_out {co : Nat → Int32} {F : Int64} {j l k nj nl z : Nat} {lf rg : Nat → Int64} (hj : j < 64) (hl : l < 64) (hnj : nj ≤ 64) (hnl : nl ≤ 64) {R : List Int64} (hz : z ≤ rk R) :
    ∀ d i m (ro le : Nat → Int64) (re : Int64) (c : Nat), i + d = nj → d < m → CB ro le c (-1) (outl (fun x y => prd F j l k (lf x) (rg y)) nl R i) →
    ∃ (ro' le' : Nat → Int64) (re' : Int64) (c' : Nat), f_X3_measure_138 co m (nI j) (nI l) (nI nj) (nI nl) (mk (fp F (j ||| l) k) 64) (nI (rk (outl (fun x y => prd F j l k (lf x) (rg y)) nl R i) - z)) (nI i) ro le (-1) re (nI c) lf rg = some (nI (rk (outl (fun x y => prd F j l k (lf x) (rg y)) nl R nj) - z), ro', le', -1, re', nI c', lf, rg) := by
  intro d
  induction d with
  | zero =>
    intro i m ro le re c h1 h2 hC
    obtain ⟨m, rfl⟩ : ∃ m', m = m' + 1 := ⟨m - 1, by omega⟩
    have e : i = nj := by omega
    subst e
    refine ⟨ro, le, re, c, ?_⟩
    rw [f_X3_measure_138, if_pos (nI_le (Nat.le_refl _) (by omega))]
  | succ d ih =>
    intro i m ro le re c h1 h2 hC
    obtain ⟨m, rfl⟩ : ∃ m', m = m' + 1 := ⟨m - 1, by omega⟩
    have hi : i < nj := by omega
    rw [f_X3_measure_138, if_neg (nI_ge hi (by omega)), if_neg (show ¬ (64 : Int32) ≤ nI i from nI_ge (b := 64) (by omega) (by decide))]
    obtain ⟨ro2, le2, re2, c2, he, hC2⟩ := ms_in (co := co) (kk := f_X3_measure_138 co m) (nj := nj) (lf := lf) (rg := rg) (k := k) hj hl (show i < 64 by omega) hnl (Nat.le_trans hz (rk_outl _ _ _ _)) nl 0 FU ro le re c (by omega) (Nat.lt_of_le_of_lt hnl (by decide)) hC
    rw [show (0 : Int32) = nI 0 from rfl]
    rw [show rk (outl (fun x y => prd F j l k (lf x) (rg y)) nl R i) = rk (inn (fun y => prd F j l k (lf i) (rg y)) (outl (fun x y => prd F j l k (lf x) (rg y)) nl R i) 0) from rfl, he, nI_1]
    exact ih (i + 1) m ro2 le2 re2 c2 (by omega) (by omega) hC2
