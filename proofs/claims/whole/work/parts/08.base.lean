/-! ===== base: guards, binds, contracts by pure functions, calls ===== -/
def bnd {α β : Type} (e : α) (k : α → β) : β := k e
def gd {α : Type} (b : Bool) (k : Option α) : Option α := match b with
  | true => k
  | false => none
def ix (i : Int32) (n : Nat) : Bool := !decide (i < 0) && decide (i.toNatClampNeg < n)
def isb (v : Int32) : Bool := decide (v = 0) || decide (v = 1)
theorem ix_in {i : Int32} {n : Nat} (h : ix i n = true) : vp_in i n := by
  simp only [ix, Bool.and_eq_true, Bool.not_eq_true', decide_eq_false_iff_not, decide_eq_true_eq] at h
  intro h1
  rcases h1 with h1 | h1
  · exact h.1 h1
  · omega
theorem gd_t {α : Type} {b : Bool} {k : Option α} {r : α} (h : gd b k = some r) : b = true ∧ k = some r := by
  cases b with
  | false => cases h
  | true => exact ⟨rfl, h⟩
theorem ite_t {α : Type} {c : Prop} [Decidable c] {a b : Option α} {r : α} (h : (if c then a else b) = some r) (hc : c) : a = some r := by
  rw [if_pos hc] at h
  exact h
theorem ite_f {α : Type} {c : Prop} [Decidable c] {a b : Option α} {r : α} (h : (if c then a else b) = some r) (hc : ¬ c) : b = some r := by
  rw [if_neg hc] at h
  exact h
theorem isb_n {v : Int32} (h : isb v = true) : narrow .boolean (.int v) = .int v ∧ fits .boolean (.int v) = true := by
  simp only [isb, Bool.or_eq_true, decide_eq_true_eq] at h
  rcases h with rfl | rfl
  · exact ⟨by decide, by decide⟩
  · exact ⟨by decide, by decide⟩
theorem lc_t {x y : Int64} (h : lg_cmp x y = 0) : x = y := by
  unfold lg_cmp at h
  split at h
  · exact absurd h (by decide)
  · split at h
    · assumption
    · exact absurd h (by decide)
theorem lc_f {x y : Int64} (h : ¬ lg_cmp x y = 0) : ¬ x = y := by
  intro e
  subst e
  apply h
  unfold lg_cmp
  rw [if_neg (by simp only [gt_iff_lt, Int64.lt_iff_toInt_lt]; omega), if_pos rfl]
theorem mf {w wc : va_W} {is : List Nat} (h : is.map (fun i => w[i]?) = wc.map some) : is.filterMap (fun i => w[i]?) = wc := by
  have h1 : is.filterMap (fun i => w[i]?) = (is.map (fun i => w[i]?)).filterMap id := by
    rw [List.filterMap_map]
    rfl
  rw [h1, h, List.filterMap_map]
  simp
def Cx (p : Program) (s : State) (m : MethodId) (args : Array Value) (meth : Method) (c : Code) (cc : ByteArray) (Ts : List Cond) (own : String) (nL : Nat) (rt : Option FieldType) : Prop :=
  CallFix p m c cc nL s args Ts own ∧ meth.sig.returnType = rt ∧ meth.locks = false
abbrev tyL (cI cJ : ClassId) : List (ClassId × FieldType) := [(cI, .int), (cJ, .long)]
def St (D : va_G) (A : Nat → Prop) (s : State) (w : va_W) (H : Heap) (locs : List Loc) : Prop := va_P D vwCl w H ∧ va_D A w ∧ va_S A s.heap H locs
def byL (j : Nat) : Int64 := match j with
  | 0 => 1
  | 1 => 4295033110
  | 2 => 282668995843688
  | 3 => 78274679833913472
  | 4 => 1614655367130677248
  | 5 => 7530159316599308288
  | _ => -9223372036854775808
def byOk (t : Nat) (A : Nat → Prop) (U : State) (H : Heap) : Prop := va_Z "HoleHouse$Sets" "BY_SIZE" "[J" (.ref t) A U H ∧ va_T .long t 7 (fun j => .long (byL j)) A U H
def XT (xb : Option Nat) (A : Nat → Prop) (U : State) (H : Heap) : Prop := match xb with
  | none => True
  | some t => byOk t A U H
theorem XT.go {xb : Option Nat} {A B : Nat → Prop} {s U : State} {H : Heap} {locs : List Loc} (h : XT xb A s s.heap) (hS : va_S A s.heap H locs) (hB : ∀ q, B q → A q) (hvm : s.vm.Alike U.vm) : XT xb B U H := by
  cases xb with
  | none => trivial
  | some t => exact ⟨va_Z.moved hvm ((h.1.kept hS.2.1).narrow hB), va_T.moved hvm ((h.2.kept hS.2.1).narrow hB)⟩
theorem XT.mv {xb : Option Nat} {A : Nat → Prop} {s U : State} {H : Heap} (h : XT xb A s H) (hvm : s.vm.Alike U.vm) : XT xb A U H := by
  cases xb with
  | none => trivial
  | some t => exact ⟨va_Z.moved hvm h.1, va_T.moved hvm h.2⟩
def Pr (D : va_G) (cI cJ : ClassId) (xb : Option Nat) (av : List Value) (w : va_W) (sz : Nat) : Array Value → State → Prop := va_Pc av (fun U => U.heap.size = sz ∧ va_P D vwCl w U.heap ∧ va_K D vwCl (tyL cI cJ) U ∧ va_D (fun _ => True) w ∧ XT xb (va_A w sz) U U.heap)
theorem Pr.blind {D : va_G} {cI cJ : ClassId} {xb : Option Nat} {av : List Value} {w : va_W} {sz : Nat} : FrameBlind (Pr D cI cJ xb av w sz) := by
  intro a U g mk q
  obtain ⟨q0, q1, qP, qK, qD, qX⟩ := q
  exact ⟨q0, q1, qP, va_K.moved (u := U) (U := U.calling g mk a) (Vm.Alike.refl U.vm) qK, qD, XT.mv (s := U) (U := U.calling g mk a) qX (Vm.Alike.refl U.vm)⟩
def Bw (D : va_G) (cI cJ : ClassId) (A : Nat → Prop) (w : va_W) (t : State) : Prop := va_P D vwCl w t.heap ∧ va_K D vwCl (tyL cI cJ) t ∧ va_D A w
def QI (D : va_G) (cI cJ : ClassId) (A : Nat → Prop) (w : va_W) (r : Int32) : Array Value → State → Outcome → State → Prop := va_Qi (fun x (_ : Unit) => x = r) (fun _ t => Bw D cI cJ A w t) A
def QL (D : va_G) (cI cJ : ClassId) (A : Nat → Prop) (w : va_W) (r : Int64) : Array Value → State → Outcome → State → Prop := va_Ql (fun x (_ : Unit) => x = r) (fun _ t => Bw D cI cJ A w t) A
def QV (D : va_G) (cI cJ : ClassId) (A : Nat → Prop) (w : va_W) : Array Value → State → Outcome → State → Prop := va_Qv (fun (_ : Unit) => True) (fun _ t => Bw D cI cJ A w t) A
def CtI (l : Launch) (y : MethodName) (ws : List Cond) (rm : Room) (D : va_G) (cI cJ : ClassId) (xb : Option Nat) (av : List Value) (w : va_W) (r : Int32) (w' : va_W) : Prop := ∀ sz, Met l y ws rm (Pr D cI cJ xb av w sz) (QI D cI cJ (va_A w sz) w' r) 0 0 (va_A w sz)
def CtL (l : Launch) (y : MethodName) (ws : List Cond) (rm : Room) (D : va_G) (cI cJ : ClassId) (xb : Option Nat) (av : List Value) (w : va_W) (r : Int64) (w' : va_W) : Prop := ∀ sz, Met l y ws rm (Pr D cI cJ xb av w sz) (QL D cI cJ (va_A w sz) w' r) 0 0 (va_A w sz)
def CtV (l : Launch) (y : MethodName) (ws : List Cond) (rm : Room) (D : va_G) (cI cJ : ClassId) (xb : Option Nat) (av : List Value) (w : va_W) (w' : va_W) : Prop := ∀ sz, Met l y ws rm (Pr D cI cJ xb av w sz) (QV D cI cJ (va_A w sz) w') 0 0 (va_A w sz)
/-- the body of a method, at its entry, with any end -/
def BodyW (l : Launch) (cc : ByteArray) (ws : List Cond) (own : String) (nL : Nat) (rt : Option FieldType) (rm : Room) (D : va_G) (cI cJ : ClassId) (xb : Option Nat) (av : List Value) (w : va_W) (Qc : (Nat → Prop) → Array Value → State → Outcome → State → Prop) : Prop :=
  ∀ {p : Program} {e : Env} {s : State} {m : MethodId} {below : List Frame} {meth : Method} {c : Code} {A : Nat → Prop}, Cx p s m av.toArray meth c cc ws own nL rt → va_K D vwCl (tyL cI cJ) s → (∀ q, s.heap.size ≤ q → A q) → XT xb A s s.heap → ∀ ls : Array Slot, St D A s w s.heap [] → lv_has ls nL (lv_args 0 av) → W p l e rm s m av.toArray below meth c s.heap [] 0 0 (MQ below (Qc A) av.toArray s 0 0 A) (F0 m 0 ls [])
theorem BodyW.met {l : Launch} {y : MethodName} {cc : ByteArray} {ws ws' : List Cond} {own : String} {nL : Nat} {rt : Option FieldType} {rm : Room} {D : va_G} {cI cJ : ClassId} {xb : Option Nat} {av : List Value} {w : va_W} {Qc : (Nat → Prop) → Array Value → State → Outcome → State → Prop} (hy : plainName y.cls = true) (hw : ws = Cond.code y cc nL rt :: ws') (ho : y.cls = own) (hlen : (lg_sl av).length ≤ nL) (body : BodyW l cc ws own nL rt rm D cI cJ xb av w Qc) (sz : Nat) : Met l y ws rm (Pr D cI cJ xb av w sz) (Qc (va_A w sz)) 0 0 (va_A w sz) := by
  subst ho
  refine Met.ofW (cc := cc) (maxL := nL) (ret := rt) hy hw ?_
  intro p e s m args below meth c s₁ B hml hv
  obtain ⟨rfl, hsz, hP, hK, hD0, hX⟩ := hv
  have hts := atoms_spec (ws := ws) B.pre
  have hown : s.vm.findClass y.cls = some m.cls := findClass_of_methodNamed B.named
  subst hsz
  have hD := hD0.self (sz := s.heap.size)
  have hl := lv_entry av (n := nL) hlen
  rw [lg_entry_eq]
  exact body (A := va_A w s.heap.size) ⟨⟨B.exec, B.bytes, hml, hown, hts⟩, B.returns, B.notSynchronized⟩ hK (fun q h => Or.inr h) hX _ ⟨hP, hD, va_S.rf⟩ hl
section HB
variable {p : Program} {l : Launch} {e : Env} {R : Room} {s : State} {m : MethodId} {args : Array Value} {below : List Frame} {meth : Method} {c : Code} {H : Heap} {locs : List Loc} {cells slots : Nat} {Q : State → Prop}
variable {cc : ByteArray} {Ts : List Cond} {own : String} {nL : Nat} {rt : Option FieldType} {pc : Nat} {ls : Array Slot} {rest st0 : List Value} {D : va_G} {A : Nat → Prop} {w w' : va_W} {cI cJ : ClassId} {a : Nat} {xb : Option Nat}
theorem tp_i {ρ : Type} {Rr : ρ} {x : Int32} {F : Int32 → Option ρ} (hf : bnd x F = some Rr) (k : ∀ y : Int32, F y = some Rr → W p l e R s m args below meth c H locs cells slots Q (F0 m pc ls (.int y :: rest))) : W p l e R s m args below meth c H locs cells slots Q (F0 m pc ls (.int x :: rest)) := k x hf
theorem tp_l {ρ : Type} {Rr : ρ} {x : Int64} {F : Int64 → Option ρ} (hf : bnd x F = some Rr) (k : ∀ y : Int64, F y = some Rr → W p l e R s m args below meth c H locs cells slots Q (F0 m pc ls (.long y :: rest))) : W p l e R s m args below meth c H locs cells slots Q (F0 m pc ls (.long x :: rest)) := k x hf
theorem hb_get (C0 : Cx p s m args meth c cc Ts own nL rt) (hK : va_K D vwCl (tyL cI cJ) s) (hSt : St D A s w H locs) (q0 ci k : Nat) {C : String} {T : u_T} {N index : Nat} {fs : List Value} {v : Value} (he : w[q0]? = some (a, .inr (ci, fs))) (hc : vwCl[ci]? = some (C, T, N)) (hin : ∀ x ∈ u_ws C T N, x ∈ Ts) (hk : k < N) (hlink : Cond.fieldLink own index (T k).1 (T k).2.1 (T k).2.2.1 ∈ Ts) (hv : fs[k]? = some v) (hdg : decode cc pc = .ok (.getfield index, 3))
    (kk : W p l e R s m args below meth c H locs cells slots Q (F0 m (pc + 3) ls (v :: rest))) : W p l e R s m args below meth c H locs cells slots Q (F0 m pc ls (.ref a :: rest)) :=
  va_get C0.1.1 C0.1.2.1 C0.1.2.2.2.2 hin C0.1.2.2.2.1 hK hSt.1 q0 he hc k hk (C0.1.2.2.2.2 _ hlink) (fun _ h => h) hv hdg kk
theorem hb_put (C0 : Cx p s m args meth c cc Ts own nL rt) (hK : va_K D vwCl (tyL cI cJ) s) (hSt : St D A s w H locs) (q0 ci k : Nat) {C : String} {T : u_T} {N index : Nat} {fs : List Value} {v : Value} (he : w[q0]? = some (a, .inr (ci, fs))) (hc : vwCl[ci]? = some (C, T, N)) (hin : ∀ x ∈ u_ws C T N, x ∈ Ts) (ty0 : Nat → FieldType) (hty : ∀ k, k < N → parseFieldDescriptor (T k).2.2.1 = some (ty0 k)) (hnm : ∀ a, a < N → ∀ b, b < N → a ≠ b → (T a).2.1 ≠ (T b).2.1) (hk : k < N) (hlink : Cond.fieldLink own index (T k).1 (T k).2.1 (T k).2.2.1 ∈ Ts) (hfin : (T k).2.2.2 = false) (hn : narrow (ty0 k) v = v) (hfit : fits (ty0 k) v = true) (hl : k < fs.length) (hw : w.set q0 (a, .inr (ci, fs.set k v)) = w') (hdg : decode cc pc = .ok (.putfield index, 3))
    (kk : ∀ (H1 : Heap) (locs1 : List Loc), St D A s w' H1 locs1 → W p l e R s m args below meth c H1 locs1 cells slots Q (F0 m (pc + 3) ls rest)) : W p l e R s m args below meth c H locs cells slots Q (F0 m pc ls (v :: .ref a :: rest)) := by
  subst hw
  exact va_put C0.1.1 C0.1.2.1 C0.1.2.2.2.2 hin ty0 hty hnm C0.1.2.2.2.1 hK hSt.1 hSt.2.1 hSt.2.2 q0 he hc k hk (C0.1.2.2.2.2 _ hlink) (fun _ h => h) hfin (hty k hk) hn hfit hl hdg (fun H1 locs1 h1 h2 h3 => kk H1 locs1 ⟨h1, h2, h3⟩)
theorem hb_iald (C0 : Cx p s m args meth c cc Ts own nL rt) (hK : va_K D vwCl (tyL cI cJ) s) (hSt : St D A s w H locs) (q0 : Nat) {n : Nat} {f : Nat → Int32} {i : Int32} (ha : w[q0]? = some (a, .inl (cI, n, .inl f))) (hi : ix i n = true) (hdg : decode cc pc = .ok (.iaload, 1))
    (kk : W p l e R s m args below meth c H locs cells slots Q (F0 m (pc + 1) ls (.int (f i.toNatClampNeg) :: rest))) : W p l e R s m args below meth c H locs cells slots Q (F0 m pc ls (.int i :: .ref a :: rest)) :=
  va_iald C0.1.1 C0.1.2.1 hK hSt.1 q0 0 ha rfl (ix_in hi) hdg kk
theorem hb_lald (C0 : Cx p s m args meth c cc Ts own nL rt) (hK : va_K D vwCl (tyL cI cJ) s) (hSt : St D A s w H locs) (q0 : Nat) {n : Nat} {f : Nat → Int64} {i : Int32} (ha : w[q0]? = some (a, .inl (cJ, n, .inr (.inl f)))) (hi : ix i n = true) (hdg : decode cc pc = .ok (.laload, 1))
    (kk : W p l e R s m args below meth c H locs cells slots Q (F0 m (pc + 1) ls (.long (f i.toNatClampNeg) :: rest))) : W p l e R s m args below meth c H locs cells slots Q (F0 m pc ls (.int i :: .ref a :: rest)) :=
  va_lald C0.1.1 C0.1.2.1 hK hSt.1 q0 1 ha rfl (ix_in hi) hdg kk
theorem hb_iast (C0 : Cx p s m args meth c cc Ts own nL rt) (hK : va_K D vwCl (tyL cI cJ) s) (hSt : St D A s w H locs) (q0 : Nat) {n : Nat} {f : Nat → Int32} {i x : Int32} (ha : w[q0]? = some (a, .inl (cI, n, .inl f))) (hi : ix i n = true) (hw : w.set q0 (a, .inl (cI, n, .inl (upd f i.toNatClampNeg x))) = w') (hdg : decode cc pc = .ok (.iastore, 1))
    (kk : ∀ (H1 : Heap) (locs1 : List Loc), St D A s w' H1 locs1 → W p l e R s m args below meth c H1 locs1 cells slots Q (F0 m (pc + 1) ls rest)) : W p l e R s m args below meth c H locs cells slots Q (F0 m pc ls (.int x :: .int i :: .ref a :: rest)) := by
  subst hw
  exact va_iast C0.1.1 C0.1.2.1 hK hSt.1 hSt.2.1 hSt.2.2 q0 0 ha rfl (ix_in hi) hdg (fun H1 locs1 h1 h2 h3 => kk H1 locs1 ⟨h1, h2, h3⟩)
theorem hb_last (C0 : Cx p s m args meth c cc Ts own nL rt) (hK : va_K D vwCl (tyL cI cJ) s) (hSt : St D A s w H locs) (q0 : Nat) {n : Nat} {f : Nat → Int64} {i : Int32} {x : Int64} (ha : w[q0]? = some (a, .inl (cJ, n, .inr (.inl f)))) (hi : ix i n = true) (hw : w.set q0 (a, .inl (cJ, n, .inr (.inl (vp_updL f i.toNatClampNeg x)))) = w') (hdg : decode cc pc = .ok (.lastore, 1))
    (kk : ∀ (H1 : Heap) (locs1 : List Loc), St D A s w' H1 locs1 → W p l e R s m args below meth c H1 locs1 cells slots Q (F0 m (pc + 1) ls rest)) : W p l e R s m args below meth c H locs cells slots Q (F0 m pc ls (.long x :: .int i :: .ref a :: rest)) := by
  subst hw
  exact va_last C0.1.1 C0.1.2.1 hK hSt.1 hSt.2.1 hSt.2.2 q0 1 ha rfl (ix_in hi) hdg (fun H1 locs1 h1 h2 h3 => kk H1 locs1 ⟨h1, h2, h3⟩)
theorem hb_ilen (C0 : Cx p s m args meth c cc Ts own nL rt) (hK : va_K D vwCl (tyL cI cJ) s) (hSt : St D A s w H locs) (q0 : Nat) {n : Nat} {f : Nat → Int32} {v : Int32} (ha : w[q0]? = some (a, .inl (cI, n, .inl f))) (hv : Int32.ofNat n = v) (hdg : decode cc pc = .ok (.arraylength, 1))
    (kk : W p l e R s m args below meth c H locs cells slots Q (F0 m (pc + 1) ls (.int v :: rest))) : W p l e R s m args below meth c H locs cells slots Q (F0 m pc ls (.ref a :: rest)) :=
  va_alen C0.1.1 C0.1.2.1 hK hSt.1 q0 0 (x := (n, .inl f)) ha (ty := .int) rfl hv hdg kk
theorem hb_llen (C0 : Cx p s m args meth c cc Ts own nL rt) (hK : va_K D vwCl (tyL cI cJ) s) (hSt : St D A s w H locs) (q0 : Nat) {n : Nat} {f : Nat → Int64} {v : Int32} (ha : w[q0]? = some (a, .inl (cJ, n, .inr (.inl f)))) (hv : Int32.ofNat n = v) (hdg : decode cc pc = .ok (.arraylength, 1))
    (kk : W p l e R s m args below meth c H locs cells slots Q (F0 m (pc + 1) ls (.int v :: rest))) : W p l e R s m args below meth c H locs cells slots Q (F0 m pc ls (.ref a :: rest)) :=
  va_alen C0.1.1 C0.1.2.1 hK hSt.1 q0 1 (x := (n, .inr (.inl f))) ha (ty := .long) rfl hv hdg kk
theorem hb_iret (C0 : Cx p s m args meth c cc Ts own nL (some .int)) (hK : va_K D vwCl (tyL cI cJ) s) (hSt : St D A s w H locs) {r : Int32} (hdg : decode cc pc = .ok (.ireturn, 1)) : W p l e R s m args below meth c H locs 0 0 (MQ below (QI D cI cJ A w r) args s 0 0 A) (F0 m pc ls [.int r]) :=
  W.iret C0.1.1 C0.1.2.1 C0.2.1 (fun t ht hW => ⟨⟨r, (), rfl, rfl, by rw [ht]; exact hSt.1, va_K.moved hW.alike hK, hSt.2.1⟩, hSt.2.2.F ht⟩) hSt.2.2.2.2 hdg C0.2.2
theorem hb_zret (C0 : Cx p s m args meth c cc Ts own nL (some .boolean)) (hK : va_K D vwCl (tyL cI cJ) s) (hSt : St D A s w H locs) {r : Int32} (hn : narrow .boolean (.int r) = .int r) (hdg : decode cc pc = .ok (.ireturn, 1)) : W p l e R s m args below meth c H locs 0 0 (MQ below (QI D cI cJ A w r) args s 0 0 A) (F0 m pc ls [.int r]) :=
  W.zret C0.1.1 C0.1.2.1 C0.2.1 hn (fun t ht hW => ⟨⟨r, (), rfl, rfl, by rw [ht]; exact hSt.1, va_K.moved hW.alike hK, hSt.2.1⟩, hSt.2.2.F ht⟩) hSt.2.2.2.2 hdg C0.2.2
theorem hb_lret (C0 : Cx p s m args meth c cc Ts own nL (some .long)) (hK : va_K D vwCl (tyL cI cJ) s) (hSt : St D A s w H locs) {r : Int64} (hdg : decode cc pc = .ok (.lreturn, 1)) : W p l e R s m args below meth c H locs 0 0 (MQ below (QL D cI cJ A w r) args s 0 0 A) (F0 m pc ls [.long r]) :=
  W.lret C0.1.1 C0.1.2.1 C0.2.1 (fun t ht hW => ⟨⟨r, (), rfl, rfl, by rw [ht]; exact hSt.1, va_K.moved hW.alike hK, hSt.2.1⟩, hSt.2.2.F ht⟩) hSt.2.2.2.2 hdg C0.2.2
theorem hb_vret (C0 : Cx p s m args meth c cc Ts own nL none) (hK : va_K D vwCl (tyL cI cJ) s) (hSt : St D A s w H locs) (hdg : decode cc pc = .ok (.return_, 1)) : W p l e R s m args below meth c H locs 0 0 (MQ below (QV D cI cJ A w) args s 0 0 A) (F0 m pc ls []) :=
  W.vret C0.1.1 C0.1.2.1 C0.2.1 (fun t ht hW => ⟨⟨(), rfl, trivial, by rw [ht]; exact hSt.1, va_K.moved hW.alike hK, hSt.2.1⟩, hSt.2.2.F ht⟩) hSt.2.2.2.2 hdg C0.2.2
end HB
