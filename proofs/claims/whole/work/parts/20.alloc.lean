/-! ===== making cells: arrays, objects, constructors ===== -/
/-- a constructor's contract: behind it the world is w1 at some new addresses -/
def CtN (l : Launch) (y : MethodName) (ws : List Cond) (rm : Room) (D : va_G) (cI cJ : ClassId) (av : List Value) (w : va_W) (w1 : (Nat → Nat) → va_W) (mc ms : Nat) : Prop := ∀ sz, Met l y ws rm (Pr D cI cJ none av w sz) (va_Qv (fun (_ : Nat → Nat) => True) (fun a t => Bw D cI cJ (va_A w sz) (w1 a) t) (va_A w sz)) mc ms (va_A w sz)
theorem CtN.of {l : Launch} {y : MethodName} {cc : ByteArray} {ws ws' : List Cond} {own : String} {nL : Nat} {rm : Room} {D : va_G} {cI cJ : ClassId} {av : List Value} {w : va_W} {w1 : (Nat → Nat) → va_W} {mc ms : Nat} (hy : plainName y.cls = true) (hw : ws = Cond.code y cc nL none :: ws') (ho : y.cls = own) (hnm : y.name = "<init>") (hlen : (lg_sl av).length ≤ nL)
    (body : ∀ {p : Program} {e : Env} {s : State} {m : MethodId} {below : List Frame} {meth : Method} {c : Code} {A : Nat → Prop}, Cx p s m av.toArray meth c cc ws own nL none → va_K D vwCl (tyL cI cJ) s → (∀ q, s.heap.size ≤ q → A q) → meth.name = "<init>" → ∀ ls : Array Slot, St D A s w s.heap [] → lv_has ls nL (lv_args 0 av) → W p l e rm s m av.toArray below meth c s.heap [] 0 0 (MQ below (va_Qv (fun (_ : Nat → Nat) => True) (fun a t => Bw D cI cJ A (w1 a) t) A) av.toArray s mc ms A) (F0 m 0 ls [])) : CtN l y ws rm D cI cJ av w w1 mc ms := by
  subst ho
  intro sz
  refine Met.ofW (cc := cc) (maxL := nL) (ret := none) hy hw ?_
  intro p e s m args below meth c s₁ B hml hv
  obtain ⟨rfl, hsz, hP, hK, hD0, hX⟩ := hv
  have hts := atoms_spec (ws := ws) B.pre
  have hown : s.vm.findClass y.cls = some m.cls := findClass_of_methodNamed B.named
  have hin : meth.name = y.name := (name_of_methodNamed B.named B.method).1
  subst hsz
  have hD := hD0.self (sz := s.heap.size)
  have hl := lv_entry av (n := nL) hlen
  rw [lg_entry_eq]
  exact body (A := va_A w s.heap.size) ⟨⟨B.exec, B.bytes, hml, hown, hts⟩, B.returns, B.notSynchronized⟩ hK (fun q h => Or.inr h) (hin.trans hnm) _ ⟨hP, hD, va_S.rf⟩ hl
section HE
variable {p : Program} {l : Launch} {e : Env} {R : Room} {s : State} {m : MethodId} {args : Array Value} {below : List Frame} {meth : Method} {c : Code} {H : Heap} {locs : List Loc} {cells slots : Nat} {Q : State → Prop}
variable {cc : ByteArray} {Ts : List Cond} {own : String} {nL : Nat} {rt : Option FieldType} {pc : Nat} {ls : Array Slot} {lv : List (Nat × Value)} {rest st0 : List Value} {D : va_G} {A : Nat → Prop} {w w' wc : va_W} {cI cJ : ClassId} {a : Nat} {isC isR isB : List Nat}
theorem hb_ni (C0 : Cx p s m args meth c cc Ts own nL rt) (hK : va_K D vwCl (tyL cI cJ) s) (hA : ∀ q, s.heap.size ≤ q → A q) (hSt : St D A s w H locs) (harr : Cond.arrayClass .int ∈ Ts) {n : Int32} {N' : Nat} (hn : ¬ n < 0) (hN : n.toNatClampNeg = N') (hbytes : N' * componentBytes .int ≤ 536870912) (hcells : cells + 1 ≤ R.cells) (hslots : slots + N' ≤ R.slots) (hdg : decode cc pc = .ok (.newarray .int, 2))
    (kk : ∀ (q : Nat) (H1 : Heap), St D A s (w ++ [(q, .inl (cI, N', .inl (fun _ => 0)))]) H1 locs → W p l e R s m args below meth c H1 locs (cells + 1) (slots + N') Q (F0 m (pc + 2) ls (.ref q :: rest))) : W p l e R s m args below meth c H locs cells slots Q (F0 m pc ls (.int n :: rest)) := by
  refine va_newa (atype := .int) (a0 := (N', .inl (fun _ => 0))) C0.1.1 C0.1.2.1 (C0.1.2.2.2.2 _ harr) (ty := .int) rfl hK hSt.1 hSt.2.1 hSt.2.2 hA (fun _ => rfl) hn hN hbytes hcells hslots hdg (fun q cA H1 h1 h2 h3 h4 => ?_)
  have e1 : s.vm.findClass ("[" ++ (FieldType.int).toString) = some cA := (h1.2 2 (cA, .int) rfl).2
  have e2 : s.vm.findClass ("[" ++ (FieldType.int).toString) = some cI := (hK.2 0 (cI, .int) rfl).2
  have e3 : cA = cI := Option.some.inj (e1.symm.trans e2)
  subst e3
  exact kk q H1 ⟨h2, h3, h4⟩
theorem hb_nl (C0 : Cx p s m args meth c cc Ts own nL rt) (hK : va_K D vwCl (tyL cI cJ) s) (hA : ∀ q, s.heap.size ≤ q → A q) (hSt : St D A s w H locs) (harr : Cond.arrayClass .long ∈ Ts) {n : Int32} {N' : Nat} (hn : ¬ n < 0) (hN : n.toNatClampNeg = N') (hbytes : N' * componentBytes .long ≤ 536870912) (hcells : cells + 1 ≤ R.cells) (hslots : slots + N' ≤ R.slots) (hdg : decode cc pc = .ok (.newarray .long, 2))
    (kk : ∀ (q : Nat) (H1 : Heap), St D A s (w ++ [(q, .inl (cJ, N', .inr (.inl (fun _ => 0))))]) H1 locs → W p l e R s m args below meth c H1 locs (cells + 1) (slots + N') Q (F0 m (pc + 2) ls (.ref q :: rest))) : W p l e R s m args below meth c H locs cells slots Q (F0 m pc ls (.int n :: rest)) := by
  refine va_newa (atype := .long) (a0 := (N', .inr (.inl (fun _ => 0)))) C0.1.1 C0.1.2.1 (C0.1.2.2.2.2 _ harr) (ty := .long) rfl hK hSt.1 hSt.2.1 hSt.2.2 hA (fun _ => rfl) hn hN hbytes hcells hslots hdg (fun q cA H1 h1 h2 h3 h4 => ?_)
  have e1 : s.vm.findClass ("[" ++ (FieldType.long).toString) = some cA := (h1.2 2 (cA, .long) rfl).2
  have e2 : s.vm.findClass ("[" ++ (FieldType.long).toString) = some cJ := (hK.2 1 (cJ, .long) rfl).2
  have e3 : cA = cJ := Option.some.inj (e1.symm.trans e2)
  subst e3
  exact kk q H1 ⟨h2, h3, h4⟩
theorem hb_new (C0 : Cx p s m args meth c cc Ts own nL rt) (hK : va_K D vwCl (tyL cI cJ) s) (hA : ∀ q, s.heap.size ≤ q → A q) (hSt : St D A s w H locs) (ci : Nat) {C : String} {T : u_T} {N index : Nat} (hc : vwCl[ci]? = some (C, T, N)) (hin : ∀ x ∈ u_ws C T N, x ∈ Ts) (ty0 : Nat → FieldType) (hty : ∀ k, k < N → parseFieldDescriptor (T k).2.2.1 = some (ty0 k)) (hcl : Cond.classLink own index C ∈ Ts) (hinst : Cond.instantiable C N ∈ Ts) (hini : Cond.initialized C ∈ Ts) {fs : List Value} (hfs : ∀ j, j < N → defaultValue (ty0 j) = vp_V fs j) (hcells : cells + 1 ≤ R.cells) (hslots : slots + N ≤ R.slots) (hdg : decode cc pc = .ok (.new index, 3))
    (kk : ∀ (q : Nat) (H1 : Heap), St D A s (w ++ [(q, .inr (ci, fs))]) H1 locs → W p l e R s m args below meth c H1 locs (cells + 1) (slots + N) Q (F0 m (pc + 3) ls (.ref q :: rest))) : W p l e R s m args below meth c H locs cells slots Q (F0 m pc ls rest) :=
  va_new C0.1.1 C0.1.2.1 C0.1.2.2.2.2 hin ty0 hty C0.1.2.2.2.1 (C0.1.2.2.2.2 _ hcl) (C0.1.2.2.2.2 _ hinst) (C0.1.2.2.2.2 _ hini) hK hSt.1 hSt.2.1 hSt.2.2 hA hc hfs hcells hslots hdg (fun q H1 h1 h2 h3 => kk q H1 ⟨h1, h2, h3⟩)
theorem hb_putF (C0 : Cx p s m args meth c cc Ts own nL rt) (hK : va_K D vwCl (tyL cI cJ) s) (hSt : St D A s w H locs) (hnm0 : meth.name = "<init>") (q0 ci k : Nat) {C : String} {T : u_T} {N index : Nat} {fs : List Value} {v : Value} (he : w[q0]? = some (a, .inr (ci, fs))) (hc : vwCl[ci]? = some (C, T, N)) (hin : ∀ x ∈ u_ws C T N, x ∈ Ts) (ty0 : Nat → FieldType) (hty : ∀ k, k < N → parseFieldDescriptor (T k).2.2.1 = some (ty0 k)) (hnm : ∀ a, a < N → ∀ b, b < N → a ≠ b → (T a).2.1 ≠ (T b).2.1) (hk : k < N) (hlink : Cond.fieldLink own index (T k).1 (T k).2.1 (T k).2.2.1 ∈ Ts) (hfin : (T k).2.2.2 = true) (hdecl : (T k).1 = own) (hn : narrow (ty0 k) v = v) (hfit : fits (ty0 k) v = true) (hl : k < fs.length) (hw : w.set q0 (a, .inr (ci, fs.set k v)) = w') (hdg : decode cc pc = .ok (.putfield index, 3))
    (kk : ∀ (H1 : Heap) (locs1 : List Loc), St D A s w' H1 locs1 → W p l e R s m args below meth c H1 locs1 cells slots Q (F0 m (pc + 3) ls rest)) : W p l e R s m args below meth c H locs cells slots Q (F0 m pc ls (v :: .ref a :: rest)) := by
  subst hw
  exact va_putF C0.1.1 C0.1.2.1 C0.1.2.2.2.2 hin ty0 hty hnm C0.1.2.2.2.1 hK hSt.1 hSt.2.1 hSt.2.2 q0 he hc k hk (C0.1.2.2.2.2 _ hlink) (fun _ h => h) hfin hnm0 hdecl (hty k hk) hn hfit hl hdg (fun H1 locs1 h1 h2 h3 => kk H1 locs1 ⟨h1, h2, h3⟩)
theorem hb_obj (C0 : Cx p s m args meth c cc Ts own nL rt) {idx : Nat} (hlink : Cond.methodLink own idx objectInit ∈ Ts) (hinst : Cond.instanceMethod objectInit ∈ Ts) (hcode : Cond.code objectInit ⟨#[0xb1]⟩ 1 none ∈ Ts) (hl : lv_has ls nL lv) (hd : decode cc pc = .ok (.invokespecial idx, 3)) (hframes : 1 ≤ R.frames) (hlocals : 12 ≤ R.locals)
    (kk : W p l e R s m args below meth c H locs cells slots Q (F0 m (pc + 3) ls [])) : W p l e R s m args below meth c H locs cells slots Q (F0 m pc ls [.ref a]) :=
  W.objInit C0.1.1 C0.1.2.1 C0.1.2.2.2.1 (C0.1.2.2.2.2 _ hlink) (C0.1.2.2.2.2 _ hinst) (C0.1.2.2.2.2 _ hcode) rfl (by rw [C0.1.2.2.1]; exact hl.1) rfl hd hframes hlocals kk
theorem hb_vretN (C0 : Cx p s m args meth c cc Ts own nL none) (hK : va_K D vwCl (tyL cI cJ) s) {w1 : (Nat → Nat) → va_W} (f : Nat → Nat) (hSt : St D A s (w1 f) H locs) {mc ms : Nat} (hmc : cells ≤ mc) (hms : slots ≤ ms) (hdg : decode cc pc = .ok (.return_, 1)) : W p l e R s m args below meth c H locs cells slots (MQ below (va_Qv (fun (_ : Nat → Nat) => True) (fun a t => Bw D cI cJ A (w1 a) t) A) args s mc ms A) (F0 m pc ls []) :=
  W.widen hmc hms (W.vret C0.1.1 C0.1.2.1 C0.2.1 (fun t ht hW => ⟨⟨f, rfl, trivial, by rw [ht]; exact hSt.1, va_K.moved hW.alike hK, hSt.2.1⟩, hSt.2.2.F ht⟩) hSt.2.2.2.2 hdg C0.2.2)
variable {y : MethodName} {bytes : ByteArray} {maxL index n mc ms : Nat} {wsC wsC' : List Cond} {rmC : Room} {b : Nat} {As : List Value}
theorem hb_cI (C0 : Cx p s m args meth c cc Ts own nL rt) (hK : va_K D vwCl (tyL cI cJ) s) (hA : ∀ q, s.heap.size ≤ q → A q) (hSt : St D A s w H locs) {w1 w2 : (Nat → Nat) → va_W} (hsp : ∀ f, Sp w wc (w1 f) (w2 f) isC isR isB) (hM : CtN l y wsC rmC D cI cJ (.ref b :: As) wc w1 mc ms)
    (hG : GoodIn Ts wsC) (hw : wsC = Cond.code y bytes maxL none :: wsC') (hrc : rmC.cells = mc) (hrs : rmC.slots = ms) (hini : Cond.initialized y.cls ∈ Ts) (hl0 : Cond.methodLink own index y ∈ Ts) (hin : Cond.instanceMethod y ∈ Ts) (hy1 : y.name = "<init>") (hd : y.cls ≠ "java/lang/invoke/MethodHandle" ∧ y.cls ≠ "java/lang/invoke/VarHandle" ∧ (parseMethodDescriptor y.desc).map (fun d => d.parameters.length) = some n) (hR : rmC.frames + 1 ≤ R.frames ∧ 8 + (maxL + 11) + rmC.locals ≤ R.locals)
    (hlen : As.length = n) (hl : lv_has ls nL lv) (hst : st0 = As.reverse ++ .ref b :: rest) (hW : (rest.map fun v => v.category).sum ≤ 8) (hdg : decode cc pc = .ok (.invokespecial index, 3)) (hcs : cells + mc ≤ R.cells ∧ slots + ms ≤ R.slots)
    (kk : ∀ (f : Nat → Nat) (H1 : Heap) (locs1 : List Loc), St D A s (w2 f) H1 locs1 → W p l e R s m args below meth c H1 locs1 (cells + mc) (slots + ms) Q (F0 m (pc + 3) ls rest)) : W p l e R s m args below meth c H locs cells slots Q (F0 m pc ls st0) := by
  have hsp0 := hsp (fun _ => 0)
  have hFc : ∀ q, va_A wc H.size q → A q := va_free hSt.2.1 hSt.2.2 hA isC hsp0.1
  refine va_callv (va_runI (As := As) (rest := rest) C0.1 (hM H.size) (cwI n C0.1.2.2.2.2 hG hw hrc hrs (C0.1.2.2.2.2 _ hini) (C0.1.2.2.2.2 _ hl0) (C0.1.2.2.2.2 _ hin) hy1 hd hR) ⟨Pr.blind, fun U hU hW => hb_pre (As := .ref b :: As) hK hA XT.nn hSt hsp0 U hU hW⟩ rfl hlen hl.1 hst (lv_room hW) hdg hcs) hSt.2.2 (fun q _ h => hFc q h) hFc (fun f t H1 locs1 ht hvm hw hB hz hk hS => ?_)
  exact kk f H1 locs1 (hb_back hA hSt (hsp f) ht hB hk hS)
end HE
