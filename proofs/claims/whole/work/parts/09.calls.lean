/-! ===== calls, over contracts by pure functions ===== -/
/-- a callee's cells wc are the caller's at isC, the rest are at isR; behind the call the caller's world is w' -/
def Sp (w wc wc' w' : va_W) (isC isR isB : List Nat) : Prop := isC.map (fun i => w[i]?) = wc.map some ∧ isR.map (fun i => w[i]?) = (isR.filterMap (fun i => w[i]?)).map some ∧ isB.map (fun i => (isR.filterMap (fun i => w[i]?) ++ wc')[i]?) = w'.map some ∧ va_nd isC = true ∧ va_nd isR = true ∧ va_nd isB = true ∧ ∀ i ∈ isR, i ∉ isC
section HC
variable {p : Program} {l : Launch} {e : Env} {R : Room} {s : State} {m : MethodId} {args : Array Value} {below : List Frame} {meth : Method} {c : Code} {H : Heap} {locs : List Loc} {cells slots : Nat} {Q : State → Prop}
variable {cc : ByteArray} {Ts : List Cond} {own : String} {nL : Nat} {rt : Option FieldType} {pc : Nat} {ls : Array Slot} {lv : List (Nat × Value)} {rest st0 : List Value} {D : va_G} {A : Nat → Prop} {w w' wc wc' : va_W} {cI cJ : ClassId} {a : Array Value} {xb : Option Nat} {isC isR isB : List Nat}
variable {y : MethodName} {bytes : ByteArray} {maxL index n : Nat} {ret : Option FieldType} {wsC wsC' : List Cond} {rmC : Room} {C : String} {T : u_T} {N : Nat} {fs : List Value} {b : Nat} {As : List Value} {Qc : Nat → Array Value → State → Outcome → State → Prop}
theorem hb_pre (hK : va_K D vwCl (tyL cI cJ) s) (hA : ∀ q, s.heap.size ≤ q → A q) (hX : XT xb A s s.heap) (hSt : St D A s w H locs) (hsp : Sp w wc wc' w' isC isR isB) (U : State) (hU : U.heap = H) (hW : s.WarmedH U.vm) : Pr D cI cJ xb As wc H.size As.toArray U := by
  have hFc : ∀ q, va_A wc H.size q → A q := va_free hSt.2.1 hSt.2.2 hA isC hsp.1
  exact ⟨rfl, by rw [hU], by rw [hU]; exact hSt.1.sub isC (mf hsp.1), va_K.moved hW.alike hK, (hSt.2.1.sub isC hsp.2.2.2.1 hsp.1).weaken (fun _ _ _ _ => trivial), by rw [hU]; exact hX.go hSt.2.2 hFc hW.alike⟩
theorem hb_rV (C0 : Cx p s m args meth c cc Ts own nL rt) (hK : va_K D vwCl (tyL cI cJ) s) (hA : ∀ q, s.heap.size ≤ q → A q) (hX : XT xb A s s.heap) (hSt : St D A s w H locs) (hsp : Sp w wc wc' w' isC isR isB) (hM : ∀ sz, Met l y wsC rmC (Pr D cI cJ xb (.ref b :: As) wc sz) (Qc sz) 0 0 (va_A wc sz))
    (hG : GoodIn Ts (wsV own index C y wsC)) (hw : wsC = Cond.code y bytes maxL ret :: wsC') (hrc : rmC.cells = 0 ∧ rmC.slots = 0) (hd : y.cls = C ∧ y.cls ≠ "java/lang/invoke/MethodHandle" ∧ y.cls ≠ "java/lang/invoke/VarHandle" ∧ (parseMethodDescriptor y.desc).map (fun d => d.parameters.length) = some n) (hR : rmC.frames + 1 ≤ R.frames ∧ 8 + (maxL + 11) + rmC.locals ≤ R.locals)
    (q0 ci : Nat) (hc : vwCl[ci]? = some (C, T, N)) (he : w[q0]? = some (b, .inr (ci, fs))) (hlen : As.length = n) (hl : lv_has ls nL lv) (hst : st0 = As.reverse ++ .ref b :: rest) (hW : (rest.map fun v => v.category).sum ≤ 8) (hdg : decode cc pc = .ok (.invokevirtual index, 3)) (hcs : cells ≤ R.cells ∧ slots ≤ R.slots) :
    va_Run p l e R s m args below meth c H locs cells slots 0 0 (F0 m pc ls st0) rest (Qc H.size (Value.ref b :: As).toArray) (va_A wc H.size) :=
  va_runV (As := As) (rest := rest) C0.1 (hM H.size) (cwV n C0.1.2.2.2.2 hG hw hrc.1 hrc.2 hd hR) ⟨Pr.blind, va_recv hK hSt.1 hc he, fun U hU hW => hb_pre (As := .ref b :: As) hK hA hX hSt hsp U hU hW⟩ rfl hlen hl.1 hst (lv_room hW) hdg hcs
theorem hb_rS (C0 : Cx p s m args meth c cc Ts own nL rt) (hK : va_K D vwCl (tyL cI cJ) s) (hA : ∀ q, s.heap.size ≤ q → A q) (hX : XT xb A s s.heap) (hSt : St D A s w H locs) (hsp : Sp w wc wc' w' isC isR isB) (hM : ∀ sz, Met l y wsC rmC (Pr D cI cJ xb As wc sz) (Qc sz) 0 0 (va_A wc sz))
    (hG : GoodIn Ts (va_wsS own index y wsC)) (hw : wsC = Cond.code y bytes maxL ret :: wsC') (hrc : rmC.cells = 0 ∧ rmC.slots = 0) (hd : y.cls ≠ "java/lang/invoke/MethodHandle" ∧ y.cls ≠ "java/lang/invoke/VarHandle" ∧ (parseMethodDescriptor y.desc).map (fun d => d.parameters.length) = some n) (hR : rmC.frames + 1 ≤ R.frames ∧ 8 + (maxL + 11) + rmC.locals ≤ R.locals)
    (hlen : As.length = n) (hl : lv_has ls nL lv) (hst : st0 = As.reverse ++ rest) (hW : (rest.map fun v => v.category).sum ≤ 8) (hdg : decode cc pc = .ok (.invokestatic index, 3)) (hcs : cells ≤ R.cells ∧ slots ≤ R.slots) :
    va_Run p l e R s m args below meth c H locs cells slots 0 0 (F0 m pc ls st0) rest (Qc H.size As.toArray) (va_A wc H.size) :=
  va_runS (As := As) (rest := rest) C0.1 (hM H.size) (va_cwS n C0.1.2.2.2.2 hG hw hrc.1 hrc.2 hd hR) ⟨Pr.blind, fun U hU hW => hb_pre (As := As) hK hA hX hSt hsp U hU hW⟩ rfl hlen hl.1 hst (lv_room hW) hdg hcs
theorem hb_back (hA : ∀ q, s.heap.size ≤ q → A q) (hSt : St D A s w H locs) (hsp : Sp w wc wc' w' isC isR isB) {t : State} {H1 : Heap} {locs1 : List Loc} (ht : t.heap = H1) (hB : Bw D cI cJ (va_A wc H.size) wc' t) (hk : ∀ q : Nat, q < H.size → ¬ va_A wc H.size q → H1[q]? = H[q]?) (hS : va_S A s.heap H1 locs1) : St D A s w' H1 locs1 := by
  have hFc : ∀ q, va_A wc H.size q → A q := va_free hSt.2.1 hSt.2.2 hA isC hsp.1
  obtain ⟨hP1, hK1, hD1⟩ := hB
  rw [ht] at hP1
  obtain ⟨hP2, hD2⟩ := va_join hSt.1 hSt.2.1 isC isR hsp.1 hsp.2.1 hsp.2.2.2.2.1 hsp.2.2.2.2.2.2 hk hFc hP1 hD1
  exact ⟨hP2.sub isB (mf hsp.2.2.1), hD2.sub isB hsp.2.2.2.2.2.1 hsp.2.2.1, hS⟩
theorem hb_ci {r : Int32} (run : va_Run p l e R s m args below meth c H locs cells slots 0 0 (F0 m pc ls st0) rest (QI D cI cJ (va_A wc H.size) wc' r a) (va_A wc H.size)) (hA : ∀ q, s.heap.size ≤ q → A q) (hSt : St D A s w H locs) (hsp : Sp w wc wc' w' isC isR isB)
    (kk : ∀ (H1 : Heap) (locs1 : List Loc), St D A s w' H1 locs1 → W p l e R s m args below meth c H1 locs1 cells slots Q (F0 m (pc + 3) ls (.int r :: rest))) : W p l e R s m args below meth c H locs cells slots Q (F0 m pc ls st0) := by
  have hFc : ∀ q, va_A wc H.size q → A q := va_free hSt.2.1 hSt.2.2 hA isC hsp.1
  refine va_calli run hSt.2.2 (fun q _ h => hFc q h) hFc (fun r' u t H1 locs1 ht hvm hw hB hz hk hS => ?_)
  have hw : r' = r := hw
  subst hw
  exact kk H1 locs1 (hb_back hA hSt hsp ht hB hk hS)
theorem hb_cl {r : Int64} (run : va_Run p l e R s m args below meth c H locs cells slots 0 0 (F0 m pc ls st0) rest (QL D cI cJ (va_A wc H.size) wc' r a) (va_A wc H.size)) (hA : ∀ q, s.heap.size ≤ q → A q) (hSt : St D A s w H locs) (hsp : Sp w wc wc' w' isC isR isB)
    (kk : ∀ (H1 : Heap) (locs1 : List Loc), St D A s w' H1 locs1 → W p l e R s m args below meth c H1 locs1 cells slots Q (F0 m (pc + 3) ls (.long r :: rest))) : W p l e R s m args below meth c H locs cells slots Q (F0 m pc ls st0) := by
  have hFc : ∀ q, va_A wc H.size q → A q := va_free hSt.2.1 hSt.2.2 hA isC hsp.1
  refine va_calll run hSt.2.2 (fun q _ h => hFc q h) hFc (fun r' u t H1 locs1 ht hvm hw hB hz hk hS => ?_)
  have hw : r' = r := hw
  subst hw
  exact kk H1 locs1 (hb_back hA hSt hsp ht hB hk hS)
theorem hb_cv (run : va_Run p l e R s m args below meth c H locs cells slots 0 0 (F0 m pc ls st0) rest (QV D cI cJ (va_A wc H.size) wc' a) (va_A wc H.size)) (hA : ∀ q, s.heap.size ≤ q → A q) (hSt : St D A s w H locs) (hsp : Sp w wc wc' w' isC isR isB)
    (kk : ∀ (H1 : Heap) (locs1 : List Loc), St D A s w' H1 locs1 → W p l e R s m args below meth c H1 locs1 cells slots Q (F0 m (pc + 3) ls rest)) : W p l e R s m args below meth c H locs cells slots Q (F0 m pc ls st0) := by
  have hFc : ∀ q, va_A wc H.size q → A q := va_free hSt.2.1 hSt.2.2 hA isC hsp.1
  refine va_callv run hSt.2.2 (fun q _ h => hFc q h) hFc (fun u t H1 locs1 ht hvm hw hB hz hk hS => ?_)
  exact kk H1 locs1 (hb_back hA hSt hsp ht hB hk hS)
end HC
