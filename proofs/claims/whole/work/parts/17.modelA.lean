/-! X9 isIn -/
abbrev rm_X9_isIn : Room := { frames := 0, cells := 0, slots := 0, locals := 0 }
abbrev w_X9_isIn (cI cJ : ClassId)    : va_W := []
theorem hd_X9_isIn : yX9_isIn.cls ≠ "java/lang/invoke/MethodHandle" ∧ yX9_isIn.cls ≠ "java/lang/invoke/VarHandle" ∧ (parseMethodDescriptor yX9_isIn.desc).map (fun d => d.parameters.length) = some 3 := by decide +kernel
def f_X9_isIn_0   (l0 : Int32) (l1 : Int32) (l2 : Int32)  : Option (Int32) := if l0 < l1 then some (0 : Int32) else if l2 < l0 then some (0 : Int32) else some (1 : Int32)
set_option maxHeartbeats 4000000 in
set_option maxRecDepth 100000 in
theorem k_X9_isIn_0 {p : Program} {l : Launch} {e : Env} {s : State} {m : MethodId} {args : Array Value} {below : List Frame} {meth : Method} {c : Code} {A : Nat → Prop} {D : va_G} {cI cJ : ClassId}   (C0 : Cx p s m args meth c cX9_isIn wsX9_isIn RX9 3 (some .boolean)) (hK : va_K D vwCl (tyL cI cJ) s) (hA : ∀ q, s.heap.size ≤ q → A q) (hX : XT none A s s.heap) {Rr : Int32} : ∀ (l0 : Int32) (l1 : Int32) (l2 : Int32)  (H : Heap) (locs : List Loc) (ls : Array Slot), St D A s (w_X9_isIn cI cJ) H locs → lv_has ls 3 [(0, .int l0), (1, .int l1), (2, .int l2)] → f_X9_isIn_0 l0 l1 l2 = some Rr → W p l e rm_X9_isIn s m args below meth c H locs 0 0 (MQ below (QI D cI cJ A (w_X9_isIn cI cJ) Rr) args s 0 0 A) (F0 m 0 ls []) := by
  have hx := C0.1.1
  have hb := C0.1.2.1
  intro l0 l1 l2 H locs ls hSt hl hf
  unfold f_X9_isIn_0 at hf
  refine lv_iload_n hx hb dX9_isIn_0 rfl (lv_at hl 0 rfl) ?_
  refine lv_iload_n hx hb dX9_isIn_1 rfl (lv_at hl 1 rfl) ?_
  refine lv_icmp_lt (tgt := 14) hx hb dX9_isIn_2 (by decide) (fun cc => ?_) (fun cc => ?_)
  · have hf := ite_t hf cc
    refine lv_iconst (v := 0) hx hb dX9_isIn_14 (by decide) ?_
    cases hf
    exact hb_zret C0 hK hSt nb0.1 dX9_isIn_15
  · have hf := ite_f hf cc
    refine lv_iload_n hx hb dX9_isIn_5 rfl (lv_at hl 0 rfl) ?_
    refine lv_iload_n hx hb dX9_isIn_6 rfl (lv_at hl 2 rfl) ?_
    refine lv_icmp_gt (tgt := 14) hx hb dX9_isIn_7 (by decide) (fun cc => ?_) (fun cc => ?_)
    · have hf := ite_t hf cc
      refine lv_iconst (v := 0) hx hb dX9_isIn_14 (by decide) ?_
      cases hf
      exact hb_zret C0 hK hSt nb0.1 dX9_isIn_15
    · have hf := ite_f hf cc
      refine lv_iconst (v := 1) hx hb dX9_isIn_10 (by decide) ?_
      refine lv_goto (tgt := 15) hx hb dX9_isIn_11 (by decide) ?_
      cases hf
      exact hb_zret C0 hK hSt nb1.1 dX9_isIn_15
def f_X9_isIn  (l0 : Int32) (l1 : Int32) (l2 : Int32)  : Option (Int32) := f_X9_isIn_0 l0 l1 l2
set_option maxRecDepth 100000 in
theorem c_X9_isIn (l : Launch) (D : va_G) (cI cJ : ClassId)  (l0 : Int32) (l1 : Int32) (l2 : Int32)  (Rr : Int32) (hf : f_X9_isIn l0 l1 l2 = some Rr) : CtI l yX9_isIn wsX9_isIn rm_X9_isIn D cI cJ none [.int l0, .int l1, .int l2] (w_X9_isIn cI cJ) Rr (w_X9_isIn cI cJ) :=
  fun sz => BodyW.met (av := [.int l0, .int l1, .int l2]) (Qc := fun A => QI D cI cJ A (w_X9_isIn cI cJ) Rr) (by decide) rfl rfl (Nat.le_of_ble_eq_true rfl) (fun C0 hK hA hX ls hSt hl => k_X9_isIn_0 C0 hK hA hX l0 l1 l2  _ _ ls hSt hl hf) sz
/-! X9 all -/
abbrev rm_X9_all : Room := { frames := 0, cells := 0, slots := 0, locals := 0 }
abbrev w_X9_all (cI cJ : ClassId) (h : Nat) (g1 : Value) (g2 : Value) (g3 : Value) (g4 : Value) (g5 : Value) (g6 : Value) (g7 : Value) (g8 : Value) (g9 : Value) (g10 : Value) (g11 : Value) (g12 : Value) (g13 : Value) (g14 : Value) (g15 : Value) (g16 : Value) (g17 : Value) (g18 : Value) (g19 : Value) (g20 : Value) (g21 : Value) (g22 : Value) (g23 : Value) (g24 : Value) (g25 : Value) (g26 : Value) (v_points : Int32) : va_W := [(h, .inr (8, [.int v_points, g1, g2, g3, g4, g5, g6, g7, g8, g9, g10, g11, g12, g13, g14, g15, g16, g17, g18, g19, g20, g21, g22, g23, g24, g25, g26]))]
theorem iu_X9_all_X9 : ∀ w ∈ wsX90, w ∈ wsX9_all := by decide +kernel
theorem fl_X9_all_7 : Cond.fieldLink RX9 7 (TX9 0).1 (TX9 0).2.1 (TX9 0).2.2.1 ∈ wsX9_all := by decide +kernel
theorem hd_X9_all : yX9_all.cls = RX9 ∧ yX9_all.cls ≠ "java/lang/invoke/MethodHandle" ∧ yX9_all.cls ≠ "java/lang/invoke/VarHandle" ∧ (parseMethodDescriptor yX9_all.desc).map (fun d => d.parameters.length) = some 0 := by decide +kernel
def f_X9_all_0 (v_points : Int32)    : Option (Int32) := some (((1 : Int32) <<< (v_points &&& 31)) - (1 : Int32))
set_option maxHeartbeats 4000000 in
set_option maxRecDepth 100000 in
theorem k_X9_all_0 {p : Program} {l : Launch} {e : Env} {s : State} {m : MethodId} {args : Array Value} {below : List Frame} {meth : Method} {c : Code} {A : Nat → Prop} {D : va_G} {cI cJ : ClassId} {h : Nat} {g1 g2 g3 g4 g5 g6 g7 g8 g9 g10 g11 g12 g13 g14 g15 g16 g17 g18 g19 g20 g21 g22 g23 g24 g25 g26 : Value} {v_points : Int32} (C0 : Cx p s m args meth c cX9_all wsX9_all RX9 1 (some .int)) (hK : va_K D vwCl (tyL cI cJ) s) (hA : ∀ q, s.heap.size ≤ q → A q) (hX : XT none A s s.heap) {Rr : Int32} : ∀   (H : Heap) (locs : List Loc) (ls : Array Slot), St D A s (w_X9_all cI cJ h g1 g2 g3 g4 g5 g6 g7 g8 g9 g10 g11 g12 g13 g14 g15 g16 g17 g18 g19 g20 g21 g22 g23 g24 g25 g26 v_points) H locs → lv_has ls 1 [(0, .ref h)] → f_X9_all_0 v_points = some Rr → W p l e rm_X9_all s m args below meth c H locs 0 0 (MQ below (QI D cI cJ A (w_X9_all cI cJ h g1 g2 g3 g4 g5 g6 g7 g8 g9 g10 g11 g12 g13 g14 g15 g16 g17 g18 g19 g20 g21 g22 g23 g24 g25 g26 v_points) Rr) args s 0 0 A) (F0 m 0 ls []) := by
  have hx := C0.1.1
  have hb := C0.1.2.1
  intro H locs ls hSt hl hf
  unfold f_X9_all_0 at hf
  refine lv_iconst (v := 1) hx hb dX9_all_0 (by decide) ?_
  refine lv_aload_n hx hb dX9_all_1 rfl (lv_at hl 0 rfl) ?_
  refine hb_get C0 hK hSt 0 8 0 rfl rfl iu_X9_all_X9 (by decide) fl_X9_all_7 rfl dX9_all_2 ?_
  refine lv_ishl hx hb dX9_all_5 ?_
  refine lv_iconst (v := 1) hx hb dX9_all_6 (by decide) ?_
  refine lv_isub hx hb dX9_all_7 ?_
  cases hf
  exact hb_iret C0 hK hSt dX9_all_8
def f_X9_all (v_points : Int32)   : Option (Int32) := f_X9_all_0 v_points
set_option maxRecDepth 100000 in
theorem c_X9_all (l : Launch) (D : va_G) (cI cJ : ClassId) (h : Nat) (g1 g2 g3 g4 g5 g6 g7 g8 g9 g10 g11 g12 g13 g14 g15 g16 g17 g18 g19 g20 g21 g22 g23 g24 g25 g26 : Value)  (v_points : Int32) (Rr : Int32) (hf : f_X9_all v_points = some Rr) : CtI l yX9_all wsX9_all rm_X9_all D cI cJ none [.ref h] (w_X9_all cI cJ h g1 g2 g3 g4 g5 g6 g7 g8 g9 g10 g11 g12 g13 g14 g15 g16 g17 g18 g19 g20 g21 g22 g23 g24 g25 g26 v_points) Rr (w_X9_all cI cJ h g1 g2 g3 g4 g5 g6 g7 g8 g9 g10 g11 g12 g13 g14 g15 g16 g17 g18 g19 g20 g21 g22 g23 g24 g25 g26 v_points) :=
  fun sz => BodyW.met (av := [.ref h]) (Qc := fun A => QI D cI cJ A (w_X9_all cI cJ h g1 g2 g3 g4 g5 g6 g7 g8 g9 g10 g11 g12 g13 g14 g15 g16 g17 g18 g19 g20 g21 g22 g23 g24 g25 g26 v_points) Rr) (by decide) rfl rfl (Nat.le_of_ble_eq_true rfl) (fun C0 hK hA hX ls hSt hl => k_X9_all_0 C0 hK hA hX   _ _ ls hSt hl hf) sz
/-! X9 isSet -/
abbrev rm_X9_isSet : Room := { frames := 1, cells := 0, slots := 0, locals := 22 }
abbrev w_X9_isSet (cI cJ : ClassId) (h : Nat) (g1 : Value) (g2 : Value) (g3 : Value) (g4 : Value) (g5 : Value) (g6 : Value) (g7 : Value) (g8 : Value) (g9 : Value) (g10 : Value) (g11 : Value) (g12 : Value) (g13 : Value) (g14 : Value) (g15 : Value) (g16 : Value) (g17 : Value) (g18 : Value) (g19 : Value) (g20 : Value) (g21 : Value) (g22 : Value) (g23 : Value) (g24 : Value) (g25 : Value) (g26 : Value) (v_points : Int32) : va_W := [(h, .inr (8, [.int v_points, g1, g2, g3, g4, g5, g6, g7, g8, g9, g10, g11, g12, g13, g14, g15, g16, g17, g18, g19, g20, g21, g22, g23, g24, g25, g26]))]
theorem hd_X9_isSet : yX9_isSet.cls = RX9 ∧ yX9_isSet.cls ≠ "java/lang/invoke/MethodHandle" ∧ yX9_isSet.cls ≠ "java/lang/invoke/VarHandle" ∧ (parseMethodDescriptor yX9_isSet.desc).map (fun d => d.parameters.length) = some 1 := by decide +kernel
def f_X9_isSet_0 (v_points : Int32)  (l1 : Int32)  : Option (Int32) := (f_X9_all v_points).bind (fun R1 => (f_X9_isIn l1 (0 : Int32) R1).bind (fun R2 => gd (isb R2) (some R2)))
set_option maxHeartbeats 4000000 in
set_option maxRecDepth 100000 in
theorem k_X9_isSet_0 {p : Program} {l : Launch} {e : Env} {s : State} {m : MethodId} {args : Array Value} {below : List Frame} {meth : Method} {c : Code} {A : Nat → Prop} {D : va_G} {cI cJ : ClassId} {h : Nat} {g1 g2 g3 g4 g5 g6 g7 g8 g9 g10 g11 g12 g13 g14 g15 g16 g17 g18 g19 g20 g21 g22 g23 g24 g25 g26 : Value} {v_points : Int32} (C0 : Cx p s m args meth c cX9_isSet wsX9_isSet RX9 2 (some .boolean)) (hK : va_K D vwCl (tyL cI cJ) s) (hA : ∀ q, s.heap.size ≤ q → A q) (hX : XT none A s s.heap) {Rr : Int32} : ∀ (l1 : Int32)  (H : Heap) (locs : List Loc) (ls : Array Slot), St D A s (w_X9_isSet cI cJ h g1 g2 g3 g4 g5 g6 g7 g8 g9 g10 g11 g12 g13 g14 g15 g16 g17 g18 g19 g20 g21 g22 g23 g24 g25 g26 v_points) H locs → lv_has ls 2 [(0, .ref h), (1, .int l1)] → f_X9_isSet_0 v_points l1 = some Rr → W p l e rm_X9_isSet s m args below meth c H locs 0 0 (MQ below (QI D cI cJ A (w_X9_isSet cI cJ h g1 g2 g3 g4 g5 g6 g7 g8 g9 g10 g11 g12 g13 g14 g15 g16 g17 g18 g19 g20 g21 g22 g23 g24 g25 g26 v_points) Rr) args s 0 0 A) (F0 m 0 ls []) := by
  have hx := C0.1.1
  have hb := C0.1.2.1
  intro l1 H locs ls hSt hl hf
  unfold f_X9_isSet_0 at hf
  refine lv_iload_n hx hb dX9_isSet_0 rfl (lv_at hl 1 rfl) ?_
  refine lv_iconst (v := 0) hx hb dX9_isSet_1 (by decide) ?_
  refine lv_aload_n hx hb dX9_isSet_2 rfl (lv_at hl 0 rfl) ?_
  obtain ⟨R1, hR1, hf⟩ := Option.bind_eq_some_iff.mp hf
  have sp : Sp (w_X9_isSet cI cJ h g1 g2 g3 g4 g5 g6 g7 g8 g9 g10 g11 g12 g13 g14 g15 g16 g17 g18 g19 g20 g21 g22 g23 g24 g25 g26 v_points) (w_X9_all cI cJ h g1 g2 g3 g4 g5 g6 g7 g8 g9 g10 g11 g12 g13 g14 g15 g16 g17 g18 g19 g20 g21 g22 g23 g24 g25 g26 v_points) (w_X9_all cI cJ h g1 g2 g3 g4 g5 g6 g7 g8 g9 g10 g11 g12 g13 g14 g15 g16 g17 g18 g19 g20 g21 g22 g23 g24 g25 g26 v_points) (w_X9_isSet cI cJ h g1 g2 g3 g4 g5 g6 g7 g8 g9 g10 g11 g12 g13 g14 g15 g16 g17 g18 g19 g20 g21 g22 g23 g24 g25 g26 v_points) [0] [] [0] := ⟨rfl, rfl, rfl, by decide, by decide, by decide, by decide⟩
  refine hb_ci (hb_rV (As := []) (rest := [.int (0 : Int32), .int l1]) C0 hK hA XT.nn hSt sp (c_X9_all l D cI cJ h g1 g2 g3 g4 g5 g6 g7 g8 g9 g10 g11 g12 g13 g14 g15 g16 g17 g18 g19 g20 g21 g22 g23 g24 g25 g26   v_points R1 hR1) gX9_isSet_X9_all rfl ⟨rfl, rfl⟩ hd_X9_all ⟨Nat.le_of_ble_eq_true rfl, Nat.le_of_ble_eq_true rfl⟩ 0 8 rfl rfl rfl hl rfl (Nat.le_of_ble_eq_true rfl) dX9_isSet_3 ⟨Nat.zero_le _, Nat.zero_le _⟩) hA hSt sp (fun H locs hSt => ?_)
  obtain ⟨R2, hR2, hf⟩ := Option.bind_eq_some_iff.mp hf
  have sp : Sp (w_X9_isSet cI cJ h g1 g2 g3 g4 g5 g6 g7 g8 g9 g10 g11 g12 g13 g14 g15 g16 g17 g18 g19 g20 g21 g22 g23 g24 g25 g26 v_points) (w_X9_isIn cI cJ) (w_X9_isIn cI cJ) (w_X9_isSet cI cJ h g1 g2 g3 g4 g5 g6 g7 g8 g9 g10 g11 g12 g13 g14 g15 g16 g17 g18 g19 g20 g21 g22 g23 g24 g25 g26 v_points) [] [0] [0] := ⟨rfl, rfl, rfl, by decide, by decide, by decide, by decide⟩
  refine hb_ci (hb_rS (As := [.int l1, .int (0 : Int32), .int R1]) (rest := []) C0 hK hA XT.nn hSt sp (c_X9_isIn l D cI cJ   l1 (0 : Int32) R1  R2 hR2) gX9_isSet_X9_isIn rfl ⟨rfl, rfl⟩ hd_X9_isIn ⟨Nat.le_of_ble_eq_true rfl, Nat.le_of_ble_eq_true rfl⟩ rfl hl rfl (Nat.le_of_ble_eq_true rfl) dX9_isSet_6 ⟨Nat.zero_le _, Nat.zero_le _⟩) hA hSt sp (fun H locs hSt => ?_)
  obtain ⟨hz, hf⟩ := gd_t hf
  cases hf
  exact hb_zret C0 hK hSt (isb_n hz).1 dX9_isSet_9
def f_X9_isSet (v_points : Int32) (l1 : Int32)  : Option (Int32) := f_X9_isSet_0 v_points l1
set_option maxRecDepth 100000 in
theorem c_X9_isSet (l : Launch) (D : va_G) (cI cJ : ClassId) (h : Nat) (g1 g2 g3 g4 g5 g6 g7 g8 g9 g10 g11 g12 g13 g14 g15 g16 g17 g18 g19 g20 g21 g22 g23 g24 g25 g26 : Value) (l1 : Int32) (v_points : Int32) (Rr : Int32) (hf : f_X9_isSet v_points l1 = some Rr) : CtI l yX9_isSet wsX9_isSet rm_X9_isSet D cI cJ none [.ref h, .int l1] (w_X9_isSet cI cJ h g1 g2 g3 g4 g5 g6 g7 g8 g9 g10 g11 g12 g13 g14 g15 g16 g17 g18 g19 g20 g21 g22 g23 g24 g25 g26 v_points) Rr (w_X9_isSet cI cJ h g1 g2 g3 g4 g5 g6 g7 g8 g9 g10 g11 g12 g13 g14 g15 g16 g17 g18 g19 g20 g21 g22 g23 g24 g25 g26 v_points) :=
  fun sz => BodyW.met (av := [.ref h, .int l1]) (Qc := fun A => QI D cI cJ A (w_X9_isSet cI cJ h g1 g2 g3 g4 g5 g6 g7 g8 g9 g10 g11 g12 g13 g14 g15 g16 g17 g18 g19 g20 g21 g22 g23 g24 g25 g26 v_points) Rr) (by decide) rfl rfl (Nat.le_of_ble_eq_true rfl) (fun C0 hK hA hX ls hSt hl => k_X9_isSet_0 C0 hK hA hX l1  _ _ ls hSt hl hf) sz
/-! X9 isFace -/
abbrev rm_X9_isFace : Room := { frames := 0, cells := 0, slots := 0, locals := 0 }
abbrev w_X9_isFace (cI cJ : ClassId) (h : Nat) (g0 : Value) (g2 : Value) (g3 : Value) (g4 : Value) (g5 : Value) (g6 : Value) (g7 : Value) (g8 : Value) (g9 : Value) (g10 : Value) (g11 : Value) (g12 : Value) (g13 : Value) (g14 : Value) (g15 : Value) (g16 : Value) (g17 : Value) (g18 : Value) (g19 : Value) (g20 : Value) (g21 : Value) (g22 : Value) (g23 : Value) (g24 : Value) (g25 : Value) (g26 : Value) (v_faces : Int64) : va_W := [(h, .inr (8, [g0, .long v_faces, g2, g3, g4, g5, g6, g7, g8, g9, g10, g11, g12, g13, g14, g15, g16, g17, g18, g19, g20, g21, g22, g23, g24, g25, g26]))]
theorem iu_X9_isFace_X9 : ∀ w ∈ wsX90, w ∈ wsX9_isFace := by decide +kernel
theorem fl_X9_isFace_13 : Cond.fieldLink RX9 13 (TX9 1).1 (TX9 1).2.1 (TX9 1).2.2.1 ∈ wsX9_isFace := by decide +kernel
theorem hd_X9_isFace : yX9_isFace.cls = RX9 ∧ yX9_isFace.cls ≠ "java/lang/invoke/MethodHandle" ∧ yX9_isFace.cls ≠ "java/lang/invoke/VarHandle" ∧ (parseMethodDescriptor yX9_isFace.desc).map (fun d => d.parameters.length) = some 1 := by decide +kernel
def f_X9_isFace_0 (v_faces : Int64)  (l1 : Int32)  : Option (Int32) := if ((v_faces >>> (l1.toInt64 &&& 63)) &&& (1 : Int64)) = (1 : Int64) then some (1 : Int32) else some (0 : Int32)
set_option maxHeartbeats 4000000 in
set_option maxRecDepth 100000 in
theorem k_X9_isFace_0 {p : Program} {l : Launch} {e : Env} {s : State} {m : MethodId} {args : Array Value} {below : List Frame} {meth : Method} {c : Code} {A : Nat → Prop} {D : va_G} {cI cJ : ClassId} {h : Nat} {g0 g2 g3 g4 g5 g6 g7 g8 g9 g10 g11 g12 g13 g14 g15 g16 g17 g18 g19 g20 g21 g22 g23 g24 g25 g26 : Value} {v_faces : Int64} (C0 : Cx p s m args meth c cX9_isFace wsX9_isFace RX9 2 (some .boolean)) (hK : va_K D vwCl (tyL cI cJ) s) (hA : ∀ q, s.heap.size ≤ q → A q) (hX : XT none A s s.heap) {Rr : Int32} : ∀ (l1 : Int32)  (H : Heap) (locs : List Loc) (ls : Array Slot), St D A s (w_X9_isFace cI cJ h g0 g2 g3 g4 g5 g6 g7 g8 g9 g10 g11 g12 g13 g14 g15 g16 g17 g18 g19 g20 g21 g22 g23 g24 g25 g26 v_faces) H locs → lv_has ls 2 [(0, .ref h), (1, .int l1)] → f_X9_isFace_0 v_faces l1 = some Rr → W p l e rm_X9_isFace s m args below meth c H locs 0 0 (MQ below (QI D cI cJ A (w_X9_isFace cI cJ h g0 g2 g3 g4 g5 g6 g7 g8 g9 g10 g11 g12 g13 g14 g15 g16 g17 g18 g19 g20 g21 g22 g23 g24 g25 g26 v_faces) Rr) args s 0 0 A) (F0 m 0 ls []) := by
  have hx := C0.1.1
  have hb := C0.1.2.1
  intro l1 H locs ls hSt hl hf
  unfold f_X9_isFace_0 at hf
  refine lv_aload_n hx hb dX9_isFace_0 rfl (lv_at hl 0 rfl) ?_
  refine hb_get C0 hK hSt 0 8 1 rfl rfl iu_X9_isFace_X9 (by decide) fl_X9_isFace_13 rfl dX9_isFace_1 ?_
  refine lv_iload_n hx hb dX9_isFace_4 rfl (lv_at hl 1 rfl) ?_
  refine lv_lshr (v := v_faces >>> (l1.toInt64 &&& 63)) hx hb dX9_isFace_5 rfl ?_
  refine lv_lconst (v := 1) hx hb dX9_isFace_6 (by decide) ?_
  refine lv_land hx hb dX9_isFace_7 ?_
  refine lv_lconst (v := 1) hx hb dX9_isFace_8 (by decide) ?_
  refine W.lcmp hx hb dX9_isFace_9 ?_
  refine lv_if_ne (tgt := 17) hx hb dX9_isFace_10 (by decide) (fun cc => ?_) (fun cc => ?_)
  · have hf := ite_f hf (lc_f cc)
    refine lv_iconst (v := 0) hx hb dX9_isFace_17 (by decide) ?_
    cases hf
    exact hb_zret C0 hK hSt nb0.1 dX9_isFace_18
  · have hf := ite_t hf (lc_t cc)
    refine lv_iconst (v := 1) hx hb dX9_isFace_13 (by decide) ?_
    refine lv_goto (tgt := 18) hx hb dX9_isFace_14 (by decide) ?_
    cases hf
    exact hb_zret C0 hK hSt nb1.1 dX9_isFace_18
def f_X9_isFace (v_faces : Int64) (l1 : Int32)  : Option (Int32) := f_X9_isFace_0 v_faces l1
set_option maxRecDepth 100000 in
theorem c_X9_isFace (l : Launch) (D : va_G) (cI cJ : ClassId) (h : Nat) (g0 g2 g3 g4 g5 g6 g7 g8 g9 g10 g11 g12 g13 g14 g15 g16 g17 g18 g19 g20 g21 g22 g23 g24 g25 g26 : Value) (l1 : Int32) (v_faces : Int64) (Rr : Int32) (hf : f_X9_isFace v_faces l1 = some Rr) : CtI l yX9_isFace wsX9_isFace rm_X9_isFace D cI cJ none [.ref h, .int l1] (w_X9_isFace cI cJ h g0 g2 g3 g4 g5 g6 g7 g8 g9 g10 g11 g12 g13 g14 g15 g16 g17 g18 g19 g20 g21 g22 g23 g24 g25 g26 v_faces) Rr (w_X9_isFace cI cJ h g0 g2 g3 g4 g5 g6 g7 g8 g9 g10 g11 g12 g13 g14 g15 g16 g17 g18 g19 g20 g21 g22 g23 g24 g25 g26 v_faces) :=
  fun sz => BodyW.met (av := [.ref h, .int l1]) (Qc := fun A => QI D cI cJ A (w_X9_isFace cI cJ h g0 g2 g3 g4 g5 g6 g7 g8 g9 g10 g11 g12 g13 g14 g15 g16 g17 g18 g19 g20 g21 g22 g23 g24 g25 g26 v_faces) Rr) (by decide) rfl rfl (Nat.le_of_ble_eq_true rfl) (fun C0 hK hA hX ls hSt hl => k_X9_isFace_0 C0 hK hA hX l1  _ _ ls hSt hl hf) sz
/-! X9 size -/
abbrev rm_X9_size : Room := { frames := 0, cells := 0, slots := 0, locals := 0 }
abbrev w_X9_size (cI cJ : ClassId)    : va_W := []
theorem hd_X9_size : yX9_size.cls ≠ "java/lang/invoke/MethodHandle" ∧ yX9_size.cls ≠ "java/lang/invoke/VarHandle" ∧ (parseMethodDescriptor yX9_size.desc).map (fun d => d.parameters.length) = some 1 := by decide +kernel
def f_X9_size_4   : Nat → Int32 → Int32 → Int32 → Option (Int32)
  | 0, _, _, _ => none
  | n + 1, l0, l1, l2 => if (6 : Int32) ≤ l2 then some l1 else bnd (l1 + ((l0 >>> (l2 &&& 31)) &&& (1 : Int32))) (fun l1_1 => (f_X9_size_4 n) l0 l1_1 (l2 + 1))
set_option maxHeartbeats 4000000 in
set_option maxRecDepth 100000 in
theorem k_X9_size_4 {p : Program} {l : Launch} {e : Env} {s : State} {m : MethodId} {args : Array Value} {below : List Frame} {meth : Method} {c : Code} {A : Nat → Prop} {D : va_G} {cI cJ : ClassId}   (C0 : Cx p s m args meth c cX9_size wsX9_size RX9 3 (some .int)) (hK : va_K D vwCl (tyL cI cJ) s) (hA : ∀ q, s.heap.size ≤ q → A q) (hX : XT none A s s.heap) {Rr : Int32} (n : Nat) : ∀ (l0 : Int32) (l1 : Int32) (l2 : Int32)  (H : Heap) (locs : List Loc) (ls : Array Slot), St D A s (w_X9_size cI cJ) H locs → lv_has ls 3 [(0, .int l0), (1, .int l1), (2, .int l2)] → f_X9_size_4 n l0 l1 l2 = some Rr → W p l e rm_X9_size s m args below meth c H locs 0 0 (MQ below (QI D cI cJ A (w_X9_size cI cJ) Rr) args s 0 0 A) (F0 m 4 ls []) := by
  have hx := C0.1.1
  have hb := C0.1.2.1
  induction n with
  | zero => intro l0 l1 l2 H locs ls hSt hl hf; exact nomatch (show (none : Option _) = some Rr from hf)
  | succ n ih =>
    intro l0 l1 l2 H locs ls hSt hl hf
    unfold f_X9_size_4 at hf
    refine lv_iload_n hx hb dX9_size_4 rfl (lv_at hl 2 rfl) ?_
    refine lv_bipush (v := 6) hx hb dX9_size_5 (by decide) ?_
    refine lv_icmp_ge (tgt := 24) hx hb dX9_size_7 (by decide) (fun cc => ?_) (fun cc => ?_)
    · have hf := ite_t hf cc
      refine lv_iload_n hx hb dX9_size_24 rfl (lv_at hl 1 rfl) ?_
      cases hf
      exact hb_iret C0 hK hSt dX9_size_25
    · have hf := ite_f hf cc
      refine lv_iload_n hx hb dX9_size_10 rfl (lv_at hl 1 rfl) ?_
      refine lv_iload_n hx hb dX9_size_11 rfl (lv_at hl 0 rfl) ?_
      refine lv_iload_n hx hb dX9_size_12 rfl (lv_at hl 2 rfl) ?_
      refine lv_ishr hx hb dX9_size_13 ?_
      refine lv_iconst (v := 1) hx hb dX9_size_14 (by decide) ?_
      refine lv_iand hx hb dX9_size_15 ?_
      refine lv_iadd hx hb dX9_size_16 ?_
      refine tp_i hf (fun l1_1 hf => ?_)
      refine lv_istore_n (lv' := [(1, .int l1_1), (0, .int l0), (2, .int l2)]) hx hb dX9_size_17 rfl hl (by decide) rfl (fun ls hl => ?_)
      refine lv_iinc (v := l2 + 1) (lv' := [(2, .int (l2 + 1)), (1, .int l1_1), (0, .int l0)]) hx hb dX9_size_18 hl (k := 2) rfl rfl (by decide) rfl (fun ls hl => ?_)
      refine lv_goto (tgt := 4) hx hb dX9_size_21 (by decide) ?_
      exact ih l0 l1_1 (l2 + 1) _ _ _ hSt (lv_sub hl [2, 1, 0] rfl) hf
def f_X9_size_0   (l0 : Int32)  : Option (Int32) := f_X9_size_4   FU l0 (0 : Int32) (0 : Int32)
set_option maxHeartbeats 4000000 in
set_option maxRecDepth 100000 in
theorem k_X9_size_0 {p : Program} {l : Launch} {e : Env} {s : State} {m : MethodId} {args : Array Value} {below : List Frame} {meth : Method} {c : Code} {A : Nat → Prop} {D : va_G} {cI cJ : ClassId}   (C0 : Cx p s m args meth c cX9_size wsX9_size RX9 3 (some .int)) (hK : va_K D vwCl (tyL cI cJ) s) (hA : ∀ q, s.heap.size ≤ q → A q) (hX : XT none A s s.heap) {Rr : Int32} : ∀ (l0 : Int32)  (H : Heap) (locs : List Loc) (ls : Array Slot), St D A s (w_X9_size cI cJ) H locs → lv_has ls 3 [(0, .int l0)] → f_X9_size_0 l0 = some Rr → W p l e rm_X9_size s m args below meth c H locs 0 0 (MQ below (QI D cI cJ A (w_X9_size cI cJ) Rr) args s 0 0 A) (F0 m 0 ls []) := by
  have hx := C0.1.1
  have hb := C0.1.2.1
  intro l0 H locs ls hSt hl hf
  unfold f_X9_size_0 at hf
  refine lv_iconst (v := 0) hx hb dX9_size_0 (by decide) ?_
  refine lv_istore_n (lv' := [(1, .int (0 : Int32)), (0, .int l0)]) hx hb dX9_size_1 rfl hl (by decide) rfl (fun ls hl => ?_)
  refine lv_iconst (v := 0) hx hb dX9_size_2 (by decide) ?_
  refine lv_istore_n (lv' := [(2, .int (0 : Int32)), (1, .int (0 : Int32)), (0, .int l0)]) hx hb dX9_size_3 rfl hl (by decide) rfl (fun ls hl => ?_)
  exact k_X9_size_4 C0 hK hA hX  FU l0 (0 : Int32) (0 : Int32) _ _ _ hSt (lv_sub hl [2, 1, 0] rfl) hf
def f_X9_size  (l0 : Int32)  : Option (Int32) := f_X9_size_0 l0
set_option maxRecDepth 100000 in
theorem c_X9_size (l : Launch) (D : va_G) (cI cJ : ClassId)  (l0 : Int32)  (Rr : Int32) (hf : f_X9_size l0 = some Rr) : CtI l yX9_size wsX9_size rm_X9_size D cI cJ none [.int l0] (w_X9_size cI cJ) Rr (w_X9_size cI cJ) :=
  fun sz => BodyW.met (av := [.int l0]) (Qc := fun A => QI D cI cJ A (w_X9_size cI cJ) Rr) (by decide) rfl rfl (Nat.le_of_ble_eq_true rfl) (fun C0 hK hA hX ls hSt hl => k_X9_size_0 C0 hK hA hX l0  _ _ ls hSt hl hf) sz
/-! X9 keep -/
abbrev rm_X9_keep : Room := { frames := 0, cells := 0, slots := 0, locals := 0 }
abbrev w_X9_keep (cI cJ : ClassId) (h : Nat) (h_pointsHad : Nat) (h_facesHad : Nat) (g5 : Value) (g6 : Value) (g7 : Value) (g8 : Value) (g9 : Value) (g10 : Value) (g11 : Value) (g12 : Value) (g13 : Value) (g14 : Value) (g15 : Value) (g16 : Value) (g17 : Value) (g18 : Value) (g19 : Value) (g20 : Value) (g21 : Value) (g22 : Value) (g23 : Value) (g24 : Value) (g25 : Value) (g26 : Value) (v_points : Int32) (v_faces : Int64) (v_kept : Int32) (v_pointsHad : Nat → Int32) (v_facesHad : Nat → Int64) : va_W := [(h, .inr (8, [.int v_points, .long v_faces, .int v_kept, .ref h_pointsHad, .ref h_facesHad, g5, g6, g7, g8, g9, g10, g11, g12, g13, g14, g15, g16, g17, g18, g19, g20, g21, g22, g23, g24, g25, g26])), (h_pointsHad, .inl (cI, 8, .inl v_pointsHad)), (h_facesHad, .inl (cJ, 8, .inr (.inl v_facesHad)))]
theorem iu_X9_keep_X9 : ∀ w ∈ wsX90, w ∈ wsX9_keep := by decide +kernel
theorem fl_X9_keep_7 : Cond.fieldLink RX9 7 (TX9 0).1 (TX9 0).2.1 (TX9 0).2.2.1 ∈ wsX9_keep := by decide +kernel
theorem fl_X9_keep_13 : Cond.fieldLink RX9 13 (TX9 1).1 (TX9 1).2.1 (TX9 1).2.2.1 ∈ wsX9_keep := by decide +kernel
theorem fl_X9_keep_17 : Cond.fieldLink RX9 17 (TX9 3).1 (TX9 3).2.1 (TX9 3).2.2.1 ∈ wsX9_keep := by decide +kernel
theorem fl_X9_keep_21 : Cond.fieldLink RX9 21 (TX9 4).1 (TX9 4).2.1 (TX9 4).2.2.1 ∈ wsX9_keep := by decide +kernel
theorem fl_X9_keep_63 : Cond.fieldLink RX9 63 (TX9 2).1 (TX9 2).2.1 (TX9 2).2.2.1 ∈ wsX9_keep := by decide +kernel
theorem hd_X9_keep : yX9_keep.cls = RX9 ∧ yX9_keep.cls ≠ "java/lang/invoke/MethodHandle" ∧ yX9_keep.cls ≠ "java/lang/invoke/VarHandle" ∧ (parseMethodDescriptor yX9_keep.desc).map (fun d => d.parameters.length) = some 0 := by decide +kernel
def f_X9_keep_63 (v_points : Int32) (v_faces : Int64)   (v_kept : Int32) (v_pointsHad : Nat → Int32) (v_facesHad : Nat → Int64) : Option (Int32 × (Nat → Int32) × (Nat → Int64)) := gd (ix v_kept 8) (gd (ix v_kept 8) (some (v_kept + (1 : Int32), upd v_pointsHad v_kept.toNatClampNeg v_points, vp_updL v_facesHad v_kept.toNatClampNeg v_faces)))
set_option maxHeartbeats 4000000 in
set_option maxRecDepth 100000 in
theorem k_X9_keep_63 {p : Program} {l : Launch} {e : Env} {s : State} {m : MethodId} {args : Array Value} {below : List Frame} {meth : Method} {c : Code} {A : Nat → Prop} {D : va_G} {cI cJ : ClassId} {h h_pointsHad h_facesHad : Nat} {g5 g6 g7 g8 g9 g10 g11 g12 g13 g14 g15 g16 g17 g18 g19 g20 g21 g22 g23 g24 g25 g26 : Value} {v_points : Int32} {v_faces : Int64} (C0 : Cx p s m args meth c cX9_keep wsX9_keep RX9 2 none) (hK : va_K D vwCl (tyL cI cJ) s) (hA : ∀ q, s.heap.size ≤ q → A q) (hX : XT none A s s.heap) {Rr : Int32 × (Nat → Int32) × (Nat → Int64)} : ∀  (v_kept : Int32) (v_pointsHad : Nat → Int32) (v_facesHad : Nat → Int64) (H : Heap) (locs : List Loc) (ls : Array Slot), St D A s (w_X9_keep cI cJ h h_pointsHad h_facesHad g5 g6 g7 g8 g9 g10 g11 g12 g13 g14 g15 g16 g17 g18 g19 g20 g21 g22 g23 g24 g25 g26 v_points v_faces v_kept v_pointsHad v_facesHad) H locs → lv_has ls 2 [(0, .ref h)] → f_X9_keep_63 v_points v_faces v_kept v_pointsHad v_facesHad = some Rr → W p l e rm_X9_keep s m args below meth c H locs 0 0 (MQ below (QV D cI cJ A (w_X9_keep cI cJ h h_pointsHad h_facesHad g5 g6 g7 g8 g9 g10 g11 g12 g13 g14 g15 g16 g17 g18 g19 g20 g21 g22 g23 g24 g25 g26 v_points v_faces Rr.1 Rr.2.1 Rr.2.2)) args s 0 0 A) (F0 m 63 ls []) := by
  have hx := C0.1.1
  have hb := C0.1.2.1
  intro v_kept v_pointsHad v_facesHad H locs ls hSt hl hf
  unfold f_X9_keep_63 at hf
  refine lv_aload_n hx hb dX9_keep_63 rfl (lv_at hl 0 rfl) ?_
  refine hb_get C0 hK hSt 0 8 3 rfl rfl iu_X9_keep_X9 (by decide) fl_X9_keep_17 rfl dX9_keep_64 ?_
  refine lv_aload_n hx hb dX9_keep_67 rfl (lv_at hl 0 rfl) ?_
  refine hb_get C0 hK hSt 0 8 2 rfl rfl iu_X9_keep_X9 (by decide) fl_X9_keep_63 rfl dX9_keep_68 ?_
  refine lv_aload_n hx hb dX9_keep_71 rfl (lv_at hl 0 rfl) ?_
  refine hb_get C0 hK hSt 0 8 0 rfl rfl iu_X9_keep_X9 (by decide) fl_X9_keep_7 rfl dX9_keep_72 ?_
  obtain ⟨hi, hf⟩ := gd_t hf
  refine hb_iast C0 hK hSt 1 rfl hi (w' := w_X9_keep cI cJ h h_pointsHad h_facesHad g5 g6 g7 g8 g9 g10 g11 g12 g13 g14 g15 g16 g17 g18 g19 g20 g21 g22 g23 g24 g25 g26 v_points v_faces v_kept (upd v_pointsHad v_kept.toNatClampNeg v_points) v_facesHad) rfl dX9_keep_75 (fun H locs hSt => ?_)
  refine lv_aload_n hx hb dX9_keep_76 rfl (lv_at hl 0 rfl) ?_
  refine hb_get C0 hK hSt 0 8 4 rfl rfl iu_X9_keep_X9 (by decide) fl_X9_keep_21 rfl dX9_keep_77 ?_
  refine lv_aload_n hx hb dX9_keep_80 rfl (lv_at hl 0 rfl) ?_
  refine hb_get C0 hK hSt 0 8 2 rfl rfl iu_X9_keep_X9 (by decide) fl_X9_keep_63 rfl dX9_keep_81 ?_
  refine lv_aload_n hx hb dX9_keep_84 rfl (lv_at hl 0 rfl) ?_
  refine hb_get C0 hK hSt 0 8 1 rfl rfl iu_X9_keep_X9 (by decide) fl_X9_keep_13 rfl dX9_keep_85 ?_
  obtain ⟨hi, hf⟩ := gd_t hf
  refine hb_last C0 hK hSt 2 rfl hi (w' := w_X9_keep cI cJ h h_pointsHad h_facesHad g5 g6 g7 g8 g9 g10 g11 g12 g13 g14 g15 g16 g17 g18 g19 g20 g21 g22 g23 g24 g25 g26 v_points v_faces v_kept (upd v_pointsHad v_kept.toNatClampNeg v_points) (vp_updL v_facesHad v_kept.toNatClampNeg v_faces)) rfl dX9_keep_88 (fun H locs hSt => ?_)
  refine lv_aload_n hx hb dX9_keep_89 rfl (lv_at hl 0 rfl) ?_
  refine lv_dup hx hb dX9_keep_90 rfl ?_
  refine hb_get C0 hK hSt 0 8 2 rfl rfl iu_X9_keep_X9 (by decide) fl_X9_keep_63 rfl dX9_keep_91 ?_
  refine lv_iconst (v := 1) hx hb dX9_keep_94 (by decide) ?_
  refine lv_iadd hx hb dX9_keep_95 ?_
  refine hb_put C0 hK hSt 0 8 2 rfl rfl iu_X9_keep_X9 tyX9 tyX9_ok nmX9 (by decide) fl_X9_keep_63 rfl rfl rfl (Nat.le_of_ble_eq_true rfl) (w' := w_X9_keep cI cJ h h_pointsHad h_facesHad g5 g6 g7 g8 g9 g10 g11 g12 g13 g14 g15 g16 g17 g18 g19 g20 g21 g22 g23 g24 g25 g26 v_points v_faces (v_kept + (1 : Int32)) (upd v_pointsHad v_kept.toNatClampNeg v_points) (vp_updL v_facesHad v_kept.toNatClampNeg v_faces)) rfl dX9_keep_96 (fun H locs hSt => ?_)
  cases hf
  exact hb_vret C0 hK hSt dX9_keep_99
def f_X9_keep_11 (v_points : Int32) (v_faces : Int64)  : Nat → Int32 → (Int32) → (Nat → Int32) → (Nat → Int64) → Option (Int32 × (Nat → Int32) × (Nat → Int64))
  | 0, _, _, _, _ => none
  | n + 1, l1, v_kept, v_pointsHad, v_facesHad => if (8 : Int32) ≤ (l1 + (1 : Int32)) then f_X9_keep_63 v_points v_faces  (v_kept - (1 : Int32)) v_pointsHad v_facesHad else gd (ix (l1 + (1 : Int32)) 8) (bnd (v_pointsHad (l1 + (1 : Int32)).toNatClampNeg) (fun e_1 => gd (ix l1 8) (gd (ix (l1 + (1 : Int32)) 8) (bnd (v_facesHad (l1 + (1 : Int32)).toNatClampNeg) (fun e_2 => gd (ix l1 8) ((f_X9_keep_11 v_points v_faces n) (l1 + 1) v_kept (upd v_pointsHad l1.toNatClampNeg e_1) (vp_updL v_facesHad l1.toNatClampNeg e_2)))))))
set_option maxHeartbeats 4000000 in
set_option maxRecDepth 100000 in
theorem k_X9_keep_11 {p : Program} {l : Launch} {e : Env} {s : State} {m : MethodId} {args : Array Value} {below : List Frame} {meth : Method} {c : Code} {A : Nat → Prop} {D : va_G} {cI cJ : ClassId} {h h_pointsHad h_facesHad : Nat} {g5 g6 g7 g8 g9 g10 g11 g12 g13 g14 g15 g16 g17 g18 g19 g20 g21 g22 g23 g24 g25 g26 : Value} {v_points : Int32} {v_faces : Int64} (C0 : Cx p s m args meth c cX9_keep wsX9_keep RX9 2 none) (hK : va_K D vwCl (tyL cI cJ) s) (hA : ∀ q, s.heap.size ≤ q → A q) (hX : XT none A s s.heap) {Rr : Int32 × (Nat → Int32) × (Nat → Int64)} (n : Nat) : ∀ (l1 : Int32) (v_kept : Int32) (v_pointsHad : Nat → Int32) (v_facesHad : Nat → Int64) (H : Heap) (locs : List Loc) (ls : Array Slot), St D A s (w_X9_keep cI cJ h h_pointsHad h_facesHad g5 g6 g7 g8 g9 g10 g11 g12 g13 g14 g15 g16 g17 g18 g19 g20 g21 g22 g23 g24 g25 g26 v_points v_faces v_kept v_pointsHad v_facesHad) H locs → lv_has ls 2 [(0, .ref h), (1, .int l1)] → f_X9_keep_11 v_points v_faces n l1 v_kept v_pointsHad v_facesHad = some Rr → W p l e rm_X9_keep s m args below meth c H locs 0 0 (MQ below (QV D cI cJ A (w_X9_keep cI cJ h h_pointsHad h_facesHad g5 g6 g7 g8 g9 g10 g11 g12 g13 g14 g15 g16 g17 g18 g19 g20 g21 g22 g23 g24 g25 g26 v_points v_faces Rr.1 Rr.2.1 Rr.2.2)) args s 0 0 A) (F0 m 11 ls []) := by
  have hx := C0.1.1
  have hb := C0.1.2.1
  induction n with
  | zero => intro l1 v_kept v_pointsHad v_facesHad H locs ls hSt hl hf; exact nomatch (show (none : Option _) = some Rr from hf)
  | succ n ih =>
    intro l1 v_kept v_pointsHad v_facesHad H locs ls hSt hl hf
    unfold f_X9_keep_11 at hf
    refine lv_iload_n hx hb dX9_keep_11 rfl (lv_at hl 1 rfl) ?_
    refine lv_iconst (v := 1) hx hb dX9_keep_12 (by decide) ?_
    refine lv_iadd hx hb dX9_keep_13 ?_
    refine lv_bipush (v := 8) hx hb dX9_keep_14 (by decide) ?_
    refine lv_icmp_ge (tgt := 53) hx hb dX9_keep_16 (by decide) (fun cc => ?_) (fun cc => ?_)
    · have hf := ite_t hf cc
      refine lv_aload_n hx hb dX9_keep_53 rfl (lv_at hl 0 rfl) ?_
      refine lv_dup hx hb dX9_keep_54 rfl ?_
      refine hb_get C0 hK hSt 0 8 2 rfl rfl iu_X9_keep_X9 (by decide) fl_X9_keep_63 rfl dX9_keep_55 ?_
      refine lv_iconst (v := 1) hx hb dX9_keep_58 (by decide) ?_
      refine lv_isub hx hb dX9_keep_59 ?_
      refine hb_put C0 hK hSt 0 8 2 rfl rfl iu_X9_keep_X9 tyX9 tyX9_ok nmX9 (by decide) fl_X9_keep_63 rfl rfl rfl (Nat.le_of_ble_eq_true rfl) (w' := w_X9_keep cI cJ h h_pointsHad h_facesHad g5 g6 g7 g8 g9 g10 g11 g12 g13 g14 g15 g16 g17 g18 g19 g20 g21 g22 g23 g24 g25 g26 v_points v_faces (v_kept - (1 : Int32)) v_pointsHad v_facesHad) rfl dX9_keep_60 (fun H locs hSt => ?_)
      exact k_X9_keep_63 C0 hK hA hX  (v_kept - (1 : Int32)) v_pointsHad v_facesHad _ _ _ hSt (lv_sub hl [0] rfl) hf
    · have hf := ite_f hf cc
      refine lv_aload_n hx hb dX9_keep_19 rfl (lv_at hl 0 rfl) ?_
      refine hb_get C0 hK hSt 0 8 3 rfl rfl iu_X9_keep_X9 (by decide) fl_X9_keep_17 rfl dX9_keep_20 ?_
      refine lv_iload_n hx hb dX9_keep_23 rfl (lv_at hl 1 rfl) ?_
      refine lv_aload_n hx hb dX9_keep_24 rfl (lv_at hl 0 rfl) ?_
      refine hb_get C0 hK hSt 0 8 3 rfl rfl iu_X9_keep_X9 (by decide) fl_X9_keep_17 rfl dX9_keep_25 ?_
      refine lv_iload_n hx hb dX9_keep_28 rfl (lv_at hl 1 rfl) ?_
      refine lv_iconst (v := 1) hx hb dX9_keep_29 (by decide) ?_
      refine lv_iadd hx hb dX9_keep_30 ?_
      obtain ⟨hi, hf⟩ := gd_t hf
      refine hb_iald C0 hK hSt 1 rfl hi dX9_keep_31 ?_
      refine tp_i hf (fun e_1 hf => ?_)
      obtain ⟨hi, hf⟩ := gd_t hf
      refine hb_iast C0 hK hSt 1 rfl hi (w' := w_X9_keep cI cJ h h_pointsHad h_facesHad g5 g6 g7 g8 g9 g10 g11 g12 g13 g14 g15 g16 g17 g18 g19 g20 g21 g22 g23 g24 g25 g26 v_points v_faces v_kept (upd v_pointsHad l1.toNatClampNeg e_1) v_facesHad) rfl dX9_keep_32 (fun H locs hSt => ?_)
      refine lv_aload_n hx hb dX9_keep_33 rfl (lv_at hl 0 rfl) ?_
      refine hb_get C0 hK hSt 0 8 4 rfl rfl iu_X9_keep_X9 (by decide) fl_X9_keep_21 rfl dX9_keep_34 ?_
      refine lv_iload_n hx hb dX9_keep_37 rfl (lv_at hl 1 rfl) ?_
      refine lv_aload_n hx hb dX9_keep_38 rfl (lv_at hl 0 rfl) ?_
      refine hb_get C0 hK hSt 0 8 4 rfl rfl iu_X9_keep_X9 (by decide) fl_X9_keep_21 rfl dX9_keep_39 ?_
      refine lv_iload_n hx hb dX9_keep_42 rfl (lv_at hl 1 rfl) ?_
      refine lv_iconst (v := 1) hx hb dX9_keep_43 (by decide) ?_
      refine lv_iadd hx hb dX9_keep_44 ?_
      obtain ⟨hi, hf⟩ := gd_t hf
      refine hb_lald C0 hK hSt 2 rfl hi dX9_keep_45 ?_
      refine tp_l hf (fun e_2 hf => ?_)
      obtain ⟨hi, hf⟩ := gd_t hf
      refine hb_last C0 hK hSt 2 rfl hi (w' := w_X9_keep cI cJ h h_pointsHad h_facesHad g5 g6 g7 g8 g9 g10 g11 g12 g13 g14 g15 g16 g17 g18 g19 g20 g21 g22 g23 g24 g25 g26 v_points v_faces v_kept (upd v_pointsHad l1.toNatClampNeg e_1) (vp_updL v_facesHad l1.toNatClampNeg e_2)) rfl dX9_keep_46 (fun H locs hSt => ?_)
      refine lv_iinc (v := l1 + 1) (lv' := [(1, .int (l1 + 1)), (0, .ref h)]) hx hb dX9_keep_47 hl (k := 1) rfl rfl (by decide) rfl (fun ls hl => ?_)
      refine lv_goto (tgt := 11) hx hb dX9_keep_50 (by decide) ?_
      exact ih (l1 + 1) v_kept (upd v_pointsHad l1.toNatClampNeg e_1) (vp_updL v_facesHad l1.toNatClampNeg e_2) _ _ _ hSt (lv_sub hl [1, 0] rfl) hf
def f_X9_keep_0 (v_points : Int32) (v_faces : Int64)   (v_kept : Int32) (v_pointsHad : Nat → Int32) (v_facesHad : Nat → Int64) : Option (Int32 × (Nat → Int32) × (Nat → Int64)) := if v_kept = (8 : Int32) then f_X9_keep_11 v_points v_faces  FU (0 : Int32) v_kept v_pointsHad v_facesHad else f_X9_keep_63 v_points v_faces  v_kept v_pointsHad v_facesHad
set_option maxHeartbeats 4000000 in
set_option maxRecDepth 100000 in
theorem k_X9_keep_0 {p : Program} {l : Launch} {e : Env} {s : State} {m : MethodId} {args : Array Value} {below : List Frame} {meth : Method} {c : Code} {A : Nat → Prop} {D : va_G} {cI cJ : ClassId} {h h_pointsHad h_facesHad : Nat} {g5 g6 g7 g8 g9 g10 g11 g12 g13 g14 g15 g16 g17 g18 g19 g20 g21 g22 g23 g24 g25 g26 : Value} {v_points : Int32} {v_faces : Int64} (C0 : Cx p s m args meth c cX9_keep wsX9_keep RX9 2 none) (hK : va_K D vwCl (tyL cI cJ) s) (hA : ∀ q, s.heap.size ≤ q → A q) (hX : XT none A s s.heap) {Rr : Int32 × (Nat → Int32) × (Nat → Int64)} : ∀  (v_kept : Int32) (v_pointsHad : Nat → Int32) (v_facesHad : Nat → Int64) (H : Heap) (locs : List Loc) (ls : Array Slot), St D A s (w_X9_keep cI cJ h h_pointsHad h_facesHad g5 g6 g7 g8 g9 g10 g11 g12 g13 g14 g15 g16 g17 g18 g19 g20 g21 g22 g23 g24 g25 g26 v_points v_faces v_kept v_pointsHad v_facesHad) H locs → lv_has ls 2 [(0, .ref h)] → f_X9_keep_0 v_points v_faces v_kept v_pointsHad v_facesHad = some Rr → W p l e rm_X9_keep s m args below meth c H locs 0 0 (MQ below (QV D cI cJ A (w_X9_keep cI cJ h h_pointsHad h_facesHad g5 g6 g7 g8 g9 g10 g11 g12 g13 g14 g15 g16 g17 g18 g19 g20 g21 g22 g23 g24 g25 g26 v_points v_faces Rr.1 Rr.2.1 Rr.2.2)) args s 0 0 A) (F0 m 0 ls []) := by
  have hx := C0.1.1
  have hb := C0.1.2.1
  intro v_kept v_pointsHad v_facesHad H locs ls hSt hl hf
  unfold f_X9_keep_0 at hf
  refine lv_aload_n hx hb dX9_keep_0 rfl (lv_at hl 0 rfl) ?_
  refine hb_get C0 hK hSt 0 8 2 rfl rfl iu_X9_keep_X9 (by decide) fl_X9_keep_63 rfl dX9_keep_1 ?_
  refine lv_bipush (v := 8) hx hb dX9_keep_4 (by decide) ?_
  refine lv_icmp_ne (tgt := 63) hx hb dX9_keep_6 (by decide) (fun cc => ?_) (fun cc => ?_)
  · have hf := ite_f hf cc
    exact k_X9_keep_63 C0 hK hA hX  v_kept v_pointsHad v_facesHad _ _ _ hSt (lv_sub hl [0] rfl) hf
  · have hf := ite_t hf cc
    refine lv_iconst (v := 0) hx hb dX9_keep_9 (by decide) ?_
    refine lv_istore_n (lv' := [(1, .int (0 : Int32)), (0, .ref h)]) hx hb dX9_keep_10 rfl hl (by decide) rfl (fun ls hl => ?_)
    exact k_X9_keep_11 C0 hK hA hX  FU (0 : Int32) v_kept v_pointsHad v_facesHad _ _ _ hSt (lv_sub hl [1, 0] rfl) hf
def f_X9_keep (v_points : Int32) (v_faces : Int64)  (v_kept : Int32) (v_pointsHad : Nat → Int32) (v_facesHad : Nat → Int64) : Option (Int32 × (Nat → Int32) × (Nat → Int64)) := f_X9_keep_0 v_points v_faces v_kept v_pointsHad v_facesHad
set_option maxRecDepth 100000 in
theorem c_X9_keep (l : Launch) (D : va_G) (cI cJ : ClassId) (h h_pointsHad h_facesHad : Nat) (g5 g6 g7 g8 g9 g10 g11 g12 g13 g14 g15 g16 g17 g18 g19 g20 g21 g22 g23 g24 g25 g26 : Value)  (v_points : Int32) (v_faces : Int64) (v_kept : Int32) (v_pointsHad : Nat → Int32) (v_facesHad : Nat → Int64) (Rr : Int32 × (Nat → Int32) × (Nat → Int64)) (hf : f_X9_keep v_points v_faces v_kept v_pointsHad v_facesHad = some Rr) : CtV l yX9_keep wsX9_keep rm_X9_keep D cI cJ none [.ref h] (w_X9_keep cI cJ h h_pointsHad h_facesHad g5 g6 g7 g8 g9 g10 g11 g12 g13 g14 g15 g16 g17 g18 g19 g20 g21 g22 g23 g24 g25 g26 v_points v_faces v_kept v_pointsHad v_facesHad) (w_X9_keep cI cJ h h_pointsHad h_facesHad g5 g6 g7 g8 g9 g10 g11 g12 g13 g14 g15 g16 g17 g18 g19 g20 g21 g22 g23 g24 g25 g26 v_points v_faces Rr.1 Rr.2.1 Rr.2.2) :=
  fun sz => BodyW.met (av := [.ref h]) (Qc := fun A => QV D cI cJ A (w_X9_keep cI cJ h h_pointsHad h_facesHad g5 g6 g7 g8 g9 g10 g11 g12 g13 g14 g15 g16 g17 g18 g19 g20 g21 g22 g23 g24 g25 g26 v_points v_faces Rr.1 Rr.2.1 Rr.2.2)) (by decide) rfl rfl (Nat.le_of_ble_eq_true rfl) (fun C0 hK hA hX ls hSt hl => k_X9_keep_0 C0 hK hA hX  v_kept v_pointsHad v_facesHad _ _ ls hSt hl hf) sz
/-! X9 becomes -/
abbrev rm_X9_becomes : Room := { frames := 1, cells := 0, slots := 0, locals := 21 }
abbrev w_X9_becomes (cI cJ : ClassId) (h : Nat) (h_pointsHad : Nat) (h_facesHad : Nat) (g5 : Value) (g6 : Value) (g7 : Value) (g8 : Value) (g9 : Value) (g10 : Value) (g11 : Value) (g12 : Value) (g13 : Value) (g14 : Value) (g15 : Value) (g16 : Value) (g17 : Value) (g18 : Value) (g19 : Value) (g20 : Value) (g21 : Value) (g22 : Value) (g23 : Value) (g24 : Value) (g25 : Value) (g26 : Value) (v_points : Int32) (v_faces : Int64) (v_kept : Int32) (v_pointsHad : Nat → Int32) (v_facesHad : Nat → Int64) : va_W := [(h, .inr (8, [.int v_points, .long v_faces, .int v_kept, .ref h_pointsHad, .ref h_facesHad, g5, g6, g7, g8, g9, g10, g11, g12, g13, g14, g15, g16, g17, g18, g19, g20, g21, g22, g23, g24, g25, g26])), (h_pointsHad, .inl (cI, 8, .inl v_pointsHad)), (h_facesHad, .inl (cJ, 8, .inr (.inl v_facesHad)))]
theorem iu_X9_becomes_X9 : ∀ w ∈ wsX90, w ∈ wsX9_becomes := by decide +kernel
theorem fl_X9_becomes_7 : Cond.fieldLink RX9 7 (TX9 0).1 (TX9 0).2.1 (TX9 0).2.2.1 ∈ wsX9_becomes := by decide +kernel
theorem fl_X9_becomes_13 : Cond.fieldLink RX9 13 (TX9 1).1 (TX9 1).2.1 (TX9 1).2.2.1 ∈ wsX9_becomes := by decide +kernel
theorem hd_X9_becomes : yX9_becomes.cls = RX9 ∧ yX9_becomes.cls ≠ "java/lang/invoke/MethodHandle" ∧ yX9_becomes.cls ≠ "java/lang/invoke/VarHandle" ∧ (parseMethodDescriptor yX9_becomes.desc).map (fun d => d.parameters.length) = some 2 := by decide +kernel
def f_X9_becomes_0   (l1 : Int32) (l2 : Int64) (v_points : Int32) (v_faces : Int64) (v_kept : Int32) (v_pointsHad : Nat → Int32) (v_facesHad : Nat → Int64) : Option (Int32 × Int64 × Int32 × (Nat → Int32) × (Nat → Int64)) := (f_X9_keep v_points v_faces v_kept v_pointsHad v_facesHad).bind (fun R1 => some (l1, l2, R1.1, R1.2.1, R1.2.2))
set_option maxHeartbeats 4000000 in
set_option maxRecDepth 100000 in
theorem k_X9_becomes_0 {p : Program} {l : Launch} {e : Env} {s : State} {m : MethodId} {args : Array Value} {below : List Frame} {meth : Method} {c : Code} {A : Nat → Prop} {D : va_G} {cI cJ : ClassId} {h h_pointsHad h_facesHad : Nat} {g5 g6 g7 g8 g9 g10 g11 g12 g13 g14 g15 g16 g17 g18 g19 g20 g21 g22 g23 g24 g25 g26 : Value}  (C0 : Cx p s m args meth c cX9_becomes wsX9_becomes RX9 4 none) (hK : va_K D vwCl (tyL cI cJ) s) (hA : ∀ q, s.heap.size ≤ q → A q) (hX : XT none A s s.heap) {Rr : Int32 × Int64 × Int32 × (Nat → Int32) × (Nat → Int64)} : ∀ (l1 : Int32) (l2 : Int64) (v_points : Int32) (v_faces : Int64) (v_kept : Int32) (v_pointsHad : Nat → Int32) (v_facesHad : Nat → Int64) (H : Heap) (locs : List Loc) (ls : Array Slot), St D A s (w_X9_becomes cI cJ h h_pointsHad h_facesHad g5 g6 g7 g8 g9 g10 g11 g12 g13 g14 g15 g16 g17 g18 g19 g20 g21 g22 g23 g24 g25 g26 v_points v_faces v_kept v_pointsHad v_facesHad) H locs → lv_has ls 4 [(0, .ref h), (1, .int l1), (2, .long l2)] → f_X9_becomes_0 l1 l2 v_points v_faces v_kept v_pointsHad v_facesHad = some Rr → W p l e rm_X9_becomes s m args below meth c H locs 0 0 (MQ below (QV D cI cJ A (w_X9_becomes cI cJ h h_pointsHad h_facesHad g5 g6 g7 g8 g9 g10 g11 g12 g13 g14 g15 g16 g17 g18 g19 g20 g21 g22 g23 g24 g25 g26 Rr.1 Rr.2.1 Rr.2.2.1 Rr.2.2.2.1 Rr.2.2.2.2)) args s 0 0 A) (F0 m 0 ls []) := by
  have hx := C0.1.1
  have hb := C0.1.2.1
  intro l1 l2 v_points v_faces v_kept v_pointsHad v_facesHad H locs ls hSt hl hf
  unfold f_X9_becomes_0 at hf
  refine lv_aload_n hx hb dX9_becomes_0 rfl (lv_at hl 0 rfl) ?_
  obtain ⟨R1, hR1, hf⟩ := Option.bind_eq_some_iff.mp hf
  have sp : Sp (w_X9_becomes cI cJ h h_pointsHad h_facesHad g5 g6 g7 g8 g9 g10 g11 g12 g13 g14 g15 g16 g17 g18 g19 g20 g21 g22 g23 g24 g25 g26 v_points v_faces v_kept v_pointsHad v_facesHad) (w_X9_keep cI cJ h h_pointsHad h_facesHad g5 g6 g7 g8 g9 g10 g11 g12 g13 g14 g15 g16 g17 g18 g19 g20 g21 g22 g23 g24 g25 g26 v_points v_faces v_kept v_pointsHad v_facesHad) (w_X9_keep cI cJ h h_pointsHad h_facesHad g5 g6 g7 g8 g9 g10 g11 g12 g13 g14 g15 g16 g17 g18 g19 g20 g21 g22 g23 g24 g25 g26 v_points v_faces R1.1 R1.2.1 R1.2.2) (w_X9_becomes cI cJ h h_pointsHad h_facesHad g5 g6 g7 g8 g9 g10 g11 g12 g13 g14 g15 g16 g17 g18 g19 g20 g21 g22 g23 g24 g25 g26 v_points v_faces R1.1 R1.2.1 R1.2.2) [0, 1, 2] [] [0, 1, 2] := ⟨rfl, rfl, rfl, by decide, by decide, by decide, by decide⟩
  refine hb_cv (hb_rV (As := []) (rest := []) C0 hK hA XT.nn hSt sp (c_X9_keep l D cI cJ h h_pointsHad h_facesHad g5 g6 g7 g8 g9 g10 g11 g12 g13 g14 g15 g16 g17 g18 g19 g20 g21 g22 g23 g24 g25 g26   v_points v_faces v_kept v_pointsHad v_facesHad R1 hR1) gX9_becomes_X9_keep rfl ⟨rfl, rfl⟩ hd_X9_keep ⟨Nat.le_of_ble_eq_true rfl, Nat.le_of_ble_eq_true rfl⟩ 0 8 rfl rfl rfl hl rfl (Nat.le_of_ble_eq_true rfl) dX9_becomes_1 ⟨Nat.zero_le _, Nat.zero_le _⟩) hA hSt sp (fun H locs hSt => ?_)
  refine lv_aload_n hx hb dX9_becomes_4 rfl (lv_at hl 0 rfl) ?_
  refine lv_iload_n hx hb dX9_becomes_5 rfl (lv_at hl 1 rfl) ?_
  refine hb_put C0 hK hSt 0 8 0 rfl rfl iu_X9_becomes_X9 tyX9 tyX9_ok nmX9 (by decide) fl_X9_becomes_7 rfl rfl rfl (Nat.le_of_ble_eq_true rfl) (w' := w_X9_becomes cI cJ h h_pointsHad h_facesHad g5 g6 g7 g8 g9 g10 g11 g12 g13 g14 g15 g16 g17 g18 g19 g20 g21 g22 g23 g24 g25 g26 l1 v_faces R1.1 R1.2.1 R1.2.2) rfl dX9_becomes_6 (fun H locs hSt => ?_)
  refine lv_aload_n hx hb dX9_becomes_9 rfl (lv_at hl 0 rfl) ?_
  refine lv_lload_n hx hb dX9_becomes_10 rfl (lv_at hl 2 rfl) ?_
  refine hb_put C0 hK hSt 0 8 1 rfl rfl iu_X9_becomes_X9 tyX9 tyX9_ok nmX9 (by decide) fl_X9_becomes_13 rfl rfl rfl (Nat.le_of_ble_eq_true rfl) (w' := w_X9_becomes cI cJ h h_pointsHad h_facesHad g5 g6 g7 g8 g9 g10 g11 g12 g13 g14 g15 g16 g17 g18 g19 g20 g21 g22 g23 g24 g25 g26 l1 l2 R1.1 R1.2.1 R1.2.2) rfl dX9_becomes_11 (fun H locs hSt => ?_)
  cases hf
  exact hb_vret C0 hK hSt dX9_becomes_14
def f_X9_becomes  (l1 : Int32) (l2 : Int64) (v_points : Int32) (v_faces : Int64) (v_kept : Int32) (v_pointsHad : Nat → Int32) (v_facesHad : Nat → Int64) : Option (Int32 × Int64 × Int32 × (Nat → Int32) × (Nat → Int64)) := f_X9_becomes_0 l1 l2 v_points v_faces v_kept v_pointsHad v_facesHad
set_option maxRecDepth 100000 in
theorem c_X9_becomes (l : Launch) (D : va_G) (cI cJ : ClassId) (h h_pointsHad h_facesHad : Nat) (g5 g6 g7 g8 g9 g10 g11 g12 g13 g14 g15 g16 g17 g18 g19 g20 g21 g22 g23 g24 g25 g26 : Value) (l1 : Int32) (l2 : Int64) (v_points : Int32) (v_faces : Int64) (v_kept : Int32) (v_pointsHad : Nat → Int32) (v_facesHad : Nat → Int64) (Rr : Int32 × Int64 × Int32 × (Nat → Int32) × (Nat → Int64)) (hf : f_X9_becomes l1 l2 v_points v_faces v_kept v_pointsHad v_facesHad = some Rr) : CtV l yX9_becomes wsX9_becomes rm_X9_becomes D cI cJ none [.ref h, .int l1, .long l2] (w_X9_becomes cI cJ h h_pointsHad h_facesHad g5 g6 g7 g8 g9 g10 g11 g12 g13 g14 g15 g16 g17 g18 g19 g20 g21 g22 g23 g24 g25 g26 v_points v_faces v_kept v_pointsHad v_facesHad) (w_X9_becomes cI cJ h h_pointsHad h_facesHad g5 g6 g7 g8 g9 g10 g11 g12 g13 g14 g15 g16 g17 g18 g19 g20 g21 g22 g23 g24 g25 g26 Rr.1 Rr.2.1 Rr.2.2.1 Rr.2.2.2.1 Rr.2.2.2.2) :=
  fun sz => BodyW.met (av := [.ref h, .int l1, .long l2]) (Qc := fun A => QV D cI cJ A (w_X9_becomes cI cJ h h_pointsHad h_facesHad g5 g6 g7 g8 g9 g10 g11 g12 g13 g14 g15 g16 g17 g18 g19 g20 g21 g22 g23 g24 g25 g26 Rr.1 Rr.2.1 Rr.2.2.1 Rr.2.2.2.1 Rr.2.2.2.2)) (by decide) rfl rfl (Nat.le_of_ble_eq_true rfl) (fun C0 hK hA hX ls hSt hl => k_X9_becomes_0 C0 hK hA hX l1 l2 v_points v_faces v_kept v_pointsHad v_facesHad _ _ ls hSt hl hf) sz
/-! X9 undo -/
abbrev rm_X9_undo : Room := { frames := 0, cells := 0, slots := 0, locals := 0 }
abbrev w_X9_undo (cI cJ : ClassId) (h : Nat) (h_pointsHad : Nat) (h_facesHad : Nat) (g5 : Value) (g6 : Value) (g7 : Value) (g8 : Value) (g9 : Value) (g10 : Value) (g11 : Value) (g12 : Value) (g13 : Value) (g14 : Value) (g15 : Value) (g16 : Value) (g17 : Value) (g18 : Value) (g19 : Value) (g20 : Value) (g21 : Value) (g22 : Value) (g23 : Value) (g24 : Value) (g25 : Value) (g26 : Value) (v_pointsHad : Nat → Int32) (v_facesHad : Nat → Int64) (v_points : Int32) (v_faces : Int64) (v_kept : Int32) : va_W := [(h, .inr (8, [.int v_points, .long v_faces, .int v_kept, .ref h_pointsHad, .ref h_facesHad, g5, g6, g7, g8, g9, g10, g11, g12, g13, g14, g15, g16, g17, g18, g19, g20, g21, g22, g23, g24, g25, g26])), (h_pointsHad, .inl (cI, 8, .inl v_pointsHad)), (h_facesHad, .inl (cJ, 8, .inr (.inl v_facesHad)))]
theorem iu_X9_undo_X9 : ∀ w ∈ wsX90, w ∈ wsX9_undo := by decide +kernel
theorem fl_X9_undo_7 : Cond.fieldLink RX9 7 (TX9 0).1 (TX9 0).2.1 (TX9 0).2.2.1 ∈ wsX9_undo := by decide +kernel
theorem fl_X9_undo_13 : Cond.fieldLink RX9 13 (TX9 1).1 (TX9 1).2.1 (TX9 1).2.2.1 ∈ wsX9_undo := by decide +kernel
theorem fl_X9_undo_17 : Cond.fieldLink RX9 17 (TX9 3).1 (TX9 3).2.1 (TX9 3).2.2.1 ∈ wsX9_undo := by decide +kernel
theorem fl_X9_undo_21 : Cond.fieldLink RX9 21 (TX9 4).1 (TX9 4).2.1 (TX9 4).2.2.1 ∈ wsX9_undo := by decide +kernel
theorem fl_X9_undo_63 : Cond.fieldLink RX9 63 (TX9 2).1 (TX9 2).2.1 (TX9 2).2.2.1 ∈ wsX9_undo := by decide +kernel
theorem hd_X9_undo : yX9_undo.cls = RX9 ∧ yX9_undo.cls ≠ "java/lang/invoke/MethodHandle" ∧ yX9_undo.cls ≠ "java/lang/invoke/VarHandle" ∧ (parseMethodDescriptor yX9_undo.desc).map (fun d => d.parameters.length) = some 0 := by decide +kernel
def f_X9_undo_0 (v_pointsHad : Nat → Int32) (v_facesHad : Nat → Int64)   (v_points : Int32) (v_faces : Int64) (v_kept : Int32) : Option (Int32 × Int32 × Int64 × Int32) := if v_kept = 0 then some ((0 : Int32), v_points, v_faces, v_kept) else gd (ix (v_kept - (1 : Int32)) 8) (bnd (v_pointsHad (v_kept - (1 : Int32)).toNatClampNeg) (fun points_1 => gd (ix (v_kept - (1 : Int32)) 8) (bnd (v_facesHad (v_kept - (1 : Int32)).toNatClampNeg) (fun faces_2 => some ((1 : Int32), points_1, faces_2, v_kept - (1 : Int32))))))
set_option maxHeartbeats 4000000 in
set_option maxRecDepth 100000 in
theorem k_X9_undo_0 {p : Program} {l : Launch} {e : Env} {s : State} {m : MethodId} {args : Array Value} {below : List Frame} {meth : Method} {c : Code} {A : Nat → Prop} {D : va_G} {cI cJ : ClassId} {h h_pointsHad h_facesHad : Nat} {g5 g6 g7 g8 g9 g10 g11 g12 g13 g14 g15 g16 g17 g18 g19 g20 g21 g22 g23 g24 g25 g26 : Value} {v_pointsHad : Nat → Int32} {v_facesHad : Nat → Int64} (C0 : Cx p s m args meth c cX9_undo wsX9_undo RX9 1 (some .boolean)) (hK : va_K D vwCl (tyL cI cJ) s) (hA : ∀ q, s.heap.size ≤ q → A q) (hX : XT none A s s.heap) {Rr : Int32 × Int32 × Int64 × Int32} : ∀  (v_points : Int32) (v_faces : Int64) (v_kept : Int32) (H : Heap) (locs : List Loc) (ls : Array Slot), St D A s (w_X9_undo cI cJ h h_pointsHad h_facesHad g5 g6 g7 g8 g9 g10 g11 g12 g13 g14 g15 g16 g17 g18 g19 g20 g21 g22 g23 g24 g25 g26 v_pointsHad v_facesHad v_points v_faces v_kept) H locs → lv_has ls 1 [(0, .ref h)] → f_X9_undo_0 v_pointsHad v_facesHad v_points v_faces v_kept = some Rr → W p l e rm_X9_undo s m args below meth c H locs 0 0 (MQ below (QI D cI cJ A (w_X9_undo cI cJ h h_pointsHad h_facesHad g5 g6 g7 g8 g9 g10 g11 g12 g13 g14 g15 g16 g17 g18 g19 g20 g21 g22 g23 g24 g25 g26 v_pointsHad v_facesHad Rr.2.1 Rr.2.2.1 Rr.2.2.2) Rr.1) args s 0 0 A) (F0 m 0 ls []) := by
  have hx := C0.1.1
  have hb := C0.1.2.1
  intro v_points v_faces v_kept H locs ls hSt hl hf
  unfold f_X9_undo_0 at hf
  refine lv_aload_n hx hb dX9_undo_0 rfl (lv_at hl 0 rfl) ?_
  refine hb_get C0 hK hSt 0 8 2 rfl rfl iu_X9_undo_X9 (by decide) fl_X9_undo_63 rfl dX9_undo_1 ?_
  refine lv_if_ne (tgt := 9) hx hb dX9_undo_4 (by decide) (fun cc => ?_) (fun cc => ?_)
  · have hf := ite_f hf cc
    refine lv_aload_n hx hb dX9_undo_9 rfl (lv_at hl 0 rfl) ?_
    refine lv_dup hx hb dX9_undo_10 rfl ?_
    refine hb_get C0 hK hSt 0 8 2 rfl rfl iu_X9_undo_X9 (by decide) fl_X9_undo_63 rfl dX9_undo_11 ?_
    refine lv_iconst (v := 1) hx hb dX9_undo_14 (by decide) ?_
    refine lv_isub hx hb dX9_undo_15 ?_
    refine hb_put C0 hK hSt 0 8 2 rfl rfl iu_X9_undo_X9 tyX9 tyX9_ok nmX9 (by decide) fl_X9_undo_63 rfl rfl rfl (Nat.le_of_ble_eq_true rfl) (w' := w_X9_undo cI cJ h h_pointsHad h_facesHad g5 g6 g7 g8 g9 g10 g11 g12 g13 g14 g15 g16 g17 g18 g19 g20 g21 g22 g23 g24 g25 g26 v_pointsHad v_facesHad v_points v_faces (v_kept - (1 : Int32))) rfl dX9_undo_16 (fun H locs hSt => ?_)
    refine lv_aload_n hx hb dX9_undo_19 rfl (lv_at hl 0 rfl) ?_
    refine lv_aload_n hx hb dX9_undo_20 rfl (lv_at hl 0 rfl) ?_
    refine hb_get C0 hK hSt 0 8 3 rfl rfl iu_X9_undo_X9 (by decide) fl_X9_undo_17 rfl dX9_undo_21 ?_
    refine lv_aload_n hx hb dX9_undo_24 rfl (lv_at hl 0 rfl) ?_
    refine hb_get C0 hK hSt 0 8 2 rfl rfl iu_X9_undo_X9 (by decide) fl_X9_undo_63 rfl dX9_undo_25 ?_
    obtain ⟨hi, hf⟩ := gd_t hf
    refine hb_iald C0 hK hSt 1 rfl hi dX9_undo_28 ?_
    refine tp_i hf (fun points_1 hf => ?_)
    refine hb_put C0 hK hSt 0 8 0 rfl rfl iu_X9_undo_X9 tyX9 tyX9_ok nmX9 (by decide) fl_X9_undo_7 rfl rfl rfl (Nat.le_of_ble_eq_true rfl) (w' := w_X9_undo cI cJ h h_pointsHad h_facesHad g5 g6 g7 g8 g9 g10 g11 g12 g13 g14 g15 g16 g17 g18 g19 g20 g21 g22 g23 g24 g25 g26 v_pointsHad v_facesHad points_1 v_faces (v_kept - (1 : Int32))) rfl dX9_undo_29 (fun H locs hSt => ?_)
    refine lv_aload_n hx hb dX9_undo_32 rfl (lv_at hl 0 rfl) ?_
    refine lv_aload_n hx hb dX9_undo_33 rfl (lv_at hl 0 rfl) ?_
    refine hb_get C0 hK hSt 0 8 4 rfl rfl iu_X9_undo_X9 (by decide) fl_X9_undo_21 rfl dX9_undo_34 ?_
    refine lv_aload_n hx hb dX9_undo_37 rfl (lv_at hl 0 rfl) ?_
    refine hb_get C0 hK hSt 0 8 2 rfl rfl iu_X9_undo_X9 (by decide) fl_X9_undo_63 rfl dX9_undo_38 ?_
    obtain ⟨hi, hf⟩ := gd_t hf
    refine hb_lald C0 hK hSt 2 rfl hi dX9_undo_41 ?_
    refine tp_l hf (fun faces_2 hf => ?_)
    refine hb_put C0 hK hSt 0 8 1 rfl rfl iu_X9_undo_X9 tyX9 tyX9_ok nmX9 (by decide) fl_X9_undo_13 rfl rfl rfl (Nat.le_of_ble_eq_true rfl) (w' := w_X9_undo cI cJ h h_pointsHad h_facesHad g5 g6 g7 g8 g9 g10 g11 g12 g13 g14 g15 g16 g17 g18 g19 g20 g21 g22 g23 g24 g25 g26 v_pointsHad v_facesHad points_1 faces_2 (v_kept - (1 : Int32))) rfl dX9_undo_42 (fun H locs hSt => ?_)
    refine lv_iconst (v := 1) hx hb dX9_undo_45 (by decide) ?_
    cases hf
    exact hb_zret C0 hK hSt nb1.1 dX9_undo_46
  · have hf := ite_t hf cc
    refine lv_iconst (v := 0) hx hb dX9_undo_7 (by decide) ?_
    cases hf
    exact hb_zret C0 hK hSt nb0.1 dX9_undo_8
def f_X9_undo (v_pointsHad : Nat → Int32) (v_facesHad : Nat → Int64)  (v_points : Int32) (v_faces : Int64) (v_kept : Int32) : Option (Int32 × Int32 × Int64 × Int32) := f_X9_undo_0 v_pointsHad v_facesHad v_points v_faces v_kept
set_option maxRecDepth 100000 in
theorem c_X9_undo (l : Launch) (D : va_G) (cI cJ : ClassId) (h h_pointsHad h_facesHad : Nat) (g5 g6 g7 g8 g9 g10 g11 g12 g13 g14 g15 g16 g17 g18 g19 g20 g21 g22 g23 g24 g25 g26 : Value)  (v_pointsHad : Nat → Int32) (v_facesHad : Nat → Int64) (v_points : Int32) (v_faces : Int64) (v_kept : Int32) (Rr : Int32 × Int32 × Int64 × Int32) (hf : f_X9_undo v_pointsHad v_facesHad v_points v_faces v_kept = some Rr) : CtI l yX9_undo wsX9_undo rm_X9_undo D cI cJ none [.ref h] (w_X9_undo cI cJ h h_pointsHad h_facesHad g5 g6 g7 g8 g9 g10 g11 g12 g13 g14 g15 g16 g17 g18 g19 g20 g21 g22 g23 g24 g25 g26 v_pointsHad v_facesHad v_points v_faces v_kept) Rr.1 (w_X9_undo cI cJ h h_pointsHad h_facesHad g5 g6 g7 g8 g9 g10 g11 g12 g13 g14 g15 g16 g17 g18 g19 g20 g21 g22 g23 g24 g25 g26 v_pointsHad v_facesHad Rr.2.1 Rr.2.2.1 Rr.2.2.2) :=
  fun sz => BodyW.met (av := [.ref h]) (Qc := fun A => QI D cI cJ A (w_X9_undo cI cJ h h_pointsHad h_facesHad g5 g6 g7 g8 g9 g10 g11 g12 g13 g14 g15 g16 g17 g18 g19 g20 g21 g22 g23 g24 g25 g26 v_pointsHad v_facesHad Rr.2.1 Rr.2.2.1 Rr.2.2.2) Rr.1) (by decide) rfl rfl (Nat.le_of_ble_eq_true rfl) (fun C0 hK hA hX ls hSt hl => k_X9_undo_0 C0 hK hA hX  v_points v_faces v_kept _ _ ls hSt hl hf) sz
/-! X9 points -/
abbrev rm_X9_points : Room := { frames := 2, cells := 0, slots := 0, locals := 44 }
abbrev w_X9_points (cI cJ : ClassId) (h : Nat) (h_pointsHad : Nat) (h_facesHad : Nat) (g5 : Value) (g6 : Value) (g7 : Value) (g8 : Value) (g9 : Value) (g10 : Value) (g11 : Value) (g12 : Value) (g13 : Value) (g14 : Value) (g15 : Value) (g16 : Value) (g17 : Value) (g18 : Value) (g19 : Value) (g20 : Value) (g21 : Value) (g22 : Value) (g23 : Value) (g24 : Value) (g25 : Value) (g26 : Value) (v_points : Int32) (v_faces : Int64) (v_kept : Int32) (v_pointsHad : Nat → Int32) (v_facesHad : Nat → Int64) : va_W := [(h, .inr (8, [.int v_points, .long v_faces, .int v_kept, .ref h_pointsHad, .ref h_facesHad, g5, g6, g7, g8, g9, g10, g11, g12, g13, g14, g15, g16, g17, g18, g19, g20, g21, g22, g23, g24, g25, g26])), (h_pointsHad, .inl (cI, 8, .inl v_pointsHad)), (h_facesHad, .inl (cJ, 8, .inr (.inl v_facesHad)))]
theorem hd_X9_points : yX9_points.cls = RX9 ∧ yX9_points.cls ≠ "java/lang/invoke/MethodHandle" ∧ yX9_points.cls ≠ "java/lang/invoke/VarHandle" ∧ (parseMethodDescriptor yX9_points.desc).map (fun d => d.parameters.length) = some 1 := by decide +kernel
def f_X9_points_0   (l1 : Int32) (v_points : Int32) (v_faces : Int64) (v_kept : Int32) (v_pointsHad : Nat → Int32) (v_facesHad : Nat → Int64) : Option (Int32 × Int32 × Int64 × Int32 × (Nat → Int32) × (Nat → Int64)) := (f_X9_isIn l1 (1 : Int32) (6 : Int32)).bind (fun R1 => if R1 = 0 then some ((0 : Int32), v_points, v_faces, v_kept, v_pointsHad, v_facesHad) else (f_X9_becomes l1 (1 : Int64) v_points v_faces v_kept v_pointsHad v_facesHad).bind (fun R2 => some ((1 : Int32), R2.1, R2.2.1, R2.2.2.1, R2.2.2.2.1, R2.2.2.2.2)))
set_option maxHeartbeats 4000000 in
set_option maxRecDepth 100000 in
theorem k_X9_points_0 {p : Program} {l : Launch} {e : Env} {s : State} {m : MethodId} {args : Array Value} {below : List Frame} {meth : Method} {c : Code} {A : Nat → Prop} {D : va_G} {cI cJ : ClassId} {h h_pointsHad h_facesHad : Nat} {g5 g6 g7 g8 g9 g10 g11 g12 g13 g14 g15 g16 g17 g18 g19 g20 g21 g22 g23 g24 g25 g26 : Value}  (C0 : Cx p s m args meth c cX9_points wsX9_points RX9 2 (some .boolean)) (hK : va_K D vwCl (tyL cI cJ) s) (hA : ∀ q, s.heap.size ≤ q → A q) (hX : XT none A s s.heap) {Rr : Int32 × Int32 × Int64 × Int32 × (Nat → Int32) × (Nat → Int64)} : ∀ (l1 : Int32) (v_points : Int32) (v_faces : Int64) (v_kept : Int32) (v_pointsHad : Nat → Int32) (v_facesHad : Nat → Int64) (H : Heap) (locs : List Loc) (ls : Array Slot), St D A s (w_X9_points cI cJ h h_pointsHad h_facesHad g5 g6 g7 g8 g9 g10 g11 g12 g13 g14 g15 g16 g17 g18 g19 g20 g21 g22 g23 g24 g25 g26 v_points v_faces v_kept v_pointsHad v_facesHad) H locs → lv_has ls 2 [(0, .ref h), (1, .int l1)] → f_X9_points_0 l1 v_points v_faces v_kept v_pointsHad v_facesHad = some Rr → W p l e rm_X9_points s m args below meth c H locs 0 0 (MQ below (QI D cI cJ A (w_X9_points cI cJ h h_pointsHad h_facesHad g5 g6 g7 g8 g9 g10 g11 g12 g13 g14 g15 g16 g17 g18 g19 g20 g21 g22 g23 g24 g25 g26 Rr.2.1 Rr.2.2.1 Rr.2.2.2.1 Rr.2.2.2.2.1 Rr.2.2.2.2.2) Rr.1) args s 0 0 A) (F0 m 0 ls []) := by
  have hx := C0.1.1
  have hb := C0.1.2.1
  intro l1 v_points v_faces v_kept v_pointsHad v_facesHad H locs ls hSt hl hf
  unfold f_X9_points_0 at hf
  refine lv_iload_n hx hb dX9_points_0 rfl (lv_at hl 1 rfl) ?_
  refine lv_iconst (v := 1) hx hb dX9_points_1 (by decide) ?_
  refine lv_bipush (v := 6) hx hb dX9_points_2 (by decide) ?_
  obtain ⟨R1, hR1, hf⟩ := Option.bind_eq_some_iff.mp hf
  have sp : Sp (w_X9_points cI cJ h h_pointsHad h_facesHad g5 g6 g7 g8 g9 g10 g11 g12 g13 g14 g15 g16 g17 g18 g19 g20 g21 g22 g23 g24 g25 g26 v_points v_faces v_kept v_pointsHad v_facesHad) (w_X9_isIn cI cJ) (w_X9_isIn cI cJ) (w_X9_points cI cJ h h_pointsHad h_facesHad g5 g6 g7 g8 g9 g10 g11 g12 g13 g14 g15 g16 g17 g18 g19 g20 g21 g22 g23 g24 g25 g26 v_points v_faces v_kept v_pointsHad v_facesHad) [] [0, 1, 2] [0, 1, 2] := ⟨rfl, rfl, rfl, by decide, by decide, by decide, by decide⟩
  refine hb_ci (hb_rS (As := [.int l1, .int (1 : Int32), .int (6 : Int32)]) (rest := []) C0 hK hA XT.nn hSt sp (c_X9_isIn l D cI cJ   l1 (1 : Int32) (6 : Int32)  R1 hR1) gX9_points_X9_isIn rfl ⟨rfl, rfl⟩ hd_X9_isIn ⟨Nat.le_of_ble_eq_true rfl, Nat.le_of_ble_eq_true rfl⟩ rfl hl rfl (Nat.le_of_ble_eq_true rfl) dX9_points_4 ⟨Nat.zero_le _, Nat.zero_le _⟩) hA hSt sp (fun H locs hSt => ?_)
  refine lv_if_ne (tgt := 12) hx hb dX9_points_7 (by decide) (fun cc => ?_) (fun cc => ?_)
  · have hf := ite_f hf cc
    refine lv_aload_n hx hb dX9_points_12 rfl (lv_at hl 0 rfl) ?_
    refine lv_iload_n hx hb dX9_points_13 rfl (lv_at hl 1 rfl) ?_
    refine lv_lconst (v := 1) hx hb dX9_points_14 (by decide) ?_
    obtain ⟨R2, hR2, hf⟩ := Option.bind_eq_some_iff.mp hf
    have sp : Sp (w_X9_points cI cJ h h_pointsHad h_facesHad g5 g6 g7 g8 g9 g10 g11 g12 g13 g14 g15 g16 g17 g18 g19 g20 g21 g22 g23 g24 g25 g26 v_points v_faces v_kept v_pointsHad v_facesHad) (w_X9_becomes cI cJ h h_pointsHad h_facesHad g5 g6 g7 g8 g9 g10 g11 g12 g13 g14 g15 g16 g17 g18 g19 g20 g21 g22 g23 g24 g25 g26 v_points v_faces v_kept v_pointsHad v_facesHad) (w_X9_becomes cI cJ h h_pointsHad h_facesHad g5 g6 g7 g8 g9 g10 g11 g12 g13 g14 g15 g16 g17 g18 g19 g20 g21 g22 g23 g24 g25 g26 R2.1 R2.2.1 R2.2.2.1 R2.2.2.2.1 R2.2.2.2.2) (w_X9_points cI cJ h h_pointsHad h_facesHad g5 g6 g7 g8 g9 g10 g11 g12 g13 g14 g15 g16 g17 g18 g19 g20 g21 g22 g23 g24 g25 g26 R2.1 R2.2.1 R2.2.2.1 R2.2.2.2.1 R2.2.2.2.2) [0, 1, 2] [] [0, 1, 2] := ⟨rfl, rfl, rfl, by decide, by decide, by decide, by decide⟩
    refine hb_cv (hb_rV (As := [.int l1, .long (1 : Int64)]) (rest := []) C0 hK hA XT.nn hSt sp (c_X9_becomes l D cI cJ h h_pointsHad h_facesHad g5 g6 g7 g8 g9 g10 g11 g12 g13 g14 g15 g16 g17 g18 g19 g20 g21 g22 g23 g24 g25 g26  l1 (1 : Int64) v_points v_faces v_kept v_pointsHad v_facesHad R2 hR2) gX9_points_X9_becomes rfl ⟨rfl, rfl⟩ hd_X9_becomes ⟨Nat.le_of_ble_eq_true rfl, Nat.le_of_ble_eq_true rfl⟩ 0 8 rfl rfl rfl hl rfl (Nat.le_of_ble_eq_true rfl) dX9_points_15 ⟨Nat.zero_le _, Nat.zero_le _⟩) hA hSt sp (fun H locs hSt => ?_)
    refine lv_iconst (v := 1) hx hb dX9_points_18 (by decide) ?_
    cases hf
    exact hb_zret C0 hK hSt nb1.1 dX9_points_19
  · have hf := ite_t hf cc
    refine lv_iconst (v := 0) hx hb dX9_points_10 (by decide) ?_
    cases hf
    exact hb_zret C0 hK hSt nb0.1 dX9_points_11
def f_X9_points  (l1 : Int32) (v_points : Int32) (v_faces : Int64) (v_kept : Int32) (v_pointsHad : Nat → Int32) (v_facesHad : Nat → Int64) : Option (Int32 × Int32 × Int64 × Int32 × (Nat → Int32) × (Nat → Int64)) := f_X9_points_0 l1 v_points v_faces v_kept v_pointsHad v_facesHad
set_option maxRecDepth 100000 in
theorem c_X9_points (l : Launch) (D : va_G) (cI cJ : ClassId) (h h_pointsHad h_facesHad : Nat) (g5 g6 g7 g8 g9 g10 g11 g12 g13 g14 g15 g16 g17 g18 g19 g20 g21 g22 g23 g24 g25 g26 : Value) (l1 : Int32) (v_points : Int32) (v_faces : Int64) (v_kept : Int32) (v_pointsHad : Nat → Int32) (v_facesHad : Nat → Int64) (Rr : Int32 × Int32 × Int64 × Int32 × (Nat → Int32) × (Nat → Int64)) (hf : f_X9_points l1 v_points v_faces v_kept v_pointsHad v_facesHad = some Rr) : CtI l yX9_points wsX9_points rm_X9_points D cI cJ none [.ref h, .int l1] (w_X9_points cI cJ h h_pointsHad h_facesHad g5 g6 g7 g8 g9 g10 g11 g12 g13 g14 g15 g16 g17 g18 g19 g20 g21 g22 g23 g24 g25 g26 v_points v_faces v_kept v_pointsHad v_facesHad) Rr.1 (w_X9_points cI cJ h h_pointsHad h_facesHad g5 g6 g7 g8 g9 g10 g11 g12 g13 g14 g15 g16 g17 g18 g19 g20 g21 g22 g23 g24 g25 g26 Rr.2.1 Rr.2.2.1 Rr.2.2.2.1 Rr.2.2.2.2.1 Rr.2.2.2.2.2) :=
  fun sz => BodyW.met (av := [.ref h, .int l1]) (Qc := fun A => QI D cI cJ A (w_X9_points cI cJ h h_pointsHad h_facesHad g5 g6 g7 g8 g9 g10 g11 g12 g13 g14 g15 g16 g17 g18 g19 g20 g21 g22 g23 g24 g25 g26 Rr.2.1 Rr.2.2.1 Rr.2.2.2.1 Rr.2.2.2.2.1 Rr.2.2.2.2.2) Rr.1) (by decide) rfl rfl (Nat.le_of_ble_eq_true rfl) (fun C0 hK hA hX ls hSt hl => k_X9_points_0 C0 hK hA hX l1 v_points v_faces v_kept v_pointsHad v_facesHad _ _ ls hSt hl hf) sz
/-! X9 within -/
abbrev rm_X9_within : Room := { frames := 0, cells := 0, slots := 0, locals := 0 }
abbrev w_X9_within (cI cJ : ClassId)    : va_W := []
theorem hd_X9_within : yX9_within.cls ≠ "java/lang/invoke/MethodHandle" ∧ yX9_within.cls ≠ "java/lang/invoke/VarHandle" ∧ (parseMethodDescriptor yX9_within.desc).map (fun d => d.parameters.length) = some 1 := by decide +kernel
def f_X9_within_25  (k_4 : Int32 → Int64 → Int32 → Option (Int64)) (l0 : Int32) (l3 : Int32) (s0 : Int64) (s1 : Int64)  : Option (Int64) := k_4 l0 (s1 ||| s0) (l3 + 1)
set_option maxHeartbeats 4000000 in
set_option maxRecDepth 100000 in
theorem k_X9_within_25 {p : Program} {l : Launch} {e : Env} {s : State} {m : MethodId} {args : Array Value} {below : List Frame} {meth : Method} {c : Code} {A : Nat → Prop} {D : va_G} {cI cJ : ClassId}   (C0 : Cx p s m args meth c cX9_within wsX9_within RX9 4 (some .long)) (hK : va_K D vwCl (tyL cI cJ) s) (hA : ∀ q, s.heap.size ≤ q → A q) (hX : XT none A s s.heap) {Rr : Int64} {k_4 : Int32 → Int64 → Int32 → Option (Int64)} (hk_4 : ∀ (l0 : Int32) (l1 : Int64) (l3 : Int32)  (H : Heap) (locs : List Loc) (ls : Array Slot), St D A s (w_X9_within cI cJ) H locs → lv_has ls 4 [(0, .int l0), (1, .long l1), (3, .int l3)] → k_4 l0 l1 l3 = some Rr → W p l e rm_X9_within s m args below meth c H locs 0 0 (MQ below (QL D cI cJ A (w_X9_within cI cJ) Rr) args s 0 0 A) (F0 m 4 ls [])) : ∀ (l0 : Int32) (l3 : Int32) (s0 : Int64) (s1 : Int64)  (H : Heap) (locs : List Loc) (ls : Array Slot), St D A s (w_X9_within cI cJ) H locs → lv_has ls 4 [(0, .int l0), (3, .int l3)] → f_X9_within_25 k_4 l0 l3 s0 s1 = some Rr → W p l e rm_X9_within s m args below meth c H locs 0 0 (MQ below (QL D cI cJ A (w_X9_within cI cJ) Rr) args s 0 0 A) (F0 m 25 ls [.long s0, .long s1]) := by
  have hx := C0.1.1
  have hb := C0.1.2.1
  intro l0 l3 s0 s1 H locs ls hSt hl hf
  unfold f_X9_within_25 at hf
  refine lv_lor hx hb dX9_within_25 ?_
  refine lv_lstore_n (lv' := [(1, .long (s1 ||| s0)), (0, .int l0), (3, .int l3)]) hx hb dX9_within_26 rfl hl (by decide) rfl (fun ls hl => ?_)
  refine lv_iinc (v := l3 + 1) (lv' := [(3, .int (l3 + 1)), (1, .long (s1 ||| s0)), (0, .int l0)]) hx hb dX9_within_27 hl (k := 2) rfl rfl (by decide) rfl (fun ls hl => ?_)
  refine lv_goto (tgt := 4) hx hb dX9_within_30 (by decide) ?_
  exact hk_4 l0 (s1 ||| s0) (l3 + 1) _ _ _ hSt (lv_sub hl [2, 1, 0] rfl) hf
def f_X9_within_4   : Nat → Int32 → Int64 → Int32 → Option (Int64)
  | 0, _, _, _ => none
  | n + 1, l0, l1, l3 => if l0 < l3 then some l1 else if (l3 &&& (l0 ^^^ (-1 : Int32))) = 0 then f_X9_within_25  (f_X9_within_4 n) l0 l3 ((1 : Int64) <<< (l3.toInt64 &&& 63)) l1 else f_X9_within_25  (f_X9_within_4 n) l0 l3 (0 : Int64) l1
set_option maxHeartbeats 4000000 in
set_option maxRecDepth 100000 in
theorem k_X9_within_4 {p : Program} {l : Launch} {e : Env} {s : State} {m : MethodId} {args : Array Value} {below : List Frame} {meth : Method} {c : Code} {A : Nat → Prop} {D : va_G} {cI cJ : ClassId}   (C0 : Cx p s m args meth c cX9_within wsX9_within RX9 4 (some .long)) (hK : va_K D vwCl (tyL cI cJ) s) (hA : ∀ q, s.heap.size ≤ q → A q) (hX : XT none A s s.heap) {Rr : Int64} (n : Nat) : ∀ (l0 : Int32) (l1 : Int64) (l3 : Int32)  (H : Heap) (locs : List Loc) (ls : Array Slot), St D A s (w_X9_within cI cJ) H locs → lv_has ls 4 [(0, .int l0), (1, .long l1), (3, .int l3)] → f_X9_within_4 n l0 l1 l3 = some Rr → W p l e rm_X9_within s m args below meth c H locs 0 0 (MQ below (QL D cI cJ A (w_X9_within cI cJ) Rr) args s 0 0 A) (F0 m 4 ls []) := by
  have hx := C0.1.1
  have hb := C0.1.2.1
  induction n with
  | zero => intro l0 l1 l3 H locs ls hSt hl hf; exact nomatch (show (none : Option _) = some Rr from hf)
  | succ n ih =>
    intro l0 l1 l3 H locs ls hSt hl hf
    unfold f_X9_within_4 at hf
    refine lv_iload_n hx hb dX9_within_4 rfl (lv_at hl 2 rfl) ?_
    refine lv_iload_n hx hb dX9_within_5 rfl (lv_at hl 0 rfl) ?_
    refine lv_icmp_gt (tgt := 33) hx hb dX9_within_6 (by decide) (fun cc => ?_) (fun cc => ?_)
    · have hf := ite_t hf cc
      refine lv_lload_n hx hb dX9_within_33 rfl (lv_at hl 1 rfl) ?_
      cases hf
      exact hb_lret C0 hK hSt dX9_within_34
    · have hf := ite_f hf cc
      refine lv_lload_n hx hb dX9_within_9 rfl (lv_at hl 1 rfl) ?_
      refine lv_iload_n hx hb dX9_within_10 rfl (lv_at hl 2 rfl) ?_
      refine lv_iload_n hx hb dX9_within_11 rfl (lv_at hl 0 rfl) ?_
      refine lv_iconst (v := -1) hx hb dX9_within_12 (by decide) ?_
      refine lv_ixor hx hb dX9_within_13 ?_
      refine lv_iand hx hb dX9_within_14 ?_
      refine lv_if_ne (tgt := 24) hx hb dX9_within_15 (by decide) (fun cc => ?_) (fun cc => ?_)
      · have hf := ite_f hf cc
        refine lv_lconst (v := 0) hx hb dX9_within_24 (by decide) ?_
        exact k_X9_within_25 C0 hK hA hX ih l0 l3 (0 : Int64) l1 _ _ _ hSt (lv_sub hl [0, 2] rfl) hf
      · have hf := ite_t hf cc
        refine lv_lconst (v := 1) hx hb dX9_within_18 (by decide) ?_
        refine lv_iload_n hx hb dX9_within_19 rfl (lv_at hl 2 rfl) ?_
        refine lv_lshl (v := (1 : Int64) <<< (l3.toInt64 &&& 63)) hx hb dX9_within_20 rfl ?_
        refine lv_goto (tgt := 25) hx hb dX9_within_21 (by decide) ?_
        exact k_X9_within_25 C0 hK hA hX ih l0 l3 ((1 : Int64) <<< (l3.toInt64 &&& 63)) l1 _ _ _ hSt (lv_sub hl [0, 2] rfl) hf
def f_X9_within_0   (l0 : Int32)  : Option (Int64) := f_X9_within_4   FU l0 (0 : Int64) (0 : Int32)
set_option maxHeartbeats 4000000 in
set_option maxRecDepth 100000 in
theorem k_X9_within_0 {p : Program} {l : Launch} {e : Env} {s : State} {m : MethodId} {args : Array Value} {below : List Frame} {meth : Method} {c : Code} {A : Nat → Prop} {D : va_G} {cI cJ : ClassId}   (C0 : Cx p s m args meth c cX9_within wsX9_within RX9 4 (some .long)) (hK : va_K D vwCl (tyL cI cJ) s) (hA : ∀ q, s.heap.size ≤ q → A q) (hX : XT none A s s.heap) {Rr : Int64} : ∀ (l0 : Int32)  (H : Heap) (locs : List Loc) (ls : Array Slot), St D A s (w_X9_within cI cJ) H locs → lv_has ls 4 [(0, .int l0)] → f_X9_within_0 l0 = some Rr → W p l e rm_X9_within s m args below meth c H locs 0 0 (MQ below (QL D cI cJ A (w_X9_within cI cJ) Rr) args s 0 0 A) (F0 m 0 ls []) := by
  have hx := C0.1.1
  have hb := C0.1.2.1
  intro l0 H locs ls hSt hl hf
  unfold f_X9_within_0 at hf
  refine lv_lconst (v := 0) hx hb dX9_within_0 (by decide) ?_
  refine lv_lstore_n (lv' := [(1, .long (0 : Int64)), (0, .int l0)]) hx hb dX9_within_1 rfl hl (by decide) rfl (fun ls hl => ?_)
  refine lv_iconst (v := 0) hx hb dX9_within_2 (by decide) ?_
  refine lv_istore_n (lv' := [(3, .int (0 : Int32)), (1, .long (0 : Int64)), (0, .int l0)]) hx hb dX9_within_3 rfl hl (by decide) rfl (fun ls hl => ?_)
  exact k_X9_within_4 C0 hK hA hX  FU l0 (0 : Int64) (0 : Int32) _ _ _ hSt (lv_sub hl [2, 1, 0] rfl) hf
def f_X9_within  (l0 : Int32)  : Option (Int64) := f_X9_within_0 l0
set_option maxRecDepth 100000 in
theorem c_X9_within (l : Launch) (D : va_G) (cI cJ : ClassId)  (l0 : Int32)  (Rr : Int64) (hf : f_X9_within l0 = some Rr) : CtL l yX9_within wsX9_within rm_X9_within D cI cJ none [.int l0] (w_X9_within cI cJ) Rr (w_X9_within cI cJ) :=
  fun sz => BodyW.met (av := [.int l0]) (Qc := fun A => QL D cI cJ A (w_X9_within cI cJ) Rr) (by decide) rfl rfl (Nat.le_of_ble_eq_true rfl) (fun C0 hK hA hX ls hSt hl => k_X9_within_0 C0 hK hA hX l0  _ _ ls hSt hl hf) sz
/-! X9 many -/
abbrev rm_X9_many : Room := { frames := 0, cells := 0, slots := 0, locals := 0 }
abbrev w_X9_many (cI cJ : ClassId)    : va_W := []
theorem hd_X9_many : yX9_many.cls ≠ "java/lang/invoke/MethodHandle" ∧ yX9_many.cls ≠ "java/lang/invoke/VarHandle" ∧ (parseMethodDescriptor yX9_many.desc).map (fun d => d.parameters.length) = some 1 := by decide +kernel
def f_X9_many_4   : Nat → Int64 → Int32 → Int32 → Option (Int32)
  | 0, _, _, _ => none
  | n + 1, l0, l2, l3 => if (64 : Int32) ≤ l3 then some l2 else bnd (l2 + (((l0 >>> (l3.toInt64 &&& 63)) &&& (1 : Int64)).toInt32)) (fun l2_1 => (f_X9_many_4 n) l0 l2_1 (l3 + 1))
set_option maxHeartbeats 4000000 in
set_option maxRecDepth 100000 in
theorem k_X9_many_4 {p : Program} {l : Launch} {e : Env} {s : State} {m : MethodId} {args : Array Value} {below : List Frame} {meth : Method} {c : Code} {A : Nat → Prop} {D : va_G} {cI cJ : ClassId}   (C0 : Cx p s m args meth c cX9_many wsX9_many RX9 4 (some .int)) (hK : va_K D vwCl (tyL cI cJ) s) (hA : ∀ q, s.heap.size ≤ q → A q) (hX : XT none A s s.heap) {Rr : Int32} (n : Nat) : ∀ (l0 : Int64) (l2 : Int32) (l3 : Int32)  (H : Heap) (locs : List Loc) (ls : Array Slot), St D A s (w_X9_many cI cJ) H locs → lv_has ls 4 [(0, .long l0), (2, .int l2), (3, .int l3)] → f_X9_many_4 n l0 l2 l3 = some Rr → W p l e rm_X9_many s m args below meth c H locs 0 0 (MQ below (QI D cI cJ A (w_X9_many cI cJ) Rr) args s 0 0 A) (F0 m 4 ls []) := by
  have hx := C0.1.1
  have hb := C0.1.2.1
  induction n with
  | zero => intro l0 l2 l3 H locs ls hSt hl hf; exact nomatch (show (none : Option _) = some Rr from hf)
  | succ n ih =>
    intro l0 l2 l3 H locs ls hSt hl hf
    unfold f_X9_many_4 at hf
    refine lv_iload_n hx hb dX9_many_4 rfl (lv_at hl 2 rfl) ?_
    refine lv_bipush (v := 64) hx hb dX9_many_5 (by decide) ?_
    refine lv_icmp_ge (tgt := 25) hx hb dX9_many_7 (by decide) (fun cc => ?_) (fun cc => ?_)
    · have hf := ite_t hf cc
      refine lv_iload_n hx hb dX9_many_25 rfl (lv_at hl 1 rfl) ?_
      cases hf
      exact hb_iret C0 hK hSt dX9_many_26
    · have hf := ite_f hf cc
      refine lv_iload_n hx hb dX9_many_10 rfl (lv_at hl 1 rfl) ?_
      refine lv_lload_n hx hb dX9_many_11 rfl (lv_at hl 0 rfl) ?_
      refine lv_iload_n hx hb dX9_many_12 rfl (lv_at hl 2 rfl) ?_
      refine lv_lshr (v := l0 >>> (l3.toInt64 &&& 63)) hx hb dX9_many_13 rfl ?_
      refine lv_lconst (v := 1) hx hb dX9_many_14 (by decide) ?_
      refine lv_land hx hb dX9_many_15 ?_
      refine lv_l2i (v := ((l0 >>> (l3.toInt64 &&& 63)) &&& (1 : Int64)).toInt32) hx hb dX9_many_16 rfl ?_
      refine lv_iadd hx hb dX9_many_17 ?_
      refine tp_i hf (fun l2_1 hf => ?_)
      refine lv_istore_n (lv' := [(2, .int l2_1), (0, .long l0), (3, .int l3)]) hx hb dX9_many_18 rfl hl (by decide) rfl (fun ls hl => ?_)
      refine lv_iinc (v := l3 + 1) (lv' := [(3, .int (l3 + 1)), (2, .int l2_1), (0, .long l0)]) hx hb dX9_many_19 hl (k := 2) rfl rfl (by decide) rfl (fun ls hl => ?_)
      refine lv_goto (tgt := 4) hx hb dX9_many_22 (by decide) ?_
      exact ih l0 l2_1 (l3 + 1) _ _ _ hSt (lv_sub hl [2, 1, 0] rfl) hf
def f_X9_many_0   (l0 : Int64)  : Option (Int32) := f_X9_many_4   FU l0 (0 : Int32) (0 : Int32)
set_option maxHeartbeats 4000000 in
set_option maxRecDepth 100000 in
theorem k_X9_many_0 {p : Program} {l : Launch} {e : Env} {s : State} {m : MethodId} {args : Array Value} {below : List Frame} {meth : Method} {c : Code} {A : Nat → Prop} {D : va_G} {cI cJ : ClassId}   (C0 : Cx p s m args meth c cX9_many wsX9_many RX9 4 (some .int)) (hK : va_K D vwCl (tyL cI cJ) s) (hA : ∀ q, s.heap.size ≤ q → A q) (hX : XT none A s s.heap) {Rr : Int32} : ∀ (l0 : Int64)  (H : Heap) (locs : List Loc) (ls : Array Slot), St D A s (w_X9_many cI cJ) H locs → lv_has ls 4 [(0, .long l0)] → f_X9_many_0 l0 = some Rr → W p l e rm_X9_many s m args below meth c H locs 0 0 (MQ below (QI D cI cJ A (w_X9_many cI cJ) Rr) args s 0 0 A) (F0 m 0 ls []) := by
  have hx := C0.1.1
  have hb := C0.1.2.1
  intro l0 H locs ls hSt hl hf
  unfold f_X9_many_0 at hf
  refine lv_iconst (v := 0) hx hb dX9_many_0 (by decide) ?_
  refine lv_istore_n (lv' := [(2, .int (0 : Int32)), (0, .long l0)]) hx hb dX9_many_1 rfl hl (by decide) rfl (fun ls hl => ?_)
  refine lv_iconst (v := 0) hx hb dX9_many_2 (by decide) ?_
  refine lv_istore_n (lv' := [(3, .int (0 : Int32)), (2, .int (0 : Int32)), (0, .long l0)]) hx hb dX9_many_3 rfl hl (by decide) rfl (fun ls hl => ?_)
  exact k_X9_many_4 C0 hK hA hX  FU l0 (0 : Int32) (0 : Int32) _ _ _ hSt (lv_sub hl [2, 1, 0] rfl) hf
def f_X9_many  (l0 : Int64)  : Option (Int32) := f_X9_many_0 l0
set_option maxRecDepth 100000 in
theorem c_X9_many (l : Launch) (D : va_G) (cI cJ : ClassId)  (l0 : Int64)  (Rr : Int32) (hf : f_X9_many l0 = some Rr) : CtI l yX9_many wsX9_many rm_X9_many D cI cJ none [.long l0] (w_X9_many cI cJ) Rr (w_X9_many cI cJ) :=
  fun sz => BodyW.met (av := [.long l0]) (Qc := fun A => QI D cI cJ A (w_X9_many cI cJ) Rr) (by decide) rfl rfl (Nat.le_of_ble_eq_true rfl) (fun C0 hK hA hX ls hSt hl => k_X9_many_0 C0 hK hA hX l0  _ _ ls hSt hl hf) sz
/-! X9 face -/
abbrev rm_X9_face : Room := { frames := 2, cells := 0, slots := 0, locals := 44 }
abbrev w_X9_face (cI cJ : ClassId) (h : Nat) (h_pointsHad : Nat) (h_facesHad : Nat) (g5 : Value) (g6 : Value) (g7 : Value) (g8 : Value) (g9 : Value) (g10 : Value) (g11 : Value) (g12 : Value) (g13 : Value) (g14 : Value) (g15 : Value) (g16 : Value) (g17 : Value) (g18 : Value) (g19 : Value) (g20 : Value) (g21 : Value) (g22 : Value) (g23 : Value) (g24 : Value) (g25 : Value) (g26 : Value) (v_points : Int32) (v_faces : Int64) (v_kept : Int32) (v_pointsHad : Nat → Int32) (v_facesHad : Nat → Int64) : va_W := [(h, .inr (8, [.int v_points, .long v_faces, .int v_kept, .ref h_pointsHad, .ref h_facesHad, g5, g6, g7, g8, g9, g10, g11, g12, g13, g14, g15, g16, g17, g18, g19, g20, g21, g22, g23, g24, g25, g26])), (h_pointsHad, .inl (cI, 8, .inl v_pointsHad)), (h_facesHad, .inl (cJ, 8, .inr (.inl v_facesHad)))]
theorem iu_X9_face_X9 : ∀ w ∈ wsX90, w ∈ wsX9_face := by decide +kernel
theorem fl_X9_face_7 : Cond.fieldLink RX9 7 (TX9 0).1 (TX9 0).2.1 (TX9 0).2.2.1 ∈ wsX9_face := by decide +kernel
theorem fl_X9_face_13 : Cond.fieldLink RX9 13 (TX9 1).1 (TX9 1).2.1 (TX9 1).2.2.1 ∈ wsX9_face := by decide +kernel
theorem hd_X9_face : yX9_face.cls = RX9 ∧ yX9_face.cls ≠ "java/lang/invoke/MethodHandle" ∧ yX9_face.cls ≠ "java/lang/invoke/VarHandle" ∧ (parseMethodDescriptor yX9_face.desc).map (fun d => d.parameters.length) = some 1 := by decide +kernel
def f_X9_face_0   (l1 : Int32) (v_points : Int32) (v_faces : Int64) (v_kept : Int32) (v_pointsHad : Nat → Int32) (v_facesHad : Nat → Int64) : Option (Int32 × Int32 × Int64 × Int32 × (Nat → Int32) × (Nat → Int64)) := (f_X9_isSet v_points l1).bind (fun R1 => if R1 = 0 then some ((-1 : Int32), v_points, v_faces, v_kept, v_pointsHad, v_facesHad) else (f_X9_many v_faces).bind (fun R2 => (f_X9_within l1).bind (fun R3 => (f_X9_becomes v_points (v_faces ||| R3) v_points v_faces v_kept v_pointsHad v_facesHad).bind (fun R4 => (f_X9_many R4.2.1).bind (fun R5 => some (R5 - R2, R4.1, R4.2.1, R4.2.2.1, R4.2.2.2.1, R4.2.2.2.2))))))
set_option maxHeartbeats 4000000 in
set_option maxRecDepth 100000 in
theorem k_X9_face_0 {p : Program} {l : Launch} {e : Env} {s : State} {m : MethodId} {args : Array Value} {below : List Frame} {meth : Method} {c : Code} {A : Nat → Prop} {D : va_G} {cI cJ : ClassId} {h h_pointsHad h_facesHad : Nat} {g5 g6 g7 g8 g9 g10 g11 g12 g13 g14 g15 g16 g17 g18 g19 g20 g21 g22 g23 g24 g25 g26 : Value}  (C0 : Cx p s m args meth c cX9_face wsX9_face RX9 3 (some .int)) (hK : va_K D vwCl (tyL cI cJ) s) (hA : ∀ q, s.heap.size ≤ q → A q) (hX : XT none A s s.heap) {Rr : Int32 × Int32 × Int64 × Int32 × (Nat → Int32) × (Nat → Int64)} : ∀ (l1 : Int32) (v_points : Int32) (v_faces : Int64) (v_kept : Int32) (v_pointsHad : Nat → Int32) (v_facesHad : Nat → Int64) (H : Heap) (locs : List Loc) (ls : Array Slot), St D A s (w_X9_face cI cJ h h_pointsHad h_facesHad g5 g6 g7 g8 g9 g10 g11 g12 g13 g14 g15 g16 g17 g18 g19 g20 g21 g22 g23 g24 g25 g26 v_points v_faces v_kept v_pointsHad v_facesHad) H locs → lv_has ls 3 [(0, .ref h), (1, .int l1)] → f_X9_face_0 l1 v_points v_faces v_kept v_pointsHad v_facesHad = some Rr → W p l e rm_X9_face s m args below meth c H locs 0 0 (MQ below (QI D cI cJ A (w_X9_face cI cJ h h_pointsHad h_facesHad g5 g6 g7 g8 g9 g10 g11 g12 g13 g14 g15 g16 g17 g18 g19 g20 g21 g22 g23 g24 g25 g26 Rr.2.1 Rr.2.2.1 Rr.2.2.2.1 Rr.2.2.2.2.1 Rr.2.2.2.2.2) Rr.1) args s 0 0 A) (F0 m 0 ls []) := by
  have hx := C0.1.1
  have hb := C0.1.2.1
  intro l1 v_points v_faces v_kept v_pointsHad v_facesHad H locs ls hSt hl hf
  unfold f_X9_face_0 at hf
  refine lv_aload_n hx hb dX9_face_0 rfl (lv_at hl 0 rfl) ?_
  refine lv_iload_n hx hb dX9_face_1 rfl (lv_at hl 1 rfl) ?_
  obtain ⟨R1, hR1, hf⟩ := Option.bind_eq_some_iff.mp hf
  have sp : Sp (w_X9_face cI cJ h h_pointsHad h_facesHad g5 g6 g7 g8 g9 g10 g11 g12 g13 g14 g15 g16 g17 g18 g19 g20 g21 g22 g23 g24 g25 g26 v_points v_faces v_kept v_pointsHad v_facesHad) (w_X9_isSet cI cJ h (.long v_faces) (.int v_kept) (.ref h_pointsHad) (.ref h_facesHad) g5 g6 g7 g8 g9 g10 g11 g12 g13 g14 g15 g16 g17 g18 g19 g20 g21 g22 g23 g24 g25 g26 v_points) (w_X9_isSet cI cJ h (.long v_faces) (.int v_kept) (.ref h_pointsHad) (.ref h_facesHad) g5 g6 g7 g8 g9 g10 g11 g12 g13 g14 g15 g16 g17 g18 g19 g20 g21 g22 g23 g24 g25 g26 v_points) (w_X9_face cI cJ h h_pointsHad h_facesHad g5 g6 g7 g8 g9 g10 g11 g12 g13 g14 g15 g16 g17 g18 g19 g20 g21 g22 g23 g24 g25 g26 v_points v_faces v_kept v_pointsHad v_facesHad) [0] [1, 2] [2, 0, 1] := ⟨rfl, rfl, rfl, by decide, by decide, by decide, by decide⟩
  refine hb_ci (hb_rV (As := [.int l1]) (rest := []) C0 hK hA XT.nn hSt sp (c_X9_isSet l D cI cJ h (.long v_faces) (.int v_kept) (.ref h_pointsHad) (.ref h_facesHad) g5 g6 g7 g8 g9 g10 g11 g12 g13 g14 g15 g16 g17 g18 g19 g20 g21 g22 g23 g24 g25 g26  l1 v_points R1 hR1) gX9_face_X9_isSet rfl ⟨rfl, rfl⟩ hd_X9_isSet ⟨Nat.le_of_ble_eq_true rfl, Nat.le_of_ble_eq_true rfl⟩ 0 8 rfl rfl rfl hl rfl (Nat.le_of_ble_eq_true rfl) dX9_face_2 ⟨Nat.zero_le _, Nat.zero_le _⟩) hA hSt sp (fun H locs hSt => ?_)
  refine lv_if_ne (tgt := 10) hx hb dX9_face_5 (by decide) (fun cc => ?_) (fun cc => ?_)
  · have hf := ite_f hf cc
    refine lv_aload_n hx hb dX9_face_10 rfl (lv_at hl 0 rfl) ?_
    refine hb_get C0 hK hSt 0 8 1 rfl rfl iu_X9_face_X9 (by decide) fl_X9_face_13 rfl dX9_face_11 ?_
    obtain ⟨R2, hR2, hf⟩ := Option.bind_eq_some_iff.mp hf
    have sp : Sp (w_X9_face cI cJ h h_pointsHad h_facesHad g5 g6 g7 g8 g9 g10 g11 g12 g13 g14 g15 g16 g17 g18 g19 g20 g21 g22 g23 g24 g25 g26 v_points v_faces v_kept v_pointsHad v_facesHad) (w_X9_many cI cJ) (w_X9_many cI cJ) (w_X9_face cI cJ h h_pointsHad h_facesHad g5 g6 g7 g8 g9 g10 g11 g12 g13 g14 g15 g16 g17 g18 g19 g20 g21 g22 g23 g24 g25 g26 v_points v_faces v_kept v_pointsHad v_facesHad) [] [0, 1, 2] [0, 1, 2] := ⟨rfl, rfl, rfl, by decide, by decide, by decide, by decide⟩
    refine hb_ci (hb_rS (As := [.long v_faces]) (rest := []) C0 hK hA XT.nn hSt sp (c_X9_many l D cI cJ   v_faces  R2 hR2) gX9_face_X9_many rfl ⟨rfl, rfl⟩ hd_X9_many ⟨Nat.le_of_ble_eq_true rfl, Nat.le_of_ble_eq_true rfl⟩ rfl hl rfl (Nat.le_of_ble_eq_true rfl) dX9_face_14 ⟨Nat.zero_le _, Nat.zero_le _⟩) hA hSt sp (fun H locs hSt => ?_)
    refine lv_istore_n (lv' := [(2, .int R2), (0, .ref h), (1, .int l1)]) hx hb dX9_face_17 rfl hl (by decide) rfl (fun ls hl => ?_)
    refine lv_aload_n hx hb dX9_face_18 rfl (lv_at hl 1 rfl) ?_
    refine lv_aload_n hx hb dX9_face_19 rfl (lv_at hl 1 rfl) ?_
    refine hb_get C0 hK hSt 0 8 0 rfl rfl iu_X9_face_X9 (by decide) fl_X9_face_7 rfl dX9_face_20 ?_
    refine lv_aload_n hx hb dX9_face_23 rfl (lv_at hl 1 rfl) ?_
    refine hb_get C0 hK hSt 0 8 1 rfl rfl iu_X9_face_X9 (by decide) fl_X9_face_13 rfl dX9_face_24 ?_
    refine lv_iload_n hx hb dX9_face_27 rfl (lv_at hl 2 rfl) ?_
    obtain ⟨R3, hR3, hf⟩ := Option.bind_eq_some_iff.mp hf
    have sp : Sp (w_X9_face cI cJ h h_pointsHad h_facesHad g5 g6 g7 g8 g9 g10 g11 g12 g13 g14 g15 g16 g17 g18 g19 g20 g21 g22 g23 g24 g25 g26 v_points v_faces v_kept v_pointsHad v_facesHad) (w_X9_within cI cJ) (w_X9_within cI cJ) (w_X9_face cI cJ h h_pointsHad h_facesHad g5 g6 g7 g8 g9 g10 g11 g12 g13 g14 g15 g16 g17 g18 g19 g20 g21 g22 g23 g24 g25 g26 v_points v_faces v_kept v_pointsHad v_facesHad) [] [0, 1, 2] [0, 1, 2] := ⟨rfl, rfl, rfl, by decide, by decide, by decide, by decide⟩
    refine hb_cl (hb_rS (As := [.int l1]) (rest := [.long v_faces, .int v_points, .ref h]) C0 hK hA XT.nn hSt sp (c_X9_within l D cI cJ   l1  R3 hR3) gX9_face_X9_within rfl ⟨rfl, rfl⟩ hd_X9_within ⟨Nat.le_of_ble_eq_true rfl, Nat.le_of_ble_eq_true rfl⟩ rfl hl rfl (Nat.le_of_ble_eq_true rfl) dX9_face_28 ⟨Nat.zero_le _, Nat.zero_le _⟩) hA hSt sp (fun H locs hSt => ?_)
    refine lv_lor hx hb dX9_face_31 ?_
    obtain ⟨R4, hR4, hf⟩ := Option.bind_eq_some_iff.mp hf
    have sp : Sp (w_X9_face cI cJ h h_pointsHad h_facesHad g5 g6 g7 g8 g9 g10 g11 g12 g13 g14 g15 g16 g17 g18 g19 g20 g21 g22 g23 g24 g25 g26 v_points v_faces v_kept v_pointsHad v_facesHad) (w_X9_becomes cI cJ h h_pointsHad h_facesHad g5 g6 g7 g8 g9 g10 g11 g12 g13 g14 g15 g16 g17 g18 g19 g20 g21 g22 g23 g24 g25 g26 v_points v_faces v_kept v_pointsHad v_facesHad) (w_X9_becomes cI cJ h h_pointsHad h_facesHad g5 g6 g7 g8 g9 g10 g11 g12 g13 g14 g15 g16 g17 g18 g19 g20 g21 g22 g23 g24 g25 g26 R4.1 R4.2.1 R4.2.2.1 R4.2.2.2.1 R4.2.2.2.2) (w_X9_face cI cJ h h_pointsHad h_facesHad g5 g6 g7 g8 g9 g10 g11 g12 g13 g14 g15 g16 g17 g18 g19 g20 g21 g22 g23 g24 g25 g26 R4.1 R4.2.1 R4.2.2.1 R4.2.2.2.1 R4.2.2.2.2) [0, 1, 2] [] [0, 1, 2] := ⟨rfl, rfl, rfl, by decide, by decide, by decide, by decide⟩
    refine hb_cv (hb_rV (As := [.int v_points, .long (v_faces ||| R3)]) (rest := []) C0 hK hA XT.nn hSt sp (c_X9_becomes l D cI cJ h h_pointsHad h_facesHad g5 g6 g7 g8 g9 g10 g11 g12 g13 g14 g15 g16 g17 g18 g19 g20 g21 g22 g23 g24 g25 g26  v_points (v_faces ||| R3) v_points v_faces v_kept v_pointsHad v_facesHad R4 hR4) gX9_face_X9_becomes rfl ⟨rfl, rfl⟩ hd_X9_becomes ⟨Nat.le_of_ble_eq_true rfl, Nat.le_of_ble_eq_true rfl⟩ 0 8 rfl rfl rfl hl rfl (Nat.le_of_ble_eq_true rfl) dX9_face_32 ⟨Nat.zero_le _, Nat.zero_le _⟩) hA hSt sp (fun H locs hSt => ?_)
    refine lv_aload_n hx hb dX9_face_35 rfl (lv_at hl 1 rfl) ?_
    refine hb_get C0 hK hSt 0 8 1 rfl rfl iu_X9_face_X9 (by decide) fl_X9_face_13 rfl dX9_face_36 ?_
    obtain ⟨R5, hR5, hf⟩ := Option.bind_eq_some_iff.mp hf
    have sp : Sp (w_X9_face cI cJ h h_pointsHad h_facesHad g5 g6 g7 g8 g9 g10 g11 g12 g13 g14 g15 g16 g17 g18 g19 g20 g21 g22 g23 g24 g25 g26 R4.1 R4.2.1 R4.2.2.1 R4.2.2.2.1 R4.2.2.2.2) (w_X9_many cI cJ) (w_X9_many cI cJ) (w_X9_face cI cJ h h_pointsHad h_facesHad g5 g6 g7 g8 g9 g10 g11 g12 g13 g14 g15 g16 g17 g18 g19 g20 g21 g22 g23 g24 g25 g26 R4.1 R4.2.1 R4.2.2.1 R4.2.2.2.1 R4.2.2.2.2) [] [0, 1, 2] [0, 1, 2] := ⟨rfl, rfl, rfl, by decide, by decide, by decide, by decide⟩
    refine hb_ci (hb_rS (As := [.long R4.2.1]) (rest := []) C0 hK hA XT.nn hSt sp (c_X9_many l D cI cJ   R4.2.1  R5 hR5) gX9_face_X9_many rfl ⟨rfl, rfl⟩ hd_X9_many ⟨Nat.le_of_ble_eq_true rfl, Nat.le_of_ble_eq_true rfl⟩ rfl hl rfl (Nat.le_of_ble_eq_true rfl) dX9_face_39 ⟨Nat.zero_le _, Nat.zero_le _⟩) hA hSt sp (fun H locs hSt => ?_)
    refine lv_iload_n hx hb dX9_face_42 rfl (lv_at hl 0 rfl) ?_
    refine lv_isub hx hb dX9_face_43 ?_
    cases hf
    exact hb_iret C0 hK hSt dX9_face_44
  · have hf := ite_t hf cc
    refine lv_iconst (v := -1) hx hb dX9_face_8 (by decide) ?_
    cases hf
    exact hb_iret C0 hK hSt dX9_face_9
def f_X9_face  (l1 : Int32) (v_points : Int32) (v_faces : Int64) (v_kept : Int32) (v_pointsHad : Nat → Int32) (v_facesHad : Nat → Int64) : Option (Int32 × Int32 × Int64 × Int32 × (Nat → Int32) × (Nat → Int64)) := f_X9_face_0 l1 v_points v_faces v_kept v_pointsHad v_facesHad
set_option maxRecDepth 100000 in
theorem c_X9_face (l : Launch) (D : va_G) (cI cJ : ClassId) (h h_pointsHad h_facesHad : Nat) (g5 g6 g7 g8 g9 g10 g11 g12 g13 g14 g15 g16 g17 g18 g19 g20 g21 g22 g23 g24 g25 g26 : Value) (l1 : Int32) (v_points : Int32) (v_faces : Int64) (v_kept : Int32) (v_pointsHad : Nat → Int32) (v_facesHad : Nat → Int64) (Rr : Int32 × Int32 × Int64 × Int32 × (Nat → Int32) × (Nat → Int64)) (hf : f_X9_face l1 v_points v_faces v_kept v_pointsHad v_facesHad = some Rr) : CtI l yX9_face wsX9_face rm_X9_face D cI cJ none [.ref h, .int l1] (w_X9_face cI cJ h h_pointsHad h_facesHad g5 g6 g7 g8 g9 g10 g11 g12 g13 g14 g15 g16 g17 g18 g19 g20 g21 g22 g23 g24 g25 g26 v_points v_faces v_kept v_pointsHad v_facesHad) Rr.1 (w_X9_face cI cJ h h_pointsHad h_facesHad g5 g6 g7 g8 g9 g10 g11 g12 g13 g14 g15 g16 g17 g18 g19 g20 g21 g22 g23 g24 g25 g26 Rr.2.1 Rr.2.2.1 Rr.2.2.2.1 Rr.2.2.2.2.1 Rr.2.2.2.2.2) :=
  fun sz => BodyW.met (av := [.ref h, .int l1]) (Qc := fun A => QI D cI cJ A (w_X9_face cI cJ h h_pointsHad h_facesHad g5 g6 g7 g8 g9 g10 g11 g12 g13 g14 g15 g16 g17 g18 g19 g20 g21 g22 g23 g24 g25 g26 Rr.2.1 Rr.2.2.1 Rr.2.2.2.1 Rr.2.2.2.2.1 Rr.2.2.2.2.2) Rr.1) (by decide) rfl rfl (Nat.le_of_ble_eq_true rfl) (fun C0 hK hA hX ls hSt hl => k_X9_face_0 C0 hK hA hX l1 v_points v_faces v_kept v_pointsHad v_facesHad _ _ ls hSt hl hf) sz
/-! X9 cut -/
abbrev rm_X9_cut : Room := { frames := 2, cells := 0, slots := 0, locals := 44 }
abbrev w_X9_cut (cI cJ : ClassId) (h : Nat) (h_pointsHad : Nat) (h_facesHad : Nat) (g5 : Value) (g6 : Value) (g7 : Value) (g8 : Value) (g9 : Value) (g10 : Value) (g11 : Value) (g12 : Value) (g13 : Value) (g14 : Value) (g15 : Value) (g16 : Value) (g17 : Value) (g18 : Value) (g19 : Value) (g20 : Value) (g21 : Value) (g22 : Value) (g23 : Value) (g24 : Value) (g25 : Value) (g26 : Value) (v_points : Int32) (v_faces : Int64) (v_kept : Int32) (v_pointsHad : Nat → Int32) (v_facesHad : Nat → Int64) : va_W := [(h, .inr (8, [.int v_points, .long v_faces, .int v_kept, .ref h_pointsHad, .ref h_facesHad, g5, g6, g7, g8, g9, g10, g11, g12, g13, g14, g15, g16, g17, g18, g19, g20, g21, g22, g23, g24, g25, g26])), (h_pointsHad, .inl (cI, 8, .inl v_pointsHad)), (h_facesHad, .inl (cJ, 8, .inr (.inl v_facesHad)))]
theorem iu_X9_cut_X9 : ∀ w ∈ wsX90, w ∈ wsX9_cut := by decide +kernel
theorem fl_X9_cut_7 : Cond.fieldLink RX9 7 (TX9 0).1 (TX9 0).2.1 (TX9 0).2.2.1 ∈ wsX9_cut := by decide +kernel
theorem fl_X9_cut_13 : Cond.fieldLink RX9 13 (TX9 1).1 (TX9 1).2.1 (TX9 1).2.2.1 ∈ wsX9_cut := by decide +kernel
theorem kl_X9_cut_88 : Cond.constantLong RX9 88 (-1) ∈ wsX9_cut := by decide +kernel
theorem hd_X9_cut : yX9_cut.cls = RX9 ∧ yX9_cut.cls ≠ "java/lang/invoke/MethodHandle" ∧ yX9_cut.cls ≠ "java/lang/invoke/VarHandle" ∧ (parseMethodDescriptor yX9_cut.desc).map (fun d => d.parameters.length) = some 1 := by decide +kernel
def f_X9_cut_38   : Nat → Int32 → Int32 → Int64 → Int32 → (Int32) → (Int64) → (Int32) → (Nat → Int32) → (Nat → Int64) → Option (Int32 × Int32 × Int64 × Int32 × (Nat → Int32) × (Nat → Int64))
  | 0, _, _, _, _, _, _, _, _, _ => none
  | n + 1, l1, l2, l3, l5, v_points, v_faces, v_kept, v_pointsHad, v_facesHad => (f_X9_all v_points).bind (fun R1 => if R1 < l5 then (f_X9_becomes v_points l3 v_points v_faces v_kept v_pointsHad v_facesHad).bind (fun R2 => (f_X9_many l3).bind (fun R3 => some (l2 - R3, R2.1, R2.2.1, R2.2.2.1, R2.2.2.2.1, R2.2.2.2.2))) else if (l5 &&& l1) = l1 then bnd (l3 &&& (((1 : Int64) <<< (l5.toInt64 &&& 63)) ^^^ (-1 : Int64))) (fun l3_4 => (f_X9_cut_38 n) l1 l2 l3_4 (l5 + 1) v_points v_faces v_kept v_pointsHad v_facesHad) else (f_X9_cut_38 n) l1 l2 l3 (l5 + 1) v_points v_faces v_kept v_pointsHad v_facesHad)
set_option maxHeartbeats 4000000 in
set_option maxRecDepth 100000 in
theorem k_X9_cut_38 {p : Program} {l : Launch} {e : Env} {s : State} {m : MethodId} {args : Array Value} {below : List Frame} {meth : Method} {c : Code} {A : Nat → Prop} {D : va_G} {cI cJ : ClassId} {h h_pointsHad h_facesHad : Nat} {g5 g6 g7 g8 g9 g10 g11 g12 g13 g14 g15 g16 g17 g18 g19 g20 g21 g22 g23 g24 g25 g26 : Value}  (C0 : Cx p s m args meth c cX9_cut wsX9_cut RX9 6 (some .int)) (hK : va_K D vwCl (tyL cI cJ) s) (hA : ∀ q, s.heap.size ≤ q → A q) (hX : XT none A s s.heap) {Rr : Int32 × Int32 × Int64 × Int32 × (Nat → Int32) × (Nat → Int64)} (n : Nat) : ∀ (l1 : Int32) (l2 : Int32) (l3 : Int64) (l5 : Int32) (v_points : Int32) (v_faces : Int64) (v_kept : Int32) (v_pointsHad : Nat → Int32) (v_facesHad : Nat → Int64) (H : Heap) (locs : List Loc) (ls : Array Slot), St D A s (w_X9_cut cI cJ h h_pointsHad h_facesHad g5 g6 g7 g8 g9 g10 g11 g12 g13 g14 g15 g16 g17 g18 g19 g20 g21 g22 g23 g24 g25 g26 v_points v_faces v_kept v_pointsHad v_facesHad) H locs → lv_has ls 6 [(0, .ref h), (1, .int l1), (2, .int l2), (3, .long l3), (5, .int l5)] → f_X9_cut_38 n l1 l2 l3 l5 v_points v_faces v_kept v_pointsHad v_facesHad = some Rr → W p l e rm_X9_cut s m args below meth c H locs 0 0 (MQ below (QI D cI cJ A (w_X9_cut cI cJ h h_pointsHad h_facesHad g5 g6 g7 g8 g9 g10 g11 g12 g13 g14 g15 g16 g17 g18 g19 g20 g21 g22 g23 g24 g25 g26 Rr.2.1 Rr.2.2.1 Rr.2.2.2.1 Rr.2.2.2.2.1 Rr.2.2.2.2.2) Rr.1) args s 0 0 A) (F0 m 38 ls []) := by
  have hx := C0.1.1
  have hb := C0.1.2.1
  induction n with
  | zero => intro l1 l2 l3 l5 v_points v_faces v_kept v_pointsHad v_facesHad H locs ls hSt hl hf; exact nomatch (show (none : Option _) = some Rr from hf)
  | succ n ih =>
    intro l1 l2 l3 l5 v_points v_faces v_kept v_pointsHad v_facesHad H locs ls hSt hl hf
    unfold f_X9_cut_38 at hf
    refine lv_iload hx hb dX9_cut_38 (lv_at hl 4 rfl) ?_
    refine lv_aload_n hx hb dX9_cut_40 rfl (lv_at hl 0 rfl) ?_
    obtain ⟨R1, hR1, hf⟩ := Option.bind_eq_some_iff.mp hf
    have sp : Sp (w_X9_cut cI cJ h h_pointsHad h_facesHad g5 g6 g7 g8 g9 g10 g11 g12 g13 g14 g15 g16 g17 g18 g19 g20 g21 g22 g23 g24 g25 g26 v_points v_faces v_kept v_pointsHad v_facesHad) (w_X9_all cI cJ h (.long v_faces) (.int v_kept) (.ref h_pointsHad) (.ref h_facesHad) g5 g6 g7 g8 g9 g10 g11 g12 g13 g14 g15 g16 g17 g18 g19 g20 g21 g22 g23 g24 g25 g26 v_points) (w_X9_all cI cJ h (.long v_faces) (.int v_kept) (.ref h_pointsHad) (.ref h_facesHad) g5 g6 g7 g8 g9 g10 g11 g12 g13 g14 g15 g16 g17 g18 g19 g20 g21 g22 g23 g24 g25 g26 v_points) (w_X9_cut cI cJ h h_pointsHad h_facesHad g5 g6 g7 g8 g9 g10 g11 g12 g13 g14 g15 g16 g17 g18 g19 g20 g21 g22 g23 g24 g25 g26 v_points v_faces v_kept v_pointsHad v_facesHad) [0] [1, 2] [2, 0, 1] := ⟨rfl, rfl, rfl, by decide, by decide, by decide, by decide⟩
    refine hb_ci (hb_rV (As := []) (rest := [.int l5]) C0 hK hA XT.nn hSt sp (c_X9_all l D cI cJ h (.long v_faces) (.int v_kept) (.ref h_pointsHad) (.ref h_facesHad) g5 g6 g7 g8 g9 g10 g11 g12 g13 g14 g15 g16 g17 g18 g19 g20 g21 g22 g23 g24 g25 g26   v_points R1 hR1) gX9_cut_X9_all rfl ⟨rfl, rfl⟩ hd_X9_all ⟨Nat.le_of_ble_eq_true rfl, Nat.le_of_ble_eq_true rfl⟩ 0 8 rfl rfl rfl hl rfl (Nat.le_of_ble_eq_true rfl) dX9_cut_41 ⟨Nat.zero_le _, Nat.zero_le _⟩) hA hSt sp (fun H locs hSt => ?_)
    refine lv_icmp_gt (tgt := 72) hx hb dX9_cut_44 (by decide) (fun cc => ?_) (fun cc => ?_)
    · have hf := ite_t hf cc
      refine lv_aload_n hx hb dX9_cut_72 rfl (lv_at hl 0 rfl) ?_
      refine lv_aload_n hx hb dX9_cut_73 rfl (lv_at hl 0 rfl) ?_
      refine hb_get C0 hK hSt 0 8 0 rfl rfl iu_X9_cut_X9 (by decide) fl_X9_cut_7 rfl dX9_cut_74 ?_
      refine lv_lload_n hx hb dX9_cut_77 rfl (lv_at hl 3 rfl) ?_
      obtain ⟨R2, hR2, hf⟩ := Option.bind_eq_some_iff.mp hf
      have sp : Sp (w_X9_cut cI cJ h h_pointsHad h_facesHad g5 g6 g7 g8 g9 g10 g11 g12 g13 g14 g15 g16 g17 g18 g19 g20 g21 g22 g23 g24 g25 g26 v_points v_faces v_kept v_pointsHad v_facesHad) (w_X9_becomes cI cJ h h_pointsHad h_facesHad g5 g6 g7 g8 g9 g10 g11 g12 g13 g14 g15 g16 g17 g18 g19 g20 g21 g22 g23 g24 g25 g26 v_points v_faces v_kept v_pointsHad v_facesHad) (w_X9_becomes cI cJ h h_pointsHad h_facesHad g5 g6 g7 g8 g9 g10 g11 g12 g13 g14 g15 g16 g17 g18 g19 g20 g21 g22 g23 g24 g25 g26 R2.1 R2.2.1 R2.2.2.1 R2.2.2.2.1 R2.2.2.2.2) (w_X9_cut cI cJ h h_pointsHad h_facesHad g5 g6 g7 g8 g9 g10 g11 g12 g13 g14 g15 g16 g17 g18 g19 g20 g21 g22 g23 g24 g25 g26 R2.1 R2.2.1 R2.2.2.1 R2.2.2.2.1 R2.2.2.2.2) [0, 1, 2] [] [0, 1, 2] := ⟨rfl, rfl, rfl, by decide, by decide, by decide, by decide⟩
      refine hb_cv (hb_rV (As := [.int v_points, .long l3]) (rest := []) C0 hK hA XT.nn hSt sp (c_X9_becomes l D cI cJ h h_pointsHad h_facesHad g5 g6 g7 g8 g9 g10 g11 g12 g13 g14 g15 g16 g17 g18 g19 g20 g21 g22 g23 g24 g25 g26  v_points l3 v_points v_faces v_kept v_pointsHad v_facesHad R2 hR2) gX9_cut_X9_becomes rfl ⟨rfl, rfl⟩ hd_X9_becomes ⟨Nat.le_of_ble_eq_true rfl, Nat.le_of_ble_eq_true rfl⟩ 0 8 rfl rfl rfl hl rfl (Nat.le_of_ble_eq_true rfl) dX9_cut_78 ⟨Nat.zero_le _, Nat.zero_le _⟩) hA hSt sp (fun H locs hSt => ?_)
      refine lv_iload_n hx hb dX9_cut_81 rfl (lv_at hl 2 rfl) ?_
      refine lv_lload_n hx hb dX9_cut_82 rfl (lv_at hl 3 rfl) ?_
      obtain ⟨R3, hR3, hf⟩ := Option.bind_eq_some_iff.mp hf
      have sp : Sp (w_X9_cut cI cJ h h_pointsHad h_facesHad g5 g6 g7 g8 g9 g10 g11 g12 g13 g14 g15 g16 g17 g18 g19 g20 g21 g22 g23 g24 g25 g26 R2.1 R2.2.1 R2.2.2.1 R2.2.2.2.1 R2.2.2.2.2) (w_X9_many cI cJ) (w_X9_many cI cJ) (w_X9_cut cI cJ h h_pointsHad h_facesHad g5 g6 g7 g8 g9 g10 g11 g12 g13 g14 g15 g16 g17 g18 g19 g20 g21 g22 g23 g24 g25 g26 R2.1 R2.2.1 R2.2.2.1 R2.2.2.2.1 R2.2.2.2.2) [] [0, 1, 2] [0, 1, 2] := ⟨rfl, rfl, rfl, by decide, by decide, by decide, by decide⟩
      refine hb_ci (hb_rS (As := [.long l3]) (rest := [.int l2]) C0 hK hA XT.nn hSt sp (c_X9_many l D cI cJ   l3  R3 hR3) gX9_cut_X9_many rfl ⟨rfl, rfl⟩ hd_X9_many ⟨Nat.le_of_ble_eq_true rfl, Nat.le_of_ble_eq_true rfl⟩ rfl hl rfl (Nat.le_of_ble_eq_true rfl) dX9_cut_83 ⟨Nat.zero_le _, Nat.zero_le _⟩) hA hSt sp (fun H locs hSt => ?_)
      refine lv_isub hx hb dX9_cut_86 ?_
      cases hf
      exact hb_iret C0 hK hSt dX9_cut_87
    · have hf := ite_f hf cc
      refine lv_iload hx hb dX9_cut_47 (lv_at hl 4 rfl) ?_
      refine lv_iload_n hx hb dX9_cut_49 rfl (lv_at hl 1 rfl) ?_
      refine lv_iand hx hb dX9_cut_50 ?_
      refine lv_iload_n hx hb dX9_cut_51 rfl (lv_at hl 1 rfl) ?_
      refine lv_icmp_ne (tgt := 66) hx hb dX9_cut_52 (by decide) (fun cc => ?_) (fun cc => ?_)
      · have hf := ite_f hf cc
        refine lv_iinc (v := l5 + 1) (lv' := [(5, .int (l5 + 1)), (0, .ref h), (1, .int l1), (2, .int l2), (3, .long l3)]) hx hb dX9_cut_66 hl (k := 4) rfl rfl (by decide) rfl (fun ls hl => ?_)
        refine lv_goto (tgt := 38) hx hb dX9_cut_69 (by decide) ?_
        exact ih l1 l2 l3 (l5 + 1) v_points v_faces v_kept v_pointsHad v_facesHad _ _ _ hSt (lv_sub hl [1, 2, 3, 4, 0] rfl) hf
      · have hf := ite_t hf cc
        refine lv_lload_n hx hb dX9_cut_55 rfl (lv_at hl 3 rfl) ?_
        refine lv_lconst (v := 1) hx hb dX9_cut_56 (by decide) ?_
        refine lv_iload hx hb dX9_cut_57 (lv_at hl 4 rfl) ?_
        refine lv_lshl (v := (1 : Int64) <<< (l5.toInt64 &&& 63)) hx hb dX9_cut_59 rfl ?_
        refine lv_ldc2 (v := -1) hx hb C0.1.2.2.2.1 (C0.1.2.2.2.2 _ kl_X9_cut_88) dX9_cut_60 ?_
        refine lv_lxor hx hb dX9_cut_63 ?_
        refine lv_land hx hb dX9_cut_64 ?_
        refine tp_l hf (fun l3_4 hf => ?_)
        refine lv_lstore_n (lv' := [(3, .long l3_4), (0, .ref h), (1, .int l1), (2, .int l2), (5, .int l5)]) hx hb dX9_cut_65 rfl hl (by decide) rfl (fun ls hl => ?_)
        refine lv_iinc (v := l5 + 1) (lv' := [(5, .int (l5 + 1)), (3, .long l3_4), (0, .ref h), (1, .int l1), (2, .int l2)]) hx hb dX9_cut_66 hl (k := 4) rfl rfl (by decide) rfl (fun ls hl => ?_)
        refine lv_goto (tgt := 38) hx hb dX9_cut_69 (by decide) ?_
        exact ih l1 l2 l3_4 (l5 + 1) v_points v_faces v_kept v_pointsHad v_facesHad _ _ _ hSt (lv_sub hl [2, 3, 4, 1, 0] rfl) hf
def f_X9_cut_0   (l1 : Int32) (v_points : Int32) (v_faces : Int64) (v_kept : Int32) (v_pointsHad : Nat → Int32) (v_facesHad : Nat → Int64) : Option (Int32 × Int32 × Int64 × Int32 × (Nat → Int32) × (Nat → Int64)) := (f_X9_isSet v_points l1).bind (fun R1 => if R1 = 0 then some ((-1 : Int32), v_points, v_faces, v_kept, v_pointsHad, v_facesHad) else if l1 = 0 then some ((-1 : Int32), v_points, v_faces, v_kept, v_pointsHad, v_facesHad) else (f_X9_isFace v_faces l1).bind (fun R2 => if R2 = 0 then some ((-1 : Int32), v_points, v_faces, v_kept, v_pointsHad, v_facesHad) else (f_X9_many v_faces).bind (fun R3 => f_X9_cut_38   FU l1 R3 v_faces (0 : Int32) v_points v_faces v_kept v_pointsHad v_facesHad)))
set_option maxHeartbeats 4000000 in
set_option maxRecDepth 100000 in
theorem k_X9_cut_0 {p : Program} {l : Launch} {e : Env} {s : State} {m : MethodId} {args : Array Value} {below : List Frame} {meth : Method} {c : Code} {A : Nat → Prop} {D : va_G} {cI cJ : ClassId} {h h_pointsHad h_facesHad : Nat} {g5 g6 g7 g8 g9 g10 g11 g12 g13 g14 g15 g16 g17 g18 g19 g20 g21 g22 g23 g24 g25 g26 : Value}  (C0 : Cx p s m args meth c cX9_cut wsX9_cut RX9 6 (some .int)) (hK : va_K D vwCl (tyL cI cJ) s) (hA : ∀ q, s.heap.size ≤ q → A q) (hX : XT none A s s.heap) {Rr : Int32 × Int32 × Int64 × Int32 × (Nat → Int32) × (Nat → Int64)} : ∀ (l1 : Int32) (v_points : Int32) (v_faces : Int64) (v_kept : Int32) (v_pointsHad : Nat → Int32) (v_facesHad : Nat → Int64) (H : Heap) (locs : List Loc) (ls : Array Slot), St D A s (w_X9_cut cI cJ h h_pointsHad h_facesHad g5 g6 g7 g8 g9 g10 g11 g12 g13 g14 g15 g16 g17 g18 g19 g20 g21 g22 g23 g24 g25 g26 v_points v_faces v_kept v_pointsHad v_facesHad) H locs → lv_has ls 6 [(0, .ref h), (1, .int l1)] → f_X9_cut_0 l1 v_points v_faces v_kept v_pointsHad v_facesHad = some Rr → W p l e rm_X9_cut s m args below meth c H locs 0 0 (MQ below (QI D cI cJ A (w_X9_cut cI cJ h h_pointsHad h_facesHad g5 g6 g7 g8 g9 g10 g11 g12 g13 g14 g15 g16 g17 g18 g19 g20 g21 g22 g23 g24 g25 g26 Rr.2.1 Rr.2.2.1 Rr.2.2.2.1 Rr.2.2.2.2.1 Rr.2.2.2.2.2) Rr.1) args s 0 0 A) (F0 m 0 ls []) := by
  have hx := C0.1.1
  have hb := C0.1.2.1
  intro l1 v_points v_faces v_kept v_pointsHad v_facesHad H locs ls hSt hl hf
  unfold f_X9_cut_0 at hf
  refine lv_aload_n hx hb dX9_cut_0 rfl (lv_at hl 0 rfl) ?_
  refine lv_iload_n hx hb dX9_cut_1 rfl (lv_at hl 1 rfl) ?_
  obtain ⟨R1, hR1, hf⟩ := Option.bind_eq_some_iff.mp hf
  have sp : Sp (w_X9_cut cI cJ h h_pointsHad h_facesHad g5 g6 g7 g8 g9 g10 g11 g12 g13 g14 g15 g16 g17 g18 g19 g20 g21 g22 g23 g24 g25 g26 v_points v_faces v_kept v_pointsHad v_facesHad) (w_X9_isSet cI cJ h (.long v_faces) (.int v_kept) (.ref h_pointsHad) (.ref h_facesHad) g5 g6 g7 g8 g9 g10 g11 g12 g13 g14 g15 g16 g17 g18 g19 g20 g21 g22 g23 g24 g25 g26 v_points) (w_X9_isSet cI cJ h (.long v_faces) (.int v_kept) (.ref h_pointsHad) (.ref h_facesHad) g5 g6 g7 g8 g9 g10 g11 g12 g13 g14 g15 g16 g17 g18 g19 g20 g21 g22 g23 g24 g25 g26 v_points) (w_X9_cut cI cJ h h_pointsHad h_facesHad g5 g6 g7 g8 g9 g10 g11 g12 g13 g14 g15 g16 g17 g18 g19 g20 g21 g22 g23 g24 g25 g26 v_points v_faces v_kept v_pointsHad v_facesHad) [0] [1, 2] [2, 0, 1] := ⟨rfl, rfl, rfl, by decide, by decide, by decide, by decide⟩
  refine hb_ci (hb_rV (As := [.int l1]) (rest := []) C0 hK hA XT.nn hSt sp (c_X9_isSet l D cI cJ h (.long v_faces) (.int v_kept) (.ref h_pointsHad) (.ref h_facesHad) g5 g6 g7 g8 g9 g10 g11 g12 g13 g14 g15 g16 g17 g18 g19 g20 g21 g22 g23 g24 g25 g26  l1 v_points R1 hR1) gX9_cut_X9_isSet rfl ⟨rfl, rfl⟩ hd_X9_isSet ⟨Nat.le_of_ble_eq_true rfl, Nat.le_of_ble_eq_true rfl⟩ 0 8 rfl rfl rfl hl rfl (Nat.le_of_ble_eq_true rfl) dX9_cut_2 ⟨Nat.zero_le _, Nat.zero_le _⟩) hA hSt sp (fun H locs hSt => ?_)
  refine lv_if_eq (tgt := 20) hx hb dX9_cut_5 (by decide) (fun cc => ?_) (fun cc => ?_)
  · have hf := ite_t hf cc
    refine lv_iconst (v := -1) hx hb dX9_cut_20 (by decide) ?_
    cases hf
    exact hb_iret C0 hK hSt dX9_cut_21
  · have hf := ite_f hf cc
    refine lv_iload_n hx hb dX9_cut_8 rfl (lv_at hl 1 rfl) ?_
    refine lv_if_eq (tgt := 20) hx hb dX9_cut_9 (by decide) (fun cc => ?_) (fun cc => ?_)
    · have hf := ite_t hf cc
      refine lv_iconst (v := -1) hx hb dX9_cut_20 (by decide) ?_
      cases hf
      exact hb_iret C0 hK hSt dX9_cut_21
    · have hf := ite_f hf cc
      refine lv_aload_n hx hb dX9_cut_12 rfl (lv_at hl 0 rfl) ?_
      refine lv_iload_n hx hb dX9_cut_13 rfl (lv_at hl 1 rfl) ?_
      obtain ⟨R2, hR2, hf⟩ := Option.bind_eq_some_iff.mp hf
      have sp : Sp (w_X9_cut cI cJ h h_pointsHad h_facesHad g5 g6 g7 g8 g9 g10 g11 g12 g13 g14 g15 g16 g17 g18 g19 g20 g21 g22 g23 g24 g25 g26 v_points v_faces v_kept v_pointsHad v_facesHad) (w_X9_isFace cI cJ h (.int v_points) (.int v_kept) (.ref h_pointsHad) (.ref h_facesHad) g5 g6 g7 g8 g9 g10 g11 g12 g13 g14 g15 g16 g17 g18 g19 g20 g21 g22 g23 g24 g25 g26 v_faces) (w_X9_isFace cI cJ h (.int v_points) (.int v_kept) (.ref h_pointsHad) (.ref h_facesHad) g5 g6 g7 g8 g9 g10 g11 g12 g13 g14 g15 g16 g17 g18 g19 g20 g21 g22 g23 g24 g25 g26 v_faces) (w_X9_cut cI cJ h h_pointsHad h_facesHad g5 g6 g7 g8 g9 g10 g11 g12 g13 g14 g15 g16 g17 g18 g19 g20 g21 g22 g23 g24 g25 g26 v_points v_faces v_kept v_pointsHad v_facesHad) [0] [1, 2] [2, 0, 1] := ⟨rfl, rfl, rfl, by decide, by decide, by decide, by decide⟩
      refine hb_ci (hb_rV (As := [.int l1]) (rest := []) C0 hK hA XT.nn hSt sp (c_X9_isFace l D cI cJ h (.int v_points) (.int v_kept) (.ref h_pointsHad) (.ref h_facesHad) g5 g6 g7 g8 g9 g10 g11 g12 g13 g14 g15 g16 g17 g18 g19 g20 g21 g22 g23 g24 g25 g26  l1 v_faces R2 hR2) gX9_cut_X9_isFace rfl ⟨rfl, rfl⟩ hd_X9_isFace ⟨Nat.le_of_ble_eq_true rfl, Nat.le_of_ble_eq_true rfl⟩ 0 8 rfl rfl rfl hl rfl (Nat.le_of_ble_eq_true rfl) dX9_cut_14 ⟨Nat.zero_le _, Nat.zero_le _⟩) hA hSt sp (fun H locs hSt => ?_)
      refine lv_if_ne (tgt := 22) hx hb dX9_cut_17 (by decide) (fun cc => ?_) (fun cc => ?_)
      · have hf := ite_f hf cc
        refine lv_aload_n hx hb dX9_cut_22 rfl (lv_at hl 0 rfl) ?_
        refine hb_get C0 hK hSt 0 8 1 rfl rfl iu_X9_cut_X9 (by decide) fl_X9_cut_13 rfl dX9_cut_23 ?_
        obtain ⟨R3, hR3, hf⟩ := Option.bind_eq_some_iff.mp hf
        have sp : Sp (w_X9_cut cI cJ h h_pointsHad h_facesHad g5 g6 g7 g8 g9 g10 g11 g12 g13 g14 g15 g16 g17 g18 g19 g20 g21 g22 g23 g24 g25 g26 v_points v_faces v_kept v_pointsHad v_facesHad) (w_X9_many cI cJ) (w_X9_many cI cJ) (w_X9_cut cI cJ h h_pointsHad h_facesHad g5 g6 g7 g8 g9 g10 g11 g12 g13 g14 g15 g16 g17 g18 g19 g20 g21 g22 g23 g24 g25 g26 v_points v_faces v_kept v_pointsHad v_facesHad) [] [0, 1, 2] [0, 1, 2] := ⟨rfl, rfl, rfl, by decide, by decide, by decide, by decide⟩
        refine hb_ci (hb_rS (As := [.long v_faces]) (rest := []) C0 hK hA XT.nn hSt sp (c_X9_many l D cI cJ   v_faces  R3 hR3) gX9_cut_X9_many rfl ⟨rfl, rfl⟩ hd_X9_many ⟨Nat.le_of_ble_eq_true rfl, Nat.le_of_ble_eq_true rfl⟩ rfl hl rfl (Nat.le_of_ble_eq_true rfl) dX9_cut_26 ⟨Nat.zero_le _, Nat.zero_le _⟩) hA hSt sp (fun H locs hSt => ?_)
        refine lv_istore_n (lv' := [(2, .int R3), (0, .ref h), (1, .int l1)]) hx hb dX9_cut_29 rfl hl (by decide) rfl (fun ls hl => ?_)
        refine lv_aload_n hx hb dX9_cut_30 rfl (lv_at hl 1 rfl) ?_
        refine hb_get C0 hK hSt 0 8 1 rfl rfl iu_X9_cut_X9 (by decide) fl_X9_cut_13 rfl dX9_cut_31 ?_
        refine lv_lstore_n (lv' := [(3, .long v_faces), (2, .int R3), (0, .ref h), (1, .int l1)]) hx hb dX9_cut_34 rfl hl (by decide) rfl (fun ls hl => ?_)
        refine lv_iconst (v := 0) hx hb dX9_cut_35 (by decide) ?_
        refine lv_istore (lv' := [(5, .int (0 : Int32)), (3, .long v_faces), (2, .int R3), (0, .ref h), (1, .int l1)]) hx hb dX9_cut_36 hl (by decide) rfl (fun ls hl => ?_)
        exact k_X9_cut_38 C0 hK hA hX  FU l1 R3 v_faces (0 : Int32) v_points v_faces v_kept v_pointsHad v_facesHad _ _ _ hSt (lv_sub hl [3, 4, 2, 1, 0] rfl) hf
      · have hf := ite_t hf cc
        refine lv_iconst (v := -1) hx hb dX9_cut_20 (by decide) ?_
        cases hf
        exact hb_iret C0 hK hSt dX9_cut_21
def f_X9_cut  (l1 : Int32) (v_points : Int32) (v_faces : Int64) (v_kept : Int32) (v_pointsHad : Nat → Int32) (v_facesHad : Nat → Int64) : Option (Int32 × Int32 × Int64 × Int32 × (Nat → Int32) × (Nat → Int64)) := f_X9_cut_0 l1 v_points v_faces v_kept v_pointsHad v_facesHad
set_option maxRecDepth 100000 in
theorem c_X9_cut (l : Launch) (D : va_G) (cI cJ : ClassId) (h h_pointsHad h_facesHad : Nat) (g5 g6 g7 g8 g9 g10 g11 g12 g13 g14 g15 g16 g17 g18 g19 g20 g21 g22 g23 g24 g25 g26 : Value) (l1 : Int32) (v_points : Int32) (v_faces : Int64) (v_kept : Int32) (v_pointsHad : Nat → Int32) (v_facesHad : Nat → Int64) (Rr : Int32 × Int32 × Int64 × Int32 × (Nat → Int32) × (Nat → Int64)) (hf : f_X9_cut l1 v_points v_faces v_kept v_pointsHad v_facesHad = some Rr) : CtI l yX9_cut wsX9_cut rm_X9_cut D cI cJ none [.ref h, .int l1] (w_X9_cut cI cJ h h_pointsHad h_facesHad g5 g6 g7 g8 g9 g10 g11 g12 g13 g14 g15 g16 g17 g18 g19 g20 g21 g22 g23 g24 g25 g26 v_points v_faces v_kept v_pointsHad v_facesHad) Rr.1 (w_X9_cut cI cJ h h_pointsHad h_facesHad g5 g6 g7 g8 g9 g10 g11 g12 g13 g14 g15 g16 g17 g18 g19 g20 g21 g22 g23 g24 g25 g26 Rr.2.1 Rr.2.2.1 Rr.2.2.2.1 Rr.2.2.2.2.1 Rr.2.2.2.2.2) :=
  fun sz => BodyW.met (av := [.ref h, .int l1]) (Qc := fun A => QI D cI cJ A (w_X9_cut cI cJ h h_pointsHad h_facesHad g5 g6 g7 g8 g9 g10 g11 g12 g13 g14 g15 g16 g17 g18 g19 g20 g21 g22 g23 g24 g25 g26 Rr.2.1 Rr.2.2.1 Rr.2.2.2.1 Rr.2.2.2.2.1 Rr.2.2.2.2.2) Rr.1) (by decide) rfl rfl (Nat.le_of_ble_eq_true rfl) (fun C0 hK hA hX ls hSt hl => k_X9_cut_0 C0 hK hA hX l1 v_points v_faces v_kept v_pointsHad v_facesHad _ _ ls hSt hl hf) sz
/-! X9 spread -/
abbrev rm_X9_spread : Room := { frames := 0, cells := 0, slots := 0, locals := 0 }
abbrev w_X9_spread (cI cJ : ClassId) (h : Nat) (g1 : Value) (g2 : Value) (g3 : Value) (g4 : Value) (g5 : Value) (g6 : Value) (g7 : Value) (g8 : Value) (g9 : Value) (g10 : Value) (g11 : Value) (g12 : Value) (g13 : Value) (g14 : Value) (g15 : Value) (g16 : Value) (g17 : Value) (g18 : Value) (g19 : Value) (g20 : Value) (g21 : Value) (g22 : Value) (g23 : Value) (g24 : Value) (g25 : Value) (g26 : Value) (v_points : Int32) : va_W := [(h, .inr (8, [.int v_points, g1, g2, g3, g4, g5, g6, g7, g8, g9, g10, g11, g12, g13, g14, g15, g16, g17, g18, g19, g20, g21, g22, g23, g24, g25, g26]))]
theorem iu_X9_spread_X9 : ∀ w ∈ wsX90, w ∈ wsX9_spread := by decide +kernel
theorem fl_X9_spread_7 : Cond.fieldLink RX9 7 (TX9 0).1 (TX9 0).2.1 (TX9 0).2.2.1 ∈ wsX9_spread := by decide +kernel
theorem hd_X9_spread : yX9_spread.cls = RX9 ∧ yX9_spread.cls ≠ "java/lang/invoke/MethodHandle" ∧ yX9_spread.cls ≠ "java/lang/invoke/VarHandle" ∧ (parseMethodDescriptor yX9_spread.desc).map (fun d => d.parameters.length) = some 2 := by decide +kernel
def f_X9_spread_8 (v_points : Int32)  : Nat → Int32 → Int32 → Int32 → Int32 → Int32 → Option (Int32)
  | 0, _, _, _, _, _ => none
  | n + 1, l1, l2, l3, l4, l5 => if v_points ≤ l5 then some l3 else if ((l2 >>> (l5 &&& 31)) &&& (1 : Int32)) = (1 : Int32) then (f_X9_spread_8 v_points n) l1 l2 l3 l4 (l5 + 1) else bnd (l3 ||| (((l1 >>> (l4 &&& 31)) &&& (1 : Int32)) <<< (l5 &&& 31))) (fun l3_1 => (f_X9_spread_8 v_points n) l1 l2 l3_1 (l4 + 1) (l5 + 1))
set_option maxHeartbeats 4000000 in
set_option maxRecDepth 100000 in
theorem k_X9_spread_8 {p : Program} {l : Launch} {e : Env} {s : State} {m : MethodId} {args : Array Value} {below : List Frame} {meth : Method} {c : Code} {A : Nat → Prop} {D : va_G} {cI cJ : ClassId} {h : Nat} {g1 g2 g3 g4 g5 g6 g7 g8 g9 g10 g11 g12 g13 g14 g15 g16 g17 g18 g19 g20 g21 g22 g23 g24 g25 g26 : Value} {v_points : Int32} (C0 : Cx p s m args meth c cX9_spread wsX9_spread RX9 6 (some .int)) (hK : va_K D vwCl (tyL cI cJ) s) (hA : ∀ q, s.heap.size ≤ q → A q) (hX : XT none A s s.heap) {Rr : Int32} (n : Nat) : ∀ (l1 : Int32) (l2 : Int32) (l3 : Int32) (l4 : Int32) (l5 : Int32)  (H : Heap) (locs : List Loc) (ls : Array Slot), St D A s (w_X9_spread cI cJ h g1 g2 g3 g4 g5 g6 g7 g8 g9 g10 g11 g12 g13 g14 g15 g16 g17 g18 g19 g20 g21 g22 g23 g24 g25 g26 v_points) H locs → lv_has ls 6 [(0, .ref h), (1, .int l1), (2, .int l2), (3, .int l3), (4, .int l4), (5, .int l5)] → f_X9_spread_8 v_points n l1 l2 l3 l4 l5 = some Rr → W p l e rm_X9_spread s m args below meth c H locs 0 0 (MQ below (QI D cI cJ A (w_X9_spread cI cJ h g1 g2 g3 g4 g5 g6 g7 g8 g9 g10 g11 g12 g13 g14 g15 g16 g17 g18 g19 g20 g21 g22 g23 g24 g25 g26 v_points) Rr) args s 0 0 A) (F0 m 8 ls []) := by
  have hx := C0.1.1
  have hb := C0.1.2.1
  induction n with
  | zero => intro l1 l2 l3 l4 l5 H locs ls hSt hl hf; exact nomatch (show (none : Option _) = some Rr from hf)
  | succ n ih =>
    intro l1 l2 l3 l4 l5 H locs ls hSt hl hf
    unfold f_X9_spread_8 at hf
    refine lv_iload hx hb dX9_spread_8 (lv_at hl 5 rfl) ?_
    refine lv_aload_n hx hb dX9_spread_10 rfl (lv_at hl 0 rfl) ?_
    refine hb_get C0 hK hSt 0 8 0 rfl rfl iu_X9_spread_X9 (by decide) fl_X9_spread_7 rfl dX9_spread_11 ?_
    refine lv_icmp_ge (tgt := 51) hx hb dX9_spread_14 (by decide) (fun cc => ?_) (fun cc => ?_)
    · have hf := ite_t hf cc
      refine lv_iload_n hx hb dX9_spread_51 rfl (lv_at hl 3 rfl) ?_
      cases hf
      exact hb_iret C0 hK hSt dX9_spread_52
    · have hf := ite_f hf cc
      refine lv_iload_n hx hb dX9_spread_17 rfl (lv_at hl 2 rfl) ?_
      refine lv_iload hx hb dX9_spread_18 (lv_at hl 5 rfl) ?_
      refine lv_ishr hx hb dX9_spread_20 ?_
      refine lv_iconst (v := 1) hx hb dX9_spread_21 (by decide) ?_
      refine lv_iand hx hb dX9_spread_22 ?_
      refine lv_iconst (v := 1) hx hb dX9_spread_23 (by decide) ?_
      refine lv_icmp_ne (tgt := 30) hx hb dX9_spread_24 (by decide) (fun cc => ?_) (fun cc => ?_)
      · have hf := ite_f hf cc
        refine lv_iload_n hx hb dX9_spread_30 rfl (lv_at hl 3 rfl) ?_
        refine lv_iload_n hx hb dX9_spread_31 rfl (lv_at hl 1 rfl) ?_
        refine lv_iload hx hb dX9_spread_32 (lv_at hl 4 rfl) ?_
        refine lv_ishr hx hb dX9_spread_34 ?_
        refine lv_iconst (v := 1) hx hb dX9_spread_35 (by decide) ?_
        refine lv_iand hx hb dX9_spread_36 ?_
        refine lv_iload hx hb dX9_spread_37 (lv_at hl 5 rfl) ?_
        refine lv_ishl hx hb dX9_spread_39 ?_
        refine lv_ior hx hb dX9_spread_40 ?_
        refine tp_i hf (fun l3_1 hf => ?_)
        refine lv_istore_n (lv' := [(3, .int l3_1), (0, .ref h), (1, .int l1), (2, .int l2), (4, .int l4), (5, .int l5)]) hx hb dX9_spread_41 rfl hl (by decide) rfl (fun ls hl => ?_)
        refine lv_iinc (v := l4 + 1) (lv' := [(4, .int (l4 + 1)), (3, .int l3_1), (0, .ref h), (1, .int l1), (2, .int l2), (5, .int l5)]) hx hb dX9_spread_42 hl (k := 4) rfl rfl (by decide) rfl (fun ls hl => ?_)
        refine lv_iinc (v := l5 + 1) (lv' := [(5, .int (l5 + 1)), (4, .int (l4 + 1)), (3, .int l3_1), (0, .ref h), (1, .int l1), (2, .int l2)]) hx hb dX9_spread_45 hl (k := 5) rfl rfl (by decide) rfl (fun ls hl => ?_)
        refine lv_goto (tgt := 8) hx hb dX9_spread_48 (by decide) ?_
        exact ih l1 l2 l3_1 (l4 + 1) (l5 + 1) _ _ _ hSt (lv_sub hl [3, 4, 5, 2, 1, 0] rfl) hf
      · have hf := ite_t hf cc
        refine lv_goto (tgt := 45) hx hb dX9_spread_27 (by decide) ?_
        refine lv_iinc (v := l5 + 1) (lv' := [(5, .int (l5 + 1)), (0, .ref h), (1, .int l1), (2, .int l2), (3, .int l3), (4, .int l4)]) hx hb dX9_spread_45 hl (k := 5) rfl rfl (by decide) rfl (fun ls hl => ?_)
        refine lv_goto (tgt := 8) hx hb dX9_spread_48 (by decide) ?_
        exact ih l1 l2 l3 l4 (l5 + 1) _ _ _ hSt (lv_sub hl [1, 2, 3, 4, 5, 0] rfl) hf
def f_X9_spread_0 (v_points : Int32)  (l1 : Int32) (l2 : Int32)  : Option (Int32) := f_X9_spread_8 v_points  FU l1 l2 (0 : Int32) (0 : Int32) (0 : Int32)
set_option maxHeartbeats 4000000 in
set_option maxRecDepth 100000 in
theorem k_X9_spread_0 {p : Program} {l : Launch} {e : Env} {s : State} {m : MethodId} {args : Array Value} {below : List Frame} {meth : Method} {c : Code} {A : Nat → Prop} {D : va_G} {cI cJ : ClassId} {h : Nat} {g1 g2 g3 g4 g5 g6 g7 g8 g9 g10 g11 g12 g13 g14 g15 g16 g17 g18 g19 g20 g21 g22 g23 g24 g25 g26 : Value} {v_points : Int32} (C0 : Cx p s m args meth c cX9_spread wsX9_spread RX9 6 (some .int)) (hK : va_K D vwCl (tyL cI cJ) s) (hA : ∀ q, s.heap.size ≤ q → A q) (hX : XT none A s s.heap) {Rr : Int32} : ∀ (l1 : Int32) (l2 : Int32)  (H : Heap) (locs : List Loc) (ls : Array Slot), St D A s (w_X9_spread cI cJ h g1 g2 g3 g4 g5 g6 g7 g8 g9 g10 g11 g12 g13 g14 g15 g16 g17 g18 g19 g20 g21 g22 g23 g24 g25 g26 v_points) H locs → lv_has ls 6 [(0, .ref h), (1, .int l1), (2, .int l2)] → f_X9_spread_0 v_points l1 l2 = some Rr → W p l e rm_X9_spread s m args below meth c H locs 0 0 (MQ below (QI D cI cJ A (w_X9_spread cI cJ h g1 g2 g3 g4 g5 g6 g7 g8 g9 g10 g11 g12 g13 g14 g15 g16 g17 g18 g19 g20 g21 g22 g23 g24 g25 g26 v_points) Rr) args s 0 0 A) (F0 m 0 ls []) := by
  have hx := C0.1.1
  have hb := C0.1.2.1
  intro l1 l2 H locs ls hSt hl hf
  unfold f_X9_spread_0 at hf
  refine lv_iconst (v := 0) hx hb dX9_spread_0 (by decide) ?_
  refine lv_istore_n (lv' := [(3, .int (0 : Int32)), (0, .ref h), (1, .int l1), (2, .int l2)]) hx hb dX9_spread_1 rfl hl (by decide) rfl (fun ls hl => ?_)
  refine lv_iconst (v := 0) hx hb dX9_spread_2 (by decide) ?_
  refine lv_istore (lv' := [(4, .int (0 : Int32)), (3, .int (0 : Int32)), (0, .ref h), (1, .int l1), (2, .int l2)]) hx hb dX9_spread_3 hl (by decide) rfl (fun ls hl => ?_)
  refine lv_iconst (v := 0) hx hb dX9_spread_5 (by decide) ?_
  refine lv_istore (lv' := [(5, .int (0 : Int32)), (4, .int (0 : Int32)), (3, .int (0 : Int32)), (0, .ref h), (1, .int l1), (2, .int l2)]) hx hb dX9_spread_6 hl (by decide) rfl (fun ls hl => ?_)
  exact k_X9_spread_8 C0 hK hA hX  FU l1 l2 (0 : Int32) (0 : Int32) (0 : Int32) _ _ _ hSt (lv_sub hl [3, 4, 5, 2, 1, 0] rfl) hf
def f_X9_spread (v_points : Int32) (l1 : Int32) (l2 : Int32)  : Option (Int32) := f_X9_spread_0 v_points l1 l2
set_option maxRecDepth 100000 in
theorem c_X9_spread (l : Launch) (D : va_G) (cI cJ : ClassId) (h : Nat) (g1 g2 g3 g4 g5 g6 g7 g8 g9 g10 g11 g12 g13 g14 g15 g16 g17 g18 g19 g20 g21 g22 g23 g24 g25 g26 : Value) (l1 : Int32) (l2 : Int32) (v_points : Int32) (Rr : Int32) (hf : f_X9_spread v_points l1 l2 = some Rr) : CtI l yX9_spread wsX9_spread rm_X9_spread D cI cJ none [.ref h, .int l1, .int l2] (w_X9_spread cI cJ h g1 g2 g3 g4 g5 g6 g7 g8 g9 g10 g11 g12 g13 g14 g15 g16 g17 g18 g19 g20 g21 g22 g23 g24 g25 g26 v_points) Rr (w_X9_spread cI cJ h g1 g2 g3 g4 g5 g6 g7 g8 g9 g10 g11 g12 g13 g14 g15 g16 g17 g18 g19 g20 g21 g22 g23 g24 g25 g26 v_points) :=
  fun sz => BodyW.met (av := [.ref h, .int l1, .int l2]) (Qc := fun A => QI D cI cJ A (w_X9_spread cI cJ h g1 g2 g3 g4 g5 g6 g7 g8 g9 g10 g11 g12 g13 g14 g15 g16 g17 g18 g19 g20 g21 g22 g23 g24 g25 g26 v_points) Rr) (by decide) rfl rfl (Nat.le_of_ble_eq_true rfl) (fun C0 hK hA hX ls hSt hl => k_X9_spread_0 C0 hK hA hX l1 l2  _ _ ls hSt hl hf) sz
/-! X9 link -/
abbrev rm_X9_link : Room := { frames := 2, cells := 0, slots := 0, locals := 44 }
abbrev w_X9_link (cI cJ : ClassId) (h : Nat) (h_pointsHad : Nat) (h_facesHad : Nat) (g5 : Value) (g6 : Value) (g7 : Value) (g8 : Value) (g9 : Value) (g10 : Value) (g11 : Value) (g12 : Value) (g13 : Value) (g14 : Value) (g15 : Value) (g16 : Value) (g17 : Value) (g18 : Value) (g19 : Value) (g20 : Value) (g21 : Value) (g22 : Value) (g23 : Value) (g24 : Value) (g25 : Value) (g26 : Value) (v_points : Int32) (v_faces : Int64) (v_kept : Int32) (v_pointsHad : Nat → Int32) (v_facesHad : Nat → Int64) : va_W := [(h, .inr (8, [.int v_points, .long v_faces, .int v_kept, .ref h_pointsHad, .ref h_facesHad, g5, g6, g7, g8, g9, g10, g11, g12, g13, g14, g15, g16, g17, g18, g19, g20, g21, g22, g23, g24, g25, g26])), (h_pointsHad, .inl (cI, 8, .inl v_pointsHad)), (h_facesHad, .inl (cJ, 8, .inr (.inl v_facesHad)))]
theorem iu_X9_link_X9 : ∀ w ∈ wsX90, w ∈ wsX9_link := by decide +kernel
theorem fl_X9_link_7 : Cond.fieldLink RX9 7 (TX9 0).1 (TX9 0).2.1 (TX9 0).2.2.1 ∈ wsX9_link := by decide +kernel
theorem hd_X9_link : yX9_link.cls = RX9 ∧ yX9_link.cls ≠ "java/lang/invoke/MethodHandle" ∧ yX9_link.cls ≠ "java/lang/invoke/VarHandle" ∧ (parseMethodDescriptor yX9_link.desc).map (fun d => d.parameters.length) = some 1 := by decide +kernel
def f_X9_link_78  (k_45 : Int32 → Int32 → Int64 → Int32 → (Int32) → (Int64) → (Int32) → (Nat → Int32) → (Nat → Int64) → Option (Int32 × Int32 × Int64 × Int32 × (Nat → Int32) × (Nat → Int64))) (l1 : Int32) (l2 : Int32) (l5 : Int32) (s0 : Int64) (s1 : Int64) (v_points : Int32) (v_faces : Int64) (v_kept : Int32) (v_pointsHad : Nat → Int32) (v_facesHad : Nat → Int64) : Option (Int32 × Int32 × Int64 × Int32 × (Nat → Int32) × (Nat → Int64)) := k_45 l1 l2 (s1 ||| s0) (l5 + 1) v_points v_faces v_kept v_pointsHad v_facesHad
set_option maxHeartbeats 4000000 in
set_option maxRecDepth 100000 in
theorem k_X9_link_78 {p : Program} {l : Launch} {e : Env} {s : State} {m : MethodId} {args : Array Value} {below : List Frame} {meth : Method} {c : Code} {A : Nat → Prop} {D : va_G} {cI cJ : ClassId} {h h_pointsHad h_facesHad : Nat} {g5 g6 g7 g8 g9 g10 g11 g12 g13 g14 g15 g16 g17 g18 g19 g20 g21 g22 g23 g24 g25 g26 : Value}  (C0 : Cx p s m args meth c cX9_link wsX9_link RX9 6 (some .int)) (hK : va_K D vwCl (tyL cI cJ) s) (hA : ∀ q, s.heap.size ≤ q → A q) (hX : XT none A s s.heap) {Rr : Int32 × Int32 × Int64 × Int32 × (Nat → Int32) × (Nat → Int64)} {k_45 : Int32 → Int32 → Int64 → Int32 → (Int32) → (Int64) → (Int32) → (Nat → Int32) → (Nat → Int64) → Option (Int32 × Int32 × Int64 × Int32 × (Nat → Int32) × (Nat → Int64))} (hk_45 : ∀ (l1 : Int32) (l2 : Int32) (l3 : Int64) (l5 : Int32) (v_points : Int32) (v_faces : Int64) (v_kept : Int32) (v_pointsHad : Nat → Int32) (v_facesHad : Nat → Int64) (H : Heap) (locs : List Loc) (ls : Array Slot), St D A s (w_X9_link cI cJ h h_pointsHad h_facesHad g5 g6 g7 g8 g9 g10 g11 g12 g13 g14 g15 g16 g17 g18 g19 g20 g21 g22 g23 g24 g25 g26 v_points v_faces v_kept v_pointsHad v_facesHad) H locs → lv_has ls 6 [(0, .ref h), (1, .int l1), (2, .int l2), (3, .long l3), (5, .int l5)] → k_45 l1 l2 l3 l5 v_points v_faces v_kept v_pointsHad v_facesHad = some Rr → W p l e rm_X9_link s m args below meth c H locs 0 0 (MQ below (QI D cI cJ A (w_X9_link cI cJ h h_pointsHad h_facesHad g5 g6 g7 g8 g9 g10 g11 g12 g13 g14 g15 g16 g17 g18 g19 g20 g21 g22 g23 g24 g25 g26 Rr.2.1 Rr.2.2.1 Rr.2.2.2.1 Rr.2.2.2.2.1 Rr.2.2.2.2.2) Rr.1) args s 0 0 A) (F0 m 45 ls [])) : ∀ (l1 : Int32) (l2 : Int32) (l5 : Int32) (s0 : Int64) (s1 : Int64) (v_points : Int32) (v_faces : Int64) (v_kept : Int32) (v_pointsHad : Nat → Int32) (v_facesHad : Nat → Int64) (H : Heap) (locs : List Loc) (ls : Array Slot), St D A s (w_X9_link cI cJ h h_pointsHad h_facesHad g5 g6 g7 g8 g9 g10 g11 g12 g13 g14 g15 g16 g17 g18 g19 g20 g21 g22 g23 g24 g25 g26 v_points v_faces v_kept v_pointsHad v_facesHad) H locs → lv_has ls 6 [(0, .ref h), (1, .int l1), (2, .int l2), (5, .int l5)] → f_X9_link_78 k_45 l1 l2 l5 s0 s1 v_points v_faces v_kept v_pointsHad v_facesHad = some Rr → W p l e rm_X9_link s m args below meth c H locs 0 0 (MQ below (QI D cI cJ A (w_X9_link cI cJ h h_pointsHad h_facesHad g5 g6 g7 g8 g9 g10 g11 g12 g13 g14 g15 g16 g17 g18 g19 g20 g21 g22 g23 g24 g25 g26 Rr.2.1 Rr.2.2.1 Rr.2.2.2.1 Rr.2.2.2.2.1 Rr.2.2.2.2.2) Rr.1) args s 0 0 A) (F0 m 78 ls [.long s0, .long s1]) := by
  have hx := C0.1.1
  have hb := C0.1.2.1
  intro l1 l2 l5 s0 s1 v_points v_faces v_kept v_pointsHad v_facesHad H locs ls hSt hl hf
  unfold f_X9_link_78 at hf
  refine lv_lor hx hb dX9_link_78 ?_
  refine lv_lstore_n (lv' := [(3, .long (s1 ||| s0)), (0, .ref h), (1, .int l1), (2, .int l2), (5, .int l5)]) hx hb dX9_link_79 rfl hl (by decide) rfl (fun ls hl => ?_)
  refine lv_iinc (v := l5 + 1) (lv' := [(5, .int (l5 + 1)), (3, .long (s1 ||| s0)), (0, .ref h), (1, .int l1), (2, .int l2)]) hx hb dX9_link_80 hl (k := 4) rfl rfl (by decide) rfl (fun ls hl => ?_)
  refine lv_goto (tgt := 45) hx hb dX9_link_83 (by decide) ?_
  exact hk_45 l1 l2 (s1 ||| s0) (l5 + 1) v_points v_faces v_kept v_pointsHad v_facesHad _ _ _ hSt (lv_sub hl [2, 3, 4, 1, 0] rfl) hf
def f_X9_link_45   : Nat → Int32 → Int32 → Int64 → Int32 → (Int32) → (Int64) → (Int32) → (Nat → Int32) → (Nat → Int64) → Option (Int32 × Int32 × Int64 × Int32 × (Nat → Int32) × (Nat → Int64))
  | 0, _, _, _, _, _, _, _, _, _ => none
  | n + 1, l1, l2, l3, l5, v_points, v_faces, v_kept, v_pointsHad, v_facesHad => if ((1 : Int32) <<< (l2 &&& 31)) ≤ l5 then (f_X9_becomes l2 l3 v_points v_faces v_kept v_pointsHad v_facesHad).bind (fun R1 => some (l2, R1.1, R1.2.1, R1.2.2.1, R1.2.2.2.1, R1.2.2.2.2)) else (f_X9_spread v_points l5 l1).bind (fun R2 => (f_X9_isFace v_faces (R2 ||| l1)).bind (fun R3 => if R3 = 0 then f_X9_link_78  (f_X9_link_45 n) l1 l2 l5 (0 : Int64) l3 v_points v_faces v_kept v_pointsHad v_facesHad else f_X9_link_78  (f_X9_link_45 n) l1 l2 l5 ((1 : Int64) <<< (l5.toInt64 &&& 63)) l3 v_points v_faces v_kept v_pointsHad v_facesHad))
set_option maxHeartbeats 4000000 in
set_option maxRecDepth 100000 in
theorem k_X9_link_45 {p : Program} {l : Launch} {e : Env} {s : State} {m : MethodId} {args : Array Value} {below : List Frame} {meth : Method} {c : Code} {A : Nat → Prop} {D : va_G} {cI cJ : ClassId} {h h_pointsHad h_facesHad : Nat} {g5 g6 g7 g8 g9 g10 g11 g12 g13 g14 g15 g16 g17 g18 g19 g20 g21 g22 g23 g24 g25 g26 : Value}  (C0 : Cx p s m args meth c cX9_link wsX9_link RX9 6 (some .int)) (hK : va_K D vwCl (tyL cI cJ) s) (hA : ∀ q, s.heap.size ≤ q → A q) (hX : XT none A s s.heap) {Rr : Int32 × Int32 × Int64 × Int32 × (Nat → Int32) × (Nat → Int64)} (n : Nat) : ∀ (l1 : Int32) (l2 : Int32) (l3 : Int64) (l5 : Int32) (v_points : Int32) (v_faces : Int64) (v_kept : Int32) (v_pointsHad : Nat → Int32) (v_facesHad : Nat → Int64) (H : Heap) (locs : List Loc) (ls : Array Slot), St D A s (w_X9_link cI cJ h h_pointsHad h_facesHad g5 g6 g7 g8 g9 g10 g11 g12 g13 g14 g15 g16 g17 g18 g19 g20 g21 g22 g23 g24 g25 g26 v_points v_faces v_kept v_pointsHad v_facesHad) H locs → lv_has ls 6 [(0, .ref h), (1, .int l1), (2, .int l2), (3, .long l3), (5, .int l5)] → f_X9_link_45 n l1 l2 l3 l5 v_points v_faces v_kept v_pointsHad v_facesHad = some Rr → W p l e rm_X9_link s m args below meth c H locs 0 0 (MQ below (QI D cI cJ A (w_X9_link cI cJ h h_pointsHad h_facesHad g5 g6 g7 g8 g9 g10 g11 g12 g13 g14 g15 g16 g17 g18 g19 g20 g21 g22 g23 g24 g25 g26 Rr.2.1 Rr.2.2.1 Rr.2.2.2.1 Rr.2.2.2.2.1 Rr.2.2.2.2.2) Rr.1) args s 0 0 A) (F0 m 45 ls []) := by
  have hx := C0.1.1
  have hb := C0.1.2.1
  induction n with
  | zero => intro l1 l2 l3 l5 v_points v_faces v_kept v_pointsHad v_facesHad H locs ls hSt hl hf; exact nomatch (show (none : Option _) = some Rr from hf)
  | succ n ih =>
    intro l1 l2 l3 l5 v_points v_faces v_kept v_pointsHad v_facesHad H locs ls hSt hl hf
    unfold f_X9_link_45 at hf
    refine lv_iload hx hb dX9_link_45 (lv_at hl 4 rfl) ?_
    refine lv_iconst (v := 1) hx hb dX9_link_47 (by decide) ?_
    refine lv_iload_n hx hb dX9_link_48 rfl (lv_at hl 2 rfl) ?_
    refine lv_ishl hx hb dX9_link_49 ?_
    refine lv_icmp_ge (tgt := 86) hx hb dX9_link_50 (by decide) (fun cc => ?_) (fun cc => ?_)
    · have hf := ite_t hf cc
      refine lv_aload_n hx hb dX9_link_86 rfl (lv_at hl 0 rfl) ?_
      refine lv_iload_n hx hb dX9_link_87 rfl (lv_at hl 2 rfl) ?_
      refine lv_lload_n hx hb dX9_link_88 rfl (lv_at hl 3 rfl) ?_
      obtain ⟨R1, hR1, hf⟩ := Option.bind_eq_some_iff.mp hf
      have sp : Sp (w_X9_link cI cJ h h_pointsHad h_facesHad g5 g6 g7 g8 g9 g10 g11 g12 g13 g14 g15 g16 g17 g18 g19 g20 g21 g22 g23 g24 g25 g26 v_points v_faces v_kept v_pointsHad v_facesHad) (w_X9_becomes cI cJ h h_pointsHad h_facesHad g5 g6 g7 g8 g9 g10 g11 g12 g13 g14 g15 g16 g17 g18 g19 g20 g21 g22 g23 g24 g25 g26 v_points v_faces v_kept v_pointsHad v_facesHad) (w_X9_becomes cI cJ h h_pointsHad h_facesHad g5 g6 g7 g8 g9 g10 g11 g12 g13 g14 g15 g16 g17 g18 g19 g20 g21 g22 g23 g24 g25 g26 R1.1 R1.2.1 R1.2.2.1 R1.2.2.2.1 R1.2.2.2.2) (w_X9_link cI cJ h h_pointsHad h_facesHad g5 g6 g7 g8 g9 g10 g11 g12 g13 g14 g15 g16 g17 g18 g19 g20 g21 g22 g23 g24 g25 g26 R1.1 R1.2.1 R1.2.2.1 R1.2.2.2.1 R1.2.2.2.2) [0, 1, 2] [] [0, 1, 2] := ⟨rfl, rfl, rfl, by decide, by decide, by decide, by decide⟩
      refine hb_cv (hb_rV (As := [.int l2, .long l3]) (rest := []) C0 hK hA XT.nn hSt sp (c_X9_becomes l D cI cJ h h_pointsHad h_facesHad g5 g6 g7 g8 g9 g10 g11 g12 g13 g14 g15 g16 g17 g18 g19 g20 g21 g22 g23 g24 g25 g26  l2 l3 v_points v_faces v_kept v_pointsHad v_facesHad R1 hR1) gX9_link_X9_becomes rfl ⟨rfl, rfl⟩ hd_X9_becomes ⟨Nat.le_of_ble_eq_true rfl, Nat.le_of_ble_eq_true rfl⟩ 0 8 rfl rfl rfl hl rfl (Nat.le_of_ble_eq_true rfl) dX9_link_89 ⟨Nat.zero_le _, Nat.zero_le _⟩) hA hSt sp (fun H locs hSt => ?_)
      refine lv_iload_n hx hb dX9_link_92 rfl (lv_at hl 2 rfl) ?_
      cases hf
      exact hb_iret C0 hK hSt dX9_link_93
    · have hf := ite_f hf cc
      refine lv_lload_n hx hb dX9_link_53 rfl (lv_at hl 3 rfl) ?_
      refine lv_aload_n hx hb dX9_link_54 rfl (lv_at hl 0 rfl) ?_
      refine lv_aload_n hx hb dX9_link_55 rfl (lv_at hl 0 rfl) ?_
      refine lv_iload hx hb dX9_link_56 (lv_at hl 4 rfl) ?_
      refine lv_iload_n hx hb dX9_link_58 rfl (lv_at hl 1 rfl) ?_
      obtain ⟨R2, hR2, hf⟩ := Option.bind_eq_some_iff.mp hf
      have sp : Sp (w_X9_link cI cJ h h_pointsHad h_facesHad g5 g6 g7 g8 g9 g10 g11 g12 g13 g14 g15 g16 g17 g18 g19 g20 g21 g22 g23 g24 g25 g26 v_points v_faces v_kept v_pointsHad v_facesHad) (w_X9_spread cI cJ h (.long v_faces) (.int v_kept) (.ref h_pointsHad) (.ref h_facesHad) g5 g6 g7 g8 g9 g10 g11 g12 g13 g14 g15 g16 g17 g18 g19 g20 g21 g22 g23 g24 g25 g26 v_points) (w_X9_spread cI cJ h (.long v_faces) (.int v_kept) (.ref h_pointsHad) (.ref h_facesHad) g5 g6 g7 g8 g9 g10 g11 g12 g13 g14 g15 g16 g17 g18 g19 g20 g21 g22 g23 g24 g25 g26 v_points) (w_X9_link cI cJ h h_pointsHad h_facesHad g5 g6 g7 g8 g9 g10 g11 g12 g13 g14 g15 g16 g17 g18 g19 g20 g21 g22 g23 g24 g25 g26 v_points v_faces v_kept v_pointsHad v_facesHad) [0] [1, 2] [2, 0, 1] := ⟨rfl, rfl, rfl, by decide, by decide, by decide, by decide⟩
      refine hb_ci (hb_rV (As := [.int l5, .int l1]) (rest := [.ref h, .long l3]) C0 hK hA XT.nn hSt sp (c_X9_spread l D cI cJ h (.long v_faces) (.int v_kept) (.ref h_pointsHad) (.ref h_facesHad) g5 g6 g7 g8 g9 g10 g11 g12 g13 g14 g15 g16 g17 g18 g19 g20 g21 g22 g23 g24 g25 g26  l5 l1 v_points R2 hR2) gX9_link_X9_spread rfl ⟨rfl, rfl⟩ hd_X9_spread ⟨Nat.le_of_ble_eq_true rfl, Nat.le_of_ble_eq_true rfl⟩ 0 8 rfl rfl rfl hl rfl (Nat.le_of_ble_eq_true rfl) dX9_link_59 ⟨Nat.zero_le _, Nat.zero_le _⟩) hA hSt sp (fun H locs hSt => ?_)
      refine lv_iload_n hx hb dX9_link_62 rfl (lv_at hl 1 rfl) ?_
      refine lv_ior hx hb dX9_link_63 ?_
      obtain ⟨R3, hR3, hf⟩ := Option.bind_eq_some_iff.mp hf
      have sp : Sp (w_X9_link cI cJ h h_pointsHad h_facesHad g5 g6 g7 g8 g9 g10 g11 g12 g13 g14 g15 g16 g17 g18 g19 g20 g21 g22 g23 g24 g25 g26 v_points v_faces v_kept v_pointsHad v_facesHad) (w_X9_isFace cI cJ h (.int v_points) (.int v_kept) (.ref h_pointsHad) (.ref h_facesHad) g5 g6 g7 g8 g9 g10 g11 g12 g13 g14 g15 g16 g17 g18 g19 g20 g21 g22 g23 g24 g25 g26 v_faces) (w_X9_isFace cI cJ h (.int v_points) (.int v_kept) (.ref h_pointsHad) (.ref h_facesHad) g5 g6 g7 g8 g9 g10 g11 g12 g13 g14 g15 g16 g17 g18 g19 g20 g21 g22 g23 g24 g25 g26 v_faces) (w_X9_link cI cJ h h_pointsHad h_facesHad g5 g6 g7 g8 g9 g10 g11 g12 g13 g14 g15 g16 g17 g18 g19 g20 g21 g22 g23 g24 g25 g26 v_points v_faces v_kept v_pointsHad v_facesHad) [0] [1, 2] [2, 0, 1] := ⟨rfl, rfl, rfl, by decide, by decide, by decide, by decide⟩
      refine hb_ci (hb_rV (As := [.int (R2 ||| l1)]) (rest := [.long l3]) C0 hK hA XT.nn hSt sp (c_X9_isFace l D cI cJ h (.int v_points) (.int v_kept) (.ref h_pointsHad) (.ref h_facesHad) g5 g6 g7 g8 g9 g10 g11 g12 g13 g14 g15 g16 g17 g18 g19 g20 g21 g22 g23 g24 g25 g26  (R2 ||| l1) v_faces R3 hR3) gX9_link_X9_isFace rfl ⟨rfl, rfl⟩ hd_X9_isFace ⟨Nat.le_of_ble_eq_true rfl, Nat.le_of_ble_eq_true rfl⟩ 0 8 rfl rfl rfl hl rfl (Nat.le_of_ble_eq_true rfl) dX9_link_64 ⟨Nat.zero_le _, Nat.zero_le _⟩) hA hSt sp (fun H locs hSt => ?_)
      refine lv_if_eq (tgt := 77) hx hb dX9_link_67 (by decide) (fun cc => ?_) (fun cc => ?_)
      · have hf := ite_t hf cc
        refine lv_lconst (v := 0) hx hb dX9_link_77 (by decide) ?_
        exact k_X9_link_78 C0 hK hA hX ih l1 l2 l5 (0 : Int64) l3 v_points v_faces v_kept v_pointsHad v_facesHad _ _ _ hSt (lv_sub hl [0, 1, 2, 4] rfl) hf
      · have hf := ite_f hf cc
        refine lv_lconst (v := 1) hx hb dX9_link_70 (by decide) ?_
        refine lv_iload hx hb dX9_link_71 (lv_at hl 4 rfl) ?_
        refine lv_lshl (v := (1 : Int64) <<< (l5.toInt64 &&& 63)) hx hb dX9_link_73 rfl ?_
        refine lv_goto (tgt := 78) hx hb dX9_link_74 (by decide) ?_
        exact k_X9_link_78 C0 hK hA hX ih l1 l2 l5 ((1 : Int64) <<< (l5.toInt64 &&& 63)) l3 v_points v_faces v_kept v_pointsHad v_facesHad _ _ _ hSt (lv_sub hl [0, 1, 2, 4] rfl) hf
def f_X9_link_0   (l1 : Int32) (v_points : Int32) (v_faces : Int64) (v_kept : Int32) (v_pointsHad : Nat → Int32) (v_facesHad : Nat → Int64) : Option (Int32 × Int32 × Int64 × Int32 × (Nat → Int32) × (Nat → Int64)) := (f_X9_isSet v_points l1).bind (fun R1 => if R1 = 0 then some ((-1 : Int32), v_points, v_faces, v_kept, v_pointsHad, v_facesHad) else if l1 = 0 then some ((-1 : Int32), v_points, v_faces, v_kept, v_pointsHad, v_facesHad) else (f_X9_all v_points).bind (fun R2 => if l1 = R2 then some ((-1 : Int32), v_points, v_faces, v_kept, v_pointsHad, v_facesHad) else (f_X9_isFace v_faces l1).bind (fun R3 => if R3 = 0 then some ((-1 : Int32), v_points, v_faces, v_kept, v_pointsHad, v_facesHad) else (f_X9_size l1).bind (fun R4 => f_X9_link_45   FU l1 (v_points - R4) (0 : Int64) (0 : Int32) v_points v_faces v_kept v_pointsHad v_facesHad))))
set_option maxHeartbeats 4000000 in
set_option maxRecDepth 100000 in
theorem k_X9_link_0 {p : Program} {l : Launch} {e : Env} {s : State} {m : MethodId} {args : Array Value} {below : List Frame} {meth : Method} {c : Code} {A : Nat → Prop} {D : va_G} {cI cJ : ClassId} {h h_pointsHad h_facesHad : Nat} {g5 g6 g7 g8 g9 g10 g11 g12 g13 g14 g15 g16 g17 g18 g19 g20 g21 g22 g23 g24 g25 g26 : Value}  (C0 : Cx p s m args meth c cX9_link wsX9_link RX9 6 (some .int)) (hK : va_K D vwCl (tyL cI cJ) s) (hA : ∀ q, s.heap.size ≤ q → A q) (hX : XT none A s s.heap) {Rr : Int32 × Int32 × Int64 × Int32 × (Nat → Int32) × (Nat → Int64)} : ∀ (l1 : Int32) (v_points : Int32) (v_faces : Int64) (v_kept : Int32) (v_pointsHad : Nat → Int32) (v_facesHad : Nat → Int64) (H : Heap) (locs : List Loc) (ls : Array Slot), St D A s (w_X9_link cI cJ h h_pointsHad h_facesHad g5 g6 g7 g8 g9 g10 g11 g12 g13 g14 g15 g16 g17 g18 g19 g20 g21 g22 g23 g24 g25 g26 v_points v_faces v_kept v_pointsHad v_facesHad) H locs → lv_has ls 6 [(0, .ref h), (1, .int l1)] → f_X9_link_0 l1 v_points v_faces v_kept v_pointsHad v_facesHad = some Rr → W p l e rm_X9_link s m args below meth c H locs 0 0 (MQ below (QI D cI cJ A (w_X9_link cI cJ h h_pointsHad h_facesHad g5 g6 g7 g8 g9 g10 g11 g12 g13 g14 g15 g16 g17 g18 g19 g20 g21 g22 g23 g24 g25 g26 Rr.2.1 Rr.2.2.1 Rr.2.2.2.1 Rr.2.2.2.2.1 Rr.2.2.2.2.2) Rr.1) args s 0 0 A) (F0 m 0 ls []) := by
  have hx := C0.1.1
  have hb := C0.1.2.1
  intro l1 v_points v_faces v_kept v_pointsHad v_facesHad H locs ls hSt hl hf
  unfold f_X9_link_0 at hf
  refine lv_aload_n hx hb dX9_link_0 rfl (lv_at hl 0 rfl) ?_
  refine lv_iload_n hx hb dX9_link_1 rfl (lv_at hl 1 rfl) ?_
  obtain ⟨R1, hR1, hf⟩ := Option.bind_eq_some_iff.mp hf
  have sp : Sp (w_X9_link cI cJ h h_pointsHad h_facesHad g5 g6 g7 g8 g9 g10 g11 g12 g13 g14 g15 g16 g17 g18 g19 g20 g21 g22 g23 g24 g25 g26 v_points v_faces v_kept v_pointsHad v_facesHad) (w_X9_isSet cI cJ h (.long v_faces) (.int v_kept) (.ref h_pointsHad) (.ref h_facesHad) g5 g6 g7 g8 g9 g10 g11 g12 g13 g14 g15 g16 g17 g18 g19 g20 g21 g22 g23 g24 g25 g26 v_points) (w_X9_isSet cI cJ h (.long v_faces) (.int v_kept) (.ref h_pointsHad) (.ref h_facesHad) g5 g6 g7 g8 g9 g10 g11 g12 g13 g14 g15 g16 g17 g18 g19 g20 g21 g22 g23 g24 g25 g26 v_points) (w_X9_link cI cJ h h_pointsHad h_facesHad g5 g6 g7 g8 g9 g10 g11 g12 g13 g14 g15 g16 g17 g18 g19 g20 g21 g22 g23 g24 g25 g26 v_points v_faces v_kept v_pointsHad v_facesHad) [0] [1, 2] [2, 0, 1] := ⟨rfl, rfl, rfl, by decide, by decide, by decide, by decide⟩
  refine hb_ci (hb_rV (As := [.int l1]) (rest := []) C0 hK hA XT.nn hSt sp (c_X9_isSet l D cI cJ h (.long v_faces) (.int v_kept) (.ref h_pointsHad) (.ref h_facesHad) g5 g6 g7 g8 g9 g10 g11 g12 g13 g14 g15 g16 g17 g18 g19 g20 g21 g22 g23 g24 g25 g26  l1 v_points R1 hR1) gX9_link_X9_isSet rfl ⟨rfl, rfl⟩ hd_X9_isSet ⟨Nat.le_of_ble_eq_true rfl, Nat.le_of_ble_eq_true rfl⟩ 0 8 rfl rfl rfl hl rfl (Nat.le_of_ble_eq_true rfl) dX9_link_2 ⟨Nat.zero_le _, Nat.zero_le _⟩) hA hSt sp (fun H locs hSt => ?_)
  refine lv_if_eq (tgt := 28) hx hb dX9_link_5 (by decide) (fun cc => ?_) (fun cc => ?_)
  · have hf := ite_t hf cc
    refine lv_iconst (v := -1) hx hb dX9_link_28 (by decide) ?_
    cases hf
    exact hb_iret C0 hK hSt dX9_link_29
  · have hf := ite_f hf cc
    refine lv_iload_n hx hb dX9_link_8 rfl (lv_at hl 1 rfl) ?_
    refine lv_if_eq (tgt := 28) hx hb dX9_link_9 (by decide) (fun cc => ?_) (fun cc => ?_)
    · have hf := ite_t hf cc
      refine lv_iconst (v := -1) hx hb dX9_link_28 (by decide) ?_
      cases hf
      exact hb_iret C0 hK hSt dX9_link_29
    · have hf := ite_f hf cc
      refine lv_iload_n hx hb dX9_link_12 rfl (lv_at hl 1 rfl) ?_
      refine lv_aload_n hx hb dX9_link_13 rfl (lv_at hl 0 rfl) ?_
      obtain ⟨R2, hR2, hf⟩ := Option.bind_eq_some_iff.mp hf
      have sp : Sp (w_X9_link cI cJ h h_pointsHad h_facesHad g5 g6 g7 g8 g9 g10 g11 g12 g13 g14 g15 g16 g17 g18 g19 g20 g21 g22 g23 g24 g25 g26 v_points v_faces v_kept v_pointsHad v_facesHad) (w_X9_all cI cJ h (.long v_faces) (.int v_kept) (.ref h_pointsHad) (.ref h_facesHad) g5 g6 g7 g8 g9 g10 g11 g12 g13 g14 g15 g16 g17 g18 g19 g20 g21 g22 g23 g24 g25 g26 v_points) (w_X9_all cI cJ h (.long v_faces) (.int v_kept) (.ref h_pointsHad) (.ref h_facesHad) g5 g6 g7 g8 g9 g10 g11 g12 g13 g14 g15 g16 g17 g18 g19 g20 g21 g22 g23 g24 g25 g26 v_points) (w_X9_link cI cJ h h_pointsHad h_facesHad g5 g6 g7 g8 g9 g10 g11 g12 g13 g14 g15 g16 g17 g18 g19 g20 g21 g22 g23 g24 g25 g26 v_points v_faces v_kept v_pointsHad v_facesHad) [0] [1, 2] [2, 0, 1] := ⟨rfl, rfl, rfl, by decide, by decide, by decide, by decide⟩
      refine hb_ci (hb_rV (As := []) (rest := [.int l1]) C0 hK hA XT.nn hSt sp (c_X9_all l D cI cJ h (.long v_faces) (.int v_kept) (.ref h_pointsHad) (.ref h_facesHad) g5 g6 g7 g8 g9 g10 g11 g12 g13 g14 g15 g16 g17 g18 g19 g20 g21 g22 g23 g24 g25 g26   v_points R2 hR2) gX9_link_X9_all rfl ⟨rfl, rfl⟩ hd_X9_all ⟨Nat.le_of_ble_eq_true rfl, Nat.le_of_ble_eq_true rfl⟩ 0 8 rfl rfl rfl hl rfl (Nat.le_of_ble_eq_true rfl) dX9_link_14 ⟨Nat.zero_le _, Nat.zero_le _⟩) hA hSt sp (fun H locs hSt => ?_)
      refine lv_icmp_eq (tgt := 28) hx hb dX9_link_17 (by decide) (fun cc => ?_) (fun cc => ?_)
      · have hf := ite_t hf cc
        refine lv_iconst (v := -1) hx hb dX9_link_28 (by decide) ?_
        cases hf
        exact hb_iret C0 hK hSt dX9_link_29
      · have hf := ite_f hf cc
        refine lv_aload_n hx hb dX9_link_20 rfl (lv_at hl 0 rfl) ?_
        refine lv_iload_n hx hb dX9_link_21 rfl (lv_at hl 1 rfl) ?_
        obtain ⟨R3, hR3, hf⟩ := Option.bind_eq_some_iff.mp hf
        have sp : Sp (w_X9_link cI cJ h h_pointsHad h_facesHad g5 g6 g7 g8 g9 g10 g11 g12 g13 g14 g15 g16 g17 g18 g19 g20 g21 g22 g23 g24 g25 g26 v_points v_faces v_kept v_pointsHad v_facesHad) (w_X9_isFace cI cJ h (.int v_points) (.int v_kept) (.ref h_pointsHad) (.ref h_facesHad) g5 g6 g7 g8 g9 g10 g11 g12 g13 g14 g15 g16 g17 g18 g19 g20 g21 g22 g23 g24 g25 g26 v_faces) (w_X9_isFace cI cJ h (.int v_points) (.int v_kept) (.ref h_pointsHad) (.ref h_facesHad) g5 g6 g7 g8 g9 g10 g11 g12 g13 g14 g15 g16 g17 g18 g19 g20 g21 g22 g23 g24 g25 g26 v_faces) (w_X9_link cI cJ h h_pointsHad h_facesHad g5 g6 g7 g8 g9 g10 g11 g12 g13 g14 g15 g16 g17 g18 g19 g20 g21 g22 g23 g24 g25 g26 v_points v_faces v_kept v_pointsHad v_facesHad) [0] [1, 2] [2, 0, 1] := ⟨rfl, rfl, rfl, by decide, by decide, by decide, by decide⟩
        refine hb_ci (hb_rV (As := [.int l1]) (rest := []) C0 hK hA XT.nn hSt sp (c_X9_isFace l D cI cJ h (.int v_points) (.int v_kept) (.ref h_pointsHad) (.ref h_facesHad) g5 g6 g7 g8 g9 g10 g11 g12 g13 g14 g15 g16 g17 g18 g19 g20 g21 g22 g23 g24 g25 g26  l1 v_faces R3 hR3) gX9_link_X9_isFace rfl ⟨rfl, rfl⟩ hd_X9_isFace ⟨Nat.le_of_ble_eq_true rfl, Nat.le_of_ble_eq_true rfl⟩ 0 8 rfl rfl rfl hl rfl (Nat.le_of_ble_eq_true rfl) dX9_link_22 ⟨Nat.zero_le _, Nat.zero_le _⟩) hA hSt sp (fun H locs hSt => ?_)
        refine lv_if_ne (tgt := 30) hx hb dX9_link_25 (by decide) (fun cc => ?_) (fun cc => ?_)
        · have hf := ite_f hf cc
          refine lv_aload_n hx hb dX9_link_30 rfl (lv_at hl 0 rfl) ?_
          refine hb_get C0 hK hSt 0 8 0 rfl rfl iu_X9_link_X9 (by decide) fl_X9_link_7 rfl dX9_link_31 ?_
          refine lv_iload_n hx hb dX9_link_34 rfl (lv_at hl 1 rfl) ?_
          obtain ⟨R4, hR4, hf⟩ := Option.bind_eq_some_iff.mp hf
          have sp : Sp (w_X9_link cI cJ h h_pointsHad h_facesHad g5 g6 g7 g8 g9 g10 g11 g12 g13 g14 g15 g16 g17 g18 g19 g20 g21 g22 g23 g24 g25 g26 v_points v_faces v_kept v_pointsHad v_facesHad) (w_X9_size cI cJ) (w_X9_size cI cJ) (w_X9_link cI cJ h h_pointsHad h_facesHad g5 g6 g7 g8 g9 g10 g11 g12 g13 g14 g15 g16 g17 g18 g19 g20 g21 g22 g23 g24 g25 g26 v_points v_faces v_kept v_pointsHad v_facesHad) [] [0, 1, 2] [0, 1, 2] := ⟨rfl, rfl, rfl, by decide, by decide, by decide, by decide⟩
          refine hb_ci (hb_rS (As := [.int l1]) (rest := [.int v_points]) C0 hK hA XT.nn hSt sp (c_X9_size l D cI cJ   l1  R4 hR4) gX9_link_X9_size rfl ⟨rfl, rfl⟩ hd_X9_size ⟨Nat.le_of_ble_eq_true rfl, Nat.le_of_ble_eq_true rfl⟩ rfl hl rfl (Nat.le_of_ble_eq_true rfl) dX9_link_35 ⟨Nat.zero_le _, Nat.zero_le _⟩) hA hSt sp (fun H locs hSt => ?_)
          refine lv_isub hx hb dX9_link_38 ?_
          refine lv_istore_n (lv' := [(2, .int (v_points - R4)), (0, .ref h), (1, .int l1)]) hx hb dX9_link_39 rfl hl (by decide) rfl (fun ls hl => ?_)
          refine lv_lconst (v := 0) hx hb dX9_link_40 (by decide) ?_
          refine lv_lstore_n (lv' := [(3, .long (0 : Int64)), (2, .int (v_points - R4)), (0, .ref h), (1, .int l1)]) hx hb dX9_link_41 rfl hl (by decide) rfl (fun ls hl => ?_)
          refine lv_iconst (v := 0) hx hb dX9_link_42 (by decide) ?_
          refine lv_istore (lv' := [(5, .int (0 : Int32)), (3, .long (0 : Int64)), (2, .int (v_points - R4)), (0, .ref h), (1, .int l1)]) hx hb dX9_link_43 hl (by decide) rfl (fun ls hl => ?_)
          exact k_X9_link_45 C0 hK hA hX  FU l1 (v_points - R4) (0 : Int64) (0 : Int32) v_points v_faces v_kept v_pointsHad v_facesHad _ _ _ hSt (lv_sub hl [3, 4, 2, 1, 0] rfl) hf
        · have hf := ite_t hf cc
          refine lv_iconst (v := -1) hx hb dX9_link_28 (by decide) ?_
          cases hf
          exact hb_iret C0 hK hSt dX9_link_29
def f_X9_link  (l1 : Int32) (v_points : Int32) (v_faces : Int64) (v_kept : Int32) (v_pointsHad : Nat → Int32) (v_facesHad : Nat → Int64) : Option (Int32 × Int32 × Int64 × Int32 × (Nat → Int32) × (Nat → Int64)) := f_X9_link_0 l1 v_points v_faces v_kept v_pointsHad v_facesHad
set_option maxRecDepth 100000 in
theorem c_X9_link (l : Launch) (D : va_G) (cI cJ : ClassId) (h h_pointsHad h_facesHad : Nat) (g5 g6 g7 g8 g9 g10 g11 g12 g13 g14 g15 g16 g17 g18 g19 g20 g21 g22 g23 g24 g25 g26 : Value) (l1 : Int32) (v_points : Int32) (v_faces : Int64) (v_kept : Int32) (v_pointsHad : Nat → Int32) (v_facesHad : Nat → Int64) (Rr : Int32 × Int32 × Int64 × Int32 × (Nat → Int32) × (Nat → Int64)) (hf : f_X9_link l1 v_points v_faces v_kept v_pointsHad v_facesHad = some Rr) : CtI l yX9_link wsX9_link rm_X9_link D cI cJ none [.ref h, .int l1] (w_X9_link cI cJ h h_pointsHad h_facesHad g5 g6 g7 g8 g9 g10 g11 g12 g13 g14 g15 g16 g17 g18 g19 g20 g21 g22 g23 g24 g25 g26 v_points v_faces v_kept v_pointsHad v_facesHad) Rr.1 (w_X9_link cI cJ h h_pointsHad h_facesHad g5 g6 g7 g8 g9 g10 g11 g12 g13 g14 g15 g16 g17 g18 g19 g20 g21 g22 g23 g24 g25 g26 Rr.2.1 Rr.2.2.1 Rr.2.2.2.1 Rr.2.2.2.2.1 Rr.2.2.2.2.2) :=
  fun sz => BodyW.met (av := [.ref h, .int l1]) (Qc := fun A => QI D cI cJ A (w_X9_link cI cJ h h_pointsHad h_facesHad g5 g6 g7 g8 g9 g10 g11 g12 g13 g14 g15 g16 g17 g18 g19 g20 g21 g22 g23 g24 g25 g26 Rr.2.1 Rr.2.2.1 Rr.2.2.2.1 Rr.2.2.2.2.1 Rr.2.2.2.2.2) Rr.1) (by decide) rfl rfl (Nat.le_of_ble_eq_true rfl) (fun C0 hK hA hX ls hSt hl => k_X9_link_0 C0 hK hA hX l1 v_points v_faces v_kept v_pointsHad v_facesHad _ _ ls hSt hl hf) sz
/-! X9 dual -/
abbrev rm_X9_dual : Room := { frames := 2, cells := 0, slots := 0, locals := 44 }
abbrev w_X9_dual (cI cJ : ClassId) (h : Nat) (h_pointsHad : Nat) (h_facesHad : Nat) (g5 : Value) (g6 : Value) (g7 : Value) (g8 : Value) (g9 : Value) (g10 : Value) (g11 : Value) (g12 : Value) (g13 : Value) (g14 : Value) (g15 : Value) (g16 : Value) (g17 : Value) (g18 : Value) (g19 : Value) (g20 : Value) (g21 : Value) (g22 : Value) (g23 : Value) (g24 : Value) (g25 : Value) (g26 : Value) (v_points : Int32) (v_faces : Int64) (v_kept : Int32) (v_pointsHad : Nat → Int32) (v_facesHad : Nat → Int64) : va_W := [(h, .inr (8, [.int v_points, .long v_faces, .int v_kept, .ref h_pointsHad, .ref h_facesHad, g5, g6, g7, g8, g9, g10, g11, g12, g13, g14, g15, g16, g17, g18, g19, g20, g21, g22, g23, g24, g25, g26])), (h_pointsHad, .inl (cI, 8, .inl v_pointsHad)), (h_facesHad, .inl (cJ, 8, .inr (.inl v_facesHad)))]
theorem iu_X9_dual_X9 : ∀ w ∈ wsX90, w ∈ wsX9_dual := by decide +kernel
theorem fl_X9_dual_7 : Cond.fieldLink RX9 7 (TX9 0).1 (TX9 0).2.1 (TX9 0).2.2.1 ∈ wsX9_dual := by decide +kernel
theorem hd_X9_dual : yX9_dual.cls = RX9 ∧ yX9_dual.cls ≠ "java/lang/invoke/MethodHandle" ∧ yX9_dual.cls ≠ "java/lang/invoke/VarHandle" ∧ (parseMethodDescriptor yX9_dual.desc).map (fun d => d.parameters.length) = some 0 := by decide +kernel
def f_X9_dual_48  (k_17 : Int64 → Int32 → (Int32) → (Int64) → (Int32) → (Nat → Int32) → (Nat → Int64) → Option (Int32 × Int32 × Int64 × Int32 × (Nat → Int32) × (Nat → Int64))) (l3 : Int32) (s0 : Int64) (s1 : Int64) (v_points : Int32) (v_faces : Int64) (v_kept : Int32) (v_pointsHad : Nat → Int32) (v_facesHad : Nat → Int64) : Option (Int32 × Int32 × Int64 × Int32 × (Nat → Int32) × (Nat → Int64)) := k_17 (s1 ||| s0) (l3 + 1) v_points v_faces v_kept v_pointsHad v_facesHad
set_option maxHeartbeats 4000000 in
set_option maxRecDepth 100000 in
theorem k_X9_dual_48 {p : Program} {l : Launch} {e : Env} {s : State} {m : MethodId} {args : Array Value} {below : List Frame} {meth : Method} {c : Code} {A : Nat → Prop} {D : va_G} {cI cJ : ClassId} {h h_pointsHad h_facesHad : Nat} {g5 g6 g7 g8 g9 g10 g11 g12 g13 g14 g15 g16 g17 g18 g19 g20 g21 g22 g23 g24 g25 g26 : Value}  (C0 : Cx p s m args meth c cX9_dual wsX9_dual RX9 4 (some .boolean)) (hK : va_K D vwCl (tyL cI cJ) s) (hA : ∀ q, s.heap.size ≤ q → A q) (hX : XT none A s s.heap) {Rr : Int32 × Int32 × Int64 × Int32 × (Nat → Int32) × (Nat → Int64)} {k_17 : Int64 → Int32 → (Int32) → (Int64) → (Int32) → (Nat → Int32) → (Nat → Int64) → Option (Int32 × Int32 × Int64 × Int32 × (Nat → Int32) × (Nat → Int64))} (hk_17 : ∀ (l1 : Int64) (l3 : Int32) (v_points : Int32) (v_faces : Int64) (v_kept : Int32) (v_pointsHad : Nat → Int32) (v_facesHad : Nat → Int64) (H : Heap) (locs : List Loc) (ls : Array Slot), St D A s (w_X9_dual cI cJ h h_pointsHad h_facesHad g5 g6 g7 g8 g9 g10 g11 g12 g13 g14 g15 g16 g17 g18 g19 g20 g21 g22 g23 g24 g25 g26 v_points v_faces v_kept v_pointsHad v_facesHad) H locs → lv_has ls 4 [(0, .ref h), (1, .long l1), (3, .int l3)] → k_17 l1 l3 v_points v_faces v_kept v_pointsHad v_facesHad = some Rr → W p l e rm_X9_dual s m args below meth c H locs 0 0 (MQ below (QI D cI cJ A (w_X9_dual cI cJ h h_pointsHad h_facesHad g5 g6 g7 g8 g9 g10 g11 g12 g13 g14 g15 g16 g17 g18 g19 g20 g21 g22 g23 g24 g25 g26 Rr.2.1 Rr.2.2.1 Rr.2.2.2.1 Rr.2.2.2.2.1 Rr.2.2.2.2.2) Rr.1) args s 0 0 A) (F0 m 17 ls [])) : ∀ (l3 : Int32) (s0 : Int64) (s1 : Int64) (v_points : Int32) (v_faces : Int64) (v_kept : Int32) (v_pointsHad : Nat → Int32) (v_facesHad : Nat → Int64) (H : Heap) (locs : List Loc) (ls : Array Slot), St D A s (w_X9_dual cI cJ h h_pointsHad h_facesHad g5 g6 g7 g8 g9 g10 g11 g12 g13 g14 g15 g16 g17 g18 g19 g20 g21 g22 g23 g24 g25 g26 v_points v_faces v_kept v_pointsHad v_facesHad) H locs → lv_has ls 4 [(0, .ref h), (3, .int l3)] → f_X9_dual_48 k_17 l3 s0 s1 v_points v_faces v_kept v_pointsHad v_facesHad = some Rr → W p l e rm_X9_dual s m args below meth c H locs 0 0 (MQ below (QI D cI cJ A (w_X9_dual cI cJ h h_pointsHad h_facesHad g5 g6 g7 g8 g9 g10 g11 g12 g13 g14 g15 g16 g17 g18 g19 g20 g21 g22 g23 g24 g25 g26 Rr.2.1 Rr.2.2.1 Rr.2.2.2.1 Rr.2.2.2.2.1 Rr.2.2.2.2.2) Rr.1) args s 0 0 A) (F0 m 48 ls [.long s0, .long s1]) := by
  have hx := C0.1.1
  have hb := C0.1.2.1
  intro l3 s0 s1 v_points v_faces v_kept v_pointsHad v_facesHad H locs ls hSt hl hf
  unfold f_X9_dual_48 at hf
  refine lv_lor hx hb dX9_dual_48 ?_
  refine lv_lstore_n (lv' := [(1, .long (s1 ||| s0)), (0, .ref h), (3, .int l3)]) hx hb dX9_dual_49 rfl hl (by decide) rfl (fun ls hl => ?_)
  refine lv_iinc (v := l3 + 1) (lv' := [(3, .int (l3 + 1)), (1, .long (s1 ||| s0)), (0, .ref h)]) hx hb dX9_dual_50 hl (k := 2) rfl rfl (by decide) rfl (fun ls hl => ?_)
  refine lv_goto (tgt := 17) hx hb dX9_dual_53 (by decide) ?_
  exact hk_17 (s1 ||| s0) (l3 + 1) v_points v_faces v_kept v_pointsHad v_facesHad _ _ _ hSt (lv_sub hl [2, 1, 0] rfl) hf
def f_X9_dual_17   : Nat → Int64 → Int32 → (Int32) → (Int64) → (Int32) → (Nat → Int32) → (Nat → Int64) → Option (Int32 × Int32 × Int64 × Int32 × (Nat → Int32) × (Nat → Int64))
  | 0, _, _, _, _, _, _, _ => none
  | n + 1, l1, l3, v_points, v_faces, v_kept, v_pointsHad, v_facesHad => (f_X9_all v_points).bind (fun R1 => if R1 < l3 then (f_X9_becomes v_points l1 v_points v_faces v_kept v_pointsHad v_facesHad).bind (fun R2 => some ((1 : Int32), R2.1, R2.2.1, R2.2.2.1, R2.2.2.2.1, R2.2.2.2.2)) else (f_X9_all v_points).bind (fun R3 => (f_X9_isFace v_faces (R3 &&& (l3 ^^^ (-1 : Int32)))).bind (fun R4 => if R4 = 0 then f_X9_dual_48  (f_X9_dual_17 n) l3 ((1 : Int64) <<< (l3.toInt64 &&& 63)) l1 v_points v_faces v_kept v_pointsHad v_facesHad else f_X9_dual_48  (f_X9_dual_17 n) l3 (0 : Int64) l1 v_points v_faces v_kept v_pointsHad v_facesHad)))
set_option maxHeartbeats 4000000 in
set_option maxRecDepth 100000 in
theorem k_X9_dual_17 {p : Program} {l : Launch} {e : Env} {s : State} {m : MethodId} {args : Array Value} {below : List Frame} {meth : Method} {c : Code} {A : Nat → Prop} {D : va_G} {cI cJ : ClassId} {h h_pointsHad h_facesHad : Nat} {g5 g6 g7 g8 g9 g10 g11 g12 g13 g14 g15 g16 g17 g18 g19 g20 g21 g22 g23 g24 g25 g26 : Value}  (C0 : Cx p s m args meth c cX9_dual wsX9_dual RX9 4 (some .boolean)) (hK : va_K D vwCl (tyL cI cJ) s) (hA : ∀ q, s.heap.size ≤ q → A q) (hX : XT none A s s.heap) {Rr : Int32 × Int32 × Int64 × Int32 × (Nat → Int32) × (Nat → Int64)} (n : Nat) : ∀ (l1 : Int64) (l3 : Int32) (v_points : Int32) (v_faces : Int64) (v_kept : Int32) (v_pointsHad : Nat → Int32) (v_facesHad : Nat → Int64) (H : Heap) (locs : List Loc) (ls : Array Slot), St D A s (w_X9_dual cI cJ h h_pointsHad h_facesHad g5 g6 g7 g8 g9 g10 g11 g12 g13 g14 g15 g16 g17 g18 g19 g20 g21 g22 g23 g24 g25 g26 v_points v_faces v_kept v_pointsHad v_facesHad) H locs → lv_has ls 4 [(0, .ref h), (1, .long l1), (3, .int l3)] → f_X9_dual_17 n l1 l3 v_points v_faces v_kept v_pointsHad v_facesHad = some Rr → W p l e rm_X9_dual s m args below meth c H locs 0 0 (MQ below (QI D cI cJ A (w_X9_dual cI cJ h h_pointsHad h_facesHad g5 g6 g7 g8 g9 g10 g11 g12 g13 g14 g15 g16 g17 g18 g19 g20 g21 g22 g23 g24 g25 g26 Rr.2.1 Rr.2.2.1 Rr.2.2.2.1 Rr.2.2.2.2.1 Rr.2.2.2.2.2) Rr.1) args s 0 0 A) (F0 m 17 ls []) := by
  have hx := C0.1.1
  have hb := C0.1.2.1
  induction n with
  | zero => intro l1 l3 v_points v_faces v_kept v_pointsHad v_facesHad H locs ls hSt hl hf; exact nomatch (show (none : Option _) = some Rr from hf)
  | succ n ih =>
    intro l1 l3 v_points v_faces v_kept v_pointsHad v_facesHad H locs ls hSt hl hf
    unfold f_X9_dual_17 at hf
    refine lv_iload_n hx hb dX9_dual_17 rfl (lv_at hl 2 rfl) ?_
    refine lv_aload_n hx hb dX9_dual_18 rfl (lv_at hl 0 rfl) ?_
    obtain ⟨R1, hR1, hf⟩ := Option.bind_eq_some_iff.mp hf
    have sp : Sp (w_X9_dual cI cJ h h_pointsHad h_facesHad g5 g6 g7 g8 g9 g10 g11 g12 g13 g14 g15 g16 g17 g18 g19 g20 g21 g22 g23 g24 g25 g26 v_points v_faces v_kept v_pointsHad v_facesHad) (w_X9_all cI cJ h (.long v_faces) (.int v_kept) (.ref h_pointsHad) (.ref h_facesHad) g5 g6 g7 g8 g9 g10 g11 g12 g13 g14 g15 g16 g17 g18 g19 g20 g21 g22 g23 g24 g25 g26 v_points) (w_X9_all cI cJ h (.long v_faces) (.int v_kept) (.ref h_pointsHad) (.ref h_facesHad) g5 g6 g7 g8 g9 g10 g11 g12 g13 g14 g15 g16 g17 g18 g19 g20 g21 g22 g23 g24 g25 g26 v_points) (w_X9_dual cI cJ h h_pointsHad h_facesHad g5 g6 g7 g8 g9 g10 g11 g12 g13 g14 g15 g16 g17 g18 g19 g20 g21 g22 g23 g24 g25 g26 v_points v_faces v_kept v_pointsHad v_facesHad) [0] [1, 2] [2, 0, 1] := ⟨rfl, rfl, rfl, by decide, by decide, by decide, by decide⟩
    refine hb_ci (hb_rV (As := []) (rest := [.int l3]) C0 hK hA XT.nn hSt sp (c_X9_all l D cI cJ h (.long v_faces) (.int v_kept) (.ref h_pointsHad) (.ref h_facesHad) g5 g6 g7 g8 g9 g10 g11 g12 g13 g14 g15 g16 g17 g18 g19 g20 g21 g22 g23 g24 g25 g26   v_points R1 hR1) gX9_dual_X9_all rfl ⟨rfl, rfl⟩ hd_X9_all ⟨Nat.le_of_ble_eq_true rfl, Nat.le_of_ble_eq_true rfl⟩ 0 8 rfl rfl rfl hl rfl (Nat.le_of_ble_eq_true rfl) dX9_dual_19 ⟨Nat.zero_le _, Nat.zero_le _⟩) hA hSt sp (fun H locs hSt => ?_)
    refine lv_icmp_gt (tgt := 56) hx hb dX9_dual_22 (by decide) (fun cc => ?_) (fun cc => ?_)
    · have hf := ite_t hf cc
      refine lv_aload_n hx hb dX9_dual_56 rfl (lv_at hl 0 rfl) ?_
      refine lv_aload_n hx hb dX9_dual_57 rfl (lv_at hl 0 rfl) ?_
      refine hb_get C0 hK hSt 0 8 0 rfl rfl iu_X9_dual_X9 (by decide) fl_X9_dual_7 rfl dX9_dual_58 ?_
      refine lv_lload_n hx hb dX9_dual_61 rfl (lv_at hl 1 rfl) ?_
      obtain ⟨R2, hR2, hf⟩ := Option.bind_eq_some_iff.mp hf
      have sp : Sp (w_X9_dual cI cJ h h_pointsHad h_facesHad g5 g6 g7 g8 g9 g10 g11 g12 g13 g14 g15 g16 g17 g18 g19 g20 g21 g22 g23 g24 g25 g26 v_points v_faces v_kept v_pointsHad v_facesHad) (w_X9_becomes cI cJ h h_pointsHad h_facesHad g5 g6 g7 g8 g9 g10 g11 g12 g13 g14 g15 g16 g17 g18 g19 g20 g21 g22 g23 g24 g25 g26 v_points v_faces v_kept v_pointsHad v_facesHad) (w_X9_becomes cI cJ h h_pointsHad h_facesHad g5 g6 g7 g8 g9 g10 g11 g12 g13 g14 g15 g16 g17 g18 g19 g20 g21 g22 g23 g24 g25 g26 R2.1 R2.2.1 R2.2.2.1 R2.2.2.2.1 R2.2.2.2.2) (w_X9_dual cI cJ h h_pointsHad h_facesHad g5 g6 g7 g8 g9 g10 g11 g12 g13 g14 g15 g16 g17 g18 g19 g20 g21 g22 g23 g24 g25 g26 R2.1 R2.2.1 R2.2.2.1 R2.2.2.2.1 R2.2.2.2.2) [0, 1, 2] [] [0, 1, 2] := ⟨rfl, rfl, rfl, by decide, by decide, by decide, by decide⟩
      refine hb_cv (hb_rV (As := [.int v_points, .long l1]) (rest := []) C0 hK hA XT.nn hSt sp (c_X9_becomes l D cI cJ h h_pointsHad h_facesHad g5 g6 g7 g8 g9 g10 g11 g12 g13 g14 g15 g16 g17 g18 g19 g20 g21 g22 g23 g24 g25 g26  v_points l1 v_points v_faces v_kept v_pointsHad v_facesHad R2 hR2) gX9_dual_X9_becomes rfl ⟨rfl, rfl⟩ hd_X9_becomes ⟨Nat.le_of_ble_eq_true rfl, Nat.le_of_ble_eq_true rfl⟩ 0 8 rfl rfl rfl hl rfl (Nat.le_of_ble_eq_true rfl) dX9_dual_62 ⟨Nat.zero_le _, Nat.zero_le _⟩) hA hSt sp (fun H locs hSt => ?_)
      refine lv_iconst (v := 1) hx hb dX9_dual_65 (by decide) ?_
      cases hf
      exact hb_zret C0 hK hSt nb1.1 dX9_dual_66
    · have hf := ite_f hf cc
      refine lv_lload_n hx hb dX9_dual_25 rfl (lv_at hl 1 rfl) ?_
      refine lv_aload_n hx hb dX9_dual_26 rfl (lv_at hl 0 rfl) ?_
      refine lv_aload_n hx hb dX9_dual_27 rfl (lv_at hl 0 rfl) ?_
      obtain ⟨R3, hR3, hf⟩ := Option.bind_eq_some_iff.mp hf
      have sp : Sp (w_X9_dual cI cJ h h_pointsHad h_facesHad g5 g6 g7 g8 g9 g10 g11 g12 g13 g14 g15 g16 g17 g18 g19 g20 g21 g22 g23 g24 g25 g26 v_points v_faces v_kept v_pointsHad v_facesHad) (w_X9_all cI cJ h (.long v_faces) (.int v_kept) (.ref h_pointsHad) (.ref h_facesHad) g5 g6 g7 g8 g9 g10 g11 g12 g13 g14 g15 g16 g17 g18 g19 g20 g21 g22 g23 g24 g25 g26 v_points) (w_X9_all cI cJ h (.long v_faces) (.int v_kept) (.ref h_pointsHad) (.ref h_facesHad) g5 g6 g7 g8 g9 g10 g11 g12 g13 g14 g15 g16 g17 g18 g19 g20 g21 g22 g23 g24 g25 g26 v_points) (w_X9_dual cI cJ h h_pointsHad h_facesHad g5 g6 g7 g8 g9 g10 g11 g12 g13 g14 g15 g16 g17 g18 g19 g20 g21 g22 g23 g24 g25 g26 v_points v_faces v_kept v_pointsHad v_facesHad) [0] [1, 2] [2, 0, 1] := ⟨rfl, rfl, rfl, by decide, by decide, by decide, by decide⟩
      refine hb_ci (hb_rV (As := []) (rest := [.ref h, .long l1]) C0 hK hA XT.nn hSt sp (c_X9_all l D cI cJ h (.long v_faces) (.int v_kept) (.ref h_pointsHad) (.ref h_facesHad) g5 g6 g7 g8 g9 g10 g11 g12 g13 g14 g15 g16 g17 g18 g19 g20 g21 g22 g23 g24 g25 g26   v_points R3 hR3) gX9_dual_X9_all rfl ⟨rfl, rfl⟩ hd_X9_all ⟨Nat.le_of_ble_eq_true rfl, Nat.le_of_ble_eq_true rfl⟩ 0 8 rfl rfl rfl hl rfl (Nat.le_of_ble_eq_true rfl) dX9_dual_28 ⟨Nat.zero_le _, Nat.zero_le _⟩) hA hSt sp (fun H locs hSt => ?_)
      refine lv_iload_n hx hb dX9_dual_31 rfl (lv_at hl 2 rfl) ?_
      refine lv_iconst (v := -1) hx hb dX9_dual_32 (by decide) ?_
      refine lv_ixor hx hb dX9_dual_33 ?_
      refine lv_iand hx hb dX9_dual_34 ?_
      obtain ⟨R4, hR4, hf⟩ := Option.bind_eq_some_iff.mp hf
      have sp : Sp (w_X9_dual cI cJ h h_pointsHad h_facesHad g5 g6 g7 g8 g9 g10 g11 g12 g13 g14 g15 g16 g17 g18 g19 g20 g21 g22 g23 g24 g25 g26 v_points v_faces v_kept v_pointsHad v_facesHad) (w_X9_isFace cI cJ h (.int v_points) (.int v_kept) (.ref h_pointsHad) (.ref h_facesHad) g5 g6 g7 g8 g9 g10 g11 g12 g13 g14 g15 g16 g17 g18 g19 g20 g21 g22 g23 g24 g25 g26 v_faces) (w_X9_isFace cI cJ h (.int v_points) (.int v_kept) (.ref h_pointsHad) (.ref h_facesHad) g5 g6 g7 g8 g9 g10 g11 g12 g13 g14 g15 g16 g17 g18 g19 g20 g21 g22 g23 g24 g25 g26 v_faces) (w_X9_dual cI cJ h h_pointsHad h_facesHad g5 g6 g7 g8 g9 g10 g11 g12 g13 g14 g15 g16 g17 g18 g19 g20 g21 g22 g23 g24 g25 g26 v_points v_faces v_kept v_pointsHad v_facesHad) [0] [1, 2] [2, 0, 1] := ⟨rfl, rfl, rfl, by decide, by decide, by decide, by decide⟩
      refine hb_ci (hb_rV (As := [.int (R3 &&& (l3 ^^^ (-1 : Int32)))]) (rest := [.long l1]) C0 hK hA XT.nn hSt sp (c_X9_isFace l D cI cJ h (.int v_points) (.int v_kept) (.ref h_pointsHad) (.ref h_facesHad) g5 g6 g7 g8 g9 g10 g11 g12 g13 g14 g15 g16 g17 g18 g19 g20 g21 g22 g23 g24 g25 g26  (R3 &&& (l3 ^^^ (-1 : Int32))) v_faces R4 hR4) gX9_dual_X9_isFace rfl ⟨rfl, rfl⟩ hd_X9_isFace ⟨Nat.le_of_ble_eq_true rfl, Nat.le_of_ble_eq_true rfl⟩ 0 8 rfl rfl rfl hl rfl (Nat.le_of_ble_eq_true rfl) dX9_dual_35 ⟨Nat.zero_le _, Nat.zero_le _⟩) hA hSt sp (fun H locs hSt => ?_)
      refine lv_if_eq (tgt := 45) hx hb dX9_dual_38 (by decide) (fun cc => ?_) (fun cc => ?_)
      · have hf := ite_t hf cc
        refine lv_lconst (v := 1) hx hb dX9_dual_45 (by decide) ?_
        refine lv_iload_n hx hb dX9_dual_46 rfl (lv_at hl 2 rfl) ?_
        refine lv_lshl (v := (1 : Int64) <<< (l3.toInt64 &&& 63)) hx hb dX9_dual_47 rfl ?_
        exact k_X9_dual_48 C0 hK hA hX ih l3 ((1 : Int64) <<< (l3.toInt64 &&& 63)) l1 v_points v_faces v_kept v_pointsHad v_facesHad _ _ _ hSt (lv_sub hl [0, 2] rfl) hf
      · have hf := ite_f hf cc
        refine lv_lconst (v := 0) hx hb dX9_dual_41 (by decide) ?_
        refine lv_goto (tgt := 48) hx hb dX9_dual_42 (by decide) ?_
        exact k_X9_dual_48 C0 hK hA hX ih l3 (0 : Int64) l1 v_points v_faces v_kept v_pointsHad v_facesHad _ _ _ hSt (lv_sub hl [0, 2] rfl) hf
def f_X9_dual_0    (v_points : Int32) (v_faces : Int64) (v_kept : Int32) (v_pointsHad : Nat → Int32) (v_facesHad : Nat → Int64) : Option (Int32 × Int32 × Int64 × Int32 × (Nat → Int32) × (Nat → Int64)) := (f_X9_all v_points).bind (fun R1 => (f_X9_isFace v_faces R1).bind (fun R2 => if R2 = 0 then f_X9_dual_17   FU (0 : Int64) (0 : Int32) v_points v_faces v_kept v_pointsHad v_facesHad else some ((0 : Int32), v_points, v_faces, v_kept, v_pointsHad, v_facesHad)))
set_option maxHeartbeats 4000000 in
set_option maxRecDepth 100000 in
theorem k_X9_dual_0 {p : Program} {l : Launch} {e : Env} {s : State} {m : MethodId} {args : Array Value} {below : List Frame} {meth : Method} {c : Code} {A : Nat → Prop} {D : va_G} {cI cJ : ClassId} {h h_pointsHad h_facesHad : Nat} {g5 g6 g7 g8 g9 g10 g11 g12 g13 g14 g15 g16 g17 g18 g19 g20 g21 g22 g23 g24 g25 g26 : Value}  (C0 : Cx p s m args meth c cX9_dual wsX9_dual RX9 4 (some .boolean)) (hK : va_K D vwCl (tyL cI cJ) s) (hA : ∀ q, s.heap.size ≤ q → A q) (hX : XT none A s s.heap) {Rr : Int32 × Int32 × Int64 × Int32 × (Nat → Int32) × (Nat → Int64)} : ∀  (v_points : Int32) (v_faces : Int64) (v_kept : Int32) (v_pointsHad : Nat → Int32) (v_facesHad : Nat → Int64) (H : Heap) (locs : List Loc) (ls : Array Slot), St D A s (w_X9_dual cI cJ h h_pointsHad h_facesHad g5 g6 g7 g8 g9 g10 g11 g12 g13 g14 g15 g16 g17 g18 g19 g20 g21 g22 g23 g24 g25 g26 v_points v_faces v_kept v_pointsHad v_facesHad) H locs → lv_has ls 4 [(0, .ref h)] → f_X9_dual_0 v_points v_faces v_kept v_pointsHad v_facesHad = some Rr → W p l e rm_X9_dual s m args below meth c H locs 0 0 (MQ below (QI D cI cJ A (w_X9_dual cI cJ h h_pointsHad h_facesHad g5 g6 g7 g8 g9 g10 g11 g12 g13 g14 g15 g16 g17 g18 g19 g20 g21 g22 g23 g24 g25 g26 Rr.2.1 Rr.2.2.1 Rr.2.2.2.1 Rr.2.2.2.2.1 Rr.2.2.2.2.2) Rr.1) args s 0 0 A) (F0 m 0 ls []) := by
  have hx := C0.1.1
  have hb := C0.1.2.1
  intro v_points v_faces v_kept v_pointsHad v_facesHad H locs ls hSt hl hf
  unfold f_X9_dual_0 at hf
  refine lv_aload_n hx hb dX9_dual_0 rfl (lv_at hl 0 rfl) ?_
  refine lv_aload_n hx hb dX9_dual_1 rfl (lv_at hl 0 rfl) ?_
  obtain ⟨R1, hR1, hf⟩ := Option.bind_eq_some_iff.mp hf
  have sp : Sp (w_X9_dual cI cJ h h_pointsHad h_facesHad g5 g6 g7 g8 g9 g10 g11 g12 g13 g14 g15 g16 g17 g18 g19 g20 g21 g22 g23 g24 g25 g26 v_points v_faces v_kept v_pointsHad v_facesHad) (w_X9_all cI cJ h (.long v_faces) (.int v_kept) (.ref h_pointsHad) (.ref h_facesHad) g5 g6 g7 g8 g9 g10 g11 g12 g13 g14 g15 g16 g17 g18 g19 g20 g21 g22 g23 g24 g25 g26 v_points) (w_X9_all cI cJ h (.long v_faces) (.int v_kept) (.ref h_pointsHad) (.ref h_facesHad) g5 g6 g7 g8 g9 g10 g11 g12 g13 g14 g15 g16 g17 g18 g19 g20 g21 g22 g23 g24 g25 g26 v_points) (w_X9_dual cI cJ h h_pointsHad h_facesHad g5 g6 g7 g8 g9 g10 g11 g12 g13 g14 g15 g16 g17 g18 g19 g20 g21 g22 g23 g24 g25 g26 v_points v_faces v_kept v_pointsHad v_facesHad) [0] [1, 2] [2, 0, 1] := ⟨rfl, rfl, rfl, by decide, by decide, by decide, by decide⟩
  refine hb_ci (hb_rV (As := []) (rest := [.ref h]) C0 hK hA XT.nn hSt sp (c_X9_all l D cI cJ h (.long v_faces) (.int v_kept) (.ref h_pointsHad) (.ref h_facesHad) g5 g6 g7 g8 g9 g10 g11 g12 g13 g14 g15 g16 g17 g18 g19 g20 g21 g22 g23 g24 g25 g26   v_points R1 hR1) gX9_dual_X9_all rfl ⟨rfl, rfl⟩ hd_X9_all ⟨Nat.le_of_ble_eq_true rfl, Nat.le_of_ble_eq_true rfl⟩ 0 8 rfl rfl rfl hl rfl (Nat.le_of_ble_eq_true rfl) dX9_dual_2 ⟨Nat.zero_le _, Nat.zero_le _⟩) hA hSt sp (fun H locs hSt => ?_)
  obtain ⟨R2, hR2, hf⟩ := Option.bind_eq_some_iff.mp hf
  have sp : Sp (w_X9_dual cI cJ h h_pointsHad h_facesHad g5 g6 g7 g8 g9 g10 g11 g12 g13 g14 g15 g16 g17 g18 g19 g20 g21 g22 g23 g24 g25 g26 v_points v_faces v_kept v_pointsHad v_facesHad) (w_X9_isFace cI cJ h (.int v_points) (.int v_kept) (.ref h_pointsHad) (.ref h_facesHad) g5 g6 g7 g8 g9 g10 g11 g12 g13 g14 g15 g16 g17 g18 g19 g20 g21 g22 g23 g24 g25 g26 v_faces) (w_X9_isFace cI cJ h (.int v_points) (.int v_kept) (.ref h_pointsHad) (.ref h_facesHad) g5 g6 g7 g8 g9 g10 g11 g12 g13 g14 g15 g16 g17 g18 g19 g20 g21 g22 g23 g24 g25 g26 v_faces) (w_X9_dual cI cJ h h_pointsHad h_facesHad g5 g6 g7 g8 g9 g10 g11 g12 g13 g14 g15 g16 g17 g18 g19 g20 g21 g22 g23 g24 g25 g26 v_points v_faces v_kept v_pointsHad v_facesHad) [0] [1, 2] [2, 0, 1] := ⟨rfl, rfl, rfl, by decide, by decide, by decide, by decide⟩
  refine hb_ci (hb_rV (As := [.int R1]) (rest := []) C0 hK hA XT.nn hSt sp (c_X9_isFace l D cI cJ h (.int v_points) (.int v_kept) (.ref h_pointsHad) (.ref h_facesHad) g5 g6 g7 g8 g9 g10 g11 g12 g13 g14 g15 g16 g17 g18 g19 g20 g21 g22 g23 g24 g25 g26  R1 v_faces R2 hR2) gX9_dual_X9_isFace rfl ⟨rfl, rfl⟩ hd_X9_isFace ⟨Nat.le_of_ble_eq_true rfl, Nat.le_of_ble_eq_true rfl⟩ 0 8 rfl rfl rfl hl rfl (Nat.le_of_ble_eq_true rfl) dX9_dual_5 ⟨Nat.zero_le _, Nat.zero_le _⟩) hA hSt sp (fun H locs hSt => ?_)
  refine lv_if_eq (tgt := 13) hx hb dX9_dual_8 (by decide) (fun cc => ?_) (fun cc => ?_)
  · have hf := ite_t hf cc
    refine lv_lconst (v := 0) hx hb dX9_dual_13 (by decide) ?_
    refine lv_lstore_n (lv' := [(1, .long (0 : Int64)), (0, .ref h)]) hx hb dX9_dual_14 rfl hl (by decide) rfl (fun ls hl => ?_)
    refine lv_iconst (v := 0) hx hb dX9_dual_15 (by decide) ?_
    refine lv_istore_n (lv' := [(3, .int (0 : Int32)), (1, .long (0 : Int64)), (0, .ref h)]) hx hb dX9_dual_16 rfl hl (by decide) rfl (fun ls hl => ?_)
    exact k_X9_dual_17 C0 hK hA hX  FU (0 : Int64) (0 : Int32) v_points v_faces v_kept v_pointsHad v_facesHad _ _ _ hSt (lv_sub hl [2, 1, 0] rfl) hf
  · have hf := ite_f hf cc
    refine lv_iconst (v := 0) hx hb dX9_dual_11 (by decide) ?_
    cases hf
    exact hb_zret C0 hK hSt nb0.1 dX9_dual_12
def f_X9_dual   (v_points : Int32) (v_faces : Int64) (v_kept : Int32) (v_pointsHad : Nat → Int32) (v_facesHad : Nat → Int64) : Option (Int32 × Int32 × Int64 × Int32 × (Nat → Int32) × (Nat → Int64)) := f_X9_dual_0 v_points v_faces v_kept v_pointsHad v_facesHad
set_option maxRecDepth 100000 in
theorem c_X9_dual (l : Launch) (D : va_G) (cI cJ : ClassId) (h h_pointsHad h_facesHad : Nat) (g5 g6 g7 g8 g9 g10 g11 g12 g13 g14 g15 g16 g17 g18 g19 g20 g21 g22 g23 g24 g25 g26 : Value)  (v_points : Int32) (v_faces : Int64) (v_kept : Int32) (v_pointsHad : Nat → Int32) (v_facesHad : Nat → Int64) (Rr : Int32 × Int32 × Int64 × Int32 × (Nat → Int32) × (Nat → Int64)) (hf : f_X9_dual v_points v_faces v_kept v_pointsHad v_facesHad = some Rr) : CtI l yX9_dual wsX9_dual rm_X9_dual D cI cJ none [.ref h] (w_X9_dual cI cJ h h_pointsHad h_facesHad g5 g6 g7 g8 g9 g10 g11 g12 g13 g14 g15 g16 g17 g18 g19 g20 g21 g22 g23 g24 g25 g26 v_points v_faces v_kept v_pointsHad v_facesHad) Rr.1 (w_X9_dual cI cJ h h_pointsHad h_facesHad g5 g6 g7 g8 g9 g10 g11 g12 g13 g14 g15 g16 g17 g18 g19 g20 g21 g22 g23 g24 g25 g26 Rr.2.1 Rr.2.2.1 Rr.2.2.2.1 Rr.2.2.2.2.1 Rr.2.2.2.2.2) :=
  fun sz => BodyW.met (av := [.ref h]) (Qc := fun A => QI D cI cJ A (w_X9_dual cI cJ h h_pointsHad h_facesHad g5 g6 g7 g8 g9 g10 g11 g12 g13 g14 g15 g16 g17 g18 g19 g20 g21 g22 g23 g24 g25 g26 Rr.2.1 Rr.2.2.1 Rr.2.2.2.1 Rr.2.2.2.2.1 Rr.2.2.2.2.2) Rr.1) (by decide) rfl rfl (Nat.le_of_ble_eq_true rfl) (fun C0 hK hA hX ls hSt hl => k_X9_dual_0 C0 hK hA hX  v_points v_faces v_kept v_pointsHad v_facesHad _ _ ls hSt hl hf) sz
/-! X9 has -/
abbrev rm_X9_has : Room := { frames := 2, cells := 0, slots := 0, locals := 43 }
abbrev w_X9_has (cI cJ : ClassId) (h : Nat) (g2 : Value) (g3 : Value) (g4 : Value) (g5 : Value) (g6 : Value) (g7 : Value) (g8 : Value) (g9 : Value) (g10 : Value) (g11 : Value) (g12 : Value) (g13 : Value) (g14 : Value) (g15 : Value) (g16 : Value) (g17 : Value) (g18 : Value) (g19 : Value) (g20 : Value) (g21 : Value) (g22 : Value) (g23 : Value) (g24 : Value) (g25 : Value) (g26 : Value) (v_points : Int32) (v_faces : Int64) : va_W := [(h, .inr (8, [.int v_points, .long v_faces, g2, g3, g4, g5, g6, g7, g8, g9, g10, g11, g12, g13, g14, g15, g16, g17, g18, g19, g20, g21, g22, g23, g24, g25, g26]))]
theorem hd_X9_has : yX9_has.cls = RX9 ∧ yX9_has.cls ≠ "java/lang/invoke/MethodHandle" ∧ yX9_has.cls ≠ "java/lang/invoke/VarHandle" ∧ (parseMethodDescriptor yX9_has.desc).map (fun d => d.parameters.length) = some 1 := by decide +kernel
def f_X9_has_0 (v_points : Int32) (v_faces : Int64)  (l1 : Int32)  : Option (Int32) := (f_X9_isSet v_points l1).bind (fun R1 => if R1 = 0 then some (-1 : Int32) else (f_X9_isFace v_faces l1).bind (fun R2 => if R2 = 0 then some (0 : Int32) else some (1 : Int32)))
set_option maxHeartbeats 4000000 in
set_option maxRecDepth 100000 in
theorem k_X9_has_0 {p : Program} {l : Launch} {e : Env} {s : State} {m : MethodId} {args : Array Value} {below : List Frame} {meth : Method} {c : Code} {A : Nat → Prop} {D : va_G} {cI cJ : ClassId} {h : Nat} {g2 g3 g4 g5 g6 g7 g8 g9 g10 g11 g12 g13 g14 g15 g16 g17 g18 g19 g20 g21 g22 g23 g24 g25 g26 : Value} {v_points : Int32} {v_faces : Int64} (C0 : Cx p s m args meth c cX9_has wsX9_has RX9 2 (some .int)) (hK : va_K D vwCl (tyL cI cJ) s) (hA : ∀ q, s.heap.size ≤ q → A q) (hX : XT none A s s.heap) {Rr : Int32} : ∀ (l1 : Int32)  (H : Heap) (locs : List Loc) (ls : Array Slot), St D A s (w_X9_has cI cJ h g2 g3 g4 g5 g6 g7 g8 g9 g10 g11 g12 g13 g14 g15 g16 g17 g18 g19 g20 g21 g22 g23 g24 g25 g26 v_points v_faces) H locs → lv_has ls 2 [(0, .ref h), (1, .int l1)] → f_X9_has_0 v_points v_faces l1 = some Rr → W p l e rm_X9_has s m args below meth c H locs 0 0 (MQ below (QI D cI cJ A (w_X9_has cI cJ h g2 g3 g4 g5 g6 g7 g8 g9 g10 g11 g12 g13 g14 g15 g16 g17 g18 g19 g20 g21 g22 g23 g24 g25 g26 v_points v_faces) Rr) args s 0 0 A) (F0 m 0 ls []) := by
  have hx := C0.1.1
  have hb := C0.1.2.1
  intro l1 H locs ls hSt hl hf
  unfold f_X9_has_0 at hf
  refine lv_aload_n hx hb dX9_has_0 rfl (lv_at hl 0 rfl) ?_
  refine lv_iload_n hx hb dX9_has_1 rfl (lv_at hl 1 rfl) ?_
  obtain ⟨R1, hR1, hf⟩ := Option.bind_eq_some_iff.mp hf
  have sp : Sp (w_X9_has cI cJ h g2 g3 g4 g5 g6 g7 g8 g9 g10 g11 g12 g13 g14 g15 g16 g17 g18 g19 g20 g21 g22 g23 g24 g25 g26 v_points v_faces) (w_X9_isSet cI cJ h (.long v_faces) g2 g3 g4 g5 g6 g7 g8 g9 g10 g11 g12 g13 g14 g15 g16 g17 g18 g19 g20 g21 g22 g23 g24 g25 g26 v_points) (w_X9_isSet cI cJ h (.long v_faces) g2 g3 g4 g5 g6 g7 g8 g9 g10 g11 g12 g13 g14 g15 g16 g17 g18 g19 g20 g21 g22 g23 g24 g25 g26 v_points) (w_X9_has cI cJ h g2 g3 g4 g5 g6 g7 g8 g9 g10 g11 g12 g13 g14 g15 g16 g17 g18 g19 g20 g21 g22 g23 g24 g25 g26 v_points v_faces) [0] [] [0] := ⟨rfl, rfl, rfl, by decide, by decide, by decide, by decide⟩
  refine hb_ci (hb_rV (As := [.int l1]) (rest := []) C0 hK hA XT.nn hSt sp (c_X9_isSet l D cI cJ h (.long v_faces) g2 g3 g4 g5 g6 g7 g8 g9 g10 g11 g12 g13 g14 g15 g16 g17 g18 g19 g20 g21 g22 g23 g24 g25 g26  l1 v_points R1 hR1) gX9_has_X9_isSet rfl ⟨rfl, rfl⟩ hd_X9_isSet ⟨Nat.le_of_ble_eq_true rfl, Nat.le_of_ble_eq_true rfl⟩ 0 8 rfl rfl rfl hl rfl (Nat.le_of_ble_eq_true rfl) dX9_has_2 ⟨Nat.zero_le _, Nat.zero_le _⟩) hA hSt sp (fun H locs hSt => ?_)
  refine lv_if_ne (tgt := 12) hx hb dX9_has_5 (by decide) (fun cc => ?_) (fun cc => ?_)
  · have hf := ite_f hf cc
    refine lv_aload_n hx hb dX9_has_12 rfl (lv_at hl 0 rfl) ?_
    refine lv_iload_n hx hb dX9_has_13 rfl (lv_at hl 1 rfl) ?_
    obtain ⟨R2, hR2, hf⟩ := Option.bind_eq_some_iff.mp hf
    have sp : Sp (w_X9_has cI cJ h g2 g3 g4 g5 g6 g7 g8 g9 g10 g11 g12 g13 g14 g15 g16 g17 g18 g19 g20 g21 g22 g23 g24 g25 g26 v_points v_faces) (w_X9_isFace cI cJ h (.int v_points) g2 g3 g4 g5 g6 g7 g8 g9 g10 g11 g12 g13 g14 g15 g16 g17 g18 g19 g20 g21 g22 g23 g24 g25 g26 v_faces) (w_X9_isFace cI cJ h (.int v_points) g2 g3 g4 g5 g6 g7 g8 g9 g10 g11 g12 g13 g14 g15 g16 g17 g18 g19 g20 g21 g22 g23 g24 g25 g26 v_faces) (w_X9_has cI cJ h g2 g3 g4 g5 g6 g7 g8 g9 g10 g11 g12 g13 g14 g15 g16 g17 g18 g19 g20 g21 g22 g23 g24 g25 g26 v_points v_faces) [0] [] [0] := ⟨rfl, rfl, rfl, by decide, by decide, by decide, by decide⟩
    refine hb_ci (hb_rV (As := [.int l1]) (rest := []) C0 hK hA XT.nn hSt sp (c_X9_isFace l D cI cJ h (.int v_points) g2 g3 g4 g5 g6 g7 g8 g9 g10 g11 g12 g13 g14 g15 g16 g17 g18 g19 g20 g21 g22 g23 g24 g25 g26  l1 v_faces R2 hR2) gX9_has_X9_isFace rfl ⟨rfl, rfl⟩ hd_X9_isFace ⟨Nat.le_of_ble_eq_true rfl, Nat.le_of_ble_eq_true rfl⟩ 0 8 rfl rfl rfl hl rfl (Nat.le_of_ble_eq_true rfl) dX9_has_14 ⟨Nat.zero_le _, Nat.zero_le _⟩) hA hSt sp (fun H locs hSt => ?_)
    refine lv_if_eq (tgt := 24) hx hb dX9_has_17 (by decide) (fun cc => ?_) (fun cc => ?_)
    · have hf := ite_t hf cc
      refine lv_iconst (v := 0) hx hb dX9_has_24 (by decide) ?_
      cases hf
      exact hb_iret C0 hK hSt dX9_has_25
    · have hf := ite_f hf cc
      refine lv_iconst (v := 1) hx hb dX9_has_20 (by decide) ?_
      refine lv_goto (tgt := 25) hx hb dX9_has_21 (by decide) ?_
      cases hf
      exact hb_iret C0 hK hSt dX9_has_25
  · have hf := ite_t hf cc
    refine lv_iconst (v := -1) hx hb dX9_has_8 (by decide) ?_
    refine lv_goto (tgt := 25) hx hb dX9_has_9 (by decide) ?_
    cases hf
    exact hb_iret C0 hK hSt dX9_has_25
def f_X9_has (v_points : Int32) (v_faces : Int64) (l1 : Int32)  : Option (Int32) := f_X9_has_0 v_points v_faces l1
set_option maxRecDepth 100000 in
theorem c_X9_has (l : Launch) (D : va_G) (cI cJ : ClassId) (h : Nat) (g2 g3 g4 g5 g6 g7 g8 g9 g10 g11 g12 g13 g14 g15 g16 g17 g18 g19 g20 g21 g22 g23 g24 g25 g26 : Value) (l1 : Int32) (v_points : Int32) (v_faces : Int64) (Rr : Int32) (hf : f_X9_has v_points v_faces l1 = some Rr) : CtI l yX9_has wsX9_has rm_X9_has D cI cJ none [.ref h, .int l1] (w_X9_has cI cJ h g2 g3 g4 g5 g6 g7 g8 g9 g10 g11 g12 g13 g14 g15 g16 g17 g18 g19 g20 g21 g22 g23 g24 g25 g26 v_points v_faces) Rr (w_X9_has cI cJ h g2 g3 g4 g5 g6 g7 g8 g9 g10 g11 g12 g13 g14 g15 g16 g17 g18 g19 g20 g21 g22 g23 g24 g25 g26 v_points v_faces) :=
  fun sz => BodyW.met (av := [.ref h, .int l1]) (Qc := fun A => QI D cI cJ A (w_X9_has cI cJ h g2 g3 g4 g5 g6 g7 g8 g9 g10 g11 g12 g13 g14 g15 g16 g17 g18 g19 g20 g21 g22 g23 g24 g25 g26 v_points v_faces) Rr) (by decide) rfl rfl (Nat.le_of_ble_eq_true rfl) (fun C0 hK hA hX ls hSt hl => k_X9_has_0 C0 hK hA hX l1  _ _ ls hSt hl hf) sz
/-! X9 facesOf -/
abbrev rm_X9_facesOf : Room := { frames := 1, cells := 0, slots := 0, locals := 22 }
abbrev w_X9_facesOf (cI cJ : ClassId) (h : Nat) (g2 : Value) (g3 : Value) (g4 : Value) (g5 : Value) (g6 : Value) (g7 : Value) (g8 : Value) (g9 : Value) (g10 : Value) (g11 : Value) (g12 : Value) (g13 : Value) (g14 : Value) (g15 : Value) (g16 : Value) (g17 : Value) (g18 : Value) (g19 : Value) (g20 : Value) (g21 : Value) (g22 : Value) (g23 : Value) (g24 : Value) (g25 : Value) (g26 : Value) (v_points : Int32) (v_faces : Int64) : va_W := [(h, .inr (8, [.int v_points, .long v_faces, g2, g3, g4, g5, g6, g7, g8, g9, g10, g11, g12, g13, g14, g15, g16, g17, g18, g19, g20, g21, g22, g23, g24, g25, g26]))]
theorem hd_X9_facesOf : yX9_facesOf.cls = RX9 ∧ yX9_facesOf.cls ≠ "java/lang/invoke/MethodHandle" ∧ yX9_facesOf.cls ≠ "java/lang/invoke/VarHandle" ∧ (parseMethodDescriptor yX9_facesOf.desc).map (fun d => d.parameters.length) = some 2 := by decide +kernel
def f_X9_facesOf_5 (v_points : Int32) (v_faces : Int64)  : Nat → Int32 → Int32 → Int64 → Int32 → Option (Int64)
  | 0, _, _, _, _ => none
  | n + 1, l1, l2, l3, l5 => (f_X9_all v_points).bind (fun R1 => if R1 < l5 then some l3 else (f_X9_isFace v_faces l5).bind (fun R2 => if R2 = 0 then (f_X9_facesOf_5 v_points v_faces n) l1 l2 l3 (l5 + 1) else if (l5 &&& (l1 ^^^ (-1 : Int32))) = 0 then (f_X9_size l5).bind (fun R3 => if R3 = l2 then bnd (l3 ||| ((1 : Int64) <<< (l5.toInt64 &&& 63))) (fun l3_4 => (f_X9_facesOf_5 v_points v_faces n) l1 l2 l3_4 (l5 + 1)) else (f_X9_facesOf_5 v_points v_faces n) l1 l2 l3 (l5 + 1)) else (f_X9_facesOf_5 v_points v_faces n) l1 l2 l3 (l5 + 1)))
set_option maxHeartbeats 4000000 in
set_option maxRecDepth 100000 in
theorem k_X9_facesOf_5 {p : Program} {l : Launch} {e : Env} {s : State} {m : MethodId} {args : Array Value} {below : List Frame} {meth : Method} {c : Code} {A : Nat → Prop} {D : va_G} {cI cJ : ClassId} {h : Nat} {g2 g3 g4 g5 g6 g7 g8 g9 g10 g11 g12 g13 g14 g15 g16 g17 g18 g19 g20 g21 g22 g23 g24 g25 g26 : Value} {v_points : Int32} {v_faces : Int64} (C0 : Cx p s m args meth c cX9_facesOf wsX9_facesOf RX9 6 (some .long)) (hK : va_K D vwCl (tyL cI cJ) s) (hA : ∀ q, s.heap.size ≤ q → A q) (hX : XT none A s s.heap) {Rr : Int64} (n : Nat) : ∀ (l1 : Int32) (l2 : Int32) (l3 : Int64) (l5 : Int32)  (H : Heap) (locs : List Loc) (ls : Array Slot), St D A s (w_X9_facesOf cI cJ h g2 g3 g4 g5 g6 g7 g8 g9 g10 g11 g12 g13 g14 g15 g16 g17 g18 g19 g20 g21 g22 g23 g24 g25 g26 v_points v_faces) H locs → lv_has ls 6 [(0, .ref h), (1, .int l1), (2, .int l2), (3, .long l3), (5, .int l5)] → f_X9_facesOf_5 v_points v_faces n l1 l2 l3 l5 = some Rr → W p l e rm_X9_facesOf s m args below meth c H locs 0 0 (MQ below (QL D cI cJ A (w_X9_facesOf cI cJ h g2 g3 g4 g5 g6 g7 g8 g9 g10 g11 g12 g13 g14 g15 g16 g17 g18 g19 g20 g21 g22 g23 g24 g25 g26 v_points v_faces) Rr) args s 0 0 A) (F0 m 5 ls []) := by
  have hx := C0.1.1
  have hb := C0.1.2.1
  induction n with
  | zero => intro l1 l2 l3 l5 H locs ls hSt hl hf; exact nomatch (show (none : Option _) = some Rr from hf)
  | succ n ih =>
    intro l1 l2 l3 l5 H locs ls hSt hl hf
    unfold f_X9_facesOf_5 at hf
    refine lv_iload hx hb dX9_facesOf_5 (lv_at hl 4 rfl) ?_
    refine lv_aload_n hx hb dX9_facesOf_7 rfl (lv_at hl 0 rfl) ?_
    obtain ⟨R1, hR1, hf⟩ := Option.bind_eq_some_iff.mp hf
    have sp : Sp (w_X9_facesOf cI cJ h g2 g3 g4 g5 g6 g7 g8 g9 g10 g11 g12 g13 g14 g15 g16 g17 g18 g19 g20 g21 g22 g23 g24 g25 g26 v_points v_faces) (w_X9_all cI cJ h (.long v_faces) g2 g3 g4 g5 g6 g7 g8 g9 g10 g11 g12 g13 g14 g15 g16 g17 g18 g19 g20 g21 g22 g23 g24 g25 g26 v_points) (w_X9_all cI cJ h (.long v_faces) g2 g3 g4 g5 g6 g7 g8 g9 g10 g11 g12 g13 g14 g15 g16 g17 g18 g19 g20 g21 g22 g23 g24 g25 g26 v_points) (w_X9_facesOf cI cJ h g2 g3 g4 g5 g6 g7 g8 g9 g10 g11 g12 g13 g14 g15 g16 g17 g18 g19 g20 g21 g22 g23 g24 g25 g26 v_points v_faces) [0] [] [0] := ⟨rfl, rfl, rfl, by decide, by decide, by decide, by decide⟩
    refine hb_ci (hb_rV (As := []) (rest := [.int l5]) C0 hK hA XT.nn hSt sp (c_X9_all l D cI cJ h (.long v_faces) g2 g3 g4 g5 g6 g7 g8 g9 g10 g11 g12 g13 g14 g15 g16 g17 g18 g19 g20 g21 g22 g23 g24 g25 g26   v_points R1 hR1) gX9_facesOf_X9_all rfl ⟨rfl, rfl⟩ hd_X9_all ⟨Nat.le_of_ble_eq_true rfl, Nat.le_of_ble_eq_true rfl⟩ 0 8 rfl rfl rfl hl rfl (Nat.le_of_ble_eq_true rfl) dX9_facesOf_8 ⟨Nat.zero_le _, Nat.zero_le _⟩) hA hSt sp (fun H locs hSt => ?_)
    refine lv_icmp_gt (tgt := 54) hx hb dX9_facesOf_11 (by decide) (fun cc => ?_) (fun cc => ?_)
    · have hf := ite_t hf cc
      refine lv_lload_n hx hb dX9_facesOf_54 rfl (lv_at hl 3 rfl) ?_
      cases hf
      exact hb_lret C0 hK hSt dX9_facesOf_55
    · have hf := ite_f hf cc
      refine lv_aload_n hx hb dX9_facesOf_14 rfl (lv_at hl 0 rfl) ?_
      refine lv_iload hx hb dX9_facesOf_15 (lv_at hl 4 rfl) ?_
      obtain ⟨R2, hR2, hf⟩ := Option.bind_eq_some_iff.mp hf
      have sp : Sp (w_X9_facesOf cI cJ h g2 g3 g4 g5 g6 g7 g8 g9 g10 g11 g12 g13 g14 g15 g16 g17 g18 g19 g20 g21 g22 g23 g24 g25 g26 v_points v_faces) (w_X9_isFace cI cJ h (.int v_points) g2 g3 g4 g5 g6 g7 g8 g9 g10 g11 g12 g13 g14 g15 g16 g17 g18 g19 g20 g21 g22 g23 g24 g25 g26 v_faces) (w_X9_isFace cI cJ h (.int v_points) g2 g3 g4 g5 g6 g7 g8 g9 g10 g11 g12 g13 g14 g15 g16 g17 g18 g19 g20 g21 g22 g23 g24 g25 g26 v_faces) (w_X9_facesOf cI cJ h g2 g3 g4 g5 g6 g7 g8 g9 g10 g11 g12 g13 g14 g15 g16 g17 g18 g19 g20 g21 g22 g23 g24 g25 g26 v_points v_faces) [0] [] [0] := ⟨rfl, rfl, rfl, by decide, by decide, by decide, by decide⟩
      refine hb_ci (hb_rV (As := [.int l5]) (rest := []) C0 hK hA XT.nn hSt sp (c_X9_isFace l D cI cJ h (.int v_points) g2 g3 g4 g5 g6 g7 g8 g9 g10 g11 g12 g13 g14 g15 g16 g17 g18 g19 g20 g21 g22 g23 g24 g25 g26  l5 v_faces R2 hR2) gX9_facesOf_X9_isFace rfl ⟨rfl, rfl⟩ hd_X9_isFace ⟨Nat.le_of_ble_eq_true rfl, Nat.le_of_ble_eq_true rfl⟩ 0 8 rfl rfl rfl hl rfl (Nat.le_of_ble_eq_true rfl) dX9_facesOf_17 ⟨Nat.zero_le _, Nat.zero_le _⟩) hA hSt sp (fun H locs hSt => ?_)
      refine lv_if_eq (tgt := 48) hx hb dX9_facesOf_20 (by decide) (fun cc => ?_) (fun cc => ?_)
      · have hf := ite_t hf cc
        refine lv_iinc (v := l5 + 1) (lv' := [(5, .int (l5 + 1)), (0, .ref h), (1, .int l1), (2, .int l2), (3, .long l3)]) hx hb dX9_facesOf_48 hl (k := 4) rfl rfl (by decide) rfl (fun ls hl => ?_)
        refine lv_goto (tgt := 5) hx hb dX9_facesOf_51 (by decide) ?_
        exact ih l1 l2 l3 (l5 + 1) _ _ _ hSt (lv_sub hl [1, 2, 3, 4, 0] rfl) hf
      · have hf := ite_f hf cc
        refine lv_iload hx hb dX9_facesOf_23 (lv_at hl 4 rfl) ?_
        refine lv_iload_n hx hb dX9_facesOf_25 rfl (lv_at hl 1 rfl) ?_
        refine lv_iconst (v := -1) hx hb dX9_facesOf_26 (by decide) ?_
        refine lv_ixor hx hb dX9_facesOf_27 ?_
        refine lv_iand hx hb dX9_facesOf_28 ?_
        refine lv_if_ne (tgt := 48) hx hb dX9_facesOf_29 (by decide) (fun cc => ?_) (fun cc => ?_)
        · have hf := ite_f hf cc
          refine lv_iinc (v := l5 + 1) (lv' := [(5, .int (l5 + 1)), (0, .ref h), (1, .int l1), (2, .int l2), (3, .long l3)]) hx hb dX9_facesOf_48 hl (k := 4) rfl rfl (by decide) rfl (fun ls hl => ?_)
          refine lv_goto (tgt := 5) hx hb dX9_facesOf_51 (by decide) ?_
          exact ih l1 l2 l3 (l5 + 1) _ _ _ hSt (lv_sub hl [1, 2, 3, 4, 0] rfl) hf
        · have hf := ite_t hf cc
          refine lv_iload hx hb dX9_facesOf_32 (lv_at hl 4 rfl) ?_
          obtain ⟨R3, hR3, hf⟩ := Option.bind_eq_some_iff.mp hf
          have sp : Sp (w_X9_facesOf cI cJ h g2 g3 g4 g5 g6 g7 g8 g9 g10 g11 g12 g13 g14 g15 g16 g17 g18 g19 g20 g21 g22 g23 g24 g25 g26 v_points v_faces) (w_X9_size cI cJ) (w_X9_size cI cJ) (w_X9_facesOf cI cJ h g2 g3 g4 g5 g6 g7 g8 g9 g10 g11 g12 g13 g14 g15 g16 g17 g18 g19 g20 g21 g22 g23 g24 g25 g26 v_points v_faces) [] [0] [0] := ⟨rfl, rfl, rfl, by decide, by decide, by decide, by decide⟩
          refine hb_ci (hb_rS (As := [.int l5]) (rest := []) C0 hK hA XT.nn hSt sp (c_X9_size l D cI cJ   l5  R3 hR3) gX9_facesOf_X9_size rfl ⟨rfl, rfl⟩ hd_X9_size ⟨Nat.le_of_ble_eq_true rfl, Nat.le_of_ble_eq_true rfl⟩ rfl hl rfl (Nat.le_of_ble_eq_true rfl) dX9_facesOf_34 ⟨Nat.zero_le _, Nat.zero_le _⟩) hA hSt sp (fun H locs hSt => ?_)
          refine lv_iload_n hx hb dX9_facesOf_37 rfl (lv_at hl 2 rfl) ?_
          refine lv_icmp_ne (tgt := 48) hx hb dX9_facesOf_38 (by decide) (fun cc => ?_) (fun cc => ?_)
          · have hf := ite_f hf cc
            refine lv_iinc (v := l5 + 1) (lv' := [(5, .int (l5 + 1)), (0, .ref h), (1, .int l1), (2, .int l2), (3, .long l3)]) hx hb dX9_facesOf_48 hl (k := 4) rfl rfl (by decide) rfl (fun ls hl => ?_)
            refine lv_goto (tgt := 5) hx hb dX9_facesOf_51 (by decide) ?_
            exact ih l1 l2 l3 (l5 + 1) _ _ _ hSt (lv_sub hl [1, 2, 3, 4, 0] rfl) hf
          · have hf := ite_t hf cc
            refine lv_lload_n hx hb dX9_facesOf_41 rfl (lv_at hl 3 rfl) ?_
            refine lv_lconst (v := 1) hx hb dX9_facesOf_42 (by decide) ?_
            refine lv_iload hx hb dX9_facesOf_43 (lv_at hl 4 rfl) ?_
            refine lv_lshl (v := (1 : Int64) <<< (l5.toInt64 &&& 63)) hx hb dX9_facesOf_45 rfl ?_
            refine lv_lor hx hb dX9_facesOf_46 ?_
            refine tp_l hf (fun l3_4 hf => ?_)
            refine lv_lstore_n (lv' := [(3, .long l3_4), (0, .ref h), (1, .int l1), (2, .int l2), (5, .int l5)]) hx hb dX9_facesOf_47 rfl hl (by decide) rfl (fun ls hl => ?_)
            refine lv_iinc (v := l5 + 1) (lv' := [(5, .int (l5 + 1)), (3, .long l3_4), (0, .ref h), (1, .int l1), (2, .int l2)]) hx hb dX9_facesOf_48 hl (k := 4) rfl rfl (by decide) rfl (fun ls hl => ?_)
            refine lv_goto (tgt := 5) hx hb dX9_facesOf_51 (by decide) ?_
            exact ih l1 l2 l3_4 (l5 + 1) _ _ _ hSt (lv_sub hl [2, 3, 4, 1, 0] rfl) hf
def f_X9_facesOf_0 (v_points : Int32) (v_faces : Int64)  (l1 : Int32) (l2 : Int32)  : Option (Int64) := f_X9_facesOf_5 v_points v_faces  FU l1 l2 (0 : Int64) (0 : Int32)
set_option maxHeartbeats 4000000 in
set_option maxRecDepth 100000 in
theorem k_X9_facesOf_0 {p : Program} {l : Launch} {e : Env} {s : State} {m : MethodId} {args : Array Value} {below : List Frame} {meth : Method} {c : Code} {A : Nat → Prop} {D : va_G} {cI cJ : ClassId} {h : Nat} {g2 g3 g4 g5 g6 g7 g8 g9 g10 g11 g12 g13 g14 g15 g16 g17 g18 g19 g20 g21 g22 g23 g24 g25 g26 : Value} {v_points : Int32} {v_faces : Int64} (C0 : Cx p s m args meth c cX9_facesOf wsX9_facesOf RX9 6 (some .long)) (hK : va_K D vwCl (tyL cI cJ) s) (hA : ∀ q, s.heap.size ≤ q → A q) (hX : XT none A s s.heap) {Rr : Int64} : ∀ (l1 : Int32) (l2 : Int32)  (H : Heap) (locs : List Loc) (ls : Array Slot), St D A s (w_X9_facesOf cI cJ h g2 g3 g4 g5 g6 g7 g8 g9 g10 g11 g12 g13 g14 g15 g16 g17 g18 g19 g20 g21 g22 g23 g24 g25 g26 v_points v_faces) H locs → lv_has ls 6 [(0, .ref h), (1, .int l1), (2, .int l2)] → f_X9_facesOf_0 v_points v_faces l1 l2 = some Rr → W p l e rm_X9_facesOf s m args below meth c H locs 0 0 (MQ below (QL D cI cJ A (w_X9_facesOf cI cJ h g2 g3 g4 g5 g6 g7 g8 g9 g10 g11 g12 g13 g14 g15 g16 g17 g18 g19 g20 g21 g22 g23 g24 g25 g26 v_points v_faces) Rr) args s 0 0 A) (F0 m 0 ls []) := by
  have hx := C0.1.1
  have hb := C0.1.2.1
  intro l1 l2 H locs ls hSt hl hf
  unfold f_X9_facesOf_0 at hf
  refine lv_lconst (v := 0) hx hb dX9_facesOf_0 (by decide) ?_
  refine lv_lstore_n (lv' := [(3, .long (0 : Int64)), (0, .ref h), (1, .int l1), (2, .int l2)]) hx hb dX9_facesOf_1 rfl hl (by decide) rfl (fun ls hl => ?_)
  refine lv_iconst (v := 0) hx hb dX9_facesOf_2 (by decide) ?_
  refine lv_istore (lv' := [(5, .int (0 : Int32)), (3, .long (0 : Int64)), (0, .ref h), (1, .int l1), (2, .int l2)]) hx hb dX9_facesOf_3 hl (by decide) rfl (fun ls hl => ?_)
  exact k_X9_facesOf_5 C0 hK hA hX  FU l1 l2 (0 : Int64) (0 : Int32) _ _ _ hSt (lv_sub hl [2, 3, 4, 1, 0] rfl) hf
def f_X9_facesOf (v_points : Int32) (v_faces : Int64) (l1 : Int32) (l2 : Int32)  : Option (Int64) := f_X9_facesOf_0 v_points v_faces l1 l2
set_option maxRecDepth 100000 in
theorem c_X9_facesOf (l : Launch) (D : va_G) (cI cJ : ClassId) (h : Nat) (g2 g3 g4 g5 g6 g7 g8 g9 g10 g11 g12 g13 g14 g15 g16 g17 g18 g19 g20 g21 g22 g23 g24 g25 g26 : Value) (l1 : Int32) (l2 : Int32) (v_points : Int32) (v_faces : Int64) (Rr : Int64) (hf : f_X9_facesOf v_points v_faces l1 l2 = some Rr) : CtL l yX9_facesOf wsX9_facesOf rm_X9_facesOf D cI cJ none [.ref h, .int l1, .int l2] (w_X9_facesOf cI cJ h g2 g3 g4 g5 g6 g7 g8 g9 g10 g11 g12 g13 g14 g15 g16 g17 g18 g19 g20 g21 g22 g23 g24 g25 g26 v_points v_faces) Rr (w_X9_facesOf cI cJ h g2 g3 g4 g5 g6 g7 g8 g9 g10 g11 g12 g13 g14 g15 g16 g17 g18 g19 g20 g21 g22 g23 g24 g25 g26 v_points v_faces) :=
  fun sz => BodyW.met (av := [.ref h, .int l1, .int l2]) (Qc := fun A => QL D cI cJ A (w_X9_facesOf cI cJ h g2 g3 g4 g5 g6 g7 g8 g9 g10 g11 g12 g13 g14 g15 g16 g17 g18 g19 g20 g21 g22 g23 g24 g25 g26 v_points v_faces) Rr) (by decide) rfl rfl (Nat.le_of_ble_eq_true rfl) (fun C0 hK hA hX ls hSt hl => k_X9_facesOf_0 C0 hK hA hX l1 l2  _ _ ls hSt hl hf) sz
/-! X9 faces -/
abbrev rm_X9_faces : Room := { frames := 2, cells := 0, slots := 0, locals := 47 }
abbrev w_X9_faces (cI cJ : ClassId) (h : Nat) (g2 : Value) (g3 : Value) (g4 : Value) (g5 : Value) (g6 : Value) (g7 : Value) (g8 : Value) (g9 : Value) (g10 : Value) (g11 : Value) (g12 : Value) (g13 : Value) (g14 : Value) (g15 : Value) (g16 : Value) (g17 : Value) (g18 : Value) (g19 : Value) (g20 : Value) (g21 : Value) (g22 : Value) (g23 : Value) (g24 : Value) (g25 : Value) (g26 : Value) (v_points : Int32) (v_faces : Int64) : va_W := [(h, .inr (8, [.int v_points, .long v_faces, g2, g3, g4, g5, g6, g7, g8, g9, g10, g11, g12, g13, g14, g15, g16, g17, g18, g19, g20, g21, g22, g23, g24, g25, g26]))]
theorem hd_X9_faces : yX9_faces.cls = RX9 ∧ yX9_faces.cls ≠ "java/lang/invoke/MethodHandle" ∧ yX9_faces.cls ≠ "java/lang/invoke/VarHandle" ∧ (parseMethodDescriptor yX9_faces.desc).map (fun d => d.parameters.length) = some 1 := by decide +kernel
def f_X9_faces_0 (v_points : Int32) (v_faces : Int64)  (l1 : Int32)  : Option (Int32) := (f_X9_isIn l1 (-1 : Int32) (5 : Int32)).bind (fun R1 => if R1 = 0 then some (-1 : Int32) else (f_X9_all v_points).bind (fun R2 => (f_X9_facesOf v_points v_faces R2 (l1 + (1 : Int32))).bind (fun R3 => (f_X9_many R3).bind (fun R4 => some R4))))
set_option maxHeartbeats 4000000 in
set_option maxRecDepth 100000 in
theorem k_X9_faces_0 {p : Program} {l : Launch} {e : Env} {s : State} {m : MethodId} {args : Array Value} {below : List Frame} {meth : Method} {c : Code} {A : Nat → Prop} {D : va_G} {cI cJ : ClassId} {h : Nat} {g2 g3 g4 g5 g6 g7 g8 g9 g10 g11 g12 g13 g14 g15 g16 g17 g18 g19 g20 g21 g22 g23 g24 g25 g26 : Value} {v_points : Int32} {v_faces : Int64} (C0 : Cx p s m args meth c cX9_faces wsX9_faces RX9 2 (some .int)) (hK : va_K D vwCl (tyL cI cJ) s) (hA : ∀ q, s.heap.size ≤ q → A q) (hX : XT none A s s.heap) {Rr : Int32} : ∀ (l1 : Int32)  (H : Heap) (locs : List Loc) (ls : Array Slot), St D A s (w_X9_faces cI cJ h g2 g3 g4 g5 g6 g7 g8 g9 g10 g11 g12 g13 g14 g15 g16 g17 g18 g19 g20 g21 g22 g23 g24 g25 g26 v_points v_faces) H locs → lv_has ls 2 [(0, .ref h), (1, .int l1)] → f_X9_faces_0 v_points v_faces l1 = some Rr → W p l e rm_X9_faces s m args below meth c H locs 0 0 (MQ below (QI D cI cJ A (w_X9_faces cI cJ h g2 g3 g4 g5 g6 g7 g8 g9 g10 g11 g12 g13 g14 g15 g16 g17 g18 g19 g20 g21 g22 g23 g24 g25 g26 v_points v_faces) Rr) args s 0 0 A) (F0 m 0 ls []) := by
  have hx := C0.1.1
  have hb := C0.1.2.1
  intro l1 H locs ls hSt hl hf
  unfold f_X9_faces_0 at hf
  refine lv_iload_n hx hb dX9_faces_0 rfl (lv_at hl 1 rfl) ?_
  refine lv_iconst (v := -1) hx hb dX9_faces_1 (by decide) ?_
  refine lv_iconst (v := 5) hx hb dX9_faces_2 (by decide) ?_
  obtain ⟨R1, hR1, hf⟩ := Option.bind_eq_some_iff.mp hf
  have sp : Sp (w_X9_faces cI cJ h g2 g3 g4 g5 g6 g7 g8 g9 g10 g11 g12 g13 g14 g15 g16 g17 g18 g19 g20 g21 g22 g23 g24 g25 g26 v_points v_faces) (w_X9_isIn cI cJ) (w_X9_isIn cI cJ) (w_X9_faces cI cJ h g2 g3 g4 g5 g6 g7 g8 g9 g10 g11 g12 g13 g14 g15 g16 g17 g18 g19 g20 g21 g22 g23 g24 g25 g26 v_points v_faces) [] [0] [0] := ⟨rfl, rfl, rfl, by decide, by decide, by decide, by decide⟩
  refine hb_ci (hb_rS (As := [.int l1, .int (-1 : Int32), .int (5 : Int32)]) (rest := []) C0 hK hA XT.nn hSt sp (c_X9_isIn l D cI cJ   l1 (-1 : Int32) (5 : Int32)  R1 hR1) gX9_faces_X9_isIn rfl ⟨rfl, rfl⟩ hd_X9_isIn ⟨Nat.le_of_ble_eq_true rfl, Nat.le_of_ble_eq_true rfl⟩ rfl hl rfl (Nat.le_of_ble_eq_true rfl) dX9_faces_3 ⟨Nat.zero_le _, Nat.zero_le _⟩) hA hSt sp (fun H locs hSt => ?_)
  refine lv_if_eq (tgt := 26) hx hb dX9_faces_6 (by decide) (fun cc => ?_) (fun cc => ?_)
  · have hf := ite_t hf cc
    refine lv_iconst (v := -1) hx hb dX9_faces_26 (by decide) ?_
    cases hf
    exact hb_iret C0 hK hSt dX9_faces_27
  · have hf := ite_f hf cc
    refine lv_aload_n hx hb dX9_faces_9 rfl (lv_at hl 0 rfl) ?_
    refine lv_aload_n hx hb dX9_faces_10 rfl (lv_at hl 0 rfl) ?_
    obtain ⟨R2, hR2, hf⟩ := Option.bind_eq_some_iff.mp hf
    have sp : Sp (w_X9_faces cI cJ h g2 g3 g4 g5 g6 g7 g8 g9 g10 g11 g12 g13 g14 g15 g16 g17 g18 g19 g20 g21 g22 g23 g24 g25 g26 v_points v_faces) (w_X9_all cI cJ h (.long v_faces) g2 g3 g4 g5 g6 g7 g8 g9 g10 g11 g12 g13 g14 g15 g16 g17 g18 g19 g20 g21 g22 g23 g24 g25 g26 v_points) (w_X9_all cI cJ h (.long v_faces) g2 g3 g4 g5 g6 g7 g8 g9 g10 g11 g12 g13 g14 g15 g16 g17 g18 g19 g20 g21 g22 g23 g24 g25 g26 v_points) (w_X9_faces cI cJ h g2 g3 g4 g5 g6 g7 g8 g9 g10 g11 g12 g13 g14 g15 g16 g17 g18 g19 g20 g21 g22 g23 g24 g25 g26 v_points v_faces) [0] [] [0] := ⟨rfl, rfl, rfl, by decide, by decide, by decide, by decide⟩
    refine hb_ci (hb_rV (As := []) (rest := [.ref h]) C0 hK hA XT.nn hSt sp (c_X9_all l D cI cJ h (.long v_faces) g2 g3 g4 g5 g6 g7 g8 g9 g10 g11 g12 g13 g14 g15 g16 g17 g18 g19 g20 g21 g22 g23 g24 g25 g26   v_points R2 hR2) gX9_faces_X9_all rfl ⟨rfl, rfl⟩ hd_X9_all ⟨Nat.le_of_ble_eq_true rfl, Nat.le_of_ble_eq_true rfl⟩ 0 8 rfl rfl rfl hl rfl (Nat.le_of_ble_eq_true rfl) dX9_faces_11 ⟨Nat.zero_le _, Nat.zero_le _⟩) hA hSt sp (fun H locs hSt => ?_)
    refine lv_iload_n hx hb dX9_faces_14 rfl (lv_at hl 1 rfl) ?_
    refine lv_iconst (v := 1) hx hb dX9_faces_15 (by decide) ?_
    refine lv_iadd hx hb dX9_faces_16 ?_
    obtain ⟨R3, hR3, hf⟩ := Option.bind_eq_some_iff.mp hf
    have sp : Sp (w_X9_faces cI cJ h g2 g3 g4 g5 g6 g7 g8 g9 g10 g11 g12 g13 g14 g15 g16 g17 g18 g19 g20 g21 g22 g23 g24 g25 g26 v_points v_faces) (w_X9_facesOf cI cJ h g2 g3 g4 g5 g6 g7 g8 g9 g10 g11 g12 g13 g14 g15 g16 g17 g18 g19 g20 g21 g22 g23 g24 g25 g26 v_points v_faces) (w_X9_facesOf cI cJ h g2 g3 g4 g5 g6 g7 g8 g9 g10 g11 g12 g13 g14 g15 g16 g17 g18 g19 g20 g21 g22 g23 g24 g25 g26 v_points v_faces) (w_X9_faces cI cJ h g2 g3 g4 g5 g6 g7 g8 g9 g10 g11 g12 g13 g14 g15 g16 g17 g18 g19 g20 g21 g22 g23 g24 g25 g26 v_points v_faces) [0] [] [0] := ⟨rfl, rfl, rfl, by decide, by decide, by decide, by decide⟩
    refine hb_cl (hb_rV (As := [.int R2, .int (l1 + (1 : Int32))]) (rest := []) C0 hK hA XT.nn hSt sp (c_X9_facesOf l D cI cJ h g2 g3 g4 g5 g6 g7 g8 g9 g10 g11 g12 g13 g14 g15 g16 g17 g18 g19 g20 g21 g22 g23 g24 g25 g26  R2 (l1 + (1 : Int32)) v_points v_faces R3 hR3) gX9_faces_X9_facesOf rfl ⟨rfl, rfl⟩ hd_X9_facesOf ⟨Nat.le_of_ble_eq_true rfl, Nat.le_of_ble_eq_true rfl⟩ 0 8 rfl rfl rfl hl rfl (Nat.le_of_ble_eq_true rfl) dX9_faces_17 ⟨Nat.zero_le _, Nat.zero_le _⟩) hA hSt sp (fun H locs hSt => ?_)
    obtain ⟨R4, hR4, hf⟩ := Option.bind_eq_some_iff.mp hf
    have sp : Sp (w_X9_faces cI cJ h g2 g3 g4 g5 g6 g7 g8 g9 g10 g11 g12 g13 g14 g15 g16 g17 g18 g19 g20 g21 g22 g23 g24 g25 g26 v_points v_faces) (w_X9_many cI cJ) (w_X9_many cI cJ) (w_X9_faces cI cJ h g2 g3 g4 g5 g6 g7 g8 g9 g10 g11 g12 g13 g14 g15 g16 g17 g18 g19 g20 g21 g22 g23 g24 g25 g26 v_points v_faces) [] [0] [0] := ⟨rfl, rfl, rfl, by decide, by decide, by decide, by decide⟩
    refine hb_ci (hb_rS (As := [.long R3]) (rest := []) C0 hK hA XT.nn hSt sp (c_X9_many l D cI cJ   R3  R4 hR4) gX9_faces_X9_many rfl ⟨rfl, rfl⟩ hd_X9_many ⟨Nat.le_of_ble_eq_true rfl, Nat.le_of_ble_eq_true rfl⟩ rfl hl rfl (Nat.le_of_ble_eq_true rfl) dX9_faces_20 ⟨Nat.zero_le _, Nat.zero_le _⟩) hA hSt sp (fun H locs hSt => ?_)
    refine lv_goto (tgt := 27) hx hb dX9_faces_23 (by decide) ?_
    cases hf
    exact hb_iret C0 hK hSt dX9_faces_27
def f_X9_faces (v_points : Int32) (v_faces : Int64) (l1 : Int32)  : Option (Int32) := f_X9_faces_0 v_points v_faces l1
set_option maxRecDepth 100000 in
theorem c_X9_faces (l : Launch) (D : va_G) (cI cJ : ClassId) (h : Nat) (g2 g3 g4 g5 g6 g7 g8 g9 g10 g11 g12 g13 g14 g15 g16 g17 g18 g19 g20 g21 g22 g23 g24 g25 g26 : Value) (l1 : Int32) (v_points : Int32) (v_faces : Int64) (Rr : Int32) (hf : f_X9_faces v_points v_faces l1 = some Rr) : CtI l yX9_faces wsX9_faces rm_X9_faces D cI cJ none [.ref h, .int l1] (w_X9_faces cI cJ h g2 g3 g4 g5 g6 g7 g8 g9 g10 g11 g12 g13 g14 g15 g16 g17 g18 g19 g20 g21 g22 g23 g24 g25 g26 v_points v_faces) Rr (w_X9_faces cI cJ h g2 g3 g4 g5 g6 g7 g8 g9 g10 g11 g12 g13 g14 g15 g16 g17 g18 g19 g20 g21 g22 g23 g24 g25 g26 v_points v_faces) :=
  fun sz => BodyW.met (av := [.ref h, .int l1]) (Qc := fun A => QI D cI cJ A (w_X9_faces cI cJ h g2 g3 g4 g5 g6 g7 g8 g9 g10 g11 g12 g13 g14 g15 g16 g17 g18 g19 g20 g21 g22 g23 g24 g25 g26 v_points v_faces) Rr) (by decide) rfl rfl (Nat.le_of_ble_eq_true rfl) (fun C0 hK hA hX ls hSt hl => k_X9_faces_0 C0 hK hA hX l1  _ _ ls hSt hl hf) sz
/-! X9 isMissing -/
abbrev rm_X9_isMissing : Room := { frames := 1, cells := 0, slots := 0, locals := 21 }
abbrev w_X9_isMissing (cI cJ : ClassId) (h : Nat) (g2 : Value) (g3 : Value) (g4 : Value) (g5 : Value) (g6 : Value) (g7 : Value) (g8 : Value) (g9 : Value) (g10 : Value) (g11 : Value) (g12 : Value) (g13 : Value) (g14 : Value) (g15 : Value) (g16 : Value) (g17 : Value) (g18 : Value) (g19 : Value) (g20 : Value) (g21 : Value) (g22 : Value) (g23 : Value) (g24 : Value) (g25 : Value) (g26 : Value) (v_points : Int32) (v_faces : Int64) : va_W := [(h, .inr (8, [.int v_points, .long v_faces, g2, g3, g4, g5, g6, g7, g8, g9, g10, g11, g12, g13, g14, g15, g16, g17, g18, g19, g20, g21, g22, g23, g24, g25, g26]))]
theorem iu_X9_isMissing_X9 : ∀ w ∈ wsX90, w ∈ wsX9_isMissing := by decide +kernel
theorem fl_X9_isMissing_7 : Cond.fieldLink RX9 7 (TX9 0).1 (TX9 0).2.1 (TX9 0).2.2.1 ∈ wsX9_isMissing := by decide +kernel
theorem hd_X9_isMissing : yX9_isMissing.cls = RX9 ∧ yX9_isMissing.cls ≠ "java/lang/invoke/MethodHandle" ∧ yX9_isMissing.cls ≠ "java/lang/invoke/VarHandle" ∧ (parseMethodDescriptor yX9_isMissing.desc).map (fun d => d.parameters.length) = some 1 := by decide +kernel
def f_X9_isMissing_53 (v_points : Int32) (v_faces : Int64) (k_14 : Int32 → Int32 → Int32 → Option (Int32)) (l1 : Int32) (l3 : Int32) (s0 : Int32)  : Option (Int32) := k_14 l1 s0 (l3 + 1)
set_option maxHeartbeats 4000000 in
set_option maxRecDepth 100000 in
theorem k_X9_isMissing_53 {p : Program} {l : Launch} {e : Env} {s : State} {m : MethodId} {args : Array Value} {below : List Frame} {meth : Method} {c : Code} {A : Nat → Prop} {D : va_G} {cI cJ : ClassId} {h : Nat} {g2 g3 g4 g5 g6 g7 g8 g9 g10 g11 g12 g13 g14 g15 g16 g17 g18 g19 g20 g21 g22 g23 g24 g25 g26 : Value} {v_points : Int32} {v_faces : Int64} (C0 : Cx p s m args meth c cX9_isMissing wsX9_isMissing RX9 4 (some .boolean)) (hK : va_K D vwCl (tyL cI cJ) s) (hA : ∀ q, s.heap.size ≤ q → A q) (hX : XT none A s s.heap) {Rr : Int32} {k_14 : Int32 → Int32 → Int32 → Option (Int32)} (hk_14 : ∀ (l1 : Int32) (l2 : Int32) (l3 : Int32)  (H : Heap) (locs : List Loc) (ls : Array Slot), St D A s (w_X9_isMissing cI cJ h g2 g3 g4 g5 g6 g7 g8 g9 g10 g11 g12 g13 g14 g15 g16 g17 g18 g19 g20 g21 g22 g23 g24 g25 g26 v_points v_faces) H locs → lv_has ls 4 [(0, .ref h), (1, .int l1), (2, .int l2), (3, .int l3)] → k_14 l1 l2 l3 = some Rr → W p l e rm_X9_isMissing s m args below meth c H locs 0 0 (MQ below (QI D cI cJ A (w_X9_isMissing cI cJ h g2 g3 g4 g5 g6 g7 g8 g9 g10 g11 g12 g13 g14 g15 g16 g17 g18 g19 g20 g21 g22 g23 g24 g25 g26 v_points v_faces) Rr) args s 0 0 A) (F0 m 14 ls [])) : ∀ (l1 : Int32) (l3 : Int32) (s0 : Int32)  (H : Heap) (locs : List Loc) (ls : Array Slot), St D A s (w_X9_isMissing cI cJ h g2 g3 g4 g5 g6 g7 g8 g9 g10 g11 g12 g13 g14 g15 g16 g17 g18 g19 g20 g21 g22 g23 g24 g25 g26 v_points v_faces) H locs → lv_has ls 4 [(0, .ref h), (1, .int l1), (3, .int l3)] → f_X9_isMissing_53 v_points v_faces k_14 l1 l3 s0 = some Rr → W p l e rm_X9_isMissing s m args below meth c H locs 0 0 (MQ below (QI D cI cJ A (w_X9_isMissing cI cJ h g2 g3 g4 g5 g6 g7 g8 g9 g10 g11 g12 g13 g14 g15 g16 g17 g18 g19 g20 g21 g22 g23 g24 g25 g26 v_points v_faces) Rr) args s 0 0 A) (F0 m 53 ls [.int s0]) := by
  have hx := C0.1.1
  have hb := C0.1.2.1
  intro l1 l3 s0 H locs ls hSt hl hf
  unfold f_X9_isMissing_53 at hf
  refine lv_istore_n (lv' := [(2, .int s0), (0, .ref h), (1, .int l1), (3, .int l3)]) hx hb dX9_isMissing_53 rfl hl (by decide) rfl (fun ls hl => ?_)
  refine lv_iinc (v := l3 + 1) (lv' := [(3, .int (l3 + 1)), (2, .int s0), (0, .ref h), (1, .int l1)]) hx hb dX9_isMissing_54 hl (k := 3) rfl rfl (by decide) rfl (fun ls hl => ?_)
  refine lv_goto (tgt := 14) hx hb dX9_isMissing_57 (by decide) ?_
  exact hk_14 l1 s0 (l3 + 1) _ _ _ hSt (lv_sub hl [2, 3, 1, 0] rfl) hf
def f_X9_isMissing_48 (v_points : Int32) (v_faces : Int64) (k_14 : Int32 → Int32 → Int32 → Option (Int32)) (l1 : Int32) (l3 : Int32)  : Option (Int32) := f_X9_isMissing_53 v_points v_faces k_14 l1 l3 (1 : Int32)
set_option maxHeartbeats 4000000 in
set_option maxRecDepth 100000 in
theorem k_X9_isMissing_48 {p : Program} {l : Launch} {e : Env} {s : State} {m : MethodId} {args : Array Value} {below : List Frame} {meth : Method} {c : Code} {A : Nat → Prop} {D : va_G} {cI cJ : ClassId} {h : Nat} {g2 g3 g4 g5 g6 g7 g8 g9 g10 g11 g12 g13 g14 g15 g16 g17 g18 g19 g20 g21 g22 g23 g24 g25 g26 : Value} {v_points : Int32} {v_faces : Int64} (C0 : Cx p s m args meth c cX9_isMissing wsX9_isMissing RX9 4 (some .boolean)) (hK : va_K D vwCl (tyL cI cJ) s) (hA : ∀ q, s.heap.size ≤ q → A q) (hX : XT none A s s.heap) {Rr : Int32} {k_14 : Int32 → Int32 → Int32 → Option (Int32)} (hk_14 : ∀ (l1 : Int32) (l2 : Int32) (l3 : Int32)  (H : Heap) (locs : List Loc) (ls : Array Slot), St D A s (w_X9_isMissing cI cJ h g2 g3 g4 g5 g6 g7 g8 g9 g10 g11 g12 g13 g14 g15 g16 g17 g18 g19 g20 g21 g22 g23 g24 g25 g26 v_points v_faces) H locs → lv_has ls 4 [(0, .ref h), (1, .int l1), (2, .int l2), (3, .int l3)] → k_14 l1 l2 l3 = some Rr → W p l e rm_X9_isMissing s m args below meth c H locs 0 0 (MQ below (QI D cI cJ A (w_X9_isMissing cI cJ h g2 g3 g4 g5 g6 g7 g8 g9 g10 g11 g12 g13 g14 g15 g16 g17 g18 g19 g20 g21 g22 g23 g24 g25 g26 v_points v_faces) Rr) args s 0 0 A) (F0 m 14 ls [])) : ∀ (l1 : Int32) (l3 : Int32)  (H : Heap) (locs : List Loc) (ls : Array Slot), St D A s (w_X9_isMissing cI cJ h g2 g3 g4 g5 g6 g7 g8 g9 g10 g11 g12 g13 g14 g15 g16 g17 g18 g19 g20 g21 g22 g23 g24 g25 g26 v_points v_faces) H locs → lv_has ls 4 [(0, .ref h), (1, .int l1), (3, .int l3)] → f_X9_isMissing_48 v_points v_faces k_14 l1 l3 = some Rr → W p l e rm_X9_isMissing s m args below meth c H locs 0 0 (MQ below (QI D cI cJ A (w_X9_isMissing cI cJ h g2 g3 g4 g5 g6 g7 g8 g9 g10 g11 g12 g13 g14 g15 g16 g17 g18 g19 g20 g21 g22 g23 g24 g25 g26 v_points v_faces) Rr) args s 0 0 A) (F0 m 48 ls []) := by
  have hx := C0.1.1
  have hb := C0.1.2.1
  intro l1 l3 H locs ls hSt hl hf
  unfold f_X9_isMissing_48 at hf
  refine lv_iconst (v := 1) hx hb dX9_isMissing_48 (by decide) ?_
  refine lv_goto (tgt := 53) hx hb dX9_isMissing_49 (by decide) ?_
  exact k_X9_isMissing_53 C0 hK hA hX hk_14 l1 l3 (1 : Int32) _ _ _ hSt (lv_sub hl [0, 1, 2] rfl) hf
def f_X9_isMissing_52 (v_points : Int32) (v_faces : Int64) (k_14 : Int32 → Int32 → Int32 → Option (Int32)) (l1 : Int32) (l3 : Int32)  : Option (Int32) := f_X9_isMissing_53 v_points v_faces k_14 l1 l3 (0 : Int32)
set_option maxHeartbeats 4000000 in
set_option maxRecDepth 100000 in
theorem k_X9_isMissing_52 {p : Program} {l : Launch} {e : Env} {s : State} {m : MethodId} {args : Array Value} {below : List Frame} {meth : Method} {c : Code} {A : Nat → Prop} {D : va_G} {cI cJ : ClassId} {h : Nat} {g2 g3 g4 g5 g6 g7 g8 g9 g10 g11 g12 g13 g14 g15 g16 g17 g18 g19 g20 g21 g22 g23 g24 g25 g26 : Value} {v_points : Int32} {v_faces : Int64} (C0 : Cx p s m args meth c cX9_isMissing wsX9_isMissing RX9 4 (some .boolean)) (hK : va_K D vwCl (tyL cI cJ) s) (hA : ∀ q, s.heap.size ≤ q → A q) (hX : XT none A s s.heap) {Rr : Int32} {k_14 : Int32 → Int32 → Int32 → Option (Int32)} (hk_14 : ∀ (l1 : Int32) (l2 : Int32) (l3 : Int32)  (H : Heap) (locs : List Loc) (ls : Array Slot), St D A s (w_X9_isMissing cI cJ h g2 g3 g4 g5 g6 g7 g8 g9 g10 g11 g12 g13 g14 g15 g16 g17 g18 g19 g20 g21 g22 g23 g24 g25 g26 v_points v_faces) H locs → lv_has ls 4 [(0, .ref h), (1, .int l1), (2, .int l2), (3, .int l3)] → k_14 l1 l2 l3 = some Rr → W p l e rm_X9_isMissing s m args below meth c H locs 0 0 (MQ below (QI D cI cJ A (w_X9_isMissing cI cJ h g2 g3 g4 g5 g6 g7 g8 g9 g10 g11 g12 g13 g14 g15 g16 g17 g18 g19 g20 g21 g22 g23 g24 g25 g26 v_points v_faces) Rr) args s 0 0 A) (F0 m 14 ls [])) : ∀ (l1 : Int32) (l3 : Int32)  (H : Heap) (locs : List Loc) (ls : Array Slot), St D A s (w_X9_isMissing cI cJ h g2 g3 g4 g5 g6 g7 g8 g9 g10 g11 g12 g13 g14 g15 g16 g17 g18 g19 g20 g21 g22 g23 g24 g25 g26 v_points v_faces) H locs → lv_has ls 4 [(0, .ref h), (1, .int l1), (3, .int l3)] → f_X9_isMissing_52 v_points v_faces k_14 l1 l3 = some Rr → W p l e rm_X9_isMissing s m args below meth c H locs 0 0 (MQ below (QI D cI cJ A (w_X9_isMissing cI cJ h g2 g3 g4 g5 g6 g7 g8 g9 g10 g11 g12 g13 g14 g15 g16 g17 g18 g19 g20 g21 g22 g23 g24 g25 g26 v_points v_faces) Rr) args s 0 0 A) (F0 m 52 ls []) := by
  have hx := C0.1.1
  have hb := C0.1.2.1
  intro l1 l3 H locs ls hSt hl hf
  unfold f_X9_isMissing_52 at hf
  refine lv_iconst (v := 0) hx hb dX9_isMissing_52 (by decide) ?_
  exact k_X9_isMissing_53 C0 hK hA hX hk_14 l1 l3 (0 : Int32) _ _ _ hSt (lv_sub hl [0, 1, 2] rfl) hf
def f_X9_isMissing_14 (v_points : Int32) (v_faces : Int64)  : Nat → Int32 → Int32 → Int32 → Option (Int32)
  | 0, _, _, _ => none
  | n + 1, l1, l2, l3 => if v_points ≤ l3 then gd (isb l2) (some l2) else if l2 = 0 then f_X9_isMissing_52 v_points v_faces (f_X9_isMissing_14 v_points v_faces n) l1 l3 else if ((l1 >>> (l3 &&& 31)) &&& (1 : Int32)) = 0 then f_X9_isMissing_48 v_points v_faces (f_X9_isMissing_14 v_points v_faces n) l1 l3 else (f_X9_isFace v_faces (l1 &&& (((1 : Int32) <<< (l3 &&& 31)) ^^^ (-1 : Int32)))).bind (fun R1 => if R1 = 0 then f_X9_isMissing_52 v_points v_faces (f_X9_isMissing_14 v_points v_faces n) l1 l3 else f_X9_isMissing_48 v_points v_faces (f_X9_isMissing_14 v_points v_faces n) l1 l3)
set_option maxHeartbeats 4000000 in
set_option maxRecDepth 100000 in
theorem k_X9_isMissing_14 {p : Program} {l : Launch} {e : Env} {s : State} {m : MethodId} {args : Array Value} {below : List Frame} {meth : Method} {c : Code} {A : Nat → Prop} {D : va_G} {cI cJ : ClassId} {h : Nat} {g2 g3 g4 g5 g6 g7 g8 g9 g10 g11 g12 g13 g14 g15 g16 g17 g18 g19 g20 g21 g22 g23 g24 g25 g26 : Value} {v_points : Int32} {v_faces : Int64} (C0 : Cx p s m args meth c cX9_isMissing wsX9_isMissing RX9 4 (some .boolean)) (hK : va_K D vwCl (tyL cI cJ) s) (hA : ∀ q, s.heap.size ≤ q → A q) (hX : XT none A s s.heap) {Rr : Int32} (n : Nat) : ∀ (l1 : Int32) (l2 : Int32) (l3 : Int32)  (H : Heap) (locs : List Loc) (ls : Array Slot), St D A s (w_X9_isMissing cI cJ h g2 g3 g4 g5 g6 g7 g8 g9 g10 g11 g12 g13 g14 g15 g16 g17 g18 g19 g20 g21 g22 g23 g24 g25 g26 v_points v_faces) H locs → lv_has ls 4 [(0, .ref h), (1, .int l1), (2, .int l2), (3, .int l3)] → f_X9_isMissing_14 v_points v_faces n l1 l2 l3 = some Rr → W p l e rm_X9_isMissing s m args below meth c H locs 0 0 (MQ below (QI D cI cJ A (w_X9_isMissing cI cJ h g2 g3 g4 g5 g6 g7 g8 g9 g10 g11 g12 g13 g14 g15 g16 g17 g18 g19 g20 g21 g22 g23 g24 g25 g26 v_points v_faces) Rr) args s 0 0 A) (F0 m 14 ls []) := by
  have hx := C0.1.1
  have hb := C0.1.2.1
  induction n with
  | zero => intro l1 l2 l3 H locs ls hSt hl hf; exact nomatch (show (none : Option _) = some Rr from hf)
  | succ n ih =>
    intro l1 l2 l3 H locs ls hSt hl hf
    unfold f_X9_isMissing_14 at hf
    refine lv_iload_n hx hb dX9_isMissing_14 rfl (lv_at hl 3 rfl) ?_
    refine lv_aload_n hx hb dX9_isMissing_15 rfl (lv_at hl 0 rfl) ?_
    refine hb_get C0 hK hSt 0 8 0 rfl rfl iu_X9_isMissing_X9 (by decide) fl_X9_isMissing_7 rfl dX9_isMissing_16 ?_
    refine lv_icmp_ge (tgt := 60) hx hb dX9_isMissing_19 (by decide) (fun cc => ?_) (fun cc => ?_)
    · have hf := ite_t hf cc
      refine lv_iload_n hx hb dX9_isMissing_60 rfl (lv_at hl 2 rfl) ?_
      obtain ⟨hz, hf⟩ := gd_t hf
      cases hf
      exact hb_zret C0 hK hSt (isb_n hz).1 dX9_isMissing_61
    · have hf := ite_f hf cc
      refine lv_iload_n hx hb dX9_isMissing_22 rfl (lv_at hl 2 rfl) ?_
      refine lv_if_eq (tgt := 52) hx hb dX9_isMissing_23 (by decide) (fun cc => ?_) (fun cc => ?_)
      · have hf := ite_t hf cc
        exact k_X9_isMissing_52 C0 hK hA hX ih l1 l3 _ _ _ hSt (lv_sub hl [0, 1, 3] rfl) hf
      · have hf := ite_f hf cc
        refine lv_iload_n hx hb dX9_isMissing_26 rfl (lv_at hl 1 rfl) ?_
        refine lv_iload_n hx hb dX9_isMissing_27 rfl (lv_at hl 3 rfl) ?_
        refine lv_ishr hx hb dX9_isMissing_28 ?_
        refine lv_iconst (v := 1) hx hb dX9_isMissing_29 (by decide) ?_
        refine lv_iand hx hb dX9_isMissing_30 ?_
        refine lv_if_eq (tgt := 48) hx hb dX9_isMissing_31 (by decide) (fun cc => ?_) (fun cc => ?_)
        · have hf := ite_t hf cc
          exact k_X9_isMissing_48 C0 hK hA hX ih l1 l3 _ _ _ hSt (lv_sub hl [0, 1, 3] rfl) hf
        · have hf := ite_f hf cc
          refine lv_aload_n hx hb dX9_isMissing_34 rfl (lv_at hl 0 rfl) ?_
          refine lv_iload_n hx hb dX9_isMissing_35 rfl (lv_at hl 1 rfl) ?_
          refine lv_iconst (v := 1) hx hb dX9_isMissing_36 (by decide) ?_
          refine lv_iload_n hx hb dX9_isMissing_37 rfl (lv_at hl 3 rfl) ?_
          refine lv_ishl hx hb dX9_isMissing_38 ?_
          refine lv_iconst (v := -1) hx hb dX9_isMissing_39 (by decide) ?_
          refine lv_ixor hx hb dX9_isMissing_40 ?_
          refine lv_iand hx hb dX9_isMissing_41 ?_
          obtain ⟨R1, hR1, hf⟩ := Option.bind_eq_some_iff.mp hf
          have sp : Sp (w_X9_isMissing cI cJ h g2 g3 g4 g5 g6 g7 g8 g9 g10 g11 g12 g13 g14 g15 g16 g17 g18 g19 g20 g21 g22 g23 g24 g25 g26 v_points v_faces) (w_X9_isFace cI cJ h (.int v_points) g2 g3 g4 g5 g6 g7 g8 g9 g10 g11 g12 g13 g14 g15 g16 g17 g18 g19 g20 g21 g22 g23 g24 g25 g26 v_faces) (w_X9_isFace cI cJ h (.int v_points) g2 g3 g4 g5 g6 g7 g8 g9 g10 g11 g12 g13 g14 g15 g16 g17 g18 g19 g20 g21 g22 g23 g24 g25 g26 v_faces) (w_X9_isMissing cI cJ h g2 g3 g4 g5 g6 g7 g8 g9 g10 g11 g12 g13 g14 g15 g16 g17 g18 g19 g20 g21 g22 g23 g24 g25 g26 v_points v_faces) [0] [] [0] := ⟨rfl, rfl, rfl, by decide, by decide, by decide, by decide⟩
          refine hb_ci (hb_rV (As := [.int (l1 &&& (((1 : Int32) <<< (l3 &&& 31)) ^^^ (-1 : Int32)))]) (rest := []) C0 hK hA XT.nn hSt sp (c_X9_isFace l D cI cJ h (.int v_points) g2 g3 g4 g5 g6 g7 g8 g9 g10 g11 g12 g13 g14 g15 g16 g17 g18 g19 g20 g21 g22 g23 g24 g25 g26  (l1 &&& (((1 : Int32) <<< (l3 &&& 31)) ^^^ (-1 : Int32))) v_faces R1 hR1) gX9_isMissing_X9_isFace rfl ⟨rfl, rfl⟩ hd_X9_isFace ⟨Nat.le_of_ble_eq_true rfl, Nat.le_of_ble_eq_true rfl⟩ 0 8 rfl rfl rfl hl rfl (Nat.le_of_ble_eq_true rfl) dX9_isMissing_42 ⟨Nat.zero_le _, Nat.zero_le _⟩) hA hSt sp (fun H locs hSt => ?_)
          refine lv_if_eq (tgt := 52) hx hb dX9_isMissing_45 (by decide) (fun cc => ?_) (fun cc => ?_)
          · have hf := ite_t hf cc
            exact k_X9_isMissing_52 C0 hK hA hX ih l1 l3 _ _ _ hSt (lv_sub hl [0, 1, 3] rfl) hf
          · have hf := ite_f hf cc
            exact k_X9_isMissing_48 C0 hK hA hX ih l1 l3 _ _ _ hSt (lv_sub hl [0, 1, 3] rfl) hf
def f_X9_isMissing_0 (v_points : Int32) (v_faces : Int64)  (l1 : Int32)  : Option (Int32) := (f_X9_isFace v_faces l1).bind (fun R1 => if R1 = 0 then f_X9_isMissing_14 v_points v_faces  FU l1 (1 : Int32) (0 : Int32) else some (0 : Int32))
set_option maxHeartbeats 4000000 in
set_option maxRecDepth 100000 in
theorem k_X9_isMissing_0 {p : Program} {l : Launch} {e : Env} {s : State} {m : MethodId} {args : Array Value} {below : List Frame} {meth : Method} {c : Code} {A : Nat → Prop} {D : va_G} {cI cJ : ClassId} {h : Nat} {g2 g3 g4 g5 g6 g7 g8 g9 g10 g11 g12 g13 g14 g15 g16 g17 g18 g19 g20 g21 g22 g23 g24 g25 g26 : Value} {v_points : Int32} {v_faces : Int64} (C0 : Cx p s m args meth c cX9_isMissing wsX9_isMissing RX9 4 (some .boolean)) (hK : va_K D vwCl (tyL cI cJ) s) (hA : ∀ q, s.heap.size ≤ q → A q) (hX : XT none A s s.heap) {Rr : Int32} : ∀ (l1 : Int32)  (H : Heap) (locs : List Loc) (ls : Array Slot), St D A s (w_X9_isMissing cI cJ h g2 g3 g4 g5 g6 g7 g8 g9 g10 g11 g12 g13 g14 g15 g16 g17 g18 g19 g20 g21 g22 g23 g24 g25 g26 v_points v_faces) H locs → lv_has ls 4 [(0, .ref h), (1, .int l1)] → f_X9_isMissing_0 v_points v_faces l1 = some Rr → W p l e rm_X9_isMissing s m args below meth c H locs 0 0 (MQ below (QI D cI cJ A (w_X9_isMissing cI cJ h g2 g3 g4 g5 g6 g7 g8 g9 g10 g11 g12 g13 g14 g15 g16 g17 g18 g19 g20 g21 g22 g23 g24 g25 g26 v_points v_faces) Rr) args s 0 0 A) (F0 m 0 ls []) := by
  have hx := C0.1.1
  have hb := C0.1.2.1
  intro l1 H locs ls hSt hl hf
  unfold f_X9_isMissing_0 at hf
  refine lv_aload_n hx hb dX9_isMissing_0 rfl (lv_at hl 0 rfl) ?_
  refine lv_iload_n hx hb dX9_isMissing_1 rfl (lv_at hl 1 rfl) ?_
  obtain ⟨R1, hR1, hf⟩ := Option.bind_eq_some_iff.mp hf
  have sp : Sp (w_X9_isMissing cI cJ h g2 g3 g4 g5 g6 g7 g8 g9 g10 g11 g12 g13 g14 g15 g16 g17 g18 g19 g20 g21 g22 g23 g24 g25 g26 v_points v_faces) (w_X9_isFace cI cJ h (.int v_points) g2 g3 g4 g5 g6 g7 g8 g9 g10 g11 g12 g13 g14 g15 g16 g17 g18 g19 g20 g21 g22 g23 g24 g25 g26 v_faces) (w_X9_isFace cI cJ h (.int v_points) g2 g3 g4 g5 g6 g7 g8 g9 g10 g11 g12 g13 g14 g15 g16 g17 g18 g19 g20 g21 g22 g23 g24 g25 g26 v_faces) (w_X9_isMissing cI cJ h g2 g3 g4 g5 g6 g7 g8 g9 g10 g11 g12 g13 g14 g15 g16 g17 g18 g19 g20 g21 g22 g23 g24 g25 g26 v_points v_faces) [0] [] [0] := ⟨rfl, rfl, rfl, by decide, by decide, by decide, by decide⟩
  refine hb_ci (hb_rV (As := [.int l1]) (rest := []) C0 hK hA XT.nn hSt sp (c_X9_isFace l D cI cJ h (.int v_points) g2 g3 g4 g5 g6 g7 g8 g9 g10 g11 g12 g13 g14 g15 g16 g17 g18 g19 g20 g21 g22 g23 g24 g25 g26  l1 v_faces R1 hR1) gX9_isMissing_X9_isFace rfl ⟨rfl, rfl⟩ hd_X9_isFace ⟨Nat.le_of_ble_eq_true rfl, Nat.le_of_ble_eq_true rfl⟩ 0 8 rfl rfl rfl hl rfl (Nat.le_of_ble_eq_true rfl) dX9_isMissing_2 ⟨Nat.zero_le _, Nat.zero_le _⟩) hA hSt sp (fun H locs hSt => ?_)
  refine lv_if_eq (tgt := 10) hx hb dX9_isMissing_5 (by decide) (fun cc => ?_) (fun cc => ?_)
  · have hf := ite_t hf cc
    refine lv_iconst (v := 1) hx hb dX9_isMissing_10 (by decide) ?_
    refine lv_istore_n (lv' := [(2, .int (1 : Int32)), (0, .ref h), (1, .int l1)]) hx hb dX9_isMissing_11 rfl hl (by decide) rfl (fun ls hl => ?_)
    refine lv_iconst (v := 0) hx hb dX9_isMissing_12 (by decide) ?_
    refine lv_istore_n (lv' := [(3, .int (0 : Int32)), (2, .int (1 : Int32)), (0, .ref h), (1, .int l1)]) hx hb dX9_isMissing_13 rfl hl (by decide) rfl (fun ls hl => ?_)
    exact k_X9_isMissing_14 C0 hK hA hX  FU l1 (1 : Int32) (0 : Int32) _ _ _ hSt (lv_sub hl [2, 3, 1, 0] rfl) hf
  · have hf := ite_f hf cc
    refine lv_iconst (v := 0) hx hb dX9_isMissing_8 (by decide) ?_
    cases hf
    exact hb_zret C0 hK hSt nb0.1 dX9_isMissing_9
def f_X9_isMissing (v_points : Int32) (v_faces : Int64) (l1 : Int32)  : Option (Int32) := f_X9_isMissing_0 v_points v_faces l1
set_option maxRecDepth 100000 in
theorem c_X9_isMissing (l : Launch) (D : va_G) (cI cJ : ClassId) (h : Nat) (g2 g3 g4 g5 g6 g7 g8 g9 g10 g11 g12 g13 g14 g15 g16 g17 g18 g19 g20 g21 g22 g23 g24 g25 g26 : Value) (l1 : Int32) (v_points : Int32) (v_faces : Int64) (Rr : Int32) (hf : f_X9_isMissing v_points v_faces l1 = some Rr) : CtI l yX9_isMissing wsX9_isMissing rm_X9_isMissing D cI cJ none [.ref h, .int l1] (w_X9_isMissing cI cJ h g2 g3 g4 g5 g6 g7 g8 g9 g10 g11 g12 g13 g14 g15 g16 g17 g18 g19 g20 g21 g22 g23 g24 g25 g26 v_points v_faces) Rr (w_X9_isMissing cI cJ h g2 g3 g4 g5 g6 g7 g8 g9 g10 g11 g12 g13 g14 g15 g16 g17 g18 g19 g20 g21 g22 g23 g24 g25 g26 v_points v_faces) :=
  fun sz => BodyW.met (av := [.ref h, .int l1]) (Qc := fun A => QI D cI cJ A (w_X9_isMissing cI cJ h g2 g3 g4 g5 g6 g7 g8 g9 g10 g11 g12 g13 g14 g15 g16 g17 g18 g19 g20 g21 g22 g23 g24 g25 g26 v_points v_faces) Rr) (by decide) rfl rfl (Nat.le_of_ble_eq_true rfl) (fun C0 hK hA hX ls hSt hl => k_X9_isMissing_0 C0 hK hA hX l1  _ _ ls hSt hl hf) sz
