/-! X6 holds -/
abbrev rm_X6_holds : Room := { frames := 0, cells := 0, slots := 0, locals := 0 }
abbrev w_X6_holds (cI cJ : ClassId)    : va_W := []
theorem hd_X6_holds : yX6_holds.cls ≠ "java/lang/invoke/MethodHandle" ∧ yX6_holds.cls ≠ "java/lang/invoke/VarHandle" ∧ (parseMethodDescriptor yX6_holds.desc).map (fun d => d.parameters.length) = some 2 := by decide +kernel
def f_X6_holds_0   (l0 : Int64) (l2 : Int32)  : Option (Int32) := if l2 < 0 then some (0 : Int32) else if (64 : Int32) ≤ l2 then some (0 : Int32) else if (((l0.toUInt64 >>> (l2.toInt64.toUInt64 &&& Int64.toUInt64 63)).toInt64) &&& (1 : Int64)) = (0 : Int64) then some (0 : Int32) else some (1 : Int32)
set_option maxHeartbeats 4000000 in
set_option maxRecDepth 100000 in
theorem k_X6_holds_0 {p : Program} {l : Launch} {e : Env} {s : State} {m : MethodId} {args : Array Value} {below : List Frame} {meth : Method} {c : Code} {A : Nat → Prop} {D : va_G} {cI cJ : ClassId}   (C0 : Cx p s m args meth c cX6_holds wsX6_holds RX6 3 (some .boolean)) (hK : va_K D vwCl (tyL cI cJ) s) (hA : ∀ q, s.heap.size ≤ q → A q) (hX : XT none A s s.heap) {Rr : Int32} : ∀ (l0 : Int64) (l2 : Int32)  (H : Heap) (locs : List Loc) (ls : Array Slot), St D A s (w_X6_holds cI cJ) H locs → lv_has ls 3 [(0, .long l0), (2, .int l2)] → f_X6_holds_0 l0 l2 = some Rr → W p l e rm_X6_holds s m args below meth c H locs 0 0 (MQ below (QI D cI cJ A (w_X6_holds cI cJ) Rr) args s 0 0 A) (F0 m 0 ls []) := by
  have hx := C0.1.1
  have hb := C0.1.2.1
  intro l0 l2 H locs ls hSt hl hf
  unfold f_X6_holds_0 at hf
  refine lv_iload_n hx hb dX6_holds_0 rfl (lv_at hl 1 rfl) ?_
  refine lv_if_lt (tgt := 24) hx hb dX6_holds_1 (by decide) (fun cc => ?_) (fun cc => ?_)
  · have hf := ite_t hf cc
    refine lv_iconst (v := 0) hx hb dX6_holds_24 (by decide) ?_
    cases hf
    exact hb_zret C0 hK hSt nb0.1 dX6_holds_25
  · have hf := ite_f hf cc
    refine lv_iload_n hx hb dX6_holds_4 rfl (lv_at hl 1 rfl) ?_
    refine lv_bipush (v := 64) hx hb dX6_holds_5 (by decide) ?_
    refine lv_icmp_ge (tgt := 24) hx hb dX6_holds_7 (by decide) (fun cc => ?_) (fun cc => ?_)
    · have hf := ite_t hf cc
      refine lv_iconst (v := 0) hx hb dX6_holds_24 (by decide) ?_
      cases hf
      exact hb_zret C0 hK hSt nb0.1 dX6_holds_25
    · have hf := ite_f hf cc
      refine lv_lload_n hx hb dX6_holds_10 rfl (lv_at hl 0 rfl) ?_
      refine lv_iload_n hx hb dX6_holds_11 rfl (lv_at hl 1 rfl) ?_
      refine lv_lushr (v := (l0.toUInt64 >>> (l2.toInt64.toUInt64 &&& Int64.toUInt64 63)).toInt64) hx hb dX6_holds_12 rfl ?_
      refine lv_lconst (v := 1) hx hb dX6_holds_13 (by decide) ?_
      refine lv_land hx hb dX6_holds_14 ?_
      refine lv_lconst (v := 0) hx hb dX6_holds_15 (by decide) ?_
      refine W.lcmp hx hb dX6_holds_16 ?_
      refine lv_if_eq (tgt := 24) hx hb dX6_holds_17 (by decide) (fun cc => ?_) (fun cc => ?_)
      · have hf := ite_t hf (lc_t cc)
        refine lv_iconst (v := 0) hx hb dX6_holds_24 (by decide) ?_
        cases hf
        exact hb_zret C0 hK hSt nb0.1 dX6_holds_25
      · have hf := ite_f hf (lc_f cc)
        refine lv_iconst (v := 1) hx hb dX6_holds_20 (by decide) ?_
        refine lv_goto (tgt := 25) hx hb dX6_holds_21 (by decide) ?_
        cases hf
        exact hb_zret C0 hK hSt nb1.1 dX6_holds_25
def f_X6_holds  (l0 : Int64) (l2 : Int32)  : Option (Int32) := f_X6_holds_0 l0 l2
set_option maxRecDepth 100000 in
theorem c_X6_holds (l : Launch) (D : va_G) (cI cJ : ClassId)  (l0 : Int64) (l2 : Int32)  (Rr : Int32) (hf : f_X6_holds l0 l2 = some Rr) : CtI l yX6_holds wsX6_holds rm_X6_holds D cI cJ none [.long l0, .int l2] (w_X6_holds cI cJ) Rr (w_X6_holds cI cJ) :=
  fun sz => BodyW.met (av := [.long l0, .int l2]) (Qc := fun A => QI D cI cJ A (w_X6_holds cI cJ) Rr) (by decide) rfl rfl (Nat.le_of_ble_eq_true rfl) (fun C0 hK hA hX ls hSt hl => k_X6_holds_0 C0 hK hA hX l0 l2  _ _ ls hSt hl hf) sz
/-! X6 hasPoint -/
abbrev rm_X6_hasPoint : Room := { frames := 0, cells := 0, slots := 0, locals := 0 }
abbrev w_X6_hasPoint (cI cJ : ClassId)    : va_W := []
theorem hd_X6_hasPoint : yX6_hasPoint.cls ≠ "java/lang/invoke/MethodHandle" ∧ yX6_hasPoint.cls ≠ "java/lang/invoke/VarHandle" ∧ (parseMethodDescriptor yX6_hasPoint.desc).map (fun d => d.parameters.length) = some 2 := by decide +kernel
def f_X6_hasPoint_0   (l0 : Int32) (l1 : Int32)  : Option (Int32) := if (((l0.toUInt32 >>> (l1.toUInt32 &&& Int32.toUInt32 31)).toInt32) &&& (1 : Int32)) = 0 then some (0 : Int32) else some (1 : Int32)
set_option maxHeartbeats 4000000 in
set_option maxRecDepth 100000 in
theorem k_X6_hasPoint_0 {p : Program} {l : Launch} {e : Env} {s : State} {m : MethodId} {args : Array Value} {below : List Frame} {meth : Method} {c : Code} {A : Nat → Prop} {D : va_G} {cI cJ : ClassId}   (C0 : Cx p s m args meth c cX6_hasPoint wsX6_hasPoint RX6 2 (some .boolean)) (hK : va_K D vwCl (tyL cI cJ) s) (hA : ∀ q, s.heap.size ≤ q → A q) (hX : XT none A s s.heap) {Rr : Int32} : ∀ (l0 : Int32) (l1 : Int32)  (H : Heap) (locs : List Loc) (ls : Array Slot), St D A s (w_X6_hasPoint cI cJ) H locs → lv_has ls 2 [(0, .int l0), (1, .int l1)] → f_X6_hasPoint_0 l0 l1 = some Rr → W p l e rm_X6_hasPoint s m args below meth c H locs 0 0 (MQ below (QI D cI cJ A (w_X6_hasPoint cI cJ) Rr) args s 0 0 A) (F0 m 0 ls []) := by
  have hx := C0.1.1
  have hb := C0.1.2.1
  intro l0 l1 H locs ls hSt hl hf
  unfold f_X6_hasPoint_0 at hf
  refine lv_iload_n hx hb dX6_hasPoint_0 rfl (lv_at hl 0 rfl) ?_
  refine lv_iload_n hx hb dX6_hasPoint_1 rfl (lv_at hl 1 rfl) ?_
  refine lv_iushr (v := (l0.toUInt32 >>> (l1.toUInt32 &&& Int32.toUInt32 31)).toInt32) hx hb dX6_hasPoint_2 rfl ?_
  refine lv_iconst (v := 1) hx hb dX6_hasPoint_3 (by decide) ?_
  refine lv_iand hx hb dX6_hasPoint_4 ?_
  refine lv_if_eq (tgt := 12) hx hb dX6_hasPoint_5 (by decide) (fun cc => ?_) (fun cc => ?_)
  · have hf := ite_t hf cc
    refine lv_iconst (v := 0) hx hb dX6_hasPoint_12 (by decide) ?_
    cases hf
    exact hb_zret C0 hK hSt nb0.1 dX6_hasPoint_13
  · have hf := ite_f hf cc
    refine lv_iconst (v := 1) hx hb dX6_hasPoint_8 (by decide) ?_
    refine lv_goto (tgt := 13) hx hb dX6_hasPoint_9 (by decide) ?_
    cases hf
    exact hb_zret C0 hK hSt nb1.1 dX6_hasPoint_13
def f_X6_hasPoint  (l0 : Int32) (l1 : Int32)  : Option (Int32) := f_X6_hasPoint_0 l0 l1
set_option maxRecDepth 100000 in
theorem c_X6_hasPoint (l : Launch) (D : va_G) (cI cJ : ClassId)  (l0 : Int32) (l1 : Int32)  (Rr : Int32) (hf : f_X6_hasPoint l0 l1 = some Rr) : CtI l yX6_hasPoint wsX6_hasPoint rm_X6_hasPoint D cI cJ none [.int l0, .int l1] (w_X6_hasPoint cI cJ) Rr (w_X6_hasPoint cI cJ) :=
  fun sz => BodyW.met (av := [.int l0, .int l1]) (Qc := fun A => QI D cI cJ A (w_X6_hasPoint cI cJ) Rr) (by decide) rfl rfl (Nat.le_of_ble_eq_true rfl) (fun C0 hK hA hX ls hSt hl => k_X6_hasPoint_0 C0 hK hA hX l0 l1  _ _ ls hSt hl hf) sz
/-! X6 ofSize -/
abbrev rm_X6_ofSize : Room := { frames := 0, cells := 0, slots := 0, locals := 0 }
abbrev w_X6_ofSize (cI cJ : ClassId)    : va_W := []
theorem fs_X6_ofSize_9 : Cond.fieldLink RX6 9 "HoleHouse$Sets" "BY_SIZE" "[J" ∈ wsX6_ofSize := by decide +kernel
theorem hd_X6_ofSize : yX6_ofSize.cls ≠ "java/lang/invoke/MethodHandle" ∧ yX6_ofSize.cls ≠ "java/lang/invoke/VarHandle" ∧ (parseMethodDescriptor yX6_ofSize.desc).map (fun d => d.parameters.length) = some 1 := by decide +kernel
def f_X6_ofSize_0   (l0 : Int32)  : Option (Int64) := if l0 < 0 then some (0 : Int64) else if (7 : Int32) ≤ l0 then some (0 : Int64) else gd (ix l0 7) (some (byL l0.toNatClampNeg))
set_option maxHeartbeats 4000000 in
set_option maxRecDepth 100000 in
theorem k_X6_ofSize_0 {p : Program} {l : Launch} {e : Env} {s : State} {m : MethodId} {args : Array Value} {below : List Frame} {meth : Method} {c : Code} {A : Nat → Prop} {D : va_G} {cI cJ : ClassId} {tB : Nat}  (C0 : Cx p s m args meth c cX6_ofSize wsX6_ofSize RX6 1 (some .long)) (hK : va_K D vwCl (tyL cI cJ) s) (hA : ∀ q, s.heap.size ≤ q → A q) (hX : XT (some tB) A s s.heap) {Rr : Int64} : ∀ (l0 : Int32)  (H : Heap) (locs : List Loc) (ls : Array Slot), St D A s (w_X6_ofSize cI cJ) H locs → lv_has ls 1 [(0, .int l0)] → f_X6_ofSize_0 l0 = some Rr → W p l e rm_X6_ofSize s m args below meth c H locs 0 0 (MQ below (QL D cI cJ A (w_X6_ofSize cI cJ) Rr) args s 0 0 A) (F0 m 0 ls []) := by
  have hx := C0.1.1
  have hb := C0.1.2.1
  intro l0 H locs ls hSt hl hf
  unfold f_X6_ofSize_0 at hf
  refine lv_iload_n hx hb dX6_ofSize_0 rfl (lv_at hl 0 rfl) ?_
  refine lv_if_lt (tgt := 20) hx hb dX6_ofSize_1 (by decide) (fun cc => ?_) (fun cc => ?_)
  · have hf := ite_t hf cc
    refine lv_lconst (v := 0) hx hb dX6_ofSize_20 (by decide) ?_
    cases hf
    exact hb_lret C0 hK hSt dX6_ofSize_21
  · have hf := ite_f hf cc
    refine lv_iload_n hx hb dX6_ofSize_4 rfl (lv_at hl 0 rfl) ?_
    refine va_gets hx hb hX.1 hSt.2.2 C0.1.2.2.2.1 (C0.1.2.2.2.2 _ fs_X6_ofSize_9) (fun _ h => h) dX6_ofSize_5 ?_
    refine va_tlen (v := 7) hx hb hX.2 hSt.2.2 (by decide) dX6_ofSize_8 ?_
    refine lv_icmp_ge (tgt := 20) hx hb dX6_ofSize_9 (by decide) (fun cc => ?_) (fun cc => ?_)
    · have hf := ite_t hf cc
      refine lv_lconst (v := 0) hx hb dX6_ofSize_20 (by decide) ?_
      cases hf
      exact hb_lret C0 hK hSt dX6_ofSize_21
    · have hf := ite_f hf cc
      refine va_gets hx hb hX.1 hSt.2.2 C0.1.2.2.2.1 (C0.1.2.2.2.2 _ fs_X6_ofSize_9) (fun _ h => h) dX6_ofSize_12 ?_
      refine lv_iload_n hx hb dX6_ofSize_15 rfl (lv_at hl 0 rfl) ?_
      obtain ⟨hi, hf⟩ := gd_t hf
      refine va_tl hx hb hX.2 hSt.2.2 (ix_in hi) rfl dX6_ofSize_16 ?_
      refine lv_goto (tgt := 21) hx hb dX6_ofSize_17 (by decide) ?_
      cases hf
      exact hb_lret C0 hK hSt dX6_ofSize_21
def f_X6_ofSize  (l0 : Int32)  : Option (Int64) := f_X6_ofSize_0 l0
set_option maxRecDepth 100000 in
theorem c_X6_ofSize (l : Launch) (D : va_G) (cI cJ : ClassId) (tB : Nat) (l0 : Int32)  (Rr : Int64) (hf : f_X6_ofSize l0 = some Rr) : CtL l yX6_ofSize wsX6_ofSize rm_X6_ofSize D cI cJ (some tB) [.int l0] (w_X6_ofSize cI cJ) Rr (w_X6_ofSize cI cJ) :=
  fun sz => BodyW.met (av := [.int l0]) (Qc := fun A => QL D cI cJ A (w_X6_ofSize cI cJ) Rr) (by decide) rfl rfl (Nat.le_of_ble_eq_true rfl) (fun C0 hK hA hX ls hSt hl => k_X6_ofSize_0 C0 hK hA hX l0  _ _ ls hSt hl hf) sz
/-! X6 inside -/
abbrev rm_X6_inside : Room := { frames := 1, cells := 0, slots := 0, locals := 21 }
abbrev w_X6_inside (cI cJ : ClassId)    : va_W := []
theorem hd_X6_inside : yX6_inside.cls ≠ "java/lang/invoke/MethodHandle" ∧ yX6_inside.cls ≠ "java/lang/invoke/VarHandle" ∧ (parseMethodDescriptor yX6_inside.desc).map (fun d => d.parameters.length) = some 1 := by decide +kernel
def f_X6_inside_4   : Nat → Int32 → Int64 → Int32 → Option (Int64)
  | 0, _, _, _ => none
  | n + 1, l0, l1, l3 => if (6 : Int32) ≤ l3 then some l1 else (f_X6_hasPoint l0 l3).bind (fun R1 => if R1 = 0 then (f_X6_inside_4 n) l0 l1 (l3 + 1) else bnd (l1 ||| (l1 <<< (((1 : Int32) <<< (l3 &&& 31)).toInt64 &&& 63))) (fun l1_2 => (f_X6_inside_4 n) l0 l1_2 (l3 + 1)))
set_option maxHeartbeats 4000000 in
set_option maxRecDepth 100000 in
theorem k_X6_inside_4 {p : Program} {l : Launch} {e : Env} {s : State} {m : MethodId} {args : Array Value} {below : List Frame} {meth : Method} {c : Code} {A : Nat → Prop} {D : va_G} {cI cJ : ClassId}   (C0 : Cx p s m args meth c cX6_inside wsX6_inside RX6 4 (some .long)) (hK : va_K D vwCl (tyL cI cJ) s) (hA : ∀ q, s.heap.size ≤ q → A q) (hX : XT none A s s.heap) {Rr : Int64} (n : Nat) : ∀ (l0 : Int32) (l1 : Int64) (l3 : Int32)  (H : Heap) (locs : List Loc) (ls : Array Slot), St D A s (w_X6_inside cI cJ) H locs → lv_has ls 4 [(0, .int l0), (1, .long l1), (3, .int l3)] → f_X6_inside_4 n l0 l1 l3 = some Rr → W p l e rm_X6_inside s m args below meth c H locs 0 0 (MQ below (QL D cI cJ A (w_X6_inside cI cJ) Rr) args s 0 0 A) (F0 m 4 ls []) := by
  have hx := C0.1.1
  have hb := C0.1.2.1
  induction n with
  | zero => intro l0 l1 l3 H locs ls hSt hl hf; exact nomatch (show (none : Option _) = some Rr from hf)
  | succ n ih =>
    intro l0 l1 l3 H locs ls hSt hl hf
    unfold f_X6_inside_4 at hf
    refine lv_iload_n hx hb dX6_inside_4 rfl (lv_at hl 2 rfl) ?_
    refine lv_bipush (v := 6) hx hb dX6_inside_5 (by decide) ?_
    refine lv_icmp_ge (tgt := 32) hx hb dX6_inside_7 (by decide) (fun cc => ?_) (fun cc => ?_)
    · have hf := ite_t hf cc
      refine lv_lload_n hx hb dX6_inside_32 rfl (lv_at hl 1 rfl) ?_
      cases hf
      exact hb_lret C0 hK hSt dX6_inside_33
    · have hf := ite_f hf cc
      refine lv_iload_n hx hb dX6_inside_10 rfl (lv_at hl 0 rfl) ?_
      refine lv_iload_n hx hb dX6_inside_11 rfl (lv_at hl 2 rfl) ?_
      obtain ⟨R1, hR1, hf⟩ := Option.bind_eq_some_iff.mp hf
      have sp : Sp (w_X6_inside cI cJ) (w_X6_hasPoint cI cJ) (w_X6_hasPoint cI cJ) (w_X6_inside cI cJ) [] [] [] := ⟨rfl, rfl, rfl, by decide, by decide, by decide, by decide⟩
      refine hb_ci (hb_rS (As := [.int l0, .int l3]) (rest := []) C0 hK hA XT.nn hSt sp (c_X6_hasPoint l D cI cJ   l0 l3  R1 hR1) gX6_inside_X6_hasPoint rfl ⟨rfl, rfl⟩ hd_X6_hasPoint ⟨Nat.le_of_ble_eq_true rfl, Nat.le_of_ble_eq_true rfl⟩ rfl hl rfl (Nat.le_of_ble_eq_true rfl) dX6_inside_12 ⟨Nat.zero_le _, Nat.zero_le _⟩) hA hSt sp (fun H locs hSt => ?_)
      refine lv_if_eq (tgt := 26) hx hb dX6_inside_15 (by decide) (fun cc => ?_) (fun cc => ?_)
      · have hf := ite_t hf cc
        refine lv_iinc (v := l3 + 1) (lv' := [(3, .int (l3 + 1)), (0, .int l0), (1, .long l1)]) hx hb dX6_inside_26 hl (k := 2) rfl rfl (by decide) rfl (fun ls hl => ?_)
        refine lv_goto (tgt := 4) hx hb dX6_inside_29 (by decide) ?_
        exact ih l0 l1 (l3 + 1) _ _ _ hSt (lv_sub hl [1, 2, 0] rfl) hf
      · have hf := ite_f hf cc
        refine lv_lload_n hx hb dX6_inside_18 rfl (lv_at hl 1 rfl) ?_
        refine lv_lload_n hx hb dX6_inside_19 rfl (lv_at hl 1 rfl) ?_
        refine lv_iconst (v := 1) hx hb dX6_inside_20 (by decide) ?_
        refine lv_iload_n hx hb dX6_inside_21 rfl (lv_at hl 2 rfl) ?_
        refine lv_ishl hx hb dX6_inside_22 ?_
        refine lv_lshl (v := l1 <<< (((1 : Int32) <<< (l3 &&& 31)).toInt64 &&& 63)) hx hb dX6_inside_23 rfl ?_
        refine lv_lor hx hb dX6_inside_24 ?_
        refine tp_l hf (fun l1_2 hf => ?_)
        refine lv_lstore_n (lv' := [(1, .long l1_2), (0, .int l0), (3, .int l3)]) hx hb dX6_inside_25 rfl hl (by decide) rfl (fun ls hl => ?_)
        refine lv_iinc (v := l3 + 1) (lv' := [(3, .int (l3 + 1)), (1, .long l1_2), (0, .int l0)]) hx hb dX6_inside_26 hl (k := 2) rfl rfl (by decide) rfl (fun ls hl => ?_)
        refine lv_goto (tgt := 4) hx hb dX6_inside_29 (by decide) ?_
        exact ih l0 l1_2 (l3 + 1) _ _ _ hSt (lv_sub hl [2, 1, 0] rfl) hf
def f_X6_inside_0   (l0 : Int32)  : Option (Int64) := f_X6_inside_4   FU l0 (1 : Int64) (0 : Int32)
set_option maxHeartbeats 4000000 in
set_option maxRecDepth 100000 in
theorem k_X6_inside_0 {p : Program} {l : Launch} {e : Env} {s : State} {m : MethodId} {args : Array Value} {below : List Frame} {meth : Method} {c : Code} {A : Nat → Prop} {D : va_G} {cI cJ : ClassId}   (C0 : Cx p s m args meth c cX6_inside wsX6_inside RX6 4 (some .long)) (hK : va_K D vwCl (tyL cI cJ) s) (hA : ∀ q, s.heap.size ≤ q → A q) (hX : XT none A s s.heap) {Rr : Int64} : ∀ (l0 : Int32)  (H : Heap) (locs : List Loc) (ls : Array Slot), St D A s (w_X6_inside cI cJ) H locs → lv_has ls 4 [(0, .int l0)] → f_X6_inside_0 l0 = some Rr → W p l e rm_X6_inside s m args below meth c H locs 0 0 (MQ below (QL D cI cJ A (w_X6_inside cI cJ) Rr) args s 0 0 A) (F0 m 0 ls []) := by
  have hx := C0.1.1
  have hb := C0.1.2.1
  intro l0 H locs ls hSt hl hf
  unfold f_X6_inside_0 at hf
  refine lv_lconst (v := 1) hx hb dX6_inside_0 (by decide) ?_
  refine lv_lstore_n (lv' := [(1, .long (1 : Int64)), (0, .int l0)]) hx hb dX6_inside_1 rfl hl (by decide) rfl (fun ls hl => ?_)
  refine lv_iconst (v := 0) hx hb dX6_inside_2 (by decide) ?_
  refine lv_istore_n (lv' := [(3, .int (0 : Int32)), (1, .long (1 : Int64)), (0, .int l0)]) hx hb dX6_inside_3 rfl hl (by decide) rfl (fun ls hl => ?_)
  exact k_X6_inside_4 C0 hK hA hX  FU l0 (1 : Int64) (0 : Int32) _ _ _ hSt (lv_sub hl [2, 1, 0] rfl) hf
def f_X6_inside  (l0 : Int32)  : Option (Int64) := f_X6_inside_0 l0
set_option maxRecDepth 100000 in
theorem c_X6_inside (l : Launch) (D : va_G) (cI cJ : ClassId)  (l0 : Int32)  (Rr : Int64) (hf : f_X6_inside l0 = some Rr) : CtL l yX6_inside wsX6_inside rm_X6_inside D cI cJ none [.int l0] (w_X6_inside cI cJ) Rr (w_X6_inside cI cJ) :=
  fun sz => BodyW.met (av := [.int l0]) (Qc := fun A => QL D cI cJ A (w_X6_inside cI cJ) Rr) (by decide) rfl rfl (Nat.le_of_ble_eq_true rfl) (fun C0 hK hA hX ls hSt hl => k_X6_inside_0 C0 hK hA hX l0  _ _ ls hSt hl hf) sz
/-! X6 around -/
abbrev rm_X6_around : Room := { frames := 2, cells := 0, slots := 0, locals := 44 }
abbrev w_X6_around (cI cJ : ClassId)    : va_W := []
theorem hd_X6_around : yX6_around.cls ≠ "java/lang/invoke/MethodHandle" ∧ yX6_around.cls ≠ "java/lang/invoke/VarHandle" ∧ (parseMethodDescriptor yX6_around.desc).map (fun d => d.parameters.length) = some 1 := by decide +kernel
def f_X6_around_0   (l0 : Int32)  : Option (Int64) := (f_X6_inside ((63 : Int32) &&& (l0 ^^^ (-1 : Int32)))).bind (fun R1 => some (R1 <<< (l0.toInt64 &&& 63)))
set_option maxHeartbeats 4000000 in
set_option maxRecDepth 100000 in
theorem k_X6_around_0 {p : Program} {l : Launch} {e : Env} {s : State} {m : MethodId} {args : Array Value} {below : List Frame} {meth : Method} {c : Code} {A : Nat → Prop} {D : va_G} {cI cJ : ClassId}   (C0 : Cx p s m args meth c cX6_around wsX6_around RX6 1 (some .long)) (hK : va_K D vwCl (tyL cI cJ) s) (hA : ∀ q, s.heap.size ≤ q → A q) (hX : XT none A s s.heap) {Rr : Int64} : ∀ (l0 : Int32)  (H : Heap) (locs : List Loc) (ls : Array Slot), St D A s (w_X6_around cI cJ) H locs → lv_has ls 1 [(0, .int l0)] → f_X6_around_0 l0 = some Rr → W p l e rm_X6_around s m args below meth c H locs 0 0 (MQ below (QL D cI cJ A (w_X6_around cI cJ) Rr) args s 0 0 A) (F0 m 0 ls []) := by
  have hx := C0.1.1
  have hb := C0.1.2.1
  intro l0 H locs ls hSt hl hf
  unfold f_X6_around_0 at hf
  refine lv_bipush (v := 63) hx hb dX6_around_0 (by decide) ?_
  refine lv_iload_n hx hb dX6_around_2 rfl (lv_at hl 0 rfl) ?_
  refine lv_iconst (v := -1) hx hb dX6_around_3 (by decide) ?_
  refine lv_ixor hx hb dX6_around_4 ?_
  refine lv_iand hx hb dX6_around_5 ?_
  obtain ⟨R1, hR1, hf⟩ := Option.bind_eq_some_iff.mp hf
  have sp : Sp (w_X6_around cI cJ) (w_X6_inside cI cJ) (w_X6_inside cI cJ) (w_X6_around cI cJ) [] [] [] := ⟨rfl, rfl, rfl, by decide, by decide, by decide, by decide⟩
  refine hb_cl (hb_rS (As := [.int ((63 : Int32) &&& (l0 ^^^ (-1 : Int32)))]) (rest := []) C0 hK hA XT.nn hSt sp (c_X6_inside l D cI cJ   ((63 : Int32) &&& (l0 ^^^ (-1 : Int32)))  R1 hR1) gX6_around_X6_inside rfl ⟨rfl, rfl⟩ hd_X6_inside ⟨Nat.le_of_ble_eq_true rfl, Nat.le_of_ble_eq_true rfl⟩ rfl hl rfl (Nat.le_of_ble_eq_true rfl) dX6_around_6 ⟨Nat.zero_le _, Nat.zero_le _⟩) hA hSt sp (fun H locs hSt => ?_)
  refine lv_iload_n hx hb dX6_around_9 rfl (lv_at hl 0 rfl) ?_
  refine lv_lshl (v := R1 <<< (l0.toInt64 &&& 63)) hx hb dX6_around_10 rfl ?_
  cases hf
  exact hb_lret C0 hK hSt dX6_around_11
def f_X6_around  (l0 : Int32)  : Option (Int64) := f_X6_around_0 l0
set_option maxRecDepth 100000 in
theorem c_X6_around (l : Launch) (D : va_G) (cI cJ : ClassId)  (l0 : Int32)  (Rr : Int64) (hf : f_X6_around l0 = some Rr) : CtL l yX6_around wsX6_around rm_X6_around D cI cJ none [.int l0] (w_X6_around cI cJ) Rr (w_X6_around cI cJ) :=
  fun sz => BodyW.met (av := [.int l0]) (Qc := fun A => QL D cI cJ A (w_X6_around cI cJ) Rr) (by decide) rfl rfl (Nat.le_of_ble_eq_true rfl) (fun C0 hK hA hX ls hSt hl => k_X6_around_0 C0 hK hA hX l0  _ _ ls hSt hl hf) sz
/-! X6 below -/
abbrev rm_X6_below : Room := { frames := 1, cells := 0, slots := 0, locals := 21 }
abbrev w_X6_below (cI cJ : ClassId)    : va_W := []
theorem hd_X6_below : yX6_below.cls ≠ "java/lang/invoke/MethodHandle" ∧ yX6_below.cls ≠ "java/lang/invoke/VarHandle" ∧ (parseMethodDescriptor yX6_below.desc).map (fun d => d.parameters.length) = some 1 := by decide +kernel
def f_X6_below_4   : Nat → Int32 → Int64 → Int32 → Option (Int64)
  | 0, _, _, _ => none
  | n + 1, l0, l1, l3 => if (6 : Int32) ≤ l3 then some l1 else (f_X6_hasPoint l0 l3).bind (fun R1 => if R1 = 0 then (f_X6_below_4 n) l0 l1 (l3 + 1) else bnd (l1 ||| ((1 : Int64) <<< ((l0 &&& (((1 : Int32) <<< (l3 &&& 31)) ^^^ (-1 : Int32))).toInt64 &&& 63))) (fun l1_2 => (f_X6_below_4 n) l0 l1_2 (l3 + 1)))
set_option maxHeartbeats 4000000 in
set_option maxRecDepth 100000 in
theorem k_X6_below_4 {p : Program} {l : Launch} {e : Env} {s : State} {m : MethodId} {args : Array Value} {below : List Frame} {meth : Method} {c : Code} {A : Nat → Prop} {D : va_G} {cI cJ : ClassId}   (C0 : Cx p s m args meth c cX6_below wsX6_below RX6 4 (some .long)) (hK : va_K D vwCl (tyL cI cJ) s) (hA : ∀ q, s.heap.size ≤ q → A q) (hX : XT none A s s.heap) {Rr : Int64} (n : Nat) : ∀ (l0 : Int32) (l1 : Int64) (l3 : Int32)  (H : Heap) (locs : List Loc) (ls : Array Slot), St D A s (w_X6_below cI cJ) H locs → lv_has ls 4 [(0, .int l0), (1, .long l1), (3, .int l3)] → f_X6_below_4 n l0 l1 l3 = some Rr → W p l e rm_X6_below s m args below meth c H locs 0 0 (MQ below (QL D cI cJ A (w_X6_below cI cJ) Rr) args s 0 0 A) (F0 m 4 ls []) := by
  have hx := C0.1.1
  have hb := C0.1.2.1
  induction n with
  | zero => intro l0 l1 l3 H locs ls hSt hl hf; exact nomatch (show (none : Option _) = some Rr from hf)
  | succ n ih =>
    intro l0 l1 l3 H locs ls hSt hl hf
    unfold f_X6_below_4 at hf
    refine lv_iload_n hx hb dX6_below_4 rfl (lv_at hl 2 rfl) ?_
    refine lv_bipush (v := 6) hx hb dX6_below_5 (by decide) ?_
    refine lv_icmp_ge (tgt := 36) hx hb dX6_below_7 (by decide) (fun cc => ?_) (fun cc => ?_)
    · have hf := ite_t hf cc
      refine lv_lload_n hx hb dX6_below_36 rfl (lv_at hl 1 rfl) ?_
      cases hf
      exact hb_lret C0 hK hSt dX6_below_37
    · have hf := ite_f hf cc
      refine lv_iload_n hx hb dX6_below_10 rfl (lv_at hl 0 rfl) ?_
      refine lv_iload_n hx hb dX6_below_11 rfl (lv_at hl 2 rfl) ?_
      obtain ⟨R1, hR1, hf⟩ := Option.bind_eq_some_iff.mp hf
      have sp : Sp (w_X6_below cI cJ) (w_X6_hasPoint cI cJ) (w_X6_hasPoint cI cJ) (w_X6_below cI cJ) [] [] [] := ⟨rfl, rfl, rfl, by decide, by decide, by decide, by decide⟩
      refine hb_ci (hb_rS (As := [.int l0, .int l3]) (rest := []) C0 hK hA XT.nn hSt sp (c_X6_hasPoint l D cI cJ   l0 l3  R1 hR1) gX6_below_X6_hasPoint rfl ⟨rfl, rfl⟩ hd_X6_hasPoint ⟨Nat.le_of_ble_eq_true rfl, Nat.le_of_ble_eq_true rfl⟩ rfl hl rfl (Nat.le_of_ble_eq_true rfl) dX6_below_12 ⟨Nat.zero_le _, Nat.zero_le _⟩) hA hSt sp (fun H locs hSt => ?_)
      refine lv_if_eq (tgt := 30) hx hb dX6_below_15 (by decide) (fun cc => ?_) (fun cc => ?_)
      · have hf := ite_t hf cc
        refine lv_iinc (v := l3 + 1) (lv' := [(3, .int (l3 + 1)), (0, .int l0), (1, .long l1)]) hx hb dX6_below_30 hl (k := 2) rfl rfl (by decide) rfl (fun ls hl => ?_)
        refine lv_goto (tgt := 4) hx hb dX6_below_33 (by decide) ?_
        exact ih l0 l1 (l3 + 1) _ _ _ hSt (lv_sub hl [1, 2, 0] rfl) hf
      · have hf := ite_f hf cc
        refine lv_lload_n hx hb dX6_below_18 rfl (lv_at hl 1 rfl) ?_
        refine lv_lconst (v := 1) hx hb dX6_below_19 (by decide) ?_
        refine lv_iload_n hx hb dX6_below_20 rfl (lv_at hl 0 rfl) ?_
        refine lv_iconst (v := 1) hx hb dX6_below_21 (by decide) ?_
        refine lv_iload_n hx hb dX6_below_22 rfl (lv_at hl 2 rfl) ?_
        refine lv_ishl hx hb dX6_below_23 ?_
        refine lv_iconst (v := -1) hx hb dX6_below_24 (by decide) ?_
        refine lv_ixor hx hb dX6_below_25 ?_
        refine lv_iand hx hb dX6_below_26 ?_
        refine lv_lshl (v := (1 : Int64) <<< ((l0 &&& (((1 : Int32) <<< (l3 &&& 31)) ^^^ (-1 : Int32))).toInt64 &&& 63)) hx hb dX6_below_27 rfl ?_
        refine lv_lor hx hb dX6_below_28 ?_
        refine tp_l hf (fun l1_2 hf => ?_)
        refine lv_lstore_n (lv' := [(1, .long l1_2), (0, .int l0), (3, .int l3)]) hx hb dX6_below_29 rfl hl (by decide) rfl (fun ls hl => ?_)
        refine lv_iinc (v := l3 + 1) (lv' := [(3, .int (l3 + 1)), (1, .long l1_2), (0, .int l0)]) hx hb dX6_below_30 hl (k := 2) rfl rfl (by decide) rfl (fun ls hl => ?_)
        refine lv_goto (tgt := 4) hx hb dX6_below_33 (by decide) ?_
        exact ih l0 l1_2 (l3 + 1) _ _ _ hSt (lv_sub hl [2, 1, 0] rfl) hf
def f_X6_below_0   (l0 : Int32)  : Option (Int64) := f_X6_below_4   FU l0 (0 : Int64) (0 : Int32)
set_option maxHeartbeats 4000000 in
set_option maxRecDepth 100000 in
theorem k_X6_below_0 {p : Program} {l : Launch} {e : Env} {s : State} {m : MethodId} {args : Array Value} {below : List Frame} {meth : Method} {c : Code} {A : Nat → Prop} {D : va_G} {cI cJ : ClassId}   (C0 : Cx p s m args meth c cX6_below wsX6_below RX6 4 (some .long)) (hK : va_K D vwCl (tyL cI cJ) s) (hA : ∀ q, s.heap.size ≤ q → A q) (hX : XT none A s s.heap) {Rr : Int64} : ∀ (l0 : Int32)  (H : Heap) (locs : List Loc) (ls : Array Slot), St D A s (w_X6_below cI cJ) H locs → lv_has ls 4 [(0, .int l0)] → f_X6_below_0 l0 = some Rr → W p l e rm_X6_below s m args below meth c H locs 0 0 (MQ below (QL D cI cJ A (w_X6_below cI cJ) Rr) args s 0 0 A) (F0 m 0 ls []) := by
  have hx := C0.1.1
  have hb := C0.1.2.1
  intro l0 H locs ls hSt hl hf
  unfold f_X6_below_0 at hf
  refine lv_lconst (v := 0) hx hb dX6_below_0 (by decide) ?_
  refine lv_lstore_n (lv' := [(1, .long (0 : Int64)), (0, .int l0)]) hx hb dX6_below_1 rfl hl (by decide) rfl (fun ls hl => ?_)
  refine lv_iconst (v := 0) hx hb dX6_below_2 (by decide) ?_
  refine lv_istore_n (lv' := [(3, .int (0 : Int32)), (1, .long (0 : Int64)), (0, .int l0)]) hx hb dX6_below_3 rfl hl (by decide) rfl (fun ls hl => ?_)
  exact k_X6_below_4 C0 hK hA hX  FU l0 (0 : Int64) (0 : Int32) _ _ _ hSt (lv_sub hl [2, 1, 0] rfl) hf
def f_X6_below  (l0 : Int32)  : Option (Int64) := f_X6_below_0 l0
set_option maxRecDepth 100000 in
theorem c_X6_below (l : Launch) (D : va_G) (cI cJ : ClassId)  (l0 : Int32)  (Rr : Int64) (hf : f_X6_below l0 = some Rr) : CtL l yX6_below wsX6_below rm_X6_below D cI cJ none [.int l0] (w_X6_below cI cJ) Rr (w_X6_below cI cJ) :=
  fun sz => BodyW.met (av := [.int l0]) (Qc := fun A => QL D cI cJ A (w_X6_below cI cJ) Rr) (by decide) rfl rfl (Nat.le_of_ble_eq_true rfl) (fun C0 hK hA hX ls hSt hl => k_X6_below_0 C0 hK hA hX l0  _ _ ls hSt hl hf) sz
/-! X6 above -/
abbrev rm_X6_above : Room := { frames := 1, cells := 0, slots := 0, locals := 21 }
abbrev w_X6_above (cI cJ : ClassId)    : va_W := []
theorem hd_X6_above : yX6_above.cls ≠ "java/lang/invoke/MethodHandle" ∧ yX6_above.cls ≠ "java/lang/invoke/VarHandle" ∧ (parseMethodDescriptor yX6_above.desc).map (fun d => d.parameters.length) = some 1 := by decide +kernel
def f_X6_above_4   : Nat → Int32 → Int64 → Int32 → Option (Int64)
  | 0, _, _, _ => none
  | n + 1, l0, l1, l3 => if (6 : Int32) ≤ l3 then some l1 else (f_X6_hasPoint l0 l3).bind (fun R1 => if R1 = 0 then bnd (l1 ||| ((1 : Int64) <<< ((l0 ||| ((1 : Int32) <<< (l3 &&& 31))).toInt64 &&& 63))) (fun l1_2 => (f_X6_above_4 n) l0 l1_2 (l3 + 1)) else (f_X6_above_4 n) l0 l1 (l3 + 1))
set_option maxHeartbeats 4000000 in
set_option maxRecDepth 100000 in
theorem k_X6_above_4 {p : Program} {l : Launch} {e : Env} {s : State} {m : MethodId} {args : Array Value} {below : List Frame} {meth : Method} {c : Code} {A : Nat → Prop} {D : va_G} {cI cJ : ClassId}   (C0 : Cx p s m args meth c cX6_above wsX6_above RX6 4 (some .long)) (hK : va_K D vwCl (tyL cI cJ) s) (hA : ∀ q, s.heap.size ≤ q → A q) (hX : XT none A s s.heap) {Rr : Int64} (n : Nat) : ∀ (l0 : Int32) (l1 : Int64) (l3 : Int32)  (H : Heap) (locs : List Loc) (ls : Array Slot), St D A s (w_X6_above cI cJ) H locs → lv_has ls 4 [(0, .int l0), (1, .long l1), (3, .int l3)] → f_X6_above_4 n l0 l1 l3 = some Rr → W p l e rm_X6_above s m args below meth c H locs 0 0 (MQ below (QL D cI cJ A (w_X6_above cI cJ) Rr) args s 0 0 A) (F0 m 4 ls []) := by
  have hx := C0.1.1
  have hb := C0.1.2.1
  induction n with
  | zero => intro l0 l1 l3 H locs ls hSt hl hf; exact nomatch (show (none : Option _) = some Rr from hf)
  | succ n ih =>
    intro l0 l1 l3 H locs ls hSt hl hf
    unfold f_X6_above_4 at hf
    refine lv_iload_n hx hb dX6_above_4 rfl (lv_at hl 2 rfl) ?_
    refine lv_bipush (v := 6) hx hb dX6_above_5 (by decide) ?_
    refine lv_icmp_ge (tgt := 34) hx hb dX6_above_7 (by decide) (fun cc => ?_) (fun cc => ?_)
    · have hf := ite_t hf cc
      refine lv_lload_n hx hb dX6_above_34 rfl (lv_at hl 1 rfl) ?_
      cases hf
      exact hb_lret C0 hK hSt dX6_above_35
    · have hf := ite_f hf cc
      refine lv_iload_n hx hb dX6_above_10 rfl (lv_at hl 0 rfl) ?_
      refine lv_iload_n hx hb dX6_above_11 rfl (lv_at hl 2 rfl) ?_
      obtain ⟨R1, hR1, hf⟩ := Option.bind_eq_some_iff.mp hf
      have sp : Sp (w_X6_above cI cJ) (w_X6_hasPoint cI cJ) (w_X6_hasPoint cI cJ) (w_X6_above cI cJ) [] [] [] := ⟨rfl, rfl, rfl, by decide, by decide, by decide, by decide⟩
      refine hb_ci (hb_rS (As := [.int l0, .int l3]) (rest := []) C0 hK hA XT.nn hSt sp (c_X6_hasPoint l D cI cJ   l0 l3  R1 hR1) gX6_above_X6_hasPoint rfl ⟨rfl, rfl⟩ hd_X6_hasPoint ⟨Nat.le_of_ble_eq_true rfl, Nat.le_of_ble_eq_true rfl⟩ rfl hl rfl (Nat.le_of_ble_eq_true rfl) dX6_above_12 ⟨Nat.zero_le _, Nat.zero_le _⟩) hA hSt sp (fun H locs hSt => ?_)
      refine lv_if_ne (tgt := 28) hx hb dX6_above_15 (by decide) (fun cc => ?_) (fun cc => ?_)
      · have hf := ite_f hf cc
        refine lv_iinc (v := l3 + 1) (lv' := [(3, .int (l3 + 1)), (0, .int l0), (1, .long l1)]) hx hb dX6_above_28 hl (k := 2) rfl rfl (by decide) rfl (fun ls hl => ?_)
        refine lv_goto (tgt := 4) hx hb dX6_above_31 (by decide) ?_
        exact ih l0 l1 (l3 + 1) _ _ _ hSt (lv_sub hl [1, 2, 0] rfl) hf
      · have hf := ite_t hf cc
        refine lv_lload_n hx hb dX6_above_18 rfl (lv_at hl 1 rfl) ?_
        refine lv_lconst (v := 1) hx hb dX6_above_19 (by decide) ?_
        refine lv_iload_n hx hb dX6_above_20 rfl (lv_at hl 0 rfl) ?_
        refine lv_iconst (v := 1) hx hb dX6_above_21 (by decide) ?_
        refine lv_iload_n hx hb dX6_above_22 rfl (lv_at hl 2 rfl) ?_
        refine lv_ishl hx hb dX6_above_23 ?_
        refine lv_ior hx hb dX6_above_24 ?_
        refine lv_lshl (v := (1 : Int64) <<< ((l0 ||| ((1 : Int32) <<< (l3 &&& 31))).toInt64 &&& 63)) hx hb dX6_above_25 rfl ?_
        refine lv_lor hx hb dX6_above_26 ?_
        refine tp_l hf (fun l1_2 hf => ?_)
        refine lv_lstore_n (lv' := [(1, .long l1_2), (0, .int l0), (3, .int l3)]) hx hb dX6_above_27 rfl hl (by decide) rfl (fun ls hl => ?_)
        refine lv_iinc (v := l3 + 1) (lv' := [(3, .int (l3 + 1)), (1, .long l1_2), (0, .int l0)]) hx hb dX6_above_28 hl (k := 2) rfl rfl (by decide) rfl (fun ls hl => ?_)
        refine lv_goto (tgt := 4) hx hb dX6_above_31 (by decide) ?_
        exact ih l0 l1_2 (l3 + 1) _ _ _ hSt (lv_sub hl [2, 1, 0] rfl) hf
def f_X6_above_0   (l0 : Int32)  : Option (Int64) := f_X6_above_4   FU l0 (0 : Int64) (0 : Int32)
set_option maxHeartbeats 4000000 in
set_option maxRecDepth 100000 in
theorem k_X6_above_0 {p : Program} {l : Launch} {e : Env} {s : State} {m : MethodId} {args : Array Value} {below : List Frame} {meth : Method} {c : Code} {A : Nat → Prop} {D : va_G} {cI cJ : ClassId}   (C0 : Cx p s m args meth c cX6_above wsX6_above RX6 4 (some .long)) (hK : va_K D vwCl (tyL cI cJ) s) (hA : ∀ q, s.heap.size ≤ q → A q) (hX : XT none A s s.heap) {Rr : Int64} : ∀ (l0 : Int32)  (H : Heap) (locs : List Loc) (ls : Array Slot), St D A s (w_X6_above cI cJ) H locs → lv_has ls 4 [(0, .int l0)] → f_X6_above_0 l0 = some Rr → W p l e rm_X6_above s m args below meth c H locs 0 0 (MQ below (QL D cI cJ A (w_X6_above cI cJ) Rr) args s 0 0 A) (F0 m 0 ls []) := by
  have hx := C0.1.1
  have hb := C0.1.2.1
  intro l0 H locs ls hSt hl hf
  unfold f_X6_above_0 at hf
  refine lv_lconst (v := 0) hx hb dX6_above_0 (by decide) ?_
  refine lv_lstore_n (lv' := [(1, .long (0 : Int64)), (0, .int l0)]) hx hb dX6_above_1 rfl hl (by decide) rfl (fun ls hl => ?_)
  refine lv_iconst (v := 0) hx hb dX6_above_2 (by decide) ?_
  refine lv_istore_n (lv' := [(3, .int (0 : Int32)), (1, .long (0 : Int64)), (0, .int l0)]) hx hb dX6_above_3 rfl hl (by decide) rfl (fun ls hl => ?_)
  exact k_X6_above_4 C0 hK hA hX  FU l0 (0 : Int64) (0 : Int32) _ _ _ hSt (lv_sub hl [2, 1, 0] rfl) hf
def f_X6_above  (l0 : Int32)  : Option (Int64) := f_X6_above_0 l0
set_option maxRecDepth 100000 in
theorem c_X6_above (l : Launch) (D : va_G) (cI cJ : ClassId)  (l0 : Int32)  (Rr : Int64) (hf : f_X6_above l0 = some Rr) : CtL l yX6_above wsX6_above rm_X6_above D cI cJ none [.int l0] (w_X6_above cI cJ) Rr (w_X6_above cI cJ) :=
  fun sz => BodyW.met (av := [.int l0]) (Qc := fun A => QL D cI cJ A (w_X6_above cI cJ) Rr) (by decide) rfl rfl (Nat.le_of_ble_eq_true rfl) (fun C0 hK hA hX ls hSt hl => k_X6_above_0 C0 hK hA hX l0  _ _ ls hSt hl hf) sz
/-! X6 spread -/
abbrev rm_X6_spread : Room := { frames := 1, cells := 0, slots := 0, locals := 21 }
abbrev w_X6_spread (cI cJ : ClassId)    : va_W := []
theorem hd_X6_spread : yX6_spread.cls ≠ "java/lang/invoke/MethodHandle" ∧ yX6_spread.cls ≠ "java/lang/invoke/VarHandle" ∧ (parseMethodDescriptor yX6_spread.desc).map (fun d => d.parameters.length) = some 2 := by decide +kernel
def f_X6_spread_7   : Nat → Int32 → Int32 → Int32 → Int32 → Int32 → Option (Int32)
  | 0, _, _, _, _, _ => none
  | n + 1, l0, l1, l2, l3, l4 => if (6 : Int32) ≤ l4 then some l2 else (f_X6_hasPoint l1 l4).bind (fun R1 => if R1 = 0 then (f_X6_spread_7 n) l0 l1 l2 l3 (l4 + 1) else (f_X6_hasPoint l0 l3).bind (fun R2 => if R2 = 0 then (f_X6_spread_7 n) l0 l1 l2 (l3 + 1) (l4 + 1) else bnd (l2 ||| ((1 : Int32) <<< (l4 &&& 31))) (fun l2_3 => (f_X6_spread_7 n) l0 l1 l2_3 (l3 + 1) (l4 + 1))))
set_option maxHeartbeats 4000000 in
set_option maxRecDepth 100000 in
theorem k_X6_spread_7 {p : Program} {l : Launch} {e : Env} {s : State} {m : MethodId} {args : Array Value} {below : List Frame} {meth : Method} {c : Code} {A : Nat → Prop} {D : va_G} {cI cJ : ClassId}   (C0 : Cx p s m args meth c cX6_spread wsX6_spread RX6 5 (some .int)) (hK : va_K D vwCl (tyL cI cJ) s) (hA : ∀ q, s.heap.size ≤ q → A q) (hX : XT none A s s.heap) {Rr : Int32} (n : Nat) : ∀ (l0 : Int32) (l1 : Int32) (l2 : Int32) (l3 : Int32) (l4 : Int32)  (H : Heap) (locs : List Loc) (ls : Array Slot), St D A s (w_X6_spread cI cJ) H locs → lv_has ls 5 [(0, .int l0), (1, .int l1), (2, .int l2), (3, .int l3), (4, .int l4)] → f_X6_spread_7 n l0 l1 l2 l3 l4 = some Rr → W p l e rm_X6_spread s m args below meth c H locs 0 0 (MQ below (QI D cI cJ A (w_X6_spread cI cJ) Rr) args s 0 0 A) (F0 m 7 ls []) := by
  have hx := C0.1.1
  have hb := C0.1.2.1
  induction n with
  | zero => intro l0 l1 l2 l3 l4 H locs ls hSt hl hf; exact nomatch (show (none : Option _) = some Rr from hf)
  | succ n ih =>
    intro l0 l1 l2 l3 l4 H locs ls hSt hl hf
    unfold f_X6_spread_7 at hf
    refine lv_iload hx hb dX6_spread_7 (lv_at hl 4 rfl) ?_
    refine lv_bipush (v := 6) hx hb dX6_spread_9 (by decide) ?_
    refine lv_icmp_ge (tgt := 47) hx hb dX6_spread_11 (by decide) (fun cc => ?_) (fun cc => ?_)
    · have hf := ite_t hf cc
      refine lv_iload_n hx hb dX6_spread_47 rfl (lv_at hl 2 rfl) ?_
      cases hf
      exact hb_iret C0 hK hSt dX6_spread_48
    · have hf := ite_f hf cc
      refine lv_iload_n hx hb dX6_spread_14 rfl (lv_at hl 1 rfl) ?_
      refine lv_iload hx hb dX6_spread_15 (lv_at hl 4 rfl) ?_
      obtain ⟨R1, hR1, hf⟩ := Option.bind_eq_some_iff.mp hf
      have sp : Sp (w_X6_spread cI cJ) (w_X6_hasPoint cI cJ) (w_X6_hasPoint cI cJ) (w_X6_spread cI cJ) [] [] [] := ⟨rfl, rfl, rfl, by decide, by decide, by decide, by decide⟩
      refine hb_ci (hb_rS (As := [.int l1, .int l4]) (rest := []) C0 hK hA XT.nn hSt sp (c_X6_hasPoint l D cI cJ   l1 l4  R1 hR1) gX6_spread_X6_hasPoint rfl ⟨rfl, rfl⟩ hd_X6_hasPoint ⟨Nat.le_of_ble_eq_true rfl, Nat.le_of_ble_eq_true rfl⟩ rfl hl rfl (Nat.le_of_ble_eq_true rfl) dX6_spread_17 ⟨Nat.zero_le _, Nat.zero_le _⟩) hA hSt sp (fun H locs hSt => ?_)
      refine lv_if_eq (tgt := 41) hx hb dX6_spread_20 (by decide) (fun cc => ?_) (fun cc => ?_)
      · have hf := ite_t hf cc
        refine lv_iinc (v := l4 + 1) (lv' := [(4, .int (l4 + 1)), (0, .int l0), (1, .int l1), (2, .int l2), (3, .int l3)]) hx hb dX6_spread_41 hl (k := 4) rfl rfl (by decide) rfl (fun ls hl => ?_)
        refine lv_goto (tgt := 7) hx hb dX6_spread_44 (by decide) ?_
        exact ih l0 l1 l2 l3 (l4 + 1) _ _ _ hSt (lv_sub hl [1, 2, 3, 4, 0] rfl) hf
      · have hf := ite_f hf cc
        refine lv_iload_n hx hb dX6_spread_23 rfl (lv_at hl 0 rfl) ?_
        refine lv_iload_n hx hb dX6_spread_24 rfl (lv_at hl 3 rfl) ?_
        obtain ⟨R2, hR2, hf⟩ := Option.bind_eq_some_iff.mp hf
        have sp : Sp (w_X6_spread cI cJ) (w_X6_hasPoint cI cJ) (w_X6_hasPoint cI cJ) (w_X6_spread cI cJ) [] [] [] := ⟨rfl, rfl, rfl, by decide, by decide, by decide, by decide⟩
        refine hb_ci (hb_rS (As := [.int l0, .int l3]) (rest := []) C0 hK hA XT.nn hSt sp (c_X6_hasPoint l D cI cJ   l0 l3  R2 hR2) gX6_spread_X6_hasPoint rfl ⟨rfl, rfl⟩ hd_X6_hasPoint ⟨Nat.le_of_ble_eq_true rfl, Nat.le_of_ble_eq_true rfl⟩ rfl hl rfl (Nat.le_of_ble_eq_true rfl) dX6_spread_25 ⟨Nat.zero_le _, Nat.zero_le _⟩) hA hSt sp (fun H locs hSt => ?_)
        refine lv_if_eq (tgt := 38) hx hb dX6_spread_28 (by decide) (fun cc => ?_) (fun cc => ?_)
        · have hf := ite_t hf cc
          refine lv_iinc (v := l3 + 1) (lv' := [(3, .int (l3 + 1)), (0, .int l0), (1, .int l1), (2, .int l2), (4, .int l4)]) hx hb dX6_spread_38 hl (k := 3) rfl rfl (by decide) rfl (fun ls hl => ?_)
          refine lv_iinc (v := l4 + 1) (lv' := [(4, .int (l4 + 1)), (3, .int (l3 + 1)), (0, .int l0), (1, .int l1), (2, .int l2)]) hx hb dX6_spread_41 hl (k := 4) rfl rfl (by decide) rfl (fun ls hl => ?_)
          refine lv_goto (tgt := 7) hx hb dX6_spread_44 (by decide) ?_
          exact ih l0 l1 l2 (l3 + 1) (l4 + 1) _ _ _ hSt (lv_sub hl [2, 3, 4, 1, 0] rfl) hf
        · have hf := ite_f hf cc
          refine lv_iload_n hx hb dX6_spread_31 rfl (lv_at hl 2 rfl) ?_
          refine lv_iconst (v := 1) hx hb dX6_spread_32 (by decide) ?_
          refine lv_iload hx hb dX6_spread_33 (lv_at hl 4 rfl) ?_
          refine lv_ishl hx hb dX6_spread_35 ?_
          refine lv_ior hx hb dX6_spread_36 ?_
          refine tp_i hf (fun l2_3 hf => ?_)
          refine lv_istore_n (lv' := [(2, .int l2_3), (0, .int l0), (1, .int l1), (3, .int l3), (4, .int l4)]) hx hb dX6_spread_37 rfl hl (by decide) rfl (fun ls hl => ?_)
          refine lv_iinc (v := l3 + 1) (lv' := [(3, .int (l3 + 1)), (2, .int l2_3), (0, .int l0), (1, .int l1), (4, .int l4)]) hx hb dX6_spread_38 hl (k := 3) rfl rfl (by decide) rfl (fun ls hl => ?_)
          refine lv_iinc (v := l4 + 1) (lv' := [(4, .int (l4 + 1)), (3, .int (l3 + 1)), (2, .int l2_3), (0, .int l0), (1, .int l1)]) hx hb dX6_spread_41 hl (k := 4) rfl rfl (by decide) rfl (fun ls hl => ?_)
          refine lv_goto (tgt := 7) hx hb dX6_spread_44 (by decide) ?_
          exact ih l0 l1 l2_3 (l3 + 1) (l4 + 1) _ _ _ hSt (lv_sub hl [3, 4, 2, 1, 0] rfl) hf
def f_X6_spread_0   (l0 : Int32) (l1 : Int32)  : Option (Int32) := f_X6_spread_7   FU l0 l1 (0 : Int32) (0 : Int32) (0 : Int32)
set_option maxHeartbeats 4000000 in
set_option maxRecDepth 100000 in
theorem k_X6_spread_0 {p : Program} {l : Launch} {e : Env} {s : State} {m : MethodId} {args : Array Value} {below : List Frame} {meth : Method} {c : Code} {A : Nat → Prop} {D : va_G} {cI cJ : ClassId}   (C0 : Cx p s m args meth c cX6_spread wsX6_spread RX6 5 (some .int)) (hK : va_K D vwCl (tyL cI cJ) s) (hA : ∀ q, s.heap.size ≤ q → A q) (hX : XT none A s s.heap) {Rr : Int32} : ∀ (l0 : Int32) (l1 : Int32)  (H : Heap) (locs : List Loc) (ls : Array Slot), St D A s (w_X6_spread cI cJ) H locs → lv_has ls 5 [(0, .int l0), (1, .int l1)] → f_X6_spread_0 l0 l1 = some Rr → W p l e rm_X6_spread s m args below meth c H locs 0 0 (MQ below (QI D cI cJ A (w_X6_spread cI cJ) Rr) args s 0 0 A) (F0 m 0 ls []) := by
  have hx := C0.1.1
  have hb := C0.1.2.1
  intro l0 l1 H locs ls hSt hl hf
  unfold f_X6_spread_0 at hf
  refine lv_iconst (v := 0) hx hb dX6_spread_0 (by decide) ?_
  refine lv_istore_n (lv' := [(2, .int (0 : Int32)), (0, .int l0), (1, .int l1)]) hx hb dX6_spread_1 rfl hl (by decide) rfl (fun ls hl => ?_)
  refine lv_iconst (v := 0) hx hb dX6_spread_2 (by decide) ?_
  refine lv_istore_n (lv' := [(3, .int (0 : Int32)), (2, .int (0 : Int32)), (0, .int l0), (1, .int l1)]) hx hb dX6_spread_3 rfl hl (by decide) rfl (fun ls hl => ?_)
  refine lv_iconst (v := 0) hx hb dX6_spread_4 (by decide) ?_
  refine lv_istore (lv' := [(4, .int (0 : Int32)), (3, .int (0 : Int32)), (2, .int (0 : Int32)), (0, .int l0), (1, .int l1)]) hx hb dX6_spread_5 hl (by decide) rfl (fun ls hl => ?_)
  exact k_X6_spread_7 C0 hK hA hX  FU l0 l1 (0 : Int32) (0 : Int32) (0 : Int32) _ _ _ hSt (lv_sub hl [3, 4, 2, 1, 0] rfl) hf
def f_X6_spread  (l0 : Int32) (l1 : Int32)  : Option (Int32) := f_X6_spread_0 l0 l1
set_option maxRecDepth 100000 in
theorem c_X6_spread (l : Launch) (D : va_G) (cI cJ : ClassId)  (l0 : Int32) (l1 : Int32)  (Rr : Int32) (hf : f_X6_spread l0 l1 = some Rr) : CtI l yX6_spread wsX6_spread rm_X6_spread D cI cJ none [.int l0, .int l1] (w_X6_spread cI cJ) Rr (w_X6_spread cI cJ) :=
  fun sz => BodyW.met (av := [.int l0, .int l1]) (Qc := fun A => QI D cI cJ A (w_X6_spread cI cJ) Rr) (by decide) rfl rfl (Nat.le_of_ble_eq_true rfl) (fun C0 hK hA hX ls hSt hl => k_X6_spread_0 C0 hK hA hX l0 l1  _ _ ls hSt hl hf) sz
/-! J6 bitCount -/
abbrev rm_J6_bitCount_0f7a4 : Room := { frames := 0, cells := 0, slots := 0, locals := 0 }
abbrev w_J6_bitCount_0f7a4 (cI cJ : ClassId)    : va_W := []
theorem kl_J6_bitCount_0f7a4_265 : Cond.constant RJ6 265 (1431655765) ∈ wsJ6_bitCount_0f7a4 := by decide +kernel
theorem kl_J6_bitCount_0f7a4_266 : Cond.constant RJ6 266 (858993459) ∈ wsJ6_bitCount_0f7a4 := by decide +kernel
theorem kl_J6_bitCount_0f7a4_267 : Cond.constant RJ6 267 (252645135) ∈ wsJ6_bitCount_0f7a4 := by decide +kernel
theorem hd_J6_bitCount_0f7a4 : yJ6_bitCount_0f7a4.cls ≠ "java/lang/invoke/MethodHandle" ∧ yJ6_bitCount_0f7a4.cls ≠ "java/lang/invoke/VarHandle" ∧ (parseMethodDescriptor yJ6_bitCount_0f7a4.desc).map (fun d => d.parameters.length) = some 1 := by decide +kernel
def f_J6_bitCount_0f7a4_0   (l0 : Int32)  : Option (Int32) := bnd (l0 - (((l0.toUInt32 >>> ((1 : Int32).toUInt32 &&& Int32.toUInt32 31)).toInt32) &&& (1431655765 : Int32))) (fun l0_1 => bnd ((l0_1 &&& (858993459 : Int32)) + (((l0_1.toUInt32 >>> ((2 : Int32).toUInt32 &&& Int32.toUInt32 31)).toInt32) &&& (858993459 : Int32))) (fun l0_2 => bnd ((l0_2 + ((l0_2.toUInt32 >>> ((4 : Int32).toUInt32 &&& Int32.toUInt32 31)).toInt32)) &&& (252645135 : Int32)) (fun l0_3 => bnd (l0_3 + ((l0_3.toUInt32 >>> ((8 : Int32).toUInt32 &&& Int32.toUInt32 31)).toInt32)) (fun l0_4 => bnd (l0_4 + ((l0_4.toUInt32 >>> ((16 : Int32).toUInt32 &&& Int32.toUInt32 31)).toInt32)) (fun l0_5 => some (l0_5 &&& (63 : Int32)))))))
set_option maxHeartbeats 4000000 in
set_option maxRecDepth 100000 in
theorem k_J6_bitCount_0f7a4_0 {p : Program} {l : Launch} {e : Env} {s : State} {m : MethodId} {args : Array Value} {below : List Frame} {meth : Method} {c : Code} {A : Nat → Prop} {D : va_G} {cI cJ : ClassId}   (C0 : Cx p s m args meth c cJ6_bitCount_0f7a4 wsJ6_bitCount_0f7a4 RJ6 1 (some .int)) (hK : va_K D vwCl (tyL cI cJ) s) (hA : ∀ q, s.heap.size ≤ q → A q) (hX : XT none A s s.heap) {Rr : Int32} : ∀ (l0 : Int32)  (H : Heap) (locs : List Loc) (ls : Array Slot), St D A s (w_J6_bitCount_0f7a4 cI cJ) H locs → lv_has ls 1 [(0, .int l0)] → f_J6_bitCount_0f7a4_0 l0 = some Rr → W p l e rm_J6_bitCount_0f7a4 s m args below meth c H locs 0 0 (MQ below (QI D cI cJ A (w_J6_bitCount_0f7a4 cI cJ) Rr) args s 0 0 A) (F0 m 0 ls []) := by
  have hx := C0.1.1
  have hb := C0.1.2.1
  intro l0 H locs ls hSt hl hf
  unfold f_J6_bitCount_0f7a4_0 at hf
  refine lv_iload_n hx hb dJ6_bitCount_0f7a4_0 rfl (lv_at hl 0 rfl) ?_
  refine lv_iload_n hx hb dJ6_bitCount_0f7a4_1 rfl (lv_at hl 0 rfl) ?_
  refine lv_iconst (v := 1) hx hb dJ6_bitCount_0f7a4_2 (by decide) ?_
  refine lv_iushr (v := (l0.toUInt32 >>> ((1 : Int32).toUInt32 &&& Int32.toUInt32 31)).toInt32) hx hb dJ6_bitCount_0f7a4_3 rfl ?_
  refine lv_ldcw (v := 1431655765) hx hb C0.1.2.2.2.1 (C0.1.2.2.2.2 _ kl_J6_bitCount_0f7a4_265) dJ6_bitCount_0f7a4_4 ?_
  refine lv_iand hx hb dJ6_bitCount_0f7a4_7 ?_
  refine lv_isub hx hb dJ6_bitCount_0f7a4_8 ?_
  refine tp_i hf (fun l0_1 hf => ?_)
  refine lv_istore_n (lv' := [(0, .int l0_1)]) hx hb dJ6_bitCount_0f7a4_9 rfl hl (by decide) rfl (fun ls hl => ?_)
  refine lv_iload_n hx hb dJ6_bitCount_0f7a4_10 rfl (lv_at hl 0 rfl) ?_
  refine lv_ldcw (v := 858993459) hx hb C0.1.2.2.2.1 (C0.1.2.2.2.2 _ kl_J6_bitCount_0f7a4_266) dJ6_bitCount_0f7a4_11 ?_
  refine lv_iand hx hb dJ6_bitCount_0f7a4_14 ?_
  refine lv_iload_n hx hb dJ6_bitCount_0f7a4_15 rfl (lv_at hl 0 rfl) ?_
  refine lv_iconst (v := 2) hx hb dJ6_bitCount_0f7a4_16 (by decide) ?_
  refine lv_iushr (v := (l0_1.toUInt32 >>> ((2 : Int32).toUInt32 &&& Int32.toUInt32 31)).toInt32) hx hb dJ6_bitCount_0f7a4_17 rfl ?_
  refine lv_ldcw (v := 858993459) hx hb C0.1.2.2.2.1 (C0.1.2.2.2.2 _ kl_J6_bitCount_0f7a4_266) dJ6_bitCount_0f7a4_18 ?_
  refine lv_iand hx hb dJ6_bitCount_0f7a4_21 ?_
  refine lv_iadd hx hb dJ6_bitCount_0f7a4_22 ?_
  refine tp_i hf (fun l0_2 hf => ?_)
  refine lv_istore_n (lv' := [(0, .int l0_2)]) hx hb dJ6_bitCount_0f7a4_23 rfl hl (by decide) rfl (fun ls hl => ?_)
  refine lv_iload_n hx hb dJ6_bitCount_0f7a4_24 rfl (lv_at hl 0 rfl) ?_
  refine lv_iload_n hx hb dJ6_bitCount_0f7a4_25 rfl (lv_at hl 0 rfl) ?_
  refine lv_iconst (v := 4) hx hb dJ6_bitCount_0f7a4_26 (by decide) ?_
  refine lv_iushr (v := (l0_2.toUInt32 >>> ((4 : Int32).toUInt32 &&& Int32.toUInt32 31)).toInt32) hx hb dJ6_bitCount_0f7a4_27 rfl ?_
  refine lv_iadd hx hb dJ6_bitCount_0f7a4_28 ?_
  refine lv_ldcw (v := 252645135) hx hb C0.1.2.2.2.1 (C0.1.2.2.2.2 _ kl_J6_bitCount_0f7a4_267) dJ6_bitCount_0f7a4_29 ?_
  refine lv_iand hx hb dJ6_bitCount_0f7a4_32 ?_
  refine tp_i hf (fun l0_3 hf => ?_)
  refine lv_istore_n (lv' := [(0, .int l0_3)]) hx hb dJ6_bitCount_0f7a4_33 rfl hl (by decide) rfl (fun ls hl => ?_)
  refine lv_iload_n hx hb dJ6_bitCount_0f7a4_34 rfl (lv_at hl 0 rfl) ?_
  refine lv_iload_n hx hb dJ6_bitCount_0f7a4_35 rfl (lv_at hl 0 rfl) ?_
  refine lv_bipush (v := 8) hx hb dJ6_bitCount_0f7a4_36 (by decide) ?_
  refine lv_iushr (v := (l0_3.toUInt32 >>> ((8 : Int32).toUInt32 &&& Int32.toUInt32 31)).toInt32) hx hb dJ6_bitCount_0f7a4_38 rfl ?_
  refine lv_iadd hx hb dJ6_bitCount_0f7a4_39 ?_
  refine tp_i hf (fun l0_4 hf => ?_)
  refine lv_istore_n (lv' := [(0, .int l0_4)]) hx hb dJ6_bitCount_0f7a4_40 rfl hl (by decide) rfl (fun ls hl => ?_)
  refine lv_iload_n hx hb dJ6_bitCount_0f7a4_41 rfl (lv_at hl 0 rfl) ?_
  refine lv_iload_n hx hb dJ6_bitCount_0f7a4_42 rfl (lv_at hl 0 rfl) ?_
  refine lv_bipush (v := 16) hx hb dJ6_bitCount_0f7a4_43 (by decide) ?_
  refine lv_iushr (v := (l0_4.toUInt32 >>> ((16 : Int32).toUInt32 &&& Int32.toUInt32 31)).toInt32) hx hb dJ6_bitCount_0f7a4_45 rfl ?_
  refine lv_iadd hx hb dJ6_bitCount_0f7a4_46 ?_
  refine tp_i hf (fun l0_5 hf => ?_)
  refine lv_istore_n (lv' := [(0, .int l0_5)]) hx hb dJ6_bitCount_0f7a4_47 rfl hl (by decide) rfl (fun ls hl => ?_)
  refine lv_iload_n hx hb dJ6_bitCount_0f7a4_48 rfl (lv_at hl 0 rfl) ?_
  refine lv_bipush (v := 63) hx hb dJ6_bitCount_0f7a4_49 (by decide) ?_
  refine lv_iand hx hb dJ6_bitCount_0f7a4_51 ?_
  cases hf
  exact hb_iret C0 hK hSt dJ6_bitCount_0f7a4_52
def f_J6_bitCount_0f7a4  (l0 : Int32)  : Option (Int32) := f_J6_bitCount_0f7a4_0 l0
set_option maxRecDepth 100000 in
theorem c_J6_bitCount_0f7a4 (l : Launch) (D : va_G) (cI cJ : ClassId)  (l0 : Int32)  (Rr : Int32) (hf : f_J6_bitCount_0f7a4 l0 = some Rr) : CtI l yJ6_bitCount_0f7a4 wsJ6_bitCount_0f7a4 rm_J6_bitCount_0f7a4 D cI cJ none [.int l0] (w_J6_bitCount_0f7a4 cI cJ) Rr (w_J6_bitCount_0f7a4 cI cJ) :=
  fun sz => BodyW.met (av := [.int l0]) (Qc := fun A => QI D cI cJ A (w_J6_bitCount_0f7a4 cI cJ) Rr) (by decide) rfl rfl (Nat.le_of_ble_eq_true rfl) (fun C0 hK hA hX ls hSt hl => k_J6_bitCount_0f7a4_0 C0 hK hA hX l0  _ _ ls hSt hl hf) sz
/-! J13 bitCount -/
abbrev rm_J13_bitCount_95d88 : Room := { frames := 0, cells := 0, slots := 0, locals := 0 }
abbrev w_J13_bitCount_95d88 (cI cJ : ClassId)    : va_W := []
theorem kl_J13_bitCount_95d88_314 : Cond.constantLong RJ13 314 (6148914691236517205) ∈ wsJ13_bitCount_95d88 := by decide +kernel
theorem kl_J13_bitCount_95d88_316 : Cond.constantLong RJ13 316 (3689348814741910323) ∈ wsJ13_bitCount_95d88 := by decide +kernel
theorem kl_J13_bitCount_95d88_318 : Cond.constantLong RJ13 318 (1085102592571150095) ∈ wsJ13_bitCount_95d88 := by decide +kernel
theorem hd_J13_bitCount_95d88 : yJ13_bitCount_95d88.cls ≠ "java/lang/invoke/MethodHandle" ∧ yJ13_bitCount_95d88.cls ≠ "java/lang/invoke/VarHandle" ∧ (parseMethodDescriptor yJ13_bitCount_95d88.desc).map (fun d => d.parameters.length) = some 1 := by decide +kernel
def f_J13_bitCount_95d88_0   (l0 : Int64)  : Option (Int32) := bnd (l0 - (((l0.toUInt64 >>> ((1 : Int32).toInt64.toUInt64 &&& Int64.toUInt64 63)).toInt64) &&& (6148914691236517205 : Int64))) (fun l0_1 => bnd ((l0_1 &&& (3689348814741910323 : Int64)) + (((l0_1.toUInt64 >>> ((2 : Int32).toInt64.toUInt64 &&& Int64.toUInt64 63)).toInt64) &&& (3689348814741910323 : Int64))) (fun l0_2 => bnd ((l0_2 + ((l0_2.toUInt64 >>> ((4 : Int32).toInt64.toUInt64 &&& Int64.toUInt64 63)).toInt64)) &&& (1085102592571150095 : Int64)) (fun l0_3 => bnd (l0_3 + ((l0_3.toUInt64 >>> ((8 : Int32).toInt64.toUInt64 &&& Int64.toUInt64 63)).toInt64)) (fun l0_4 => bnd (l0_4 + ((l0_4.toUInt64 >>> ((16 : Int32).toInt64.toUInt64 &&& Int64.toUInt64 63)).toInt64)) (fun l0_5 => bnd (l0_5 + ((l0_5.toUInt64 >>> ((32 : Int32).toInt64.toUInt64 &&& Int64.toUInt64 63)).toInt64)) (fun l0_6 => some (l0_6.toInt32 &&& (127 : Int32))))))))
set_option maxHeartbeats 4000000 in
set_option maxRecDepth 100000 in
theorem k_J13_bitCount_95d88_0 {p : Program} {l : Launch} {e : Env} {s : State} {m : MethodId} {args : Array Value} {below : List Frame} {meth : Method} {c : Code} {A : Nat → Prop} {D : va_G} {cI cJ : ClassId}   (C0 : Cx p s m args meth c cJ13_bitCount_95d88 wsJ13_bitCount_95d88 RJ13 2 (some .int)) (hK : va_K D vwCl (tyL cI cJ) s) (hA : ∀ q, s.heap.size ≤ q → A q) (hX : XT none A s s.heap) {Rr : Int32} : ∀ (l0 : Int64)  (H : Heap) (locs : List Loc) (ls : Array Slot), St D A s (w_J13_bitCount_95d88 cI cJ) H locs → lv_has ls 2 [(0, .long l0)] → f_J13_bitCount_95d88_0 l0 = some Rr → W p l e rm_J13_bitCount_95d88 s m args below meth c H locs 0 0 (MQ below (QI D cI cJ A (w_J13_bitCount_95d88 cI cJ) Rr) args s 0 0 A) (F0 m 0 ls []) := by
  have hx := C0.1.1
  have hb := C0.1.2.1
  intro l0 H locs ls hSt hl hf
  unfold f_J13_bitCount_95d88_0 at hf
  refine lv_lload_n hx hb dJ13_bitCount_95d88_0 rfl (lv_at hl 0 rfl) ?_
  refine lv_lload_n hx hb dJ13_bitCount_95d88_1 rfl (lv_at hl 0 rfl) ?_
  refine lv_iconst (v := 1) hx hb dJ13_bitCount_95d88_2 (by decide) ?_
  refine lv_lushr (v := (l0.toUInt64 >>> ((1 : Int32).toInt64.toUInt64 &&& Int64.toUInt64 63)).toInt64) hx hb dJ13_bitCount_95d88_3 rfl ?_
  refine lv_ldc2 (v := 6148914691236517205) hx hb C0.1.2.2.2.1 (C0.1.2.2.2.2 _ kl_J13_bitCount_95d88_314) dJ13_bitCount_95d88_4 ?_
  refine lv_land hx hb dJ13_bitCount_95d88_7 ?_
  refine lv_lsub hx hb dJ13_bitCount_95d88_8 ?_
  refine tp_l hf (fun l0_1 hf => ?_)
  refine lv_lstore_n (lv' := [(0, .long l0_1)]) hx hb dJ13_bitCount_95d88_9 rfl hl (by decide) rfl (fun ls hl => ?_)
  refine lv_lload_n hx hb dJ13_bitCount_95d88_10 rfl (lv_at hl 0 rfl) ?_
  refine lv_ldc2 (v := 3689348814741910323) hx hb C0.1.2.2.2.1 (C0.1.2.2.2.2 _ kl_J13_bitCount_95d88_316) dJ13_bitCount_95d88_11 ?_
  refine lv_land hx hb dJ13_bitCount_95d88_14 ?_
  refine lv_lload_n hx hb dJ13_bitCount_95d88_15 rfl (lv_at hl 0 rfl) ?_
  refine lv_iconst (v := 2) hx hb dJ13_bitCount_95d88_16 (by decide) ?_
  refine lv_lushr (v := (l0_1.toUInt64 >>> ((2 : Int32).toInt64.toUInt64 &&& Int64.toUInt64 63)).toInt64) hx hb dJ13_bitCount_95d88_17 rfl ?_
  refine lv_ldc2 (v := 3689348814741910323) hx hb C0.1.2.2.2.1 (C0.1.2.2.2.2 _ kl_J13_bitCount_95d88_316) dJ13_bitCount_95d88_18 ?_
  refine lv_land hx hb dJ13_bitCount_95d88_21 ?_
  refine lv_ladd hx hb dJ13_bitCount_95d88_22 ?_
  refine tp_l hf (fun l0_2 hf => ?_)
  refine lv_lstore_n (lv' := [(0, .long l0_2)]) hx hb dJ13_bitCount_95d88_23 rfl hl (by decide) rfl (fun ls hl => ?_)
  refine lv_lload_n hx hb dJ13_bitCount_95d88_24 rfl (lv_at hl 0 rfl) ?_
  refine lv_lload_n hx hb dJ13_bitCount_95d88_25 rfl (lv_at hl 0 rfl) ?_
  refine lv_iconst (v := 4) hx hb dJ13_bitCount_95d88_26 (by decide) ?_
  refine lv_lushr (v := (l0_2.toUInt64 >>> ((4 : Int32).toInt64.toUInt64 &&& Int64.toUInt64 63)).toInt64) hx hb dJ13_bitCount_95d88_27 rfl ?_
  refine lv_ladd hx hb dJ13_bitCount_95d88_28 ?_
  refine lv_ldc2 (v := 1085102592571150095) hx hb C0.1.2.2.2.1 (C0.1.2.2.2.2 _ kl_J13_bitCount_95d88_318) dJ13_bitCount_95d88_29 ?_
  refine lv_land hx hb dJ13_bitCount_95d88_32 ?_
  refine tp_l hf (fun l0_3 hf => ?_)
  refine lv_lstore_n (lv' := [(0, .long l0_3)]) hx hb dJ13_bitCount_95d88_33 rfl hl (by decide) rfl (fun ls hl => ?_)
  refine lv_lload_n hx hb dJ13_bitCount_95d88_34 rfl (lv_at hl 0 rfl) ?_
  refine lv_lload_n hx hb dJ13_bitCount_95d88_35 rfl (lv_at hl 0 rfl) ?_
  refine lv_bipush (v := 8) hx hb dJ13_bitCount_95d88_36 (by decide) ?_
  refine lv_lushr (v := (l0_3.toUInt64 >>> ((8 : Int32).toInt64.toUInt64 &&& Int64.toUInt64 63)).toInt64) hx hb dJ13_bitCount_95d88_38 rfl ?_
  refine lv_ladd hx hb dJ13_bitCount_95d88_39 ?_
  refine tp_l hf (fun l0_4 hf => ?_)
  refine lv_lstore_n (lv' := [(0, .long l0_4)]) hx hb dJ13_bitCount_95d88_40 rfl hl (by decide) rfl (fun ls hl => ?_)
  refine lv_lload_n hx hb dJ13_bitCount_95d88_41 rfl (lv_at hl 0 rfl) ?_
  refine lv_lload_n hx hb dJ13_bitCount_95d88_42 rfl (lv_at hl 0 rfl) ?_
  refine lv_bipush (v := 16) hx hb dJ13_bitCount_95d88_43 (by decide) ?_
  refine lv_lushr (v := (l0_4.toUInt64 >>> ((16 : Int32).toInt64.toUInt64 &&& Int64.toUInt64 63)).toInt64) hx hb dJ13_bitCount_95d88_45 rfl ?_
  refine lv_ladd hx hb dJ13_bitCount_95d88_46 ?_
  refine tp_l hf (fun l0_5 hf => ?_)
  refine lv_lstore_n (lv' := [(0, .long l0_5)]) hx hb dJ13_bitCount_95d88_47 rfl hl (by decide) rfl (fun ls hl => ?_)
  refine lv_lload_n hx hb dJ13_bitCount_95d88_48 rfl (lv_at hl 0 rfl) ?_
  refine lv_lload_n hx hb dJ13_bitCount_95d88_49 rfl (lv_at hl 0 rfl) ?_
  refine lv_bipush (v := 32) hx hb dJ13_bitCount_95d88_50 (by decide) ?_
  refine lv_lushr (v := (l0_5.toUInt64 >>> ((32 : Int32).toInt64.toUInt64 &&& Int64.toUInt64 63)).toInt64) hx hb dJ13_bitCount_95d88_52 rfl ?_
  refine lv_ladd hx hb dJ13_bitCount_95d88_53 ?_
  refine tp_l hf (fun l0_6 hf => ?_)
  refine lv_lstore_n (lv' := [(0, .long l0_6)]) hx hb dJ13_bitCount_95d88_54 rfl hl (by decide) rfl (fun ls hl => ?_)
  refine lv_lload_n hx hb dJ13_bitCount_95d88_55 rfl (lv_at hl 0 rfl) ?_
  refine lv_l2i (v := l0_6.toInt32) hx hb dJ13_bitCount_95d88_56 rfl ?_
  refine lv_bipush (v := 127) hx hb dJ13_bitCount_95d88_57 (by decide) ?_
  refine lv_iand hx hb dJ13_bitCount_95d88_59 ?_
  cases hf
  exact hb_iret C0 hK hSt dJ13_bitCount_95d88_60
def f_J13_bitCount_95d88  (l0 : Int64)  : Option (Int32) := f_J13_bitCount_95d88_0 l0
set_option maxRecDepth 100000 in
theorem c_J13_bitCount_95d88 (l : Launch) (D : va_G) (cI cJ : ClassId)  (l0 : Int64)  (Rr : Int32) (hf : f_J13_bitCount_95d88 l0 = some Rr) : CtI l yJ13_bitCount_95d88 wsJ13_bitCount_95d88 rm_J13_bitCount_95d88 D cI cJ none [.long l0] (w_J13_bitCount_95d88 cI cJ) Rr (w_J13_bitCount_95d88 cI cJ) :=
  fun sz => BodyW.met (av := [.long l0]) (Qc := fun A => QI D cI cJ A (w_J13_bitCount_95d88 cI cJ) Rr) (by decide) rfl rfl (Nat.le_of_ble_eq_true rfl) (fun C0 hK hA hX ls hSt hl => k_J13_bitCount_95d88_0 C0 hK hA hX l0  _ _ ls hSt hl hf) sz
