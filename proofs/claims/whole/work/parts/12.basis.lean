/-! X0 clear -/
abbrev rm_X0_clear : Room := { frames := 0, cells := 0, slots := 0, locals := 0 }
abbrev w_X0_clear (cI cJ : ClassId) (h : Nat) (g0 : Value) (g1 : Value) (v_leading : Int64) (v_rest : Int64) (v_count : Int32) : va_W := [(h, .inr (0, [g0, g1, .long v_leading, .long v_rest, .int v_count]))]
theorem iu_X0_clear_X0 : ∀ w ∈ wsX00, w ∈ wsX0_clear := by decide +kernel
theorem fl_X0_clear_18 : Cond.fieldLink RX0 18 (TX0 2).1 (TX0 2).2.1 (TX0 2).2.2.1 ∈ wsX0_clear := by decide +kernel
theorem fl_X0_clear_22 : Cond.fieldLink RX0 22 (TX0 3).1 (TX0 3).2.1 (TX0 3).2.2.1 ∈ wsX0_clear := by decide +kernel
theorem fl_X0_clear_25 : Cond.fieldLink RX0 25 (TX0 4).1 (TX0 4).2.1 (TX0 4).2.2.1 ∈ wsX0_clear := by decide +kernel
theorem hd_X0_clear : yX0_clear.cls = RX0 ∧ yX0_clear.cls ≠ "java/lang/invoke/MethodHandle" ∧ yX0_clear.cls ≠ "java/lang/invoke/VarHandle" ∧ (parseMethodDescriptor yX0_clear.desc).map (fun d => d.parameters.length) = some 1 := by decide +kernel
def f_X0_clear_0   (l1 : Int64) (v_leading : Int64) (v_rest : Int64) (v_count : Int32) : Option (Int64 × Int64 × Int32) := some (l1, (0 : Int64), (0 : Int32))
set_option maxHeartbeats 4000000 in
set_option maxRecDepth 100000 in
theorem k_X0_clear_0 {p : Program} {l : Launch} {e : Env} {s : State} {m : MethodId} {args : Array Value} {below : List Frame} {meth : Method} {c : Code} {A : Nat → Prop} {D : va_G} {cI cJ : ClassId} {h : Nat} {g0 g1 : Value}  (C0 : Cx p s m args meth c cX0_clear wsX0_clear RX0 3 none) (hK : va_K D vwCl (tyL cI cJ) s) (hA : ∀ q, s.heap.size ≤ q → A q) (hX : XT none A s s.heap) {Rr : Int64 × Int64 × Int32} : ∀ (l1 : Int64) (v_leading : Int64) (v_rest : Int64) (v_count : Int32) (H : Heap) (locs : List Loc) (ls : Array Slot), St D A s (w_X0_clear cI cJ h g0 g1 v_leading v_rest v_count) H locs → lv_has ls 3 [(0, .ref h), (1, .long l1)] → f_X0_clear_0 l1 v_leading v_rest v_count = some Rr → W p l e rm_X0_clear s m args below meth c H locs 0 0 (MQ below (QV D cI cJ A (w_X0_clear cI cJ h g0 g1 Rr.1 Rr.2.1 Rr.2.2)) args s 0 0 A) (F0 m 0 ls []) := by
  have hx := C0.1.1
  have hb := C0.1.2.1
  intro l1 v_leading v_rest v_count H locs ls hSt hl hf
  unfold f_X0_clear_0 at hf
  refine lv_aload_n hx hb dX0_clear_0 rfl (lv_at hl 0 rfl) ?_
  refine lv_lload_n hx hb dX0_clear_1 rfl (lv_at hl 1 rfl) ?_
  refine hb_put C0 hK hSt 0 0 2 rfl rfl iu_X0_clear_X0 tyX0 tyX0_ok nmX0 (by decide) fl_X0_clear_18 rfl rfl rfl (Nat.le_of_ble_eq_true rfl) (w' := w_X0_clear cI cJ h g0 g1 l1 v_rest v_count) rfl dX0_clear_2 (fun H locs hSt => ?_)
  refine lv_aload_n hx hb dX0_clear_5 rfl (lv_at hl 0 rfl) ?_
  refine lv_lconst (v := 0) hx hb dX0_clear_6 (by decide) ?_
  refine hb_put C0 hK hSt 0 0 3 rfl rfl iu_X0_clear_X0 tyX0 tyX0_ok nmX0 (by decide) fl_X0_clear_22 rfl rfl rfl (Nat.le_of_ble_eq_true rfl) (w' := w_X0_clear cI cJ h g0 g1 l1 (0 : Int64) v_count) rfl dX0_clear_7 (fun H locs hSt => ?_)
  refine lv_aload_n hx hb dX0_clear_10 rfl (lv_at hl 0 rfl) ?_
  refine lv_iconst (v := 0) hx hb dX0_clear_11 (by decide) ?_
  refine hb_put C0 hK hSt 0 0 4 rfl rfl iu_X0_clear_X0 tyX0 tyX0_ok nmX0 (by decide) fl_X0_clear_25 rfl rfl rfl (Nat.le_of_ble_eq_true rfl) (w' := w_X0_clear cI cJ h g0 g1 l1 (0 : Int64) (0 : Int32)) rfl dX0_clear_12 (fun H locs hSt => ?_)
  cases hf
  exact hb_vret C0 hK hSt dX0_clear_15
def f_X0_clear  (l1 : Int64) (v_leading : Int64) (v_rest : Int64) (v_count : Int32) : Option (Int64 × Int64 × Int32) := f_X0_clear_0 l1 v_leading v_rest v_count
set_option maxRecDepth 100000 in
theorem c_X0_clear (l : Launch) (D : va_G) (cI cJ : ClassId) (h : Nat) (g0 g1 : Value) (l1 : Int64) (v_leading : Int64) (v_rest : Int64) (v_count : Int32) (Rr : Int64 × Int64 × Int32) (hf : f_X0_clear l1 v_leading v_rest v_count = some Rr) : CtV l yX0_clear wsX0_clear rm_X0_clear D cI cJ none [.ref h, .long l1] (w_X0_clear cI cJ h g0 g1 v_leading v_rest v_count) (w_X0_clear cI cJ h g0 g1 Rr.1 Rr.2.1 Rr.2.2) :=
  fun sz => BodyW.met (av := [.ref h, .long l1]) (Qc := fun A => QV D cI cJ A (w_X0_clear cI cJ h g0 g1 Rr.1 Rr.2.1 Rr.2.2)) (by decide) rfl rfl (Nat.le_of_ble_eq_true rfl) (fun C0 hK hA hX ls hSt hl => k_X0_clear_0 C0 hK hA hX l1 v_leading v_rest v_count _ _ ls hSt hl hf) sz
/-! X0 add -/
abbrev rm_X0_add : Room := { frames := 0, cells := 0, slots := 0, locals := 0 }
abbrev w_X0_add (cI cJ : ClassId) (h : Nat) (h_rows : Nat) (h_leads : Nat)  (v_leading : Int64) (v_rows : Nat → Int64) (v_leads : Nat → Int64) (v_rest : Int64) (v_count : Int32) : va_W := [(h, .inr (0, [.ref h_rows, .ref h_leads, .long v_leading, .long v_rest, .int v_count])), (h_rows, .inl (cJ, 64, .inr (.inl v_rows))), (h_leads, .inl (cJ, 64, .inr (.inl v_leads)))]
theorem iu_X0_add_X0 : ∀ w ∈ wsX00, w ∈ wsX0_add := by decide +kernel
theorem fl_X0_add_9 : Cond.fieldLink RX0 9 (TX0 0).1 (TX0 0).2.1 (TX0 0).2.2.1 ∈ wsX0_add := by decide +kernel
theorem fl_X0_add_15 : Cond.fieldLink RX0 15 (TX0 1).1 (TX0 1).2.1 (TX0 1).2.2.1 ∈ wsX0_add := by decide +kernel
theorem fl_X0_add_18 : Cond.fieldLink RX0 18 (TX0 2).1 (TX0 2).2.1 (TX0 2).2.2.1 ∈ wsX0_add := by decide +kernel
theorem fl_X0_add_22 : Cond.fieldLink RX0 22 (TX0 3).1 (TX0 3).2.1 (TX0 3).2.2.1 ∈ wsX0_add := by decide +kernel
theorem fl_X0_add_25 : Cond.fieldLink RX0 25 (TX0 4).1 (TX0 4).2.1 (TX0 4).2.2.1 ∈ wsX0_add := by decide +kernel
theorem hd_X0_add : yX0_add.cls = RX0 ∧ yX0_add.cls ≠ "java/lang/invoke/MethodHandle" ∧ yX0_add.cls ≠ "java/lang/invoke/VarHandle" ∧ (parseMethodDescriptor yX0_add.desc).map (fun d => d.parameters.length) = some 1 := by decide +kernel
def f_X0_add_58 (v_leading : Int64)   (v_rows : Nat → Int64) (v_leads : Nat → Int64) (v_rest : Int64) (v_count : Int32) : Option (Int32 × (Nat → Int64) × (Nat → Int64) × Int64 × Int32) := if (v_rest &&& v_leading) = (0 : Int64) then some ((0 : Int32), v_rows, v_leads, v_rest, v_count) else if v_count < (64 : Int32) then gd (ix v_count 64) (bnd ((v_rest &&& v_leading) &&& (-(v_rest &&& v_leading))) (fun e_1 => gd (ix v_count 64) (some ((1 : Int32), vp_updL v_rows v_count.toNatClampNeg v_rest, vp_updL v_leads v_count.toNatClampNeg e_1, v_rest, v_count + (1 : Int32))))) else some ((0 : Int32), v_rows, v_leads, v_rest, v_count)
set_option maxHeartbeats 4000000 in
set_option maxRecDepth 100000 in
theorem k_X0_add_58 {p : Program} {l : Launch} {e : Env} {s : State} {m : MethodId} {args : Array Value} {below : List Frame} {meth : Method} {c : Code} {A : Nat → Prop} {D : va_G} {cI cJ : ClassId} {h h_rows h_leads : Nat} {v_leading : Int64} (C0 : Cx p s m args meth c cX0_add wsX0_add RX0 5 (some .boolean)) (hK : va_K D vwCl (tyL cI cJ) s) (hA : ∀ q, s.heap.size ≤ q → A q) (hX : XT none A s s.heap) {Rr : Int32 × (Nat → Int64) × (Nat → Int64) × Int64 × Int32} : ∀  (v_rows : Nat → Int64) (v_leads : Nat → Int64) (v_rest : Int64) (v_count : Int32) (H : Heap) (locs : List Loc) (ls : Array Slot), St D A s (w_X0_add cI cJ h h_rows h_leads v_leading v_rows v_leads v_rest v_count) H locs → lv_has ls 5 [(0, .ref h)] → f_X0_add_58 v_leading v_rows v_leads v_rest v_count = some Rr → W p l e rm_X0_add s m args below meth c H locs 0 0 (MQ below (QI D cI cJ A (w_X0_add cI cJ h h_rows h_leads v_leading Rr.2.1 Rr.2.2.1 Rr.2.2.2.1 Rr.2.2.2.2) Rr.1) args s 0 0 A) (F0 m 58 ls []) := by
  have hx := C0.1.1
  have hb := C0.1.2.1
  intro v_rows v_leads v_rest v_count H locs ls hSt hl hf
  unfold f_X0_add_58 at hf
  refine lv_aload_n hx hb dX0_add_58 rfl (lv_at hl 0 rfl) ?_
  refine hb_get C0 hK hSt 0 0 3 rfl rfl iu_X0_add_X0 (by decide) fl_X0_add_22 rfl dX0_add_59 ?_
  refine lv_aload_n hx hb dX0_add_62 rfl (lv_at hl 0 rfl) ?_
  refine hb_get C0 hK hSt 0 0 2 rfl rfl iu_X0_add_X0 (by decide) fl_X0_add_18 rfl dX0_add_63 ?_
  refine lv_land hx hb dX0_add_66 ?_
  refine lv_lstore_n (lv' := [(3, .long (v_rest &&& v_leading)), (0, .ref h)]) hx hb dX0_add_67 rfl hl (by decide) rfl (fun ls hl => ?_)
  refine lv_lload_n hx hb dX0_add_68 rfl (lv_at hl 0 rfl) ?_
  refine lv_lconst (v := 0) hx hb dX0_add_69 (by decide) ?_
  refine W.lcmp hx hb dX0_add_70 ?_
  refine lv_if_eq (tgt := 83) hx hb dX0_add_71 (by decide) (fun cc => ?_) (fun cc => ?_)
  · have hf := ite_t hf (lc_t cc)
    refine lv_iconst (v := 0) hx hb dX0_add_83 (by decide) ?_
    cases hf
    exact hb_zret C0 hK hSt nb0.1 dX0_add_84
  · have hf := ite_f hf (lc_f cc)
    refine lv_aload_n hx hb dX0_add_74 rfl (lv_at hl 1 rfl) ?_
    refine hb_get C0 hK hSt 0 0 4 rfl rfl iu_X0_add_X0 (by decide) fl_X0_add_25 rfl dX0_add_75 ?_
    refine lv_bipush (v := 64) hx hb dX0_add_78 (by decide) ?_
    refine lv_icmp_lt (tgt := 85) hx hb dX0_add_80 (by decide) (fun cc => ?_) (fun cc => ?_)
    · have hf := ite_t hf cc
      refine lv_aload_n hx hb dX0_add_85 rfl (lv_at hl 1 rfl) ?_
      refine hb_get C0 hK hSt 0 0 0 rfl rfl iu_X0_add_X0 (by decide) fl_X0_add_9 rfl dX0_add_86 ?_
      refine lv_aload_n hx hb dX0_add_89 rfl (lv_at hl 1 rfl) ?_
      refine hb_get C0 hK hSt 0 0 4 rfl rfl iu_X0_add_X0 (by decide) fl_X0_add_25 rfl dX0_add_90 ?_
      refine lv_aload_n hx hb dX0_add_93 rfl (lv_at hl 1 rfl) ?_
      refine hb_get C0 hK hSt 0 0 3 rfl rfl iu_X0_add_X0 (by decide) fl_X0_add_22 rfl dX0_add_94 ?_
      obtain ⟨hi, hf⟩ := gd_t hf
      refine hb_last C0 hK hSt 1 rfl hi (w' := w_X0_add cI cJ h h_rows h_leads v_leading (vp_updL v_rows v_count.toNatClampNeg v_rest) v_leads v_rest v_count) rfl dX0_add_97 (fun H locs hSt => ?_)
      refine lv_aload_n hx hb dX0_add_98 rfl (lv_at hl 1 rfl) ?_
      refine hb_get C0 hK hSt 0 0 1 rfl rfl iu_X0_add_X0 (by decide) fl_X0_add_15 rfl dX0_add_99 ?_
      refine lv_aload_n hx hb dX0_add_102 rfl (lv_at hl 1 rfl) ?_
      refine hb_get C0 hK hSt 0 0 4 rfl rfl iu_X0_add_X0 (by decide) fl_X0_add_25 rfl dX0_add_103 ?_
      refine lv_lload_n hx hb dX0_add_106 rfl (lv_at hl 0 rfl) ?_
      refine lv_lload_n hx hb dX0_add_107 rfl (lv_at hl 0 rfl) ?_
      refine lv_lneg hx hb dX0_add_108 ?_
      refine lv_land hx hb dX0_add_109 ?_
      refine tp_l hf (fun e_1 hf => ?_)
      obtain ⟨hi, hf⟩ := gd_t hf
      refine hb_last C0 hK hSt 2 rfl hi (w' := w_X0_add cI cJ h h_rows h_leads v_leading (vp_updL v_rows v_count.toNatClampNeg v_rest) (vp_updL v_leads v_count.toNatClampNeg e_1) v_rest v_count) rfl dX0_add_110 (fun H locs hSt => ?_)
      refine lv_aload_n hx hb dX0_add_111 rfl (lv_at hl 1 rfl) ?_
      refine lv_dup hx hb dX0_add_112 rfl ?_
      refine hb_get C0 hK hSt 0 0 4 rfl rfl iu_X0_add_X0 (by decide) fl_X0_add_25 rfl dX0_add_113 ?_
      refine lv_iconst (v := 1) hx hb dX0_add_116 (by decide) ?_
      refine lv_iadd hx hb dX0_add_117 ?_
      refine hb_put C0 hK hSt 0 0 4 rfl rfl iu_X0_add_X0 tyX0 tyX0_ok nmX0 (by decide) fl_X0_add_25 rfl rfl rfl (Nat.le_of_ble_eq_true rfl) (w' := w_X0_add cI cJ h h_rows h_leads v_leading (vp_updL v_rows v_count.toNatClampNeg v_rest) (vp_updL v_leads v_count.toNatClampNeg e_1) v_rest (v_count + (1 : Int32))) rfl dX0_add_118 (fun H locs hSt => ?_)
      refine lv_iconst (v := 1) hx hb dX0_add_121 (by decide) ?_
      cases hf
      exact hb_zret C0 hK hSt nb1.1 dX0_add_122
    · have hf := ite_f hf cc
      refine lv_iconst (v := 0) hx hb dX0_add_83 (by decide) ?_
      cases hf
      exact hb_zret C0 hK hSt nb0.1 dX0_add_84
def f_X0_add_7 (v_leading : Int64)  : Nat → Int32 → (Nat → Int64) → (Nat → Int64) → (Int64) → (Int32) → Option (Int32 × (Nat → Int64) × (Nat → Int64) × Int64 × Int32)
  | 0, _, _, _, _, _ => none
  | n + 1, l3, v_rows, v_leads, v_rest, v_count => if v_count ≤ l3 then f_X0_add_58 v_leading  v_rows v_leads v_rest v_count else if (64 : Int32) ≤ l3 then f_X0_add_58 v_leading  v_rows v_leads v_rest v_count else gd (ix l3 64) (if (v_rest &&& (v_leads l3.toNatClampNeg)) = (0 : Int64) then (f_X0_add_7 v_leading n) (l3 + 1) v_rows v_leads v_rest v_count else gd (ix l3 64) (bnd (v_rest ^^^ (v_rows l3.toNatClampNeg)) (fun rest_1 => (f_X0_add_7 v_leading n) (l3 + 1) v_rows v_leads rest_1 v_count)))
set_option maxHeartbeats 4000000 in
set_option maxRecDepth 100000 in
theorem k_X0_add_7 {p : Program} {l : Launch} {e : Env} {s : State} {m : MethodId} {args : Array Value} {below : List Frame} {meth : Method} {c : Code} {A : Nat → Prop} {D : va_G} {cI cJ : ClassId} {h h_rows h_leads : Nat} {v_leading : Int64} (C0 : Cx p s m args meth c cX0_add wsX0_add RX0 5 (some .boolean)) (hK : va_K D vwCl (tyL cI cJ) s) (hA : ∀ q, s.heap.size ≤ q → A q) (hX : XT none A s s.heap) {Rr : Int32 × (Nat → Int64) × (Nat → Int64) × Int64 × Int32} (n : Nat) : ∀ (l3 : Int32) (v_rows : Nat → Int64) (v_leads : Nat → Int64) (v_rest : Int64) (v_count : Int32) (H : Heap) (locs : List Loc) (ls : Array Slot), St D A s (w_X0_add cI cJ h h_rows h_leads v_leading v_rows v_leads v_rest v_count) H locs → lv_has ls 5 [(0, .ref h), (3, .int l3)] → f_X0_add_7 v_leading n l3 v_rows v_leads v_rest v_count = some Rr → W p l e rm_X0_add s m args below meth c H locs 0 0 (MQ below (QI D cI cJ A (w_X0_add cI cJ h h_rows h_leads v_leading Rr.2.1 Rr.2.2.1 Rr.2.2.2.1 Rr.2.2.2.2) Rr.1) args s 0 0 A) (F0 m 7 ls []) := by
  have hx := C0.1.1
  have hb := C0.1.2.1
  induction n with
  | zero => intro l3 v_rows v_leads v_rest v_count H locs ls hSt hl hf; exact nomatch (show (none : Option _) = some Rr from hf)
  | succ n ih =>
    intro l3 v_rows v_leads v_rest v_count H locs ls hSt hl hf
    unfold f_X0_add_7 at hf
    refine lv_iload_n hx hb dX0_add_7 rfl (lv_at hl 1 rfl) ?_
    refine lv_aload_n hx hb dX0_add_8 rfl (lv_at hl 0 rfl) ?_
    refine hb_get C0 hK hSt 0 0 4 rfl rfl iu_X0_add_X0 (by decide) fl_X0_add_25 rfl dX0_add_9 ?_
    refine lv_icmp_ge (tgt := 58) hx hb dX0_add_12 (by decide) (fun cc => ?_) (fun cc => ?_)
    · have hf := ite_t hf cc
      exact k_X0_add_58 C0 hK hA hX  v_rows v_leads v_rest v_count _ _ _ hSt (lv_sub hl [0] rfl) hf
    · have hf := ite_f hf cc
      refine lv_iload_n hx hb dX0_add_15 rfl (lv_at hl 1 rfl) ?_
      refine lv_bipush (v := 64) hx hb dX0_add_16 (by decide) ?_
      refine lv_icmp_ge (tgt := 58) hx hb dX0_add_18 (by decide) (fun cc => ?_) (fun cc => ?_)
      · have hf := ite_t hf cc
        exact k_X0_add_58 C0 hK hA hX  v_rows v_leads v_rest v_count _ _ _ hSt (lv_sub hl [0] rfl) hf
      · have hf := ite_f hf cc
        refine lv_aload_n hx hb dX0_add_21 rfl (lv_at hl 0 rfl) ?_
        refine hb_get C0 hK hSt 0 0 3 rfl rfl iu_X0_add_X0 (by decide) fl_X0_add_22 rfl dX0_add_22 ?_
        refine lv_aload_n hx hb dX0_add_25 rfl (lv_at hl 0 rfl) ?_
        refine hb_get C0 hK hSt 0 0 1 rfl rfl iu_X0_add_X0 (by decide) fl_X0_add_15 rfl dX0_add_26 ?_
        refine lv_iload_n hx hb dX0_add_29 rfl (lv_at hl 1 rfl) ?_
        obtain ⟨hi, hf⟩ := gd_t hf
        refine hb_lald C0 hK hSt 2 rfl hi dX0_add_30 ?_
        refine lv_land hx hb dX0_add_31 ?_
        refine lv_lconst (v := 0) hx hb dX0_add_32 (by decide) ?_
        refine W.lcmp hx hb dX0_add_33 ?_
        refine lv_if_eq (tgt := 52) hx hb dX0_add_34 (by decide) (fun cc => ?_) (fun cc => ?_)
        · have hf := ite_t hf (lc_t cc)
          refine lv_iinc (v := l3 + 1) (lv' := [(3, .int (l3 + 1)), (0, .ref h)]) hx hb dX0_add_52 hl (k := 1) rfl rfl (by decide) rfl (fun ls hl => ?_)
          refine lv_goto (tgt := 7) hx hb dX0_add_55 (by decide) ?_
          exact ih (l3 + 1) v_rows v_leads v_rest v_count _ _ _ hSt (lv_sub hl [1, 0] rfl) hf
        · have hf := ite_f hf (lc_f cc)
          refine lv_aload_n hx hb dX0_add_37 rfl (lv_at hl 0 rfl) ?_
          refine lv_dup hx hb dX0_add_38 rfl ?_
          refine hb_get C0 hK hSt 0 0 3 rfl rfl iu_X0_add_X0 (by decide) fl_X0_add_22 rfl dX0_add_39 ?_
          refine lv_aload_n hx hb dX0_add_42 rfl (lv_at hl 0 rfl) ?_
          refine hb_get C0 hK hSt 0 0 0 rfl rfl iu_X0_add_X0 (by decide) fl_X0_add_9 rfl dX0_add_43 ?_
          refine lv_iload_n hx hb dX0_add_46 rfl (lv_at hl 1 rfl) ?_
          obtain ⟨hi, hf⟩ := gd_t hf
          refine hb_lald C0 hK hSt 1 rfl hi dX0_add_47 ?_
          refine lv_lxor hx hb dX0_add_48 ?_
          refine tp_l hf (fun rest_1 hf => ?_)
          refine hb_put C0 hK hSt 0 0 3 rfl rfl iu_X0_add_X0 tyX0 tyX0_ok nmX0 (by decide) fl_X0_add_22 rfl rfl rfl (Nat.le_of_ble_eq_true rfl) (w' := w_X0_add cI cJ h h_rows h_leads v_leading v_rows v_leads rest_1 v_count) rfl dX0_add_49 (fun H locs hSt => ?_)
          refine lv_iinc (v := l3 + 1) (lv' := [(3, .int (l3 + 1)), (0, .ref h)]) hx hb dX0_add_52 hl (k := 1) rfl rfl (by decide) rfl (fun ls hl => ?_)
          refine lv_goto (tgt := 7) hx hb dX0_add_55 (by decide) ?_
          exact ih (l3 + 1) v_rows v_leads rest_1 v_count _ _ _ hSt (lv_sub hl [1, 0] rfl) hf
def f_X0_add_0 (v_leading : Int64)  (l1 : Int64) (v_rows : Nat → Int64) (v_leads : Nat → Int64) (v_rest : Int64) (v_count : Int32) : Option (Int32 × (Nat → Int64) × (Nat → Int64) × Int64 × Int32) := f_X0_add_7 v_leading  FU (0 : Int32) v_rows v_leads l1 v_count
set_option maxHeartbeats 4000000 in
set_option maxRecDepth 100000 in
theorem k_X0_add_0 {p : Program} {l : Launch} {e : Env} {s : State} {m : MethodId} {args : Array Value} {below : List Frame} {meth : Method} {c : Code} {A : Nat → Prop} {D : va_G} {cI cJ : ClassId} {h h_rows h_leads : Nat} {v_leading : Int64} (C0 : Cx p s m args meth c cX0_add wsX0_add RX0 5 (some .boolean)) (hK : va_K D vwCl (tyL cI cJ) s) (hA : ∀ q, s.heap.size ≤ q → A q) (hX : XT none A s s.heap) {Rr : Int32 × (Nat → Int64) × (Nat → Int64) × Int64 × Int32} : ∀ (l1 : Int64) (v_rows : Nat → Int64) (v_leads : Nat → Int64) (v_rest : Int64) (v_count : Int32) (H : Heap) (locs : List Loc) (ls : Array Slot), St D A s (w_X0_add cI cJ h h_rows h_leads v_leading v_rows v_leads v_rest v_count) H locs → lv_has ls 5 [(0, .ref h), (1, .long l1)] → f_X0_add_0 v_leading l1 v_rows v_leads v_rest v_count = some Rr → W p l e rm_X0_add s m args below meth c H locs 0 0 (MQ below (QI D cI cJ A (w_X0_add cI cJ h h_rows h_leads v_leading Rr.2.1 Rr.2.2.1 Rr.2.2.2.1 Rr.2.2.2.2) Rr.1) args s 0 0 A) (F0 m 0 ls []) := by
  have hx := C0.1.1
  have hb := C0.1.2.1
  intro l1 v_rows v_leads v_rest v_count H locs ls hSt hl hf
  unfold f_X0_add_0 at hf
  refine lv_aload_n hx hb dX0_add_0 rfl (lv_at hl 0 rfl) ?_
  refine lv_lload_n hx hb dX0_add_1 rfl (lv_at hl 1 rfl) ?_
  refine hb_put C0 hK hSt 0 0 3 rfl rfl iu_X0_add_X0 tyX0 tyX0_ok nmX0 (by decide) fl_X0_add_22 rfl rfl rfl (Nat.le_of_ble_eq_true rfl) (w' := w_X0_add cI cJ h h_rows h_leads v_leading v_rows v_leads l1 v_count) rfl dX0_add_2 (fun H locs hSt => ?_)
  refine lv_iconst (v := 0) hx hb dX0_add_5 (by decide) ?_
  refine lv_istore_n (lv' := [(3, .int (0 : Int32)), (0, .ref h), (1, .long l1)]) hx hb dX0_add_6 rfl hl (by decide) rfl (fun ls hl => ?_)
  exact k_X0_add_7 C0 hK hA hX  FU (0 : Int32) v_rows v_leads l1 v_count _ _ _ hSt (lv_sub hl [1, 0] rfl) hf
def f_X0_add (v_leading : Int64) (l1 : Int64) (v_rows : Nat → Int64) (v_leads : Nat → Int64) (v_rest : Int64) (v_count : Int32) : Option (Int32 × (Nat → Int64) × (Nat → Int64) × Int64 × Int32) := f_X0_add_0 v_leading l1 v_rows v_leads v_rest v_count
set_option maxRecDepth 100000 in
theorem c_X0_add (l : Launch) (D : va_G) (cI cJ : ClassId) (h h_rows h_leads : Nat) (l1 : Int64) (v_leading : Int64) (v_rows : Nat → Int64) (v_leads : Nat → Int64) (v_rest : Int64) (v_count : Int32) (Rr : Int32 × (Nat → Int64) × (Nat → Int64) × Int64 × Int32) (hf : f_X0_add v_leading l1 v_rows v_leads v_rest v_count = some Rr) : CtI l yX0_add wsX0_add rm_X0_add D cI cJ none [.ref h, .long l1] (w_X0_add cI cJ h h_rows h_leads v_leading v_rows v_leads v_rest v_count) Rr.1 (w_X0_add cI cJ h h_rows h_leads v_leading Rr.2.1 Rr.2.2.1 Rr.2.2.2.1 Rr.2.2.2.2) :=
  fun sz => BodyW.met (av := [.ref h, .long l1]) (Qc := fun A => QI D cI cJ A (w_X0_add cI cJ h h_rows h_leads v_leading Rr.2.1 Rr.2.2.1 Rr.2.2.2.1 Rr.2.2.2.2) Rr.1) (by decide) rfl rfl (Nat.le_of_ble_eq_true rfl) (fun C0 hK hA hX ls hSt hl => k_X0_add_0 C0 hK hA hX l1 v_rows v_leads v_rest v_count _ _ ls hSt hl hf) sz
/-! X0 remainder -/
abbrev rm_X0_remainder : Room := { frames := 0, cells := 0, slots := 0, locals := 0 }
abbrev w_X0_remainder (cI cJ : ClassId) (h : Nat) (g0 : Value) (g1 : Value) (g2 : Value) (g4 : Value) (v_rest : Int64) : va_W := [(h, .inr (0, [g0, g1, g2, .long v_rest, g4]))]
theorem iu_X0_remainder_X0 : ∀ w ∈ wsX00, w ∈ wsX0_remainder := by decide +kernel
theorem fl_X0_remainder_22 : Cond.fieldLink RX0 22 (TX0 3).1 (TX0 3).2.1 (TX0 3).2.2.1 ∈ wsX0_remainder := by decide +kernel
theorem hd_X0_remainder : yX0_remainder.cls = RX0 ∧ yX0_remainder.cls ≠ "java/lang/invoke/MethodHandle" ∧ yX0_remainder.cls ≠ "java/lang/invoke/VarHandle" ∧ (parseMethodDescriptor yX0_remainder.desc).map (fun d => d.parameters.length) = some 0 := by decide +kernel
def f_X0_remainder_0 (v_rest : Int64)    : Option (Int64) := some v_rest
set_option maxHeartbeats 4000000 in
set_option maxRecDepth 100000 in
theorem k_X0_remainder_0 {p : Program} {l : Launch} {e : Env} {s : State} {m : MethodId} {args : Array Value} {below : List Frame} {meth : Method} {c : Code} {A : Nat → Prop} {D : va_G} {cI cJ : ClassId} {h : Nat} {g0 g1 g2 g4 : Value} {v_rest : Int64} (C0 : Cx p s m args meth c cX0_remainder wsX0_remainder RX0 1 (some .long)) (hK : va_K D vwCl (tyL cI cJ) s) (hA : ∀ q, s.heap.size ≤ q → A q) (hX : XT none A s s.heap) {Rr : Int64} : ∀   (H : Heap) (locs : List Loc) (ls : Array Slot), St D A s (w_X0_remainder cI cJ h g0 g1 g2 g4 v_rest) H locs → lv_has ls 1 [(0, .ref h)] → f_X0_remainder_0 v_rest = some Rr → W p l e rm_X0_remainder s m args below meth c H locs 0 0 (MQ below (QL D cI cJ A (w_X0_remainder cI cJ h g0 g1 g2 g4 v_rest) Rr) args s 0 0 A) (F0 m 0 ls []) := by
  have hx := C0.1.1
  have hb := C0.1.2.1
  intro H locs ls hSt hl hf
  unfold f_X0_remainder_0 at hf
  refine lv_aload_n hx hb dX0_remainder_0 rfl (lv_at hl 0 rfl) ?_
  refine hb_get C0 hK hSt 0 0 3 rfl rfl iu_X0_remainder_X0 (by decide) fl_X0_remainder_22 rfl dX0_remainder_1 ?_
  cases hf
  exact hb_lret C0 hK hSt dX0_remainder_4
def f_X0_remainder (v_rest : Int64)   : Option (Int64) := f_X0_remainder_0 v_rest
set_option maxRecDepth 100000 in
theorem c_X0_remainder (l : Launch) (D : va_G) (cI cJ : ClassId) (h : Nat) (g0 g1 g2 g4 : Value)  (v_rest : Int64) (Rr : Int64) (hf : f_X0_remainder v_rest = some Rr) : CtL l yX0_remainder wsX0_remainder rm_X0_remainder D cI cJ none [.ref h] (w_X0_remainder cI cJ h g0 g1 g2 g4 v_rest) Rr (w_X0_remainder cI cJ h g0 g1 g2 g4 v_rest) :=
  fun sz => BodyW.met (av := [.ref h]) (Qc := fun A => QL D cI cJ A (w_X0_remainder cI cJ h g0 g1 g2 g4 v_rest) Rr) (by decide) rfl rfl (Nat.le_of_ble_eq_true rfl) (fun C0 hK hA hX ls hSt hl => k_X0_remainder_0 C0 hK hA hX   _ _ ls hSt hl hf) sz
/-! X1 keep -/
abbrev rm_X1_keep : Room := { frames := 1, cells := 0, slots := 0, locals := 64 }
abbrev w_X1_keep (cI cJ : ClassId) (h : Nat) (h_keptPoints : Nat) (h_keptFamilies : Nat)  (v_keptPoints : Nat → Int32) (v_keptFamilies : Nat → Int64) (v_count : Int32) : va_W := [(h, .inr (1, [.ref h_keptPoints, .ref h_keptFamilies, .int v_count])), (h_keptPoints, .inl (cI, 8, .inl v_keptPoints)), (h_keptFamilies, .inl (cJ, 8, .inr (.inl v_keptFamilies)))]
theorem iu_X1_keep_X1 : ∀ w ∈ wsX10, w ∈ wsX1_keep := by decide +kernel
theorem fl_X1_keep_11 : Cond.fieldLink RX1 11 (TX1 0).1 (TX1 0).2.1 (TX1 0).2.2.1 ∈ wsX1_keep := by decide +kernel
theorem fl_X1_keep_15 : Cond.fieldLink RX1 15 (TX1 1).1 (TX1 1).2.1 (TX1 1).2.2.1 ∈ wsX1_keep := by decide +kernel
theorem fl_X1_keep_19 : Cond.fieldLink RX1 19 (TX1 2).1 (TX1 2).2.1 (TX1 2).2.2.1 ∈ wsX1_keep := by decide +kernel
theorem hd_X1_keep : yX1_keep.cls = RX1 ∧ yX1_keep.cls ≠ "java/lang/invoke/MethodHandle" ∧ yX1_keep.cls ≠ "java/lang/invoke/VarHandle" ∧ (parseMethodDescriptor yX1_keep.desc).map (fun d => d.parameters.length) = some 2 := by decide +kernel
def f_X1_keep_45   (l1 : Int32) (l2 : Int64) (v_keptPoints : Nat → Int32) (v_keptFamilies : Nat → Int64) (v_count : Int32) : Option ((Nat → Int32) × (Nat → Int64) × Int32) := gd (ix v_count 8) (gd (ix v_count 8) (some (upd v_keptPoints v_count.toNatClampNeg l1, vp_updL v_keptFamilies v_count.toNatClampNeg l2, v_count + (1 : Int32))))
set_option maxHeartbeats 4000000 in
set_option maxRecDepth 100000 in
theorem k_X1_keep_45 {p : Program} {l : Launch} {e : Env} {s : State} {m : MethodId} {args : Array Value} {below : List Frame} {meth : Method} {c : Code} {A : Nat → Prop} {D : va_G} {cI cJ : ClassId} {h h_keptPoints h_keptFamilies : Nat}  (C0 : Cx p s m args meth c cX1_keep wsX1_keep RX1 4 none) (hK : va_K D vwCl (tyL cI cJ) s) (hA : ∀ q, s.heap.size ≤ q → A q) (hX : XT none A s s.heap) {Rr : (Nat → Int32) × (Nat → Int64) × Int32} : ∀ (l1 : Int32) (l2 : Int64) (v_keptPoints : Nat → Int32) (v_keptFamilies : Nat → Int64) (v_count : Int32) (H : Heap) (locs : List Loc) (ls : Array Slot), St D A s (w_X1_keep cI cJ h h_keptPoints h_keptFamilies v_keptPoints v_keptFamilies v_count) H locs → lv_has ls 4 [(0, .ref h), (1, .int l1), (2, .long l2)] → f_X1_keep_45 l1 l2 v_keptPoints v_keptFamilies v_count = some Rr → W p l e rm_X1_keep s m args below meth c H locs 0 0 (MQ below (QV D cI cJ A (w_X1_keep cI cJ h h_keptPoints h_keptFamilies Rr.1 Rr.2.1 Rr.2.2)) args s 0 0 A) (F0 m 45 ls []) := by
  have hx := C0.1.1
  have hb := C0.1.2.1
  intro l1 l2 v_keptPoints v_keptFamilies v_count H locs ls hSt hl hf
  unfold f_X1_keep_45 at hf
  refine lv_aload_n hx hb dX1_keep_45 rfl (lv_at hl 0 rfl) ?_
  refine hb_get C0 hK hSt 0 1 0 rfl rfl iu_X1_keep_X1 (by decide) fl_X1_keep_11 rfl dX1_keep_46 ?_
  refine lv_aload_n hx hb dX1_keep_49 rfl (lv_at hl 0 rfl) ?_
  refine hb_get C0 hK hSt 0 1 2 rfl rfl iu_X1_keep_X1 (by decide) fl_X1_keep_19 rfl dX1_keep_50 ?_
  refine lv_iload_n hx hb dX1_keep_53 rfl (lv_at hl 1 rfl) ?_
  obtain ⟨hi, hf⟩ := gd_t hf
  refine hb_iast C0 hK hSt 1 rfl hi (w' := w_X1_keep cI cJ h h_keptPoints h_keptFamilies (upd v_keptPoints v_count.toNatClampNeg l1) v_keptFamilies v_count) rfl dX1_keep_54 (fun H locs hSt => ?_)
  refine lv_aload_n hx hb dX1_keep_55 rfl (lv_at hl 0 rfl) ?_
  refine hb_get C0 hK hSt 0 1 1 rfl rfl iu_X1_keep_X1 (by decide) fl_X1_keep_15 rfl dX1_keep_56 ?_
  refine lv_aload_n hx hb dX1_keep_59 rfl (lv_at hl 0 rfl) ?_
  refine hb_get C0 hK hSt 0 1 2 rfl rfl iu_X1_keep_X1 (by decide) fl_X1_keep_19 rfl dX1_keep_60 ?_
  refine lv_lload_n hx hb dX1_keep_63 rfl (lv_at hl 2 rfl) ?_
  obtain ⟨hi, hf⟩ := gd_t hf
  refine hb_last C0 hK hSt 2 rfl hi (w' := w_X1_keep cI cJ h h_keptPoints h_keptFamilies (upd v_keptPoints v_count.toNatClampNeg l1) (vp_updL v_keptFamilies v_count.toNatClampNeg l2) v_count) rfl dX1_keep_64 (fun H locs hSt => ?_)
  refine lv_aload_n hx hb dX1_keep_65 rfl (lv_at hl 0 rfl) ?_
  refine lv_dup hx hb dX1_keep_66 rfl ?_
  refine hb_get C0 hK hSt 0 1 2 rfl rfl iu_X1_keep_X1 (by decide) fl_X1_keep_19 rfl dX1_keep_67 ?_
  refine lv_iconst (v := 1) hx hb dX1_keep_70 (by decide) ?_
  refine lv_iadd hx hb dX1_keep_71 ?_
  refine hb_put C0 hK hSt 0 1 2 rfl rfl iu_X1_keep_X1 tyX1 tyX1_ok nmX1 (by decide) fl_X1_keep_19 rfl rfl rfl (Nat.le_of_ble_eq_true rfl) (w' := w_X1_keep cI cJ h h_keptPoints h_keptFamilies (upd v_keptPoints v_count.toNatClampNeg l1) (vp_updL v_keptFamilies v_count.toNatClampNeg l2) (v_count + (1 : Int32))) rfl dX1_keep_72 (fun H locs hSt => ?_)
  cases hf
  exact hb_vret C0 hK hSt dX1_keep_75
def f_X1_keep_0   (l1 : Int32) (l2 : Int64) (v_keptPoints : Nat → Int32) (v_keptFamilies : Nat → Int64) (v_count : Int32) : Option ((Nat → Int32) × (Nat → Int64) × Int32) := if v_count < (8 : Int32) then f_X1_keep_45   l1 l2 v_keptPoints v_keptFamilies v_count else f_X1_keep_45   l1 l2 (va_cpy v_keptPoints v_keptPoints (1 : Int32).toNatClampNeg (0 : Int32).toNatClampNeg (7 : Int32).toNatClampNeg) (va_cpy v_keptFamilies v_keptFamilies (1 : Int32).toNatClampNeg (0 : Int32).toNatClampNeg (7 : Int32).toNatClampNeg) (7 : Int32)
set_option maxHeartbeats 4000000 in
set_option maxRecDepth 100000 in
theorem k_X1_keep_0 {p : Program} {l : Launch} {e : Env} {s : State} {m : MethodId} {args : Array Value} {below : List Frame} {meth : Method} {c : Code} {A : Nat → Prop} {D : va_G} {cI cJ : ClassId} {h h_keptPoints h_keptFamilies : Nat}  (C0 : Cx p s m args meth c cX1_keep wsX1_keep RX1 4 none) (hK : va_K D vwCl (tyL cI cJ) s) (hA : ∀ q, s.heap.size ≤ q → A q) (hX : XT none A s s.heap) {Rr : (Nat → Int32) × (Nat → Int64) × Int32} : ∀ (l1 : Int32) (l2 : Int64) (v_keptPoints : Nat → Int32) (v_keptFamilies : Nat → Int64) (v_count : Int32) (H : Heap) (locs : List Loc) (ls : Array Slot), St D A s (w_X1_keep cI cJ h h_keptPoints h_keptFamilies v_keptPoints v_keptFamilies v_count) H locs → lv_has ls 4 [(0, .ref h), (1, .int l1), (2, .long l2)] → f_X1_keep_0 l1 l2 v_keptPoints v_keptFamilies v_count = some Rr → W p l e rm_X1_keep s m args below meth c H locs 0 0 (MQ below (QV D cI cJ A (w_X1_keep cI cJ h h_keptPoints h_keptFamilies Rr.1 Rr.2.1 Rr.2.2)) args s 0 0 A) (F0 m 0 ls []) := by
  have hx := C0.1.1
  have hb := C0.1.2.1
  intro l1 l2 v_keptPoints v_keptFamilies v_count H locs ls hSt hl hf
  unfold f_X1_keep_0 at hf
  refine lv_aload_n hx hb dX1_keep_0 rfl (lv_at hl 0 rfl) ?_
  refine hb_get C0 hK hSt 0 1 2 rfl rfl iu_X1_keep_X1 (by decide) fl_X1_keep_19 rfl dX1_keep_1 ?_
  refine lv_bipush (v := 8) hx hb dX1_keep_4 (by decide) ?_
  refine lv_icmp_lt (tgt := 45) hx hb dX1_keep_6 (by decide) (fun cc => ?_) (fun cc => ?_)
  · have hf := ite_t hf cc
    exact k_X1_keep_45 C0 hK hA hX  l1 l2 v_keptPoints v_keptFamilies v_count _ _ _ hSt (lv_sub hl [0, 1, 2] rfl) hf
  · have hf := ite_f hf cc
    refine lv_aload_n hx hb dX1_keep_9 rfl (lv_at hl 0 rfl) ?_
    refine hb_get C0 hK hSt 0 1 0 rfl rfl iu_X1_keep_X1 (by decide) fl_X1_keep_11 rfl dX1_keep_10 ?_
    refine lv_iconst (v := 1) hx hb dX1_keep_13 (by decide) ?_
    refine lv_aload_n hx hb dX1_keep_14 rfl (lv_at hl 0 rfl) ?_
    refine hb_get C0 hK hSt 0 1 0 rfl rfl iu_X1_keep_X1 (by decide) fl_X1_keep_11 rfl dX1_keep_15 ?_
    refine lv_iconst (v := 0) hx hb dX1_keep_18 (by decide) ?_
    refine lv_bipush (v := 7) hx hb dX1_keep_19 (by decide) ?_
    refine hb_cpi C0 hK hSt 23 (C0.1.2.2.2.2 _ (by decide +kernel)) (C0.1.2.2.2.2 _ (by decide +kernel)) (C0.1.2.2.2.2 _ (by decide +kernel)) (C0.1.2.2.2.2 _ (by decide +kernel)) 1 rfl hl (by decide) (by decide) (by decide) (by decide) (by decide) (w' := w_X1_keep cI cJ h h_keptPoints h_keptFamilies (va_cpy v_keptPoints v_keptPoints (1 : Int32).toNatClampNeg (0 : Int32).toNatClampNeg (7 : Int32).toNatClampNeg) v_keptFamilies v_count) rfl (by decide) (by decide) dX1_keep_21 (fun H locs hSt => ?_)
    refine lv_aload_n hx hb dX1_keep_24 rfl (lv_at hl 0 rfl) ?_
    refine hb_get C0 hK hSt 0 1 1 rfl rfl iu_X1_keep_X1 (by decide) fl_X1_keep_15 rfl dX1_keep_25 ?_
    refine lv_iconst (v := 1) hx hb dX1_keep_28 (by decide) ?_
    refine lv_aload_n hx hb dX1_keep_29 rfl (lv_at hl 0 rfl) ?_
    refine hb_get C0 hK hSt 0 1 1 rfl rfl iu_X1_keep_X1 (by decide) fl_X1_keep_15 rfl dX1_keep_30 ?_
    refine lv_iconst (v := 0) hx hb dX1_keep_33 (by decide) ?_
    refine lv_bipush (v := 7) hx hb dX1_keep_34 (by decide) ?_
    refine hb_cpj C0 hK hSt 23 (C0.1.2.2.2.2 _ (by decide +kernel)) (C0.1.2.2.2.2 _ (by decide +kernel)) (C0.1.2.2.2.2 _ (by decide +kernel)) (C0.1.2.2.2.2 _ (by decide +kernel)) 2 rfl hl (by decide) (by decide) (by decide) (by decide) (by decide) (w' := w_X1_keep cI cJ h h_keptPoints h_keptFamilies (va_cpy v_keptPoints v_keptPoints (1 : Int32).toNatClampNeg (0 : Int32).toNatClampNeg (7 : Int32).toNatClampNeg) (va_cpy v_keptFamilies v_keptFamilies (1 : Int32).toNatClampNeg (0 : Int32).toNatClampNeg (7 : Int32).toNatClampNeg) v_count) rfl (by decide) (by decide) dX1_keep_36 (fun H locs hSt => ?_)
    refine lv_aload_n hx hb dX1_keep_39 rfl (lv_at hl 0 rfl) ?_
    refine lv_bipush (v := 7) hx hb dX1_keep_40 (by decide) ?_
    refine hb_put C0 hK hSt 0 1 2 rfl rfl iu_X1_keep_X1 tyX1 tyX1_ok nmX1 (by decide) fl_X1_keep_19 rfl rfl rfl (Nat.le_of_ble_eq_true rfl) (w' := w_X1_keep cI cJ h h_keptPoints h_keptFamilies (va_cpy v_keptPoints v_keptPoints (1 : Int32).toNatClampNeg (0 : Int32).toNatClampNeg (7 : Int32).toNatClampNeg) (va_cpy v_keptFamilies v_keptFamilies (1 : Int32).toNatClampNeg (0 : Int32).toNatClampNeg (7 : Int32).toNatClampNeg) (7 : Int32)) rfl dX1_keep_42 (fun H locs hSt => ?_)
    exact k_X1_keep_45 C0 hK hA hX  l1 l2 (va_cpy v_keptPoints v_keptPoints (1 : Int32).toNatClampNeg (0 : Int32).toNatClampNeg (7 : Int32).toNatClampNeg) (va_cpy v_keptFamilies v_keptFamilies (1 : Int32).toNatClampNeg (0 : Int32).toNatClampNeg (7 : Int32).toNatClampNeg) (7 : Int32) _ _ _ hSt (lv_sub hl [0, 1, 2] rfl) hf
def f_X1_keep  (l1 : Int32) (l2 : Int64) (v_keptPoints : Nat → Int32) (v_keptFamilies : Nat → Int64) (v_count : Int32) : Option ((Nat → Int32) × (Nat → Int64) × Int32) := f_X1_keep_0 l1 l2 v_keptPoints v_keptFamilies v_count
set_option maxRecDepth 100000 in
theorem c_X1_keep (l : Launch) (D : va_G) (cI cJ : ClassId) (h h_keptPoints h_keptFamilies : Nat) (l1 : Int32) (l2 : Int64) (v_keptPoints : Nat → Int32) (v_keptFamilies : Nat → Int64) (v_count : Int32) (Rr : (Nat → Int32) × (Nat → Int64) × Int32) (hf : f_X1_keep l1 l2 v_keptPoints v_keptFamilies v_count = some Rr) : CtV l yX1_keep wsX1_keep rm_X1_keep D cI cJ none [.ref h, .int l1, .long l2] (w_X1_keep cI cJ h h_keptPoints h_keptFamilies v_keptPoints v_keptFamilies v_count) (w_X1_keep cI cJ h h_keptPoints h_keptFamilies Rr.1 Rr.2.1 Rr.2.2) :=
  fun sz => BodyW.met (av := [.ref h, .int l1, .long l2]) (Qc := fun A => QV D cI cJ A (w_X1_keep cI cJ h h_keptPoints h_keptFamilies Rr.1 Rr.2.1 Rr.2.2)) (by decide) rfl rfl (Nat.le_of_ble_eq_true rfl) (fun C0 hK hA hX ls hSt hl => k_X1_keep_0 C0 hK hA hX l1 l2 v_keptPoints v_keptFamilies v_count _ _ ls hSt hl hf) sz
/-! X1 drop -/
abbrev rm_X1_drop : Room := { frames := 0, cells := 0, slots := 0, locals := 0 }
abbrev w_X1_drop (cI cJ : ClassId) (h : Nat) (g0 : Value) (g1 : Value) (v_count : Int32) : va_W := [(h, .inr (1, [g0, g1, .int v_count]))]
theorem iu_X1_drop_X1 : ∀ w ∈ wsX10, w ∈ wsX1_drop := by decide +kernel
theorem fl_X1_drop_19 : Cond.fieldLink RX1 19 (TX1 2).1 (TX1 2).2.1 (TX1 2).2.2.1 ∈ wsX1_drop := by decide +kernel
theorem hd_X1_drop : yX1_drop.cls = RX1 ∧ yX1_drop.cls ≠ "java/lang/invoke/MethodHandle" ∧ yX1_drop.cls ≠ "java/lang/invoke/VarHandle" ∧ (parseMethodDescriptor yX1_drop.desc).map (fun d => d.parameters.length) = some 0 := by decide +kernel
def f_X1_drop_0    (v_count : Int32) : Option (Int32 × Int32) := if 0 < v_count then some ((1 : Int32), v_count - (1 : Int32)) else some ((0 : Int32), v_count)
set_option maxHeartbeats 4000000 in
set_option maxRecDepth 100000 in
theorem k_X1_drop_0 {p : Program} {l : Launch} {e : Env} {s : State} {m : MethodId} {args : Array Value} {below : List Frame} {meth : Method} {c : Code} {A : Nat → Prop} {D : va_G} {cI cJ : ClassId} {h : Nat} {g0 g1 : Value}  (C0 : Cx p s m args meth c cX1_drop wsX1_drop RX1 1 (some .boolean)) (hK : va_K D vwCl (tyL cI cJ) s) (hA : ∀ q, s.heap.size ≤ q → A q) (hX : XT none A s s.heap) {Rr : Int32 × Int32} : ∀  (v_count : Int32) (H : Heap) (locs : List Loc) (ls : Array Slot), St D A s (w_X1_drop cI cJ h g0 g1 v_count) H locs → lv_has ls 1 [(0, .ref h)] → f_X1_drop_0 v_count = some Rr → W p l e rm_X1_drop s m args below meth c H locs 0 0 (MQ below (QI D cI cJ A (w_X1_drop cI cJ h g0 g1 Rr.2) Rr.1) args s 0 0 A) (F0 m 0 ls []) := by
  have hx := C0.1.1
  have hb := C0.1.2.1
  intro v_count H locs ls hSt hl hf
  unfold f_X1_drop_0 at hf
  refine lv_aload_n hx hb dX1_drop_0 rfl (lv_at hl 0 rfl) ?_
  refine hb_get C0 hK hSt 0 1 2 rfl rfl iu_X1_drop_X1 (by decide) fl_X1_drop_19 rfl dX1_drop_1 ?_
  refine lv_if_gt (tgt := 9) hx hb dX1_drop_4 (by decide) (fun cc => ?_) (fun cc => ?_)
  · have hf := ite_t hf cc
    refine lv_aload_n hx hb dX1_drop_9 rfl (lv_at hl 0 rfl) ?_
    refine lv_dup hx hb dX1_drop_10 rfl ?_
    refine hb_get C0 hK hSt 0 1 2 rfl rfl iu_X1_drop_X1 (by decide) fl_X1_drop_19 rfl dX1_drop_11 ?_
    refine lv_iconst (v := 1) hx hb dX1_drop_14 (by decide) ?_
    refine lv_isub hx hb dX1_drop_15 ?_
    refine hb_put C0 hK hSt 0 1 2 rfl rfl iu_X1_drop_X1 tyX1 tyX1_ok nmX1 (by decide) fl_X1_drop_19 rfl rfl rfl (Nat.le_of_ble_eq_true rfl) (w' := w_X1_drop cI cJ h g0 g1 (v_count - (1 : Int32))) rfl dX1_drop_16 (fun H locs hSt => ?_)
    refine lv_iconst (v := 1) hx hb dX1_drop_19 (by decide) ?_
    cases hf
    exact hb_zret C0 hK hSt nb1.1 dX1_drop_20
  · have hf := ite_f hf cc
    refine lv_iconst (v := 0) hx hb dX1_drop_7 (by decide) ?_
    cases hf
    exact hb_zret C0 hK hSt nb0.1 dX1_drop_8
def f_X1_drop   (v_count : Int32) : Option (Int32 × Int32) := f_X1_drop_0 v_count
set_option maxRecDepth 100000 in
theorem c_X1_drop (l : Launch) (D : va_G) (cI cJ : ClassId) (h : Nat) (g0 g1 : Value)  (v_count : Int32) (Rr : Int32 × Int32) (hf : f_X1_drop v_count = some Rr) : CtI l yX1_drop wsX1_drop rm_X1_drop D cI cJ none [.ref h] (w_X1_drop cI cJ h g0 g1 v_count) Rr.1 (w_X1_drop cI cJ h g0 g1 Rr.2) :=
  fun sz => BodyW.met (av := [.ref h]) (Qc := fun A => QI D cI cJ A (w_X1_drop cI cJ h g0 g1 Rr.2) Rr.1) (by decide) rfl rfl (Nat.le_of_ble_eq_true rfl) (fun C0 hK hA hX ls hSt hl => k_X1_drop_0 C0 hK hA hX  v_count _ _ ls hSt hl hf) sz
/-! X1 droppedPoints -/
abbrev rm_X1_droppedPoints : Room := { frames := 0, cells := 0, slots := 0, locals := 0 }
abbrev w_X1_droppedPoints (cI cJ : ClassId) (h : Nat) (h_keptPoints : Nat) (g1 : Value) (v_keptPoints : Nat → Int32) (v_count : Int32) : va_W := [(h, .inr (1, [.ref h_keptPoints, g1, .int v_count])), (h_keptPoints, .inl (cI, 8, .inl v_keptPoints))]
theorem iu_X1_droppedPoints_X1 : ∀ w ∈ wsX10, w ∈ wsX1_droppedPoints := by decide +kernel
theorem fl_X1_droppedPoints_11 : Cond.fieldLink RX1 11 (TX1 0).1 (TX1 0).2.1 (TX1 0).2.2.1 ∈ wsX1_droppedPoints := by decide +kernel
theorem fl_X1_droppedPoints_19 : Cond.fieldLink RX1 19 (TX1 2).1 (TX1 2).2.1 (TX1 2).2.2.1 ∈ wsX1_droppedPoints := by decide +kernel
theorem hd_X1_droppedPoints : yX1_droppedPoints.cls = RX1 ∧ yX1_droppedPoints.cls ≠ "java/lang/invoke/MethodHandle" ∧ yX1_droppedPoints.cls ≠ "java/lang/invoke/VarHandle" ∧ (parseMethodDescriptor yX1_droppedPoints.desc).map (fun d => d.parameters.length) = some 0 := by decide +kernel
def f_X1_droppedPoints_0 (v_keptPoints : Nat → Int32) (v_count : Int32)    : Option (Int32) := if (8 : Int32) ≤ v_count then some (4 : Int32) else gd (ix v_count 8) (some (v_keptPoints v_count.toNatClampNeg))
set_option maxHeartbeats 4000000 in
set_option maxRecDepth 100000 in
theorem k_X1_droppedPoints_0 {p : Program} {l : Launch} {e : Env} {s : State} {m : MethodId} {args : Array Value} {below : List Frame} {meth : Method} {c : Code} {A : Nat → Prop} {D : va_G} {cI cJ : ClassId} {h h_keptPoints : Nat} {g1 : Value} {v_keptPoints : Nat → Int32} {v_count : Int32} (C0 : Cx p s m args meth c cX1_droppedPoints wsX1_droppedPoints RX1 1 (some .int)) (hK : va_K D vwCl (tyL cI cJ) s) (hA : ∀ q, s.heap.size ≤ q → A q) (hX : XT none A s s.heap) {Rr : Int32} : ∀   (H : Heap) (locs : List Loc) (ls : Array Slot), St D A s (w_X1_droppedPoints cI cJ h h_keptPoints g1 v_keptPoints v_count) H locs → lv_has ls 1 [(0, .ref h)] → f_X1_droppedPoints_0 v_keptPoints v_count = some Rr → W p l e rm_X1_droppedPoints s m args below meth c H locs 0 0 (MQ below (QI D cI cJ A (w_X1_droppedPoints cI cJ h h_keptPoints g1 v_keptPoints v_count) Rr) args s 0 0 A) (F0 m 0 ls []) := by
  have hx := C0.1.1
  have hb := C0.1.2.1
  intro H locs ls hSt hl hf
  unfold f_X1_droppedPoints_0 at hf
  refine lv_aload_n hx hb dX1_droppedPoints_0 rfl (lv_at hl 0 rfl) ?_
  refine hb_get C0 hK hSt 0 1 2 rfl rfl iu_X1_droppedPoints_X1 (by decide) fl_X1_droppedPoints_19 rfl dX1_droppedPoints_1 ?_
  refine lv_bipush (v := 8) hx hb dX1_droppedPoints_4 (by decide) ?_
  refine lv_icmp_ge (tgt := 21) hx hb dX1_droppedPoints_6 (by decide) (fun cc => ?_) (fun cc => ?_)
  · have hf := ite_t hf cc
    refine lv_iconst (v := 4) hx hb dX1_droppedPoints_21 (by decide) ?_
    cases hf
    exact hb_iret C0 hK hSt dX1_droppedPoints_22
  · have hf := ite_f hf cc
    refine lv_aload_n hx hb dX1_droppedPoints_9 rfl (lv_at hl 0 rfl) ?_
    refine hb_get C0 hK hSt 0 1 0 rfl rfl iu_X1_droppedPoints_X1 (by decide) fl_X1_droppedPoints_11 rfl dX1_droppedPoints_10 ?_
    refine lv_aload_n hx hb dX1_droppedPoints_13 rfl (lv_at hl 0 rfl) ?_
    refine hb_get C0 hK hSt 0 1 2 rfl rfl iu_X1_droppedPoints_X1 (by decide) fl_X1_droppedPoints_19 rfl dX1_droppedPoints_14 ?_
    obtain ⟨hi, hf⟩ := gd_t hf
    refine hb_iald C0 hK hSt 1 rfl hi dX1_droppedPoints_17 ?_
    refine lv_goto (tgt := 22) hx hb dX1_droppedPoints_18 (by decide) ?_
    cases hf
    exact hb_iret C0 hK hSt dX1_droppedPoints_22
def f_X1_droppedPoints (v_keptPoints : Nat → Int32) (v_count : Int32)   : Option (Int32) := f_X1_droppedPoints_0 v_keptPoints v_count
set_option maxRecDepth 100000 in
theorem c_X1_droppedPoints (l : Launch) (D : va_G) (cI cJ : ClassId) (h h_keptPoints : Nat) (g1 : Value)  (v_keptPoints : Nat → Int32) (v_count : Int32) (Rr : Int32) (hf : f_X1_droppedPoints v_keptPoints v_count = some Rr) : CtI l yX1_droppedPoints wsX1_droppedPoints rm_X1_droppedPoints D cI cJ none [.ref h] (w_X1_droppedPoints cI cJ h h_keptPoints g1 v_keptPoints v_count) Rr (w_X1_droppedPoints cI cJ h h_keptPoints g1 v_keptPoints v_count) :=
  fun sz => BodyW.met (av := [.ref h]) (Qc := fun A => QI D cI cJ A (w_X1_droppedPoints cI cJ h h_keptPoints g1 v_keptPoints v_count) Rr) (by decide) rfl rfl (Nat.le_of_ble_eq_true rfl) (fun C0 hK hA hX ls hSt hl => k_X1_droppedPoints_0 C0 hK hA hX   _ _ ls hSt hl hf) sz
/-! X1 droppedFamily -/
abbrev rm_X1_droppedFamily : Room := { frames := 0, cells := 0, slots := 0, locals := 0 }
abbrev w_X1_droppedFamily (cI cJ : ClassId) (h : Nat) (h_keptFamilies : Nat) (g0 : Value) (v_keptFamilies : Nat → Int64) (v_count : Int32) : va_W := [(h, .inr (1, [g0, .ref h_keptFamilies, .int v_count])), (h_keptFamilies, .inl (cJ, 8, .inr (.inl v_keptFamilies)))]
theorem iu_X1_droppedFamily_X1 : ∀ w ∈ wsX10, w ∈ wsX1_droppedFamily := by decide +kernel
theorem fl_X1_droppedFamily_15 : Cond.fieldLink RX1 15 (TX1 1).1 (TX1 1).2.1 (TX1 1).2.2.1 ∈ wsX1_droppedFamily := by decide +kernel
theorem fl_X1_droppedFamily_19 : Cond.fieldLink RX1 19 (TX1 2).1 (TX1 2).2.1 (TX1 2).2.2.1 ∈ wsX1_droppedFamily := by decide +kernel
theorem hd_X1_droppedFamily : yX1_droppedFamily.cls = RX1 ∧ yX1_droppedFamily.cls ≠ "java/lang/invoke/MethodHandle" ∧ yX1_droppedFamily.cls ≠ "java/lang/invoke/VarHandle" ∧ (parseMethodDescriptor yX1_droppedFamily.desc).map (fun d => d.parameters.length) = some 0 := by decide +kernel
def f_X1_droppedFamily_0 (v_keptFamilies : Nat → Int64) (v_count : Int32)    : Option (Int64) := if (8 : Int32) ≤ v_count then some (1 : Int64) else gd (ix v_count 8) (some (v_keptFamilies v_count.toNatClampNeg))
set_option maxHeartbeats 4000000 in
set_option maxRecDepth 100000 in
theorem k_X1_droppedFamily_0 {p : Program} {l : Launch} {e : Env} {s : State} {m : MethodId} {args : Array Value} {below : List Frame} {meth : Method} {c : Code} {A : Nat → Prop} {D : va_G} {cI cJ : ClassId} {h h_keptFamilies : Nat} {g0 : Value} {v_keptFamilies : Nat → Int64} {v_count : Int32} (C0 : Cx p s m args meth c cX1_droppedFamily wsX1_droppedFamily RX1 1 (some .long)) (hK : va_K D vwCl (tyL cI cJ) s) (hA : ∀ q, s.heap.size ≤ q → A q) (hX : XT none A s s.heap) {Rr : Int64} : ∀   (H : Heap) (locs : List Loc) (ls : Array Slot), St D A s (w_X1_droppedFamily cI cJ h h_keptFamilies g0 v_keptFamilies v_count) H locs → lv_has ls 1 [(0, .ref h)] → f_X1_droppedFamily_0 v_keptFamilies v_count = some Rr → W p l e rm_X1_droppedFamily s m args below meth c H locs 0 0 (MQ below (QL D cI cJ A (w_X1_droppedFamily cI cJ h h_keptFamilies g0 v_keptFamilies v_count) Rr) args s 0 0 A) (F0 m 0 ls []) := by
  have hx := C0.1.1
  have hb := C0.1.2.1
  intro H locs ls hSt hl hf
  unfold f_X1_droppedFamily_0 at hf
  refine lv_aload_n hx hb dX1_droppedFamily_0 rfl (lv_at hl 0 rfl) ?_
  refine hb_get C0 hK hSt 0 1 2 rfl rfl iu_X1_droppedFamily_X1 (by decide) fl_X1_droppedFamily_19 rfl dX1_droppedFamily_1 ?_
  refine lv_bipush (v := 8) hx hb dX1_droppedFamily_4 (by decide) ?_
  refine lv_icmp_ge (tgt := 21) hx hb dX1_droppedFamily_6 (by decide) (fun cc => ?_) (fun cc => ?_)
  · have hf := ite_t hf cc
    refine lv_lconst (v := 1) hx hb dX1_droppedFamily_21 (by decide) ?_
    cases hf
    exact hb_lret C0 hK hSt dX1_droppedFamily_22
  · have hf := ite_f hf cc
    refine lv_aload_n hx hb dX1_droppedFamily_9 rfl (lv_at hl 0 rfl) ?_
    refine hb_get C0 hK hSt 0 1 1 rfl rfl iu_X1_droppedFamily_X1 (by decide) fl_X1_droppedFamily_15 rfl dX1_droppedFamily_10 ?_
    refine lv_aload_n hx hb dX1_droppedFamily_13 rfl (lv_at hl 0 rfl) ?_
    refine hb_get C0 hK hSt 0 1 2 rfl rfl iu_X1_droppedFamily_X1 (by decide) fl_X1_droppedFamily_19 rfl dX1_droppedFamily_14 ?_
    obtain ⟨hi, hf⟩ := gd_t hf
    refine hb_lald C0 hK hSt 1 rfl hi dX1_droppedFamily_17 ?_
    refine lv_goto (tgt := 22) hx hb dX1_droppedFamily_18 (by decide) ?_
    cases hf
    exact hb_lret C0 hK hSt dX1_droppedFamily_22
def f_X1_droppedFamily (v_keptFamilies : Nat → Int64) (v_count : Int32)   : Option (Int64) := f_X1_droppedFamily_0 v_keptFamilies v_count
set_option maxRecDepth 100000 in
theorem c_X1_droppedFamily (l : Launch) (D : va_G) (cI cJ : ClassId) (h h_keptFamilies : Nat) (g0 : Value)  (v_keptFamilies : Nat → Int64) (v_count : Int32) (Rr : Int64) (hf : f_X1_droppedFamily v_keptFamilies v_count = some Rr) : CtL l yX1_droppedFamily wsX1_droppedFamily rm_X1_droppedFamily D cI cJ none [.ref h] (w_X1_droppedFamily cI cJ h h_keptFamilies g0 v_keptFamilies v_count) Rr (w_X1_droppedFamily cI cJ h h_keptFamilies g0 v_keptFamilies v_count) :=
  fun sz => BodyW.met (av := [.ref h]) (Qc := fun A => QL D cI cJ A (w_X1_droppedFamily cI cJ h h_keptFamilies g0 v_keptFamilies v_count) Rr) (by decide) rfl rfl (Nat.le_of_ble_eq_true rfl) (fun C0 hK hA hX ls hSt hl => k_X1_droppedFamily_0 C0 hK hA hX   _ _ ls hSt hl hf) sz
/-! X5 size -/
abbrev rm_X5_size : Room := { frames := 0, cells := 0, slots := 0, locals := 0 }
abbrev w_X5_size (cI cJ : ClassId) (h : Nat) (g0 : Value) (v_length : Int32) : va_W := [(h, .inr (5, [g0, .int v_length]))]
theorem iu_X5_size_X5 : ∀ w ∈ wsX50, w ∈ wsX5_size := by decide +kernel
theorem fl_X5_size_15 : Cond.fieldLink RX5 15 (TX5 1).1 (TX5 1).2.1 (TX5 1).2.2.1 ∈ wsX5_size := by decide +kernel
theorem hd_X5_size : yX5_size.cls = RX5 ∧ yX5_size.cls ≠ "java/lang/invoke/MethodHandle" ∧ yX5_size.cls ≠ "java/lang/invoke/VarHandle" ∧ (parseMethodDescriptor yX5_size.desc).map (fun d => d.parameters.length) = some 0 := by decide +kernel
def f_X5_size_0 (v_length : Int32)    : Option (Int32) := some v_length
set_option maxHeartbeats 4000000 in
set_option maxRecDepth 100000 in
theorem k_X5_size_0 {p : Program} {l : Launch} {e : Env} {s : State} {m : MethodId} {args : Array Value} {below : List Frame} {meth : Method} {c : Code} {A : Nat → Prop} {D : va_G} {cI cJ : ClassId} {h : Nat} {g0 : Value} {v_length : Int32} (C0 : Cx p s m args meth c cX5_size wsX5_size RX5 1 (some .int)) (hK : va_K D vwCl (tyL cI cJ) s) (hA : ∀ q, s.heap.size ≤ q → A q) (hX : XT none A s s.heap) {Rr : Int32} : ∀   (H : Heap) (locs : List Loc) (ls : Array Slot), St D A s (w_X5_size cI cJ h g0 v_length) H locs → lv_has ls 1 [(0, .ref h)] → f_X5_size_0 v_length = some Rr → W p l e rm_X5_size s m args below meth c H locs 0 0 (MQ below (QI D cI cJ A (w_X5_size cI cJ h g0 v_length) Rr) args s 0 0 A) (F0 m 0 ls []) := by
  have hx := C0.1.1
  have hb := C0.1.2.1
  intro H locs ls hSt hl hf
  unfold f_X5_size_0 at hf
  refine lv_aload_n hx hb dX5_size_0 rfl (lv_at hl 0 rfl) ?_
  refine hb_get C0 hK hSt 0 5 1 rfl rfl iu_X5_size_X5 (by decide) fl_X5_size_15 rfl dX5_size_1 ?_
  cases hf
  exact hb_iret C0 hK hSt dX5_size_4
def f_X5_size (v_length : Int32)   : Option (Int32) := f_X5_size_0 v_length
set_option maxRecDepth 100000 in
theorem c_X5_size (l : Launch) (D : va_G) (cI cJ : ClassId) (h : Nat) (g0 : Value)  (v_length : Int32) (Rr : Int32) (hf : f_X5_size v_length = some Rr) : CtI l yX5_size wsX5_size rm_X5_size D cI cJ none [.ref h] (w_X5_size cI cJ h g0 v_length) Rr (w_X5_size cI cJ h g0 v_length) :=
  fun sz => BodyW.met (av := [.ref h]) (Qc := fun A => QI D cI cJ A (w_X5_size cI cJ h g0 v_length) Rr) (by decide) rfl rfl (Nat.le_of_ble_eq_true rfl) (fun C0 hK hA hX ls hSt hl => k_X5_size_0 C0 hK hA hX   _ _ ls hSt hl hf) sz
/-! X5 at -/
abbrev rm_X5_at : Room := { frames := 0, cells := 0, slots := 0, locals := 0 }
abbrev w_X5_at (cI cJ : ClassId) (h : Nat) (h_bytes : Nat)  (v_bytes : Nat → Int32) (v_length : Int32) : va_W := [(h, .inr (5, [.ref h_bytes, .int v_length])), (h_bytes, .inl (cI, 200, .inl v_bytes))]
theorem iu_X5_at_X5 : ∀ w ∈ wsX50, w ∈ wsX5_at := by decide +kernel
theorem fl_X5_at_9 : Cond.fieldLink RX5 9 (TX5 0).1 (TX5 0).2.1 (TX5 0).2.2.1 ∈ wsX5_at := by decide +kernel
theorem fl_X5_at_15 : Cond.fieldLink RX5 15 (TX5 1).1 (TX5 1).2.1 (TX5 1).2.2.1 ∈ wsX5_at := by decide +kernel
theorem hd_X5_at : yX5_at.cls = RX5 ∧ yX5_at.cls ≠ "java/lang/invoke/MethodHandle" ∧ yX5_at.cls ≠ "java/lang/invoke/VarHandle" ∧ (parseMethodDescriptor yX5_at.desc).map (fun d => d.parameters.length) = some 1 := by decide +kernel
def f_X5_at_0 (v_bytes : Nat → Int32) (v_length : Int32)  (l1 : Int32)  : Option (Int32) := if l1 < 0 then some (-1 : Int32) else if v_length ≤ l1 then some (-1 : Int32) else if (200 : Int32) ≤ l1 then some (-1 : Int32) else gd (ix l1 200) (some (v_bytes l1.toNatClampNeg))
set_option maxHeartbeats 4000000 in
set_option maxRecDepth 100000 in
theorem k_X5_at_0 {p : Program} {l : Launch} {e : Env} {s : State} {m : MethodId} {args : Array Value} {below : List Frame} {meth : Method} {c : Code} {A : Nat → Prop} {D : va_G} {cI cJ : ClassId} {h h_bytes : Nat} {v_bytes : Nat → Int32} {v_length : Int32} (C0 : Cx p s m args meth c cX5_at wsX5_at RX5 2 (some .int)) (hK : va_K D vwCl (tyL cI cJ) s) (hA : ∀ q, s.heap.size ≤ q → A q) (hX : XT none A s s.heap) {Rr : Int32} : ∀ (l1 : Int32)  (H : Heap) (locs : List Loc) (ls : Array Slot), St D A s (w_X5_at cI cJ h h_bytes v_bytes v_length) H locs → lv_has ls 2 [(0, .ref h), (1, .int l1)] → f_X5_at_0 v_bytes v_length l1 = some Rr → W p l e rm_X5_at s m args below meth c H locs 0 0 (MQ below (QI D cI cJ A (w_X5_at cI cJ h h_bytes v_bytes v_length) Rr) args s 0 0 A) (F0 m 0 ls []) := by
  have hx := C0.1.1
  have hb := C0.1.2.1
  intro l1 H locs ls hSt hl hf
  unfold f_X5_at_0 at hf
  refine lv_iload_n hx hb dX5_at_0 rfl (lv_at hl 1 rfl) ?_
  refine lv_if_lt (tgt := 28) hx hb dX5_at_1 (by decide) (fun cc => ?_) (fun cc => ?_)
  · have hf := ite_t hf cc
    refine lv_iconst (v := -1) hx hb dX5_at_28 (by decide) ?_
    cases hf
    exact hb_iret C0 hK hSt dX5_at_29
  · have hf := ite_f hf cc
    refine lv_iload_n hx hb dX5_at_4 rfl (lv_at hl 1 rfl) ?_
    refine lv_aload_n hx hb dX5_at_5 rfl (lv_at hl 0 rfl) ?_
    refine hb_get C0 hK hSt 0 5 1 rfl rfl iu_X5_at_X5 (by decide) fl_X5_at_15 rfl dX5_at_6 ?_
    refine lv_icmp_ge (tgt := 28) hx hb dX5_at_9 (by decide) (fun cc => ?_) (fun cc => ?_)
    · have hf := ite_t hf cc
      refine lv_iconst (v := -1) hx hb dX5_at_28 (by decide) ?_
      cases hf
      exact hb_iret C0 hK hSt dX5_at_29
    · have hf := ite_f hf cc
      refine lv_iload_n hx hb dX5_at_12 rfl (lv_at hl 1 rfl) ?_
      refine lv_sipush (v := 200) hx hb dX5_at_13 (by decide) ?_
      refine lv_icmp_ge (tgt := 28) hx hb dX5_at_16 (by decide) (fun cc => ?_) (fun cc => ?_)
      · have hf := ite_t hf cc
        refine lv_iconst (v := -1) hx hb dX5_at_28 (by decide) ?_
        cases hf
        exact hb_iret C0 hK hSt dX5_at_29
      · have hf := ite_f hf cc
        refine lv_aload_n hx hb dX5_at_19 rfl (lv_at hl 0 rfl) ?_
        refine hb_get C0 hK hSt 0 5 0 rfl rfl iu_X5_at_X5 (by decide) fl_X5_at_9 rfl dX5_at_20 ?_
        refine lv_iload_n hx hb dX5_at_23 rfl (lv_at hl 1 rfl) ?_
        obtain ⟨hi, hf⟩ := gd_t hf
        refine hb_iald C0 hK hSt 1 rfl hi dX5_at_24 ?_
        refine lv_goto (tgt := 29) hx hb dX5_at_25 (by decide) ?_
        cases hf
        exact hb_iret C0 hK hSt dX5_at_29
def f_X5_at (v_bytes : Nat → Int32) (v_length : Int32) (l1 : Int32)  : Option (Int32) := f_X5_at_0 v_bytes v_length l1
set_option maxRecDepth 100000 in
theorem c_X5_at (l : Launch) (D : va_G) (cI cJ : ClassId) (h h_bytes : Nat) (l1 : Int32) (v_bytes : Nat → Int32) (v_length : Int32) (Rr : Int32) (hf : f_X5_at v_bytes v_length l1 = some Rr) : CtI l yX5_at wsX5_at rm_X5_at D cI cJ none [.ref h, .int l1] (w_X5_at cI cJ h h_bytes v_bytes v_length) Rr (w_X5_at cI cJ h h_bytes v_bytes v_length) :=
  fun sz => BodyW.met (av := [.ref h, .int l1]) (Qc := fun A => QI D cI cJ A (w_X5_at cI cJ h h_bytes v_bytes v_length) Rr) (by decide) rfl rfl (Nat.le_of_ble_eq_true rfl) (fun C0 hK hA hX ls hSt hl => k_X5_at_0 C0 hK hA hX l1  _ _ ls hSt hl hf) sz
/-! X5 add -/
abbrev rm_X5_add : Room := { frames := 0, cells := 0, slots := 0, locals := 0 }
abbrev w_X5_add (cI cJ : ClassId) (h : Nat) (h_bytes : Nat)  (v_bytes : Nat → Int32) (v_length : Int32) : va_W := [(h, .inr (5, [.ref h_bytes, .int v_length])), (h_bytes, .inl (cI, 200, .inl v_bytes))]
theorem iu_X5_add_X5 : ∀ w ∈ wsX50, w ∈ wsX5_add := by decide +kernel
theorem fl_X5_add_9 : Cond.fieldLink RX5 9 (TX5 0).1 (TX5 0).2.1 (TX5 0).2.2.1 ∈ wsX5_add := by decide +kernel
theorem fl_X5_add_15 : Cond.fieldLink RX5 15 (TX5 1).1 (TX5 1).2.1 (TX5 1).2.2.1 ∈ wsX5_add := by decide +kernel
theorem hd_X5_add : yX5_add.cls = RX5 ∧ yX5_add.cls ≠ "java/lang/invoke/MethodHandle" ∧ yX5_add.cls ≠ "java/lang/invoke/VarHandle" ∧ (parseMethodDescriptor yX5_add.desc).map (fun d => d.parameters.length) = some 1 := by decide +kernel
def f_X5_add_0   (l1 : Int32) (v_bytes : Nat → Int32) (v_length : Int32) : Option ((Nat → Int32) × Int32) := if v_length < 0 then some (v_bytes, v_length) else if (200 : Int32) ≤ v_length then some (v_bytes, v_length) else gd (ix v_length 200) (some (upd v_bytes v_length.toNatClampNeg (l1 &&& (255 : Int32)), v_length + (1 : Int32)))
set_option maxHeartbeats 4000000 in
set_option maxRecDepth 100000 in
theorem k_X5_add_0 {p : Program} {l : Launch} {e : Env} {s : State} {m : MethodId} {args : Array Value} {below : List Frame} {meth : Method} {c : Code} {A : Nat → Prop} {D : va_G} {cI cJ : ClassId} {h h_bytes : Nat}  (C0 : Cx p s m args meth c cX5_add wsX5_add RX5 2 none) (hK : va_K D vwCl (tyL cI cJ) s) (hA : ∀ q, s.heap.size ≤ q → A q) (hX : XT none A s s.heap) {Rr : (Nat → Int32) × Int32} : ∀ (l1 : Int32) (v_bytes : Nat → Int32) (v_length : Int32) (H : Heap) (locs : List Loc) (ls : Array Slot), St D A s (w_X5_add cI cJ h h_bytes v_bytes v_length) H locs → lv_has ls 2 [(0, .ref h), (1, .int l1)] → f_X5_add_0 l1 v_bytes v_length = some Rr → W p l e rm_X5_add s m args below meth c H locs 0 0 (MQ below (QV D cI cJ A (w_X5_add cI cJ h h_bytes Rr.1 Rr.2)) args s 0 0 A) (F0 m 0 ls []) := by
  have hx := C0.1.1
  have hb := C0.1.2.1
  intro l1 v_bytes v_length H locs ls hSt hl hf
  unfold f_X5_add_0 at hf
  refine lv_aload_n hx hb dX5_add_0 rfl (lv_at hl 0 rfl) ?_
  refine hb_get C0 hK hSt 0 5 1 rfl rfl iu_X5_add_X5 (by decide) fl_X5_add_15 rfl dX5_add_1 ?_
  refine lv_if_lt (tgt := 41) hx hb dX5_add_4 (by decide) (fun cc => ?_) (fun cc => ?_)
  · have hf := ite_t hf cc
    cases hf
    exact hb_vret C0 hK hSt dX5_add_41
  · have hf := ite_f hf cc
    refine lv_aload_n hx hb dX5_add_7 rfl (lv_at hl 0 rfl) ?_
    refine hb_get C0 hK hSt 0 5 1 rfl rfl iu_X5_add_X5 (by decide) fl_X5_add_15 rfl dX5_add_8 ?_
    refine lv_sipush (v := 200) hx hb dX5_add_11 (by decide) ?_
    refine lv_icmp_ge (tgt := 41) hx hb dX5_add_14 (by decide) (fun cc => ?_) (fun cc => ?_)
    · have hf := ite_t hf cc
      cases hf
      exact hb_vret C0 hK hSt dX5_add_41
    · have hf := ite_f hf cc
      refine lv_aload_n hx hb dX5_add_17 rfl (lv_at hl 0 rfl) ?_
      refine hb_get C0 hK hSt 0 5 0 rfl rfl iu_X5_add_X5 (by decide) fl_X5_add_9 rfl dX5_add_18 ?_
      refine lv_aload_n hx hb dX5_add_21 rfl (lv_at hl 0 rfl) ?_
      refine hb_get C0 hK hSt 0 5 1 rfl rfl iu_X5_add_X5 (by decide) fl_X5_add_15 rfl dX5_add_22 ?_
      refine lv_iload_n hx hb dX5_add_25 rfl (lv_at hl 1 rfl) ?_
      refine lv_sipush (v := 255) hx hb dX5_add_26 (by decide) ?_
      refine lv_iand hx hb dX5_add_29 ?_
      obtain ⟨hi, hf⟩ := gd_t hf
      refine hb_iast C0 hK hSt 1 rfl hi (w' := w_X5_add cI cJ h h_bytes (upd v_bytes v_length.toNatClampNeg (l1 &&& (255 : Int32))) v_length) rfl dX5_add_30 (fun H locs hSt => ?_)
      refine lv_aload_n hx hb dX5_add_31 rfl (lv_at hl 0 rfl) ?_
      refine lv_dup hx hb dX5_add_32 rfl ?_
      refine hb_get C0 hK hSt 0 5 1 rfl rfl iu_X5_add_X5 (by decide) fl_X5_add_15 rfl dX5_add_33 ?_
      refine lv_iconst (v := 1) hx hb dX5_add_36 (by decide) ?_
      refine lv_iadd hx hb dX5_add_37 ?_
      refine hb_put C0 hK hSt 0 5 1 rfl rfl iu_X5_add_X5 tyX5 tyX5_ok nmX5 (by decide) fl_X5_add_15 rfl rfl rfl (Nat.le_of_ble_eq_true rfl) (w' := w_X5_add cI cJ h h_bytes (upd v_bytes v_length.toNatClampNeg (l1 &&& (255 : Int32))) (v_length + (1 : Int32))) rfl dX5_add_38 (fun H locs hSt => ?_)
      cases hf
      exact hb_vret C0 hK hSt dX5_add_41
def f_X5_add  (l1 : Int32) (v_bytes : Nat → Int32) (v_length : Int32) : Option ((Nat → Int32) × Int32) := f_X5_add_0 l1 v_bytes v_length
set_option maxRecDepth 100000 in
theorem c_X5_add (l : Launch) (D : va_G) (cI cJ : ClassId) (h h_bytes : Nat) (l1 : Int32) (v_bytes : Nat → Int32) (v_length : Int32) (Rr : (Nat → Int32) × Int32) (hf : f_X5_add l1 v_bytes v_length = some Rr) : CtV l yX5_add wsX5_add rm_X5_add D cI cJ none [.ref h, .int l1] (w_X5_add cI cJ h h_bytes v_bytes v_length) (w_X5_add cI cJ h h_bytes Rr.1 Rr.2) :=
  fun sz => BodyW.met (av := [.ref h, .int l1]) (Qc := fun A => QV D cI cJ A (w_X5_add cI cJ h h_bytes Rr.1 Rr.2)) (by decide) rfl rfl (Nat.le_of_ble_eq_true rfl) (fun C0 hK hA hX ls hSt hl => k_X5_add_0 C0 hK hA hX l1 v_bytes v_length _ _ ls hSt hl hf) sz
/-! X5 addNumber -/
abbrev rm_X5_addNumber : Room := { frames := 1, cells := 0, slots := 0, locals := 21 }
abbrev w_X5_addNumber (cI cJ : ClassId) (h : Nat) (h_bytes : Nat)  (v_bytes : Nat → Int32) (v_length : Int32) : va_W := [(h, .inr (5, [.ref h_bytes, .int v_length])), (h_bytes, .inl (cI, 200, .inl v_bytes))]
theorem hd_X5_addNumber : yX5_addNumber.cls = RX5 ∧ yX5_addNumber.cls ≠ "java/lang/invoke/MethodHandle" ∧ yX5_addNumber.cls ≠ "java/lang/invoke/VarHandle" ∧ (parseMethodDescriptor yX5_addNumber.desc).map (fun d => d.parameters.length) = some 1 := by decide +kernel
def f_X5_addNumber_0   (l1 : Int32) (v_bytes : Nat → Int32) (v_length : Int32) : Option ((Nat → Int32) × Int32) := (f_X5_add ((l1.toUInt32 >>> ((24 : Int32).toUInt32 &&& Int32.toUInt32 31)).toInt32) v_bytes v_length).bind (fun R1 => (f_X5_add ((l1.toUInt32 >>> ((16 : Int32).toUInt32 &&& Int32.toUInt32 31)).toInt32) R1.1 R1.2).bind (fun R2 => (f_X5_add ((l1.toUInt32 >>> ((8 : Int32).toUInt32 &&& Int32.toUInt32 31)).toInt32) R2.1 R2.2).bind (fun R3 => (f_X5_add l1 R3.1 R3.2).bind (fun R4 => some (R4.1, R4.2)))))
set_option maxHeartbeats 4000000 in
set_option maxRecDepth 100000 in
theorem k_X5_addNumber_0 {p : Program} {l : Launch} {e : Env} {s : State} {m : MethodId} {args : Array Value} {below : List Frame} {meth : Method} {c : Code} {A : Nat → Prop} {D : va_G} {cI cJ : ClassId} {h h_bytes : Nat}  (C0 : Cx p s m args meth c cX5_addNumber wsX5_addNumber RX5 2 none) (hK : va_K D vwCl (tyL cI cJ) s) (hA : ∀ q, s.heap.size ≤ q → A q) (hX : XT none A s s.heap) {Rr : (Nat → Int32) × Int32} : ∀ (l1 : Int32) (v_bytes : Nat → Int32) (v_length : Int32) (H : Heap) (locs : List Loc) (ls : Array Slot), St D A s (w_X5_addNumber cI cJ h h_bytes v_bytes v_length) H locs → lv_has ls 2 [(0, .ref h), (1, .int l1)] → f_X5_addNumber_0 l1 v_bytes v_length = some Rr → W p l e rm_X5_addNumber s m args below meth c H locs 0 0 (MQ below (QV D cI cJ A (w_X5_addNumber cI cJ h h_bytes Rr.1 Rr.2)) args s 0 0 A) (F0 m 0 ls []) := by
  have hx := C0.1.1
  have hb := C0.1.2.1
  intro l1 v_bytes v_length H locs ls hSt hl hf
  unfold f_X5_addNumber_0 at hf
  refine lv_aload_n hx hb dX5_addNumber_0 rfl (lv_at hl 0 rfl) ?_
  refine lv_iload_n hx hb dX5_addNumber_1 rfl (lv_at hl 1 rfl) ?_
  refine lv_bipush (v := 24) hx hb dX5_addNumber_2 (by decide) ?_
  refine lv_iushr (v := (l1.toUInt32 >>> ((24 : Int32).toUInt32 &&& Int32.toUInt32 31)).toInt32) hx hb dX5_addNumber_4 rfl ?_
  obtain ⟨R1, hR1, hf⟩ := Option.bind_eq_some_iff.mp hf
  have sp : Sp (w_X5_addNumber cI cJ h h_bytes v_bytes v_length) (w_X5_add cI cJ h h_bytes v_bytes v_length) (w_X5_add cI cJ h h_bytes R1.1 R1.2) (w_X5_addNumber cI cJ h h_bytes R1.1 R1.2) [0, 1] [] [0, 1] := ⟨rfl, rfl, rfl, by decide, by decide, by decide, by decide⟩
  refine hb_cv (hb_rV (As := [.int ((l1.toUInt32 >>> ((24 : Int32).toUInt32 &&& Int32.toUInt32 31)).toInt32)]) (rest := []) C0 hK hA XT.nn hSt sp (c_X5_add l D cI cJ h h_bytes  ((l1.toUInt32 >>> ((24 : Int32).toUInt32 &&& Int32.toUInt32 31)).toInt32) v_bytes v_length R1 hR1) gX5_addNumber_X5_add rfl ⟨rfl, rfl⟩ hd_X5_add ⟨Nat.le_of_ble_eq_true rfl, Nat.le_of_ble_eq_true rfl⟩ 0 5 rfl rfl rfl hl rfl (Nat.le_of_ble_eq_true rfl) dX5_addNumber_5 ⟨Nat.zero_le _, Nat.zero_le _⟩) hA hSt sp (fun H locs hSt => ?_)
  refine lv_aload_n hx hb dX5_addNumber_8 rfl (lv_at hl 0 rfl) ?_
  refine lv_iload_n hx hb dX5_addNumber_9 rfl (lv_at hl 1 rfl) ?_
  refine lv_bipush (v := 16) hx hb dX5_addNumber_10 (by decide) ?_
  refine lv_iushr (v := (l1.toUInt32 >>> ((16 : Int32).toUInt32 &&& Int32.toUInt32 31)).toInt32) hx hb dX5_addNumber_12 rfl ?_
  obtain ⟨R2, hR2, hf⟩ := Option.bind_eq_some_iff.mp hf
  have sp : Sp (w_X5_addNumber cI cJ h h_bytes R1.1 R1.2) (w_X5_add cI cJ h h_bytes R1.1 R1.2) (w_X5_add cI cJ h h_bytes R2.1 R2.2) (w_X5_addNumber cI cJ h h_bytes R2.1 R2.2) [0, 1] [] [0, 1] := ⟨rfl, rfl, rfl, by decide, by decide, by decide, by decide⟩
  refine hb_cv (hb_rV (As := [.int ((l1.toUInt32 >>> ((16 : Int32).toUInt32 &&& Int32.toUInt32 31)).toInt32)]) (rest := []) C0 hK hA XT.nn hSt sp (c_X5_add l D cI cJ h h_bytes  ((l1.toUInt32 >>> ((16 : Int32).toUInt32 &&& Int32.toUInt32 31)).toInt32) R1.1 R1.2 R2 hR2) gX5_addNumber_X5_add rfl ⟨rfl, rfl⟩ hd_X5_add ⟨Nat.le_of_ble_eq_true rfl, Nat.le_of_ble_eq_true rfl⟩ 0 5 rfl rfl rfl hl rfl (Nat.le_of_ble_eq_true rfl) dX5_addNumber_13 ⟨Nat.zero_le _, Nat.zero_le _⟩) hA hSt sp (fun H locs hSt => ?_)
  refine lv_aload_n hx hb dX5_addNumber_16 rfl (lv_at hl 0 rfl) ?_
  refine lv_iload_n hx hb dX5_addNumber_17 rfl (lv_at hl 1 rfl) ?_
  refine lv_bipush (v := 8) hx hb dX5_addNumber_18 (by decide) ?_
  refine lv_iushr (v := (l1.toUInt32 >>> ((8 : Int32).toUInt32 &&& Int32.toUInt32 31)).toInt32) hx hb dX5_addNumber_20 rfl ?_
  obtain ⟨R3, hR3, hf⟩ := Option.bind_eq_some_iff.mp hf
  have sp : Sp (w_X5_addNumber cI cJ h h_bytes R2.1 R2.2) (w_X5_add cI cJ h h_bytes R2.1 R2.2) (w_X5_add cI cJ h h_bytes R3.1 R3.2) (w_X5_addNumber cI cJ h h_bytes R3.1 R3.2) [0, 1] [] [0, 1] := ⟨rfl, rfl, rfl, by decide, by decide, by decide, by decide⟩
  refine hb_cv (hb_rV (As := [.int ((l1.toUInt32 >>> ((8 : Int32).toUInt32 &&& Int32.toUInt32 31)).toInt32)]) (rest := []) C0 hK hA XT.nn hSt sp (c_X5_add l D cI cJ h h_bytes  ((l1.toUInt32 >>> ((8 : Int32).toUInt32 &&& Int32.toUInt32 31)).toInt32) R2.1 R2.2 R3 hR3) gX5_addNumber_X5_add rfl ⟨rfl, rfl⟩ hd_X5_add ⟨Nat.le_of_ble_eq_true rfl, Nat.le_of_ble_eq_true rfl⟩ 0 5 rfl rfl rfl hl rfl (Nat.le_of_ble_eq_true rfl) dX5_addNumber_21 ⟨Nat.zero_le _, Nat.zero_le _⟩) hA hSt sp (fun H locs hSt => ?_)
  refine lv_aload_n hx hb dX5_addNumber_24 rfl (lv_at hl 0 rfl) ?_
  refine lv_iload_n hx hb dX5_addNumber_25 rfl (lv_at hl 1 rfl) ?_
  obtain ⟨R4, hR4, hf⟩ := Option.bind_eq_some_iff.mp hf
  have sp : Sp (w_X5_addNumber cI cJ h h_bytes R3.1 R3.2) (w_X5_add cI cJ h h_bytes R3.1 R3.2) (w_X5_add cI cJ h h_bytes R4.1 R4.2) (w_X5_addNumber cI cJ h h_bytes R4.1 R4.2) [0, 1] [] [0, 1] := ⟨rfl, rfl, rfl, by decide, by decide, by decide, by decide⟩
  refine hb_cv (hb_rV (As := [.int l1]) (rest := []) C0 hK hA XT.nn hSt sp (c_X5_add l D cI cJ h h_bytes  l1 R3.1 R3.2 R4 hR4) gX5_addNumber_X5_add rfl ⟨rfl, rfl⟩ hd_X5_add ⟨Nat.le_of_ble_eq_true rfl, Nat.le_of_ble_eq_true rfl⟩ 0 5 rfl rfl rfl hl rfl (Nat.le_of_ble_eq_true rfl) dX5_addNumber_26 ⟨Nat.zero_le _, Nat.zero_le _⟩) hA hSt sp (fun H locs hSt => ?_)
  cases hf
  exact hb_vret C0 hK hSt dX5_addNumber_29
def f_X5_addNumber  (l1 : Int32) (v_bytes : Nat → Int32) (v_length : Int32) : Option ((Nat → Int32) × Int32) := f_X5_addNumber_0 l1 v_bytes v_length
set_option maxRecDepth 100000 in
theorem c_X5_addNumber (l : Launch) (D : va_G) (cI cJ : ClassId) (h h_bytes : Nat) (l1 : Int32) (v_bytes : Nat → Int32) (v_length : Int32) (Rr : (Nat → Int32) × Int32) (hf : f_X5_addNumber l1 v_bytes v_length = some Rr) : CtV l yX5_addNumber wsX5_addNumber rm_X5_addNumber D cI cJ none [.ref h, .int l1] (w_X5_addNumber cI cJ h h_bytes v_bytes v_length) (w_X5_addNumber cI cJ h h_bytes Rr.1 Rr.2) :=
  fun sz => BodyW.met (av := [.ref h, .int l1]) (Qc := fun A => QV D cI cJ A (w_X5_addNumber cI cJ h h_bytes Rr.1 Rr.2)) (by decide) rfl rfl (Nat.le_of_ble_eq_true rfl) (fun C0 hK hA hX ls hSt hl => k_X5_addNumber_0 C0 hK hA hX l1 v_bytes v_length _ _ ls hSt hl hf) sz
/-! X5 addDigitsOf -/
abbrev rm_X5_addDigitsOf : Room := { frames := 1, cells := 0, slots := 0, locals := 21 }
abbrev w_X5_addDigitsOf (cI cJ : ClassId) (h : Nat) (h_bytes : Nat)  (v_bytes : Nat → Int32) (v_length : Int32) : va_W := [(h, .inr (5, [.ref h_bytes, .int v_length])), (h_bytes, .inl (cI, 200, .inl v_bytes))]
theorem hd_X5_addDigitsOf : yX5_addDigitsOf.cls = RX5 ∧ yX5_addDigitsOf.cls ≠ "java/lang/invoke/MethodHandle" ∧ yX5_addDigitsOf.cls ≠ "java/lang/invoke/VarHandle" ∧ (parseMethodDescriptor yX5_addDigitsOf.desc).map (fun d => d.parameters.length) = some 1 := by decide +kernel
def f_X5_addDigitsOf_2   : Nat → Int32 → Int32 → (Nat → Int32) → (Int32) → Option ((Nat → Int32) × Int32)
  | 0, _, _, _, _ => none
  | n + 1, l1, l2, v_bytes, v_length => if (6 : Int32) ≤ l2 then some (v_bytes, v_length) else (f_X6_hasPoint l1 l2).bind (fun R1 => if R1 = 0 then (f_X5_addDigitsOf_2 n) l1 (l2 + 1) v_bytes v_length else (f_X5_add ((48 : Int32) + l2) v_bytes v_length).bind (fun R2 => (f_X5_addDigitsOf_2 n) l1 (l2 + 1) R2.1 R2.2))
set_option maxHeartbeats 4000000 in
set_option maxRecDepth 100000 in
theorem k_X5_addDigitsOf_2 {p : Program} {l : Launch} {e : Env} {s : State} {m : MethodId} {args : Array Value} {below : List Frame} {meth : Method} {c : Code} {A : Nat → Prop} {D : va_G} {cI cJ : ClassId} {h h_bytes : Nat}  (C0 : Cx p s m args meth c cX5_addDigitsOf wsX5_addDigitsOf RX5 3 none) (hK : va_K D vwCl (tyL cI cJ) s) (hA : ∀ q, s.heap.size ≤ q → A q) (hX : XT none A s s.heap) {Rr : (Nat → Int32) × Int32} (n : Nat) : ∀ (l1 : Int32) (l2 : Int32) (v_bytes : Nat → Int32) (v_length : Int32) (H : Heap) (locs : List Loc) (ls : Array Slot), St D A s (w_X5_addDigitsOf cI cJ h h_bytes v_bytes v_length) H locs → lv_has ls 3 [(0, .ref h), (1, .int l1), (2, .int l2)] → f_X5_addDigitsOf_2 n l1 l2 v_bytes v_length = some Rr → W p l e rm_X5_addDigitsOf s m args below meth c H locs 0 0 (MQ below (QV D cI cJ A (w_X5_addDigitsOf cI cJ h h_bytes Rr.1 Rr.2)) args s 0 0 A) (F0 m 2 ls []) := by
  have hx := C0.1.1
  have hb := C0.1.2.1
  induction n with
  | zero => intro l1 l2 v_bytes v_length H locs ls hSt hl hf; exact nomatch (show (none : Option _) = some Rr from hf)
  | succ n ih =>
    intro l1 l2 v_bytes v_length H locs ls hSt hl hf
    unfold f_X5_addDigitsOf_2 at hf
    refine lv_iload_n hx hb dX5_addDigitsOf_2 rfl (lv_at hl 2 rfl) ?_
    refine lv_bipush (v := 6) hx hb dX5_addDigitsOf_3 (by decide) ?_
    refine lv_icmp_ge (tgt := 30) hx hb dX5_addDigitsOf_5 (by decide) (fun cc => ?_) (fun cc => ?_)
    · have hf := ite_t hf cc
      cases hf
      exact hb_vret C0 hK hSt dX5_addDigitsOf_30
    · have hf := ite_f hf cc
      refine lv_iload_n hx hb dX5_addDigitsOf_8 rfl (lv_at hl 1 rfl) ?_
      refine lv_iload_n hx hb dX5_addDigitsOf_9 rfl (lv_at hl 2 rfl) ?_
      obtain ⟨R1, hR1, hf⟩ := Option.bind_eq_some_iff.mp hf
      have sp : Sp (w_X5_addDigitsOf cI cJ h h_bytes v_bytes v_length) (w_X6_hasPoint cI cJ) (w_X6_hasPoint cI cJ) (w_X5_addDigitsOf cI cJ h h_bytes v_bytes v_length) [] [0, 1] [0, 1] := ⟨rfl, rfl, rfl, by decide, by decide, by decide, by decide⟩
      refine hb_ci (hb_rS (As := [.int l1, .int l2]) (rest := []) C0 hK hA XT.nn hSt sp (c_X6_hasPoint l D cI cJ   l1 l2  R1 hR1) gX5_addDigitsOf_X6_hasPoint rfl ⟨rfl, rfl⟩ hd_X6_hasPoint ⟨Nat.le_of_ble_eq_true rfl, Nat.le_of_ble_eq_true rfl⟩ rfl hl rfl (Nat.le_of_ble_eq_true rfl) dX5_addDigitsOf_10 ⟨Nat.zero_le _, Nat.zero_le _⟩) hA hSt sp (fun H locs hSt => ?_)
      refine lv_if_eq (tgt := 24) hx hb dX5_addDigitsOf_13 (by decide) (fun cc => ?_) (fun cc => ?_)
      · have hf := ite_t hf cc
        refine lv_iinc (v := l2 + 1) (lv' := [(2, .int (l2 + 1)), (0, .ref h), (1, .int l1)]) hx hb dX5_addDigitsOf_24 hl (k := 2) rfl rfl (by decide) rfl (fun ls hl => ?_)
        refine lv_goto (tgt := 2) hx hb dX5_addDigitsOf_27 (by decide) ?_
        exact ih l1 (l2 + 1) v_bytes v_length _ _ _ hSt (lv_sub hl [1, 2, 0] rfl) hf
      · have hf := ite_f hf cc
        refine lv_aload_n hx hb dX5_addDigitsOf_16 rfl (lv_at hl 0 rfl) ?_
        refine lv_bipush (v := 48) hx hb dX5_addDigitsOf_17 (by decide) ?_
        refine lv_iload_n hx hb dX5_addDigitsOf_19 rfl (lv_at hl 2 rfl) ?_
        refine lv_iadd hx hb dX5_addDigitsOf_20 ?_
        obtain ⟨R2, hR2, hf⟩ := Option.bind_eq_some_iff.mp hf
        have sp : Sp (w_X5_addDigitsOf cI cJ h h_bytes v_bytes v_length) (w_X5_add cI cJ h h_bytes v_bytes v_length) (w_X5_add cI cJ h h_bytes R2.1 R2.2) (w_X5_addDigitsOf cI cJ h h_bytes R2.1 R2.2) [0, 1] [] [0, 1] := ⟨rfl, rfl, rfl, by decide, by decide, by decide, by decide⟩
        refine hb_cv (hb_rV (As := [.int ((48 : Int32) + l2)]) (rest := []) C0 hK hA XT.nn hSt sp (c_X5_add l D cI cJ h h_bytes  ((48 : Int32) + l2) v_bytes v_length R2 hR2) gX5_addDigitsOf_X5_add rfl ⟨rfl, rfl⟩ hd_X5_add ⟨Nat.le_of_ble_eq_true rfl, Nat.le_of_ble_eq_true rfl⟩ 0 5 rfl rfl rfl hl rfl (Nat.le_of_ble_eq_true rfl) dX5_addDigitsOf_21 ⟨Nat.zero_le _, Nat.zero_le _⟩) hA hSt sp (fun H locs hSt => ?_)
        refine lv_iinc (v := l2 + 1) (lv' := [(2, .int (l2 + 1)), (0, .ref h), (1, .int l1)]) hx hb dX5_addDigitsOf_24 hl (k := 2) rfl rfl (by decide) rfl (fun ls hl => ?_)
        refine lv_goto (tgt := 2) hx hb dX5_addDigitsOf_27 (by decide) ?_
        exact ih l1 (l2 + 1) R2.1 R2.2 _ _ _ hSt (lv_sub hl [1, 2, 0] rfl) hf
def f_X5_addDigitsOf_0   (l1 : Int32) (v_bytes : Nat → Int32) (v_length : Int32) : Option ((Nat → Int32) × Int32) := f_X5_addDigitsOf_2   FU l1 (0 : Int32) v_bytes v_length
set_option maxHeartbeats 4000000 in
set_option maxRecDepth 100000 in
theorem k_X5_addDigitsOf_0 {p : Program} {l : Launch} {e : Env} {s : State} {m : MethodId} {args : Array Value} {below : List Frame} {meth : Method} {c : Code} {A : Nat → Prop} {D : va_G} {cI cJ : ClassId} {h h_bytes : Nat}  (C0 : Cx p s m args meth c cX5_addDigitsOf wsX5_addDigitsOf RX5 3 none) (hK : va_K D vwCl (tyL cI cJ) s) (hA : ∀ q, s.heap.size ≤ q → A q) (hX : XT none A s s.heap) {Rr : (Nat → Int32) × Int32} : ∀ (l1 : Int32) (v_bytes : Nat → Int32) (v_length : Int32) (H : Heap) (locs : List Loc) (ls : Array Slot), St D A s (w_X5_addDigitsOf cI cJ h h_bytes v_bytes v_length) H locs → lv_has ls 3 [(0, .ref h), (1, .int l1)] → f_X5_addDigitsOf_0 l1 v_bytes v_length = some Rr → W p l e rm_X5_addDigitsOf s m args below meth c H locs 0 0 (MQ below (QV D cI cJ A (w_X5_addDigitsOf cI cJ h h_bytes Rr.1 Rr.2)) args s 0 0 A) (F0 m 0 ls []) := by
  have hx := C0.1.1
  have hb := C0.1.2.1
  intro l1 v_bytes v_length H locs ls hSt hl hf
  unfold f_X5_addDigitsOf_0 at hf
  refine lv_iconst (v := 0) hx hb dX5_addDigitsOf_0 (by decide) ?_
  refine lv_istore_n (lv' := [(2, .int (0 : Int32)), (0, .ref h), (1, .int l1)]) hx hb dX5_addDigitsOf_1 rfl hl (by decide) rfl (fun ls hl => ?_)
  exact k_X5_addDigitsOf_2 C0 hK hA hX  FU l1 (0 : Int32) v_bytes v_length _ _ _ hSt (lv_sub hl [1, 2, 0] rfl) hf
def f_X5_addDigitsOf  (l1 : Int32) (v_bytes : Nat → Int32) (v_length : Int32) : Option ((Nat → Int32) × Int32) := f_X5_addDigitsOf_0 l1 v_bytes v_length
set_option maxRecDepth 100000 in
theorem c_X5_addDigitsOf (l : Launch) (D : va_G) (cI cJ : ClassId) (h h_bytes : Nat) (l1 : Int32) (v_bytes : Nat → Int32) (v_length : Int32) (Rr : (Nat → Int32) × Int32) (hf : f_X5_addDigitsOf l1 v_bytes v_length = some Rr) : CtV l yX5_addDigitsOf wsX5_addDigitsOf rm_X5_addDigitsOf D cI cJ none [.ref h, .int l1] (w_X5_addDigitsOf cI cJ h h_bytes v_bytes v_length) (w_X5_addDigitsOf cI cJ h h_bytes Rr.1 Rr.2) :=
  fun sz => BodyW.met (av := [.ref h, .int l1]) (Qc := fun A => QV D cI cJ A (w_X5_addDigitsOf cI cJ h h_bytes Rr.1 Rr.2)) (by decide) rfl rfl (Nat.le_of_ble_eq_true rfl) (fun C0 hK hA hX ls hSt hl => k_X5_addDigitsOf_0 C0 hK hA hX l1 v_bytes v_length _ _ ls hSt hl hf) sz
/-! X5 shorten -/
abbrev rm_X5_shorten : Room := { frames := 0, cells := 0, slots := 0, locals := 0 }
abbrev w_X5_shorten (cI cJ : ClassId) (h : Nat) (g0 : Value) (v_length : Int32) : va_W := [(h, .inr (5, [g0, .int v_length]))]
theorem iu_X5_shorten_X5 : ∀ w ∈ wsX50, w ∈ wsX5_shorten := by decide +kernel
theorem fl_X5_shorten_15 : Cond.fieldLink RX5 15 (TX5 1).1 (TX5 1).2.1 (TX5 1).2.2.1 ∈ wsX5_shorten := by decide +kernel
theorem hd_X5_shorten : yX5_shorten.cls = RX5 ∧ yX5_shorten.cls ≠ "java/lang/invoke/MethodHandle" ∧ yX5_shorten.cls ≠ "java/lang/invoke/VarHandle" ∧ (parseMethodDescriptor yX5_shorten.desc).map (fun d => d.parameters.length) = some 1 := by decide +kernel
def f_X5_shorten_0   (l1 : Int32) (v_length : Int32) : Option (Int32) := if l1 < 0 then some v_length else if v_length < l1 then some v_length else some l1
set_option maxHeartbeats 4000000 in
set_option maxRecDepth 100000 in
theorem k_X5_shorten_0 {p : Program} {l : Launch} {e : Env} {s : State} {m : MethodId} {args : Array Value} {below : List Frame} {meth : Method} {c : Code} {A : Nat → Prop} {D : va_G} {cI cJ : ClassId} {h : Nat} {g0 : Value}  (C0 : Cx p s m args meth c cX5_shorten wsX5_shorten RX5 2 none) (hK : va_K D vwCl (tyL cI cJ) s) (hA : ∀ q, s.heap.size ≤ q → A q) (hX : XT none A s s.heap) {Rr : Int32} : ∀ (l1 : Int32) (v_length : Int32) (H : Heap) (locs : List Loc) (ls : Array Slot), St D A s (w_X5_shorten cI cJ h g0 v_length) H locs → lv_has ls 2 [(0, .ref h), (1, .int l1)] → f_X5_shorten_0 l1 v_length = some Rr → W p l e rm_X5_shorten s m args below meth c H locs 0 0 (MQ below (QV D cI cJ A (w_X5_shorten cI cJ h g0 Rr)) args s 0 0 A) (F0 m 0 ls []) := by
  have hx := C0.1.1
  have hb := C0.1.2.1
  intro l1 v_length H locs ls hSt hl hf
  unfold f_X5_shorten_0 at hf
  refine lv_iload_n hx hb dX5_shorten_0 rfl (lv_at hl 1 rfl) ?_
  refine lv_if_lt (tgt := 17) hx hb dX5_shorten_1 (by decide) (fun cc => ?_) (fun cc => ?_)
  · have hf := ite_t hf cc
    cases hf
    exact hb_vret C0 hK hSt dX5_shorten_17
  · have hf := ite_f hf cc
    refine lv_iload_n hx hb dX5_shorten_4 rfl (lv_at hl 1 rfl) ?_
    refine lv_aload_n hx hb dX5_shorten_5 rfl (lv_at hl 0 rfl) ?_
    refine hb_get C0 hK hSt 0 5 1 rfl rfl iu_X5_shorten_X5 (by decide) fl_X5_shorten_15 rfl dX5_shorten_6 ?_
    refine lv_icmp_gt (tgt := 17) hx hb dX5_shorten_9 (by decide) (fun cc => ?_) (fun cc => ?_)
    · have hf := ite_t hf cc
      cases hf
      exact hb_vret C0 hK hSt dX5_shorten_17
    · have hf := ite_f hf cc
      refine lv_aload_n hx hb dX5_shorten_12 rfl (lv_at hl 0 rfl) ?_
      refine lv_iload_n hx hb dX5_shorten_13 rfl (lv_at hl 1 rfl) ?_
      refine hb_put C0 hK hSt 0 5 1 rfl rfl iu_X5_shorten_X5 tyX5 tyX5_ok nmX5 (by decide) fl_X5_shorten_15 rfl rfl rfl (Nat.le_of_ble_eq_true rfl) (w' := w_X5_shorten cI cJ h g0 l1) rfl dX5_shorten_14 (fun H locs hSt => ?_)
      cases hf
      exact hb_vret C0 hK hSt dX5_shorten_17
def f_X5_shorten  (l1 : Int32) (v_length : Int32) : Option (Int32) := f_X5_shorten_0 l1 v_length
set_option maxRecDepth 100000 in
theorem c_X5_shorten (l : Launch) (D : va_G) (cI cJ : ClassId) (h : Nat) (g0 : Value) (l1 : Int32) (v_length : Int32) (Rr : Int32) (hf : f_X5_shorten l1 v_length = some Rr) : CtV l yX5_shorten wsX5_shorten rm_X5_shorten D cI cJ none [.ref h, .int l1] (w_X5_shorten cI cJ h g0 v_length) (w_X5_shorten cI cJ h g0 Rr) :=
  fun sz => BodyW.met (av := [.ref h, .int l1]) (Qc := fun A => QV D cI cJ A (w_X5_shorten cI cJ h g0 Rr)) (by decide) rfl rfl (Nat.le_of_ble_eq_true rfl) (fun C0 hK hA hX ls hSt hl => k_X5_shorten_0 C0 hK hA hX l1 v_length _ _ ls hSt hl hf) sz
