/-! X9 missing -/
abbrev rm_X9_missing : Room := { frames := 2, cells := 0, slots := 0, locals := 44 }
abbrev w_X9_missing (cI cJ : ClassId) (h : Nat) (g2 : Value) (g3 : Value) (g4 : Value) (g5 : Value) (g6 : Value) (g7 : Value) (g8 : Value) (g9 : Value) (g10 : Value) (g11 : Value) (g12 : Value) (g13 : Value) (g14 : Value) (g15 : Value) (g16 : Value) (g17 : Value) (g18 : Value) (g19 : Value) (g20 : Value) (g21 : Value) (g22 : Value) (g23 : Value) (g24 : Value) (g25 : Value) (g26 : Value) (v_points : Int32) (v_faces : Int64) : va_W := [(h, .inr (8, [.int v_points, .long v_faces, g2, g3, g4, g5, g6, g7, g8, g9, g10, g11, g12, g13, g14, g15, g16, g17, g18, g19, g20, g21, g22, g23, g24, g25, g26]))]
theorem hd_X9_missing : yX9_missing.cls = RX9 ∧ yX9_missing.cls ≠ "java/lang/invoke/MethodHandle" ∧ yX9_missing.cls ≠ "java/lang/invoke/VarHandle" ∧ (parseMethodDescriptor yX9_missing.desc).map (fun d => d.parameters.length) = some 1 := by decide +kernel
def f_X9_missing_4 (v_points : Int32) (v_faces : Int64)  : Nat → Int32 → Int32 → Int32 → Option (Int32)
  | 0, _, _, _ => none
  | n + 1, l1, l2, l3 => (f_X9_all v_points).bind (fun R1 => if R1 < l3 then some (-1 : Int32) else (f_X9_isMissing v_points v_faces l3).bind (fun R2 => if R2 = 0 then (f_X9_missing_4 v_points v_faces n) l1 l2 (l3 + 1) else if l2 = l1 then some l3 else (f_X9_missing_4 v_points v_faces n) l1 (l2 + 1) (l3 + 1)))
set_option maxHeartbeats 4000000 in
set_option maxRecDepth 100000 in
theorem k_X9_missing_4 {p : Program} {l : Launch} {e : Env} {s : State} {m : MethodId} {args : Array Value} {below : List Frame} {meth : Method} {c : Code} {A : Nat → Prop} {D : va_G} {cI cJ : ClassId} {h : Nat} {g2 g3 g4 g5 g6 g7 g8 g9 g10 g11 g12 g13 g14 g15 g16 g17 g18 g19 g20 g21 g22 g23 g24 g25 g26 : Value} {v_points : Int32} {v_faces : Int64} (C0 : Cx p s m args meth c cX9_missing wsX9_missing RX9 4 (some .int)) (hK : va_K D vwCl (tyL cI cJ) s) (hA : ∀ q, s.heap.size ≤ q → A q) (hX : XT none A s s.heap) {Rr : Int32} (n : Nat) : ∀ (l1 : Int32) (l2 : Int32) (l3 : Int32)  (H : Heap) (locs : List Loc) (ls : Array Slot), St D A s (w_X9_missing cI cJ h g2 g3 g4 g5 g6 g7 g8 g9 g10 g11 g12 g13 g14 g15 g16 g17 g18 g19 g20 g21 g22 g23 g24 g25 g26 v_points v_faces) H locs → lv_has ls 4 [(0, .ref h), (1, .int l1), (2, .int l2), (3, .int l3)] → f_X9_missing_4 v_points v_faces n l1 l2 l3 = some Rr → W p l e rm_X9_missing s m args below meth c H locs 0 0 (MQ below (QI D cI cJ A (w_X9_missing cI cJ h g2 g3 g4 g5 g6 g7 g8 g9 g10 g11 g12 g13 g14 g15 g16 g17 g18 g19 g20 g21 g22 g23 g24 g25 g26 v_points v_faces) Rr) args s 0 0 A) (F0 m 4 ls []) := by
  have hx := C0.1.1
  have hb := C0.1.2.1
  induction n with
  | zero => intro l1 l2 l3 H locs ls hSt hl hf; exact nomatch (show (none : Option _) = some Rr from hf)
  | succ n ih =>
    intro l1 l2 l3 H locs ls hSt hl hf
    unfold f_X9_missing_4 at hf
    refine lv_iload_n hx hb dX9_missing_4 rfl (lv_at hl 3 rfl) ?_
    refine lv_aload_n hx hb dX9_missing_5 rfl (lv_at hl 0 rfl) ?_
    obtain ⟨R1, hR1, hf⟩ := Option.bind_eq_some_iff.mp hf
    have sp : Sp (w_X9_missing cI cJ h g2 g3 g4 g5 g6 g7 g8 g9 g10 g11 g12 g13 g14 g15 g16 g17 g18 g19 g20 g21 g22 g23 g24 g25 g26 v_points v_faces) (w_X9_all cI cJ h (.long v_faces) g2 g3 g4 g5 g6 g7 g8 g9 g10 g11 g12 g13 g14 g15 g16 g17 g18 g19 g20 g21 g22 g23 g24 g25 g26 v_points) (w_X9_all cI cJ h (.long v_faces) g2 g3 g4 g5 g6 g7 g8 g9 g10 g11 g12 g13 g14 g15 g16 g17 g18 g19 g20 g21 g22 g23 g24 g25 g26 v_points) (w_X9_missing cI cJ h g2 g3 g4 g5 g6 g7 g8 g9 g10 g11 g12 g13 g14 g15 g16 g17 g18 g19 g20 g21 g22 g23 g24 g25 g26 v_points v_faces) [0] [] [0] := ⟨rfl, rfl, rfl, by decide, by decide, by decide, by decide⟩
    refine hb_ci (hb_rV (As := []) (rest := [.int l3]) C0 hK hA XT.nn hSt sp (c_X9_all l D cI cJ h (.long v_faces) g2 g3 g4 g5 g6 g7 g8 g9 g10 g11 g12 g13 g14 g15 g16 g17 g18 g19 g20 g21 g22 g23 g24 g25 g26   v_points R1 hR1) gX9_missing_X9_all rfl ⟨rfl, rfl⟩ hd_X9_all ⟨Nat.le_of_ble_eq_true rfl, Nat.le_of_ble_eq_true rfl⟩ 0 8 rfl rfl rfl hl rfl (Nat.le_of_ble_eq_true rfl) dX9_missing_6 ⟨Nat.zero_le _, Nat.zero_le _⟩) hA hSt sp (fun H locs hSt => ?_)
    refine lv_icmp_gt (tgt := 39) hx hb dX9_missing_9 (by decide) (fun cc => ?_) (fun cc => ?_)
    · have hf := ite_t hf cc
      refine lv_iconst (v := -1) hx hb dX9_missing_39 (by decide) ?_
      cases hf
      exact hb_iret C0 hK hSt dX9_missing_40
    · have hf := ite_f hf cc
      refine lv_aload_n hx hb dX9_missing_12 rfl (lv_at hl 0 rfl) ?_
      refine lv_iload_n hx hb dX9_missing_13 rfl (lv_at hl 3 rfl) ?_
      obtain ⟨R2, hR2, hf⟩ := Option.bind_eq_some_iff.mp hf
      have sp : Sp (w_X9_missing cI cJ h g2 g3 g4 g5 g6 g7 g8 g9 g10 g11 g12 g13 g14 g15 g16 g17 g18 g19 g20 g21 g22 g23 g24 g25 g26 v_points v_faces) (w_X9_isMissing cI cJ h g2 g3 g4 g5 g6 g7 g8 g9 g10 g11 g12 g13 g14 g15 g16 g17 g18 g19 g20 g21 g22 g23 g24 g25 g26 v_points v_faces) (w_X9_isMissing cI cJ h g2 g3 g4 g5 g6 g7 g8 g9 g10 g11 g12 g13 g14 g15 g16 g17 g18 g19 g20 g21 g22 g23 g24 g25 g26 v_points v_faces) (w_X9_missing cI cJ h g2 g3 g4 g5 g6 g7 g8 g9 g10 g11 g12 g13 g14 g15 g16 g17 g18 g19 g20 g21 g22 g23 g24 g25 g26 v_points v_faces) [0] [] [0] := ⟨rfl, rfl, rfl, by decide, by decide, by decide, by decide⟩
      refine hb_ci (hb_rV (As := [.int l3]) (rest := []) C0 hK hA XT.nn hSt sp (c_X9_isMissing l D cI cJ h g2 g3 g4 g5 g6 g7 g8 g9 g10 g11 g12 g13 g14 g15 g16 g17 g18 g19 g20 g21 g22 g23 g24 g25 g26  l3 v_points v_faces R2 hR2) gX9_missing_X9_isMissing rfl ⟨rfl, rfl⟩ hd_X9_isMissing ⟨Nat.le_of_ble_eq_true rfl, Nat.le_of_ble_eq_true rfl⟩ 0 8 rfl rfl rfl hl rfl (Nat.le_of_ble_eq_true rfl) dX9_missing_14 ⟨Nat.zero_le _, Nat.zero_le _⟩) hA hSt sp (fun H locs hSt => ?_)
      refine lv_if_ne (tgt := 23) hx hb dX9_missing_17 (by decide) (fun cc => ?_) (fun cc => ?_)
      · have hf := ite_f hf cc
        refine lv_iload_n hx hb dX9_missing_23 rfl (lv_at hl 2 rfl) ?_
        refine lv_iload_n hx hb dX9_missing_24 rfl (lv_at hl 1 rfl) ?_
        refine lv_icmp_ne (tgt := 30) hx hb dX9_missing_25 (by decide) (fun cc => ?_) (fun cc => ?_)
        · have hf := ite_f hf cc
          refine lv_iinc (v := l2 + 1) (lv' := [(2, .int (l2 + 1)), (0, .ref h), (1, .int l1), (3, .int l3)]) hx hb dX9_missing_30 hl (k := 2) rfl rfl (by decide) rfl (fun ls hl => ?_)
          refine lv_iinc (v := l3 + 1) (lv' := [(3, .int (l3 + 1)), (2, .int (l2 + 1)), (0, .ref h), (1, .int l1)]) hx hb dX9_missing_33 hl (k := 3) rfl rfl (by decide) rfl (fun ls hl => ?_)
          refine lv_goto (tgt := 4) hx hb dX9_missing_36 (by decide) ?_
          exact ih l1 (l2 + 1) (l3 + 1) _ _ _ hSt (lv_sub hl [2, 3, 1, 0] rfl) hf
        · have hf := ite_t hf cc
          refine lv_iload_n hx hb dX9_missing_28 rfl (lv_at hl 3 rfl) ?_
          cases hf
          exact hb_iret C0 hK hSt dX9_missing_29
      · have hf := ite_t hf cc
        refine lv_goto (tgt := 33) hx hb dX9_missing_20 (by decide) ?_
        refine lv_iinc (v := l3 + 1) (lv' := [(3, .int (l3 + 1)), (0, .ref h), (1, .int l1), (2, .int l2)]) hx hb dX9_missing_33 hl (k := 3) rfl rfl (by decide) rfl (fun ls hl => ?_)
        refine lv_goto (tgt := 4) hx hb dX9_missing_36 (by decide) ?_
        exact ih l1 l2 (l3 + 1) _ _ _ hSt (lv_sub hl [1, 2, 3, 0] rfl) hf
def f_X9_missing_0 (v_points : Int32) (v_faces : Int64)  (l1 : Int32)  : Option (Int32) := f_X9_missing_4 v_points v_faces  FU l1 (0 : Int32) (0 : Int32)
set_option maxHeartbeats 4000000 in
set_option maxRecDepth 100000 in
theorem k_X9_missing_0 {p : Program} {l : Launch} {e : Env} {s : State} {m : MethodId} {args : Array Value} {below : List Frame} {meth : Method} {c : Code} {A : Nat → Prop} {D : va_G} {cI cJ : ClassId} {h : Nat} {g2 g3 g4 g5 g6 g7 g8 g9 g10 g11 g12 g13 g14 g15 g16 g17 g18 g19 g20 g21 g22 g23 g24 g25 g26 : Value} {v_points : Int32} {v_faces : Int64} (C0 : Cx p s m args meth c cX9_missing wsX9_missing RX9 4 (some .int)) (hK : va_K D vwCl (tyL cI cJ) s) (hA : ∀ q, s.heap.size ≤ q → A q) (hX : XT none A s s.heap) {Rr : Int32} : ∀ (l1 : Int32)  (H : Heap) (locs : List Loc) (ls : Array Slot), St D A s (w_X9_missing cI cJ h g2 g3 g4 g5 g6 g7 g8 g9 g10 g11 g12 g13 g14 g15 g16 g17 g18 g19 g20 g21 g22 g23 g24 g25 g26 v_points v_faces) H locs → lv_has ls 4 [(0, .ref h), (1, .int l1)] → f_X9_missing_0 v_points v_faces l1 = some Rr → W p l e rm_X9_missing s m args below meth c H locs 0 0 (MQ below (QI D cI cJ A (w_X9_missing cI cJ h g2 g3 g4 g5 g6 g7 g8 g9 g10 g11 g12 g13 g14 g15 g16 g17 g18 g19 g20 g21 g22 g23 g24 g25 g26 v_points v_faces) Rr) args s 0 0 A) (F0 m 0 ls []) := by
  have hx := C0.1.1
  have hb := C0.1.2.1
  intro l1 H locs ls hSt hl hf
  unfold f_X9_missing_0 at hf
  refine lv_iconst (v := 0) hx hb dX9_missing_0 (by decide) ?_
  refine lv_istore_n (lv' := [(2, .int (0 : Int32)), (0, .ref h), (1, .int l1)]) hx hb dX9_missing_1 rfl hl (by decide) rfl (fun ls hl => ?_)
  refine lv_iconst (v := 0) hx hb dX9_missing_2 (by decide) ?_
  refine lv_istore_n (lv' := [(3, .int (0 : Int32)), (2, .int (0 : Int32)), (0, .ref h), (1, .int l1)]) hx hb dX9_missing_3 rfl hl (by decide) rfl (fun ls hl => ?_)
  exact k_X9_missing_4 C0 hK hA hX  FU l1 (0 : Int32) (0 : Int32) _ _ _ hSt (lv_sub hl [2, 3, 1, 0] rfl) hf
def f_X9_missing (v_points : Int32) (v_faces : Int64) (l1 : Int32)  : Option (Int32) := f_X9_missing_0 v_points v_faces l1
set_option maxRecDepth 100000 in
theorem c_X9_missing (l : Launch) (D : va_G) (cI cJ : ClassId) (h : Nat) (g2 g3 g4 g5 g6 g7 g8 g9 g10 g11 g12 g13 g14 g15 g16 g17 g18 g19 g20 g21 g22 g23 g24 g25 g26 : Value) (l1 : Int32) (v_points : Int32) (v_faces : Int64) (Rr : Int32) (hf : f_X9_missing v_points v_faces l1 = some Rr) : CtI l yX9_missing wsX9_missing rm_X9_missing D cI cJ none [.ref h, .int l1] (w_X9_missing cI cJ h g2 g3 g4 g5 g6 g7 g8 g9 g10 g11 g12 g13 g14 g15 g16 g17 g18 g19 g20 g21 g22 g23 g24 g25 g26 v_points v_faces) Rr (w_X9_missing cI cJ h g2 g3 g4 g5 g6 g7 g8 g9 g10 g11 g12 g13 g14 g15 g16 g17 g18 g19 g20 g21 g22 g23 g24 g25 g26 v_points v_faces) :=
  fun sz => BodyW.met (av := [.ref h, .int l1]) (Qc := fun A => QI D cI cJ A (w_X9_missing cI cJ h g2 g3 g4 g5 g6 g7 g8 g9 g10 g11 g12 g13 g14 g15 g16 g17 g18 g19 g20 g21 g22 g23 g24 g25 g26 v_points v_faces) Rr) (by decide) rfl rfl (Nat.le_of_ble_eq_true rfl) (fun C0 hK hA hX ls hSt hl => k_X9_missing_0 C0 hK hA hX l1  _ _ ls hSt hl hf) sz
/-! X9 missingMany -/
abbrev rm_X9_missingMany : Room := { frames := 2, cells := 0, slots := 0, locals := 44 }
abbrev w_X9_missingMany (cI cJ : ClassId) (h : Nat) (g2 : Value) (g3 : Value) (g4 : Value) (g5 : Value) (g6 : Value) (g7 : Value) (g8 : Value) (g9 : Value) (g10 : Value) (g11 : Value) (g12 : Value) (g13 : Value) (g14 : Value) (g15 : Value) (g16 : Value) (g17 : Value) (g18 : Value) (g19 : Value) (g20 : Value) (g21 : Value) (g22 : Value) (g23 : Value) (g24 : Value) (g25 : Value) (g26 : Value) (v_points : Int32) (v_faces : Int64) : va_W := [(h, .inr (8, [.int v_points, .long v_faces, g2, g3, g4, g5, g6, g7, g8, g9, g10, g11, g12, g13, g14, g15, g16, g17, g18, g19, g20, g21, g22, g23, g24, g25, g26]))]
theorem hd_X9_missingMany : yX9_missingMany.cls = RX9 ∧ yX9_missingMany.cls ≠ "java/lang/invoke/MethodHandle" ∧ yX9_missingMany.cls ≠ "java/lang/invoke/VarHandle" ∧ (parseMethodDescriptor yX9_missingMany.desc).map (fun d => d.parameters.length) = some 0 := by decide +kernel
def f_X9_missingMany_26 (v_points : Int32) (v_faces : Int64) (k_4 : Int32 → Int32 → Option (Int32)) (l2 : Int32) (s0 : Int32) (s1 : Int32)  : Option (Int32) := k_4 (s1 + s0) (l2 + 1)
set_option maxHeartbeats 4000000 in
set_option maxRecDepth 100000 in
theorem k_X9_missingMany_26 {p : Program} {l : Launch} {e : Env} {s : State} {m : MethodId} {args : Array Value} {below : List Frame} {meth : Method} {c : Code} {A : Nat → Prop} {D : va_G} {cI cJ : ClassId} {h : Nat} {g2 g3 g4 g5 g6 g7 g8 g9 g10 g11 g12 g13 g14 g15 g16 g17 g18 g19 g20 g21 g22 g23 g24 g25 g26 : Value} {v_points : Int32} {v_faces : Int64} (C0 : Cx p s m args meth c cX9_missingMany wsX9_missingMany RX9 3 (some .int)) (hK : va_K D vwCl (tyL cI cJ) s) (hA : ∀ q, s.heap.size ≤ q → A q) (hX : XT none A s s.heap) {Rr : Int32} {k_4 : Int32 → Int32 → Option (Int32)} (hk_4 : ∀ (l1 : Int32) (l2 : Int32)  (H : Heap) (locs : List Loc) (ls : Array Slot), St D A s (w_X9_missingMany cI cJ h g2 g3 g4 g5 g6 g7 g8 g9 g10 g11 g12 g13 g14 g15 g16 g17 g18 g19 g20 g21 g22 g23 g24 g25 g26 v_points v_faces) H locs → lv_has ls 3 [(0, .ref h), (1, .int l1), (2, .int l2)] → k_4 l1 l2 = some Rr → W p l e rm_X9_missingMany s m args below meth c H locs 0 0 (MQ below (QI D cI cJ A (w_X9_missingMany cI cJ h g2 g3 g4 g5 g6 g7 g8 g9 g10 g11 g12 g13 g14 g15 g16 g17 g18 g19 g20 g21 g22 g23 g24 g25 g26 v_points v_faces) Rr) args s 0 0 A) (F0 m 4 ls [])) : ∀ (l2 : Int32) (s0 : Int32) (s1 : Int32)  (H : Heap) (locs : List Loc) (ls : Array Slot), St D A s (w_X9_missingMany cI cJ h g2 g3 g4 g5 g6 g7 g8 g9 g10 g11 g12 g13 g14 g15 g16 g17 g18 g19 g20 g21 g22 g23 g24 g25 g26 v_points v_faces) H locs → lv_has ls 3 [(0, .ref h), (2, .int l2)] → f_X9_missingMany_26 v_points v_faces k_4 l2 s0 s1 = some Rr → W p l e rm_X9_missingMany s m args below meth c H locs 0 0 (MQ below (QI D cI cJ A (w_X9_missingMany cI cJ h g2 g3 g4 g5 g6 g7 g8 g9 g10 g11 g12 g13 g14 g15 g16 g17 g18 g19 g20 g21 g22 g23 g24 g25 g26 v_points v_faces) Rr) args s 0 0 A) (F0 m 26 ls [.int s0, .int s1]) := by
  have hx := C0.1.1
  have hb := C0.1.2.1
  intro l2 s0 s1 H locs ls hSt hl hf
  unfold f_X9_missingMany_26 at hf
  refine lv_iadd hx hb dX9_missingMany_26 ?_
  refine lv_istore_n (lv' := [(1, .int (s1 + s0)), (0, .ref h), (2, .int l2)]) hx hb dX9_missingMany_27 rfl hl (by decide) rfl (fun ls hl => ?_)
  refine lv_iinc (v := l2 + 1) (lv' := [(2, .int (l2 + 1)), (1, .int (s1 + s0)), (0, .ref h)]) hx hb dX9_missingMany_28 hl (k := 2) rfl rfl (by decide) rfl (fun ls hl => ?_)
  refine lv_goto (tgt := 4) hx hb dX9_missingMany_31 (by decide) ?_
  exact hk_4 (s1 + s0) (l2 + 1) _ _ _ hSt (lv_sub hl [2, 1, 0] rfl) hf
def f_X9_missingMany_4 (v_points : Int32) (v_faces : Int64)  : Nat → Int32 → Int32 → Option (Int32)
  | 0, _, _ => none
  | n + 1, l1, l2 => (f_X9_all v_points).bind (fun R1 => if R1 < l2 then some l1 else (f_X9_isMissing v_points v_faces l2).bind (fun R2 => if R2 = 0 then f_X9_missingMany_26 v_points v_faces (f_X9_missingMany_4 v_points v_faces n) l2 (0 : Int32) l1 else f_X9_missingMany_26 v_points v_faces (f_X9_missingMany_4 v_points v_faces n) l2 (1 : Int32) l1))
set_option maxHeartbeats 4000000 in
set_option maxRecDepth 100000 in
theorem k_X9_missingMany_4 {p : Program} {l : Launch} {e : Env} {s : State} {m : MethodId} {args : Array Value} {below : List Frame} {meth : Method} {c : Code} {A : Nat → Prop} {D : va_G} {cI cJ : ClassId} {h : Nat} {g2 g3 g4 g5 g6 g7 g8 g9 g10 g11 g12 g13 g14 g15 g16 g17 g18 g19 g20 g21 g22 g23 g24 g25 g26 : Value} {v_points : Int32} {v_faces : Int64} (C0 : Cx p s m args meth c cX9_missingMany wsX9_missingMany RX9 3 (some .int)) (hK : va_K D vwCl (tyL cI cJ) s) (hA : ∀ q, s.heap.size ≤ q → A q) (hX : XT none A s s.heap) {Rr : Int32} (n : Nat) : ∀ (l1 : Int32) (l2 : Int32)  (H : Heap) (locs : List Loc) (ls : Array Slot), St D A s (w_X9_missingMany cI cJ h g2 g3 g4 g5 g6 g7 g8 g9 g10 g11 g12 g13 g14 g15 g16 g17 g18 g19 g20 g21 g22 g23 g24 g25 g26 v_points v_faces) H locs → lv_has ls 3 [(0, .ref h), (1, .int l1), (2, .int l2)] → f_X9_missingMany_4 v_points v_faces n l1 l2 = some Rr → W p l e rm_X9_missingMany s m args below meth c H locs 0 0 (MQ below (QI D cI cJ A (w_X9_missingMany cI cJ h g2 g3 g4 g5 g6 g7 g8 g9 g10 g11 g12 g13 g14 g15 g16 g17 g18 g19 g20 g21 g22 g23 g24 g25 g26 v_points v_faces) Rr) args s 0 0 A) (F0 m 4 ls []) := by
  have hx := C0.1.1
  have hb := C0.1.2.1
  induction n with
  | zero => intro l1 l2 H locs ls hSt hl hf; exact nomatch (show (none : Option _) = some Rr from hf)
  | succ n ih =>
    intro l1 l2 H locs ls hSt hl hf
    unfold f_X9_missingMany_4 at hf
    refine lv_iload_n hx hb dX9_missingMany_4 rfl (lv_at hl 2 rfl) ?_
    refine lv_aload_n hx hb dX9_missingMany_5 rfl (lv_at hl 0 rfl) ?_
    obtain ⟨R1, hR1, hf⟩ := Option.bind_eq_some_iff.mp hf
    have sp : Sp (w_X9_missingMany cI cJ h g2 g3 g4 g5 g6 g7 g8 g9 g10 g11 g12 g13 g14 g15 g16 g17 g18 g19 g20 g21 g22 g23 g24 g25 g26 v_points v_faces) (w_X9_all cI cJ h (.long v_faces) g2 g3 g4 g5 g6 g7 g8 g9 g10 g11 g12 g13 g14 g15 g16 g17 g18 g19 g20 g21 g22 g23 g24 g25 g26 v_points) (w_X9_all cI cJ h (.long v_faces) g2 g3 g4 g5 g6 g7 g8 g9 g10 g11 g12 g13 g14 g15 g16 g17 g18 g19 g20 g21 g22 g23 g24 g25 g26 v_points) (w_X9_missingMany cI cJ h g2 g3 g4 g5 g6 g7 g8 g9 g10 g11 g12 g13 g14 g15 g16 g17 g18 g19 g20 g21 g22 g23 g24 g25 g26 v_points v_faces) [0] [] [0] := ⟨rfl, rfl, rfl, by decide, by decide, by decide, by decide⟩
    refine hb_ci (hb_rV (As := []) (rest := [.int l2]) C0 hK hA XT.nn hSt sp (c_X9_all l D cI cJ h (.long v_faces) g2 g3 g4 g5 g6 g7 g8 g9 g10 g11 g12 g13 g14 g15 g16 g17 g18 g19 g20 g21 g22 g23 g24 g25 g26   v_points R1 hR1) gX9_missingMany_X9_all rfl ⟨rfl, rfl⟩ hd_X9_all ⟨Nat.le_of_ble_eq_true rfl, Nat.le_of_ble_eq_true rfl⟩ 0 8 rfl rfl rfl hl rfl (Nat.le_of_ble_eq_true rfl) dX9_missingMany_6 ⟨Nat.zero_le _, Nat.zero_le _⟩) hA hSt sp (fun H locs hSt => ?_)
    refine lv_icmp_gt (tgt := 34) hx hb dX9_missingMany_9 (by decide) (fun cc => ?_) (fun cc => ?_)
    · have hf := ite_t hf cc
      refine lv_iload_n hx hb dX9_missingMany_34 rfl (lv_at hl 1 rfl) ?_
      cases hf
      exact hb_iret C0 hK hSt dX9_missingMany_35
    · have hf := ite_f hf cc
      refine lv_iload_n hx hb dX9_missingMany_12 rfl (lv_at hl 1 rfl) ?_
      refine lv_aload_n hx hb dX9_missingMany_13 rfl (lv_at hl 0 rfl) ?_
      refine lv_iload_n hx hb dX9_missingMany_14 rfl (lv_at hl 2 rfl) ?_
      obtain ⟨R2, hR2, hf⟩ := Option.bind_eq_some_iff.mp hf
      have sp : Sp (w_X9_missingMany cI cJ h g2 g3 g4 g5 g6 g7 g8 g9 g10 g11 g12 g13 g14 g15 g16 g17 g18 g19 g20 g21 g22 g23 g24 g25 g26 v_points v_faces) (w_X9_isMissing cI cJ h g2 g3 g4 g5 g6 g7 g8 g9 g10 g11 g12 g13 g14 g15 g16 g17 g18 g19 g20 g21 g22 g23 g24 g25 g26 v_points v_faces) (w_X9_isMissing cI cJ h g2 g3 g4 g5 g6 g7 g8 g9 g10 g11 g12 g13 g14 g15 g16 g17 g18 g19 g20 g21 g22 g23 g24 g25 g26 v_points v_faces) (w_X9_missingMany cI cJ h g2 g3 g4 g5 g6 g7 g8 g9 g10 g11 g12 g13 g14 g15 g16 g17 g18 g19 g20 g21 g22 g23 g24 g25 g26 v_points v_faces) [0] [] [0] := ⟨rfl, rfl, rfl, by decide, by decide, by decide, by decide⟩
      refine hb_ci (hb_rV (As := [.int l2]) (rest := [.int l1]) C0 hK hA XT.nn hSt sp (c_X9_isMissing l D cI cJ h g2 g3 g4 g5 g6 g7 g8 g9 g10 g11 g12 g13 g14 g15 g16 g17 g18 g19 g20 g21 g22 g23 g24 g25 g26  l2 v_points v_faces R2 hR2) gX9_missingMany_X9_isMissing rfl ⟨rfl, rfl⟩ hd_X9_isMissing ⟨Nat.le_of_ble_eq_true rfl, Nat.le_of_ble_eq_true rfl⟩ 0 8 rfl rfl rfl hl rfl (Nat.le_of_ble_eq_true rfl) dX9_missingMany_15 ⟨Nat.zero_le _, Nat.zero_le _⟩) hA hSt sp (fun H locs hSt => ?_)
      refine lv_if_eq (tgt := 25) hx hb dX9_missingMany_18 (by decide) (fun cc => ?_) (fun cc => ?_)
      · have hf := ite_t hf cc
        refine lv_iconst (v := 0) hx hb dX9_missingMany_25 (by decide) ?_
        exact k_X9_missingMany_26 C0 hK hA hX ih l2 (0 : Int32) l1 _ _ _ hSt (lv_sub hl [0, 2] rfl) hf
      · have hf := ite_f hf cc
        refine lv_iconst (v := 1) hx hb dX9_missingMany_21 (by decide) ?_
        refine lv_goto (tgt := 26) hx hb dX9_missingMany_22 (by decide) ?_
        exact k_X9_missingMany_26 C0 hK hA hX ih l2 (1 : Int32) l1 _ _ _ hSt (lv_sub hl [0, 2] rfl) hf
def f_X9_missingMany_0 (v_points : Int32) (v_faces : Int64)    : Option (Int32) := f_X9_missingMany_4 v_points v_faces  FU (0 : Int32) (0 : Int32)
set_option maxHeartbeats 4000000 in
set_option maxRecDepth 100000 in
theorem k_X9_missingMany_0 {p : Program} {l : Launch} {e : Env} {s : State} {m : MethodId} {args : Array Value} {below : List Frame} {meth : Method} {c : Code} {A : Nat → Prop} {D : va_G} {cI cJ : ClassId} {h : Nat} {g2 g3 g4 g5 g6 g7 g8 g9 g10 g11 g12 g13 g14 g15 g16 g17 g18 g19 g20 g21 g22 g23 g24 g25 g26 : Value} {v_points : Int32} {v_faces : Int64} (C0 : Cx p s m args meth c cX9_missingMany wsX9_missingMany RX9 3 (some .int)) (hK : va_K D vwCl (tyL cI cJ) s) (hA : ∀ q, s.heap.size ≤ q → A q) (hX : XT none A s s.heap) {Rr : Int32} : ∀   (H : Heap) (locs : List Loc) (ls : Array Slot), St D A s (w_X9_missingMany cI cJ h g2 g3 g4 g5 g6 g7 g8 g9 g10 g11 g12 g13 g14 g15 g16 g17 g18 g19 g20 g21 g22 g23 g24 g25 g26 v_points v_faces) H locs → lv_has ls 3 [(0, .ref h)] → f_X9_missingMany_0 v_points v_faces = some Rr → W p l e rm_X9_missingMany s m args below meth c H locs 0 0 (MQ below (QI D cI cJ A (w_X9_missingMany cI cJ h g2 g3 g4 g5 g6 g7 g8 g9 g10 g11 g12 g13 g14 g15 g16 g17 g18 g19 g20 g21 g22 g23 g24 g25 g26 v_points v_faces) Rr) args s 0 0 A) (F0 m 0 ls []) := by
  have hx := C0.1.1
  have hb := C0.1.2.1
  intro H locs ls hSt hl hf
  unfold f_X9_missingMany_0 at hf
  refine lv_iconst (v := 0) hx hb dX9_missingMany_0 (by decide) ?_
  refine lv_istore_n (lv' := [(1, .int (0 : Int32)), (0, .ref h)]) hx hb dX9_missingMany_1 rfl hl (by decide) rfl (fun ls hl => ?_)
  refine lv_iconst (v := 0) hx hb dX9_missingMany_2 (by decide) ?_
  refine lv_istore_n (lv' := [(2, .int (0 : Int32)), (1, .int (0 : Int32)), (0, .ref h)]) hx hb dX9_missingMany_3 rfl hl (by decide) rfl (fun ls hl => ?_)
  exact k_X9_missingMany_4 C0 hK hA hX  FU (0 : Int32) (0 : Int32) _ _ _ hSt (lv_sub hl [2, 1, 0] rfl) hf
def f_X9_missingMany (v_points : Int32) (v_faces : Int64)   : Option (Int32) := f_X9_missingMany_0 v_points v_faces
set_option maxRecDepth 100000 in
theorem c_X9_missingMany (l : Launch) (D : va_G) (cI cJ : ClassId) (h : Nat) (g2 g3 g4 g5 g6 g7 g8 g9 g10 g11 g12 g13 g14 g15 g16 g17 g18 g19 g20 g21 g22 g23 g24 g25 g26 : Value)  (v_points : Int32) (v_faces : Int64) (Rr : Int32) (hf : f_X9_missingMany v_points v_faces = some Rr) : CtI l yX9_missingMany wsX9_missingMany rm_X9_missingMany D cI cJ none [.ref h] (w_X9_missingMany cI cJ h g2 g3 g4 g5 g6 g7 g8 g9 g10 g11 g12 g13 g14 g15 g16 g17 g18 g19 g20 g21 g22 g23 g24 g25 g26 v_points v_faces) Rr (w_X9_missingMany cI cJ h g2 g3 g4 g5 g6 g7 g8 g9 g10 g11 g12 g13 g14 g15 g16 g17 g18 g19 g20 g21 g22 g23 g24 g25 g26 v_points v_faces) :=
  fun sz => BodyW.met (av := [.ref h]) (Qc := fun A => QI D cI cJ A (w_X9_missingMany cI cJ h g2 g3 g4 g5 g6 g7 g8 g9 g10 g11 g12 g13 g14 g15 g16 g17 g18 g19 g20 g21 g22 g23 g24 g25 g26 v_points v_faces) Rr) (by decide) rfl rfl (Nat.le_of_ble_eq_true rfl) (fun C0 hK hA hX ls hSt hl => k_X9_missingMany_0 C0 hK hA hX   _ _ ls hSt hl hf) sz
/-! X9 isFlag -/
abbrev rm_X9_isFlag : Room := { frames := 2, cells := 0, slots := 0, locals := 44 }
abbrev w_X9_isFlag (cI cJ : ClassId) (h : Nat) (g2 : Value) (g3 : Value) (g4 : Value) (g5 : Value) (g6 : Value) (g7 : Value) (g8 : Value) (g9 : Value) (g10 : Value) (g11 : Value) (g12 : Value) (g13 : Value) (g14 : Value) (g15 : Value) (g16 : Value) (g17 : Value) (g18 : Value) (g19 : Value) (g20 : Value) (g21 : Value) (g22 : Value) (g23 : Value) (g24 : Value) (g25 : Value) (g26 : Value) (v_points : Int32) (v_faces : Int64) : va_W := [(h, .inr (8, [.int v_points, .long v_faces, g2, g3, g4, g5, g6, g7, g8, g9, g10, g11, g12, g13, g14, g15, g16, g17, g18, g19, g20, g21, g22, g23, g24, g25, g26]))]
theorem hd_X9_isFlag : yX9_isFlag.cls = RX9 ∧ yX9_isFlag.cls ≠ "java/lang/invoke/MethodHandle" ∧ yX9_isFlag.cls ≠ "java/lang/invoke/VarHandle" ∧ (parseMethodDescriptor yX9_isFlag.desc).map (fun d => d.parameters.length) = some 0 := by decide +kernel
def f_X9_isFlag_37 (v_points : Int32) (v_faces : Int64) (k_4 : Int32 → Int32 → Option (Int32)) (l2 : Int32) (s0 : Int32)  : Option (Int32) := k_4 s0 (l2 + 1)
set_option maxHeartbeats 4000000 in
set_option maxRecDepth 100000 in
theorem k_X9_isFlag_37 {p : Program} {l : Launch} {e : Env} {s : State} {m : MethodId} {args : Array Value} {below : List Frame} {meth : Method} {c : Code} {A : Nat → Prop} {D : va_G} {cI cJ : ClassId} {h : Nat} {g2 g3 g4 g5 g6 g7 g8 g9 g10 g11 g12 g13 g14 g15 g16 g17 g18 g19 g20 g21 g22 g23 g24 g25 g26 : Value} {v_points : Int32} {v_faces : Int64} (C0 : Cx p s m args meth c cX9_isFlag wsX9_isFlag RX9 3 (some .boolean)) (hK : va_K D vwCl (tyL cI cJ) s) (hA : ∀ q, s.heap.size ≤ q → A q) (hX : XT none A s s.heap) {Rr : Int32} {k_4 : Int32 → Int32 → Option (Int32)} (hk_4 : ∀ (l1 : Int32) (l2 : Int32)  (H : Heap) (locs : List Loc) (ls : Array Slot), St D A s (w_X9_isFlag cI cJ h g2 g3 g4 g5 g6 g7 g8 g9 g10 g11 g12 g13 g14 g15 g16 g17 g18 g19 g20 g21 g22 g23 g24 g25 g26 v_points v_faces) H locs → lv_has ls 3 [(0, .ref h), (1, .int l1), (2, .int l2)] → k_4 l1 l2 = some Rr → W p l e rm_X9_isFlag s m args below meth c H locs 0 0 (MQ below (QI D cI cJ A (w_X9_isFlag cI cJ h g2 g3 g4 g5 g6 g7 g8 g9 g10 g11 g12 g13 g14 g15 g16 g17 g18 g19 g20 g21 g22 g23 g24 g25 g26 v_points v_faces) Rr) args s 0 0 A) (F0 m 4 ls [])) : ∀ (l2 : Int32) (s0 : Int32)  (H : Heap) (locs : List Loc) (ls : Array Slot), St D A s (w_X9_isFlag cI cJ h g2 g3 g4 g5 g6 g7 g8 g9 g10 g11 g12 g13 g14 g15 g16 g17 g18 g19 g20 g21 g22 g23 g24 g25 g26 v_points v_faces) H locs → lv_has ls 3 [(0, .ref h), (2, .int l2)] → f_X9_isFlag_37 v_points v_faces k_4 l2 s0 = some Rr → W p l e rm_X9_isFlag s m args below meth c H locs 0 0 (MQ below (QI D cI cJ A (w_X9_isFlag cI cJ h g2 g3 g4 g5 g6 g7 g8 g9 g10 g11 g12 g13 g14 g15 g16 g17 g18 g19 g20 g21 g22 g23 g24 g25 g26 v_points v_faces) Rr) args s 0 0 A) (F0 m 37 ls [.int s0]) := by
  have hx := C0.1.1
  have hb := C0.1.2.1
  intro l2 s0 H locs ls hSt hl hf
  unfold f_X9_isFlag_37 at hf
  refine lv_istore_n (lv' := [(1, .int s0), (0, .ref h), (2, .int l2)]) hx hb dX9_isFlag_37 rfl hl (by decide) rfl (fun ls hl => ?_)
  refine lv_iinc (v := l2 + 1) (lv' := [(2, .int (l2 + 1)), (1, .int s0), (0, .ref h)]) hx hb dX9_isFlag_38 hl (k := 2) rfl rfl (by decide) rfl (fun ls hl => ?_)
  refine lv_goto (tgt := 4) hx hb dX9_isFlag_41 (by decide) ?_
  exact hk_4 s0 (l2 + 1) _ _ _ hSt (lv_sub hl [2, 1, 0] rfl) hf
def f_X9_isFlag_32 (v_points : Int32) (v_faces : Int64) (k_4 : Int32 → Int32 → Option (Int32)) (l2 : Int32)  : Option (Int32) := f_X9_isFlag_37 v_points v_faces k_4 l2 (1 : Int32)
set_option maxHeartbeats 4000000 in
set_option maxRecDepth 100000 in
theorem k_X9_isFlag_32 {p : Program} {l : Launch} {e : Env} {s : State} {m : MethodId} {args : Array Value} {below : List Frame} {meth : Method} {c : Code} {A : Nat → Prop} {D : va_G} {cI cJ : ClassId} {h : Nat} {g2 g3 g4 g5 g6 g7 g8 g9 g10 g11 g12 g13 g14 g15 g16 g17 g18 g19 g20 g21 g22 g23 g24 g25 g26 : Value} {v_points : Int32} {v_faces : Int64} (C0 : Cx p s m args meth c cX9_isFlag wsX9_isFlag RX9 3 (some .boolean)) (hK : va_K D vwCl (tyL cI cJ) s) (hA : ∀ q, s.heap.size ≤ q → A q) (hX : XT none A s s.heap) {Rr : Int32} {k_4 : Int32 → Int32 → Option (Int32)} (hk_4 : ∀ (l1 : Int32) (l2 : Int32)  (H : Heap) (locs : List Loc) (ls : Array Slot), St D A s (w_X9_isFlag cI cJ h g2 g3 g4 g5 g6 g7 g8 g9 g10 g11 g12 g13 g14 g15 g16 g17 g18 g19 g20 g21 g22 g23 g24 g25 g26 v_points v_faces) H locs → lv_has ls 3 [(0, .ref h), (1, .int l1), (2, .int l2)] → k_4 l1 l2 = some Rr → W p l e rm_X9_isFlag s m args below meth c H locs 0 0 (MQ below (QI D cI cJ A (w_X9_isFlag cI cJ h g2 g3 g4 g5 g6 g7 g8 g9 g10 g11 g12 g13 g14 g15 g16 g17 g18 g19 g20 g21 g22 g23 g24 g25 g26 v_points v_faces) Rr) args s 0 0 A) (F0 m 4 ls [])) : ∀ (l2 : Int32)  (H : Heap) (locs : List Loc) (ls : Array Slot), St D A s (w_X9_isFlag cI cJ h g2 g3 g4 g5 g6 g7 g8 g9 g10 g11 g12 g13 g14 g15 g16 g17 g18 g19 g20 g21 g22 g23 g24 g25 g26 v_points v_faces) H locs → lv_has ls 3 [(0, .ref h), (2, .int l2)] → f_X9_isFlag_32 v_points v_faces k_4 l2 = some Rr → W p l e rm_X9_isFlag s m args below meth c H locs 0 0 (MQ below (QI D cI cJ A (w_X9_isFlag cI cJ h g2 g3 g4 g5 g6 g7 g8 g9 g10 g11 g12 g13 g14 g15 g16 g17 g18 g19 g20 g21 g22 g23 g24 g25 g26 v_points v_faces) Rr) args s 0 0 A) (F0 m 32 ls []) := by
  have hx := C0.1.1
  have hb := C0.1.2.1
  intro l2 H locs ls hSt hl hf
  unfold f_X9_isFlag_32 at hf
  refine lv_iconst (v := 1) hx hb dX9_isFlag_32 (by decide) ?_
  refine lv_goto (tgt := 37) hx hb dX9_isFlag_33 (by decide) ?_
  exact k_X9_isFlag_37 C0 hK hA hX hk_4 l2 (1 : Int32) _ _ _ hSt (lv_sub hl [0, 1] rfl) hf
def f_X9_isFlag_36 (v_points : Int32) (v_faces : Int64) (k_4 : Int32 → Int32 → Option (Int32)) (l2 : Int32)  : Option (Int32) := f_X9_isFlag_37 v_points v_faces k_4 l2 (0 : Int32)
set_option maxHeartbeats 4000000 in
set_option maxRecDepth 100000 in
theorem k_X9_isFlag_36 {p : Program} {l : Launch} {e : Env} {s : State} {m : MethodId} {args : Array Value} {below : List Frame} {meth : Method} {c : Code} {A : Nat → Prop} {D : va_G} {cI cJ : ClassId} {h : Nat} {g2 g3 g4 g5 g6 g7 g8 g9 g10 g11 g12 g13 g14 g15 g16 g17 g18 g19 g20 g21 g22 g23 g24 g25 g26 : Value} {v_points : Int32} {v_faces : Int64} (C0 : Cx p s m args meth c cX9_isFlag wsX9_isFlag RX9 3 (some .boolean)) (hK : va_K D vwCl (tyL cI cJ) s) (hA : ∀ q, s.heap.size ≤ q → A q) (hX : XT none A s s.heap) {Rr : Int32} {k_4 : Int32 → Int32 → Option (Int32)} (hk_4 : ∀ (l1 : Int32) (l2 : Int32)  (H : Heap) (locs : List Loc) (ls : Array Slot), St D A s (w_X9_isFlag cI cJ h g2 g3 g4 g5 g6 g7 g8 g9 g10 g11 g12 g13 g14 g15 g16 g17 g18 g19 g20 g21 g22 g23 g24 g25 g26 v_points v_faces) H locs → lv_has ls 3 [(0, .ref h), (1, .int l1), (2, .int l2)] → k_4 l1 l2 = some Rr → W p l e rm_X9_isFlag s m args below meth c H locs 0 0 (MQ below (QI D cI cJ A (w_X9_isFlag cI cJ h g2 g3 g4 g5 g6 g7 g8 g9 g10 g11 g12 g13 g14 g15 g16 g17 g18 g19 g20 g21 g22 g23 g24 g25 g26 v_points v_faces) Rr) args s 0 0 A) (F0 m 4 ls [])) : ∀ (l2 : Int32)  (H : Heap) (locs : List Loc) (ls : Array Slot), St D A s (w_X9_isFlag cI cJ h g2 g3 g4 g5 g6 g7 g8 g9 g10 g11 g12 g13 g14 g15 g16 g17 g18 g19 g20 g21 g22 g23 g24 g25 g26 v_points v_faces) H locs → lv_has ls 3 [(0, .ref h), (2, .int l2)] → f_X9_isFlag_36 v_points v_faces k_4 l2 = some Rr → W p l e rm_X9_isFlag s m args below meth c H locs 0 0 (MQ below (QI D cI cJ A (w_X9_isFlag cI cJ h g2 g3 g4 g5 g6 g7 g8 g9 g10 g11 g12 g13 g14 g15 g16 g17 g18 g19 g20 g21 g22 g23 g24 g25 g26 v_points v_faces) Rr) args s 0 0 A) (F0 m 36 ls []) := by
  have hx := C0.1.1
  have hb := C0.1.2.1
  intro l2 H locs ls hSt hl hf
  unfold f_X9_isFlag_36 at hf
  refine lv_iconst (v := 0) hx hb dX9_isFlag_36 (by decide) ?_
  exact k_X9_isFlag_37 C0 hK hA hX hk_4 l2 (0 : Int32) _ _ _ hSt (lv_sub hl [0, 1] rfl) hf
def f_X9_isFlag_4 (v_points : Int32) (v_faces : Int64)  : Nat → Int32 → Int32 → Option (Int32)
  | 0, _, _ => none
  | n + 1, l1, l2 => (f_X9_all v_points).bind (fun R1 => if R1 < l2 then gd (isb l1) (some l1) else if l1 = 0 then f_X9_isFlag_36 v_points v_faces (f_X9_isFlag_4 v_points v_faces n) l2 else (f_X9_isMissing v_points v_faces l2).bind (fun R2 => if R2 = 0 then f_X9_isFlag_32 v_points v_faces (f_X9_isFlag_4 v_points v_faces n) l2 else (f_X9_size l2).bind (fun R3 => if R3 = (2 : Int32) then f_X9_isFlag_32 v_points v_faces (f_X9_isFlag_4 v_points v_faces n) l2 else f_X9_isFlag_36 v_points v_faces (f_X9_isFlag_4 v_points v_faces n) l2)))
set_option maxHeartbeats 4000000 in
set_option maxRecDepth 100000 in
theorem k_X9_isFlag_4 {p : Program} {l : Launch} {e : Env} {s : State} {m : MethodId} {args : Array Value} {below : List Frame} {meth : Method} {c : Code} {A : Nat → Prop} {D : va_G} {cI cJ : ClassId} {h : Nat} {g2 g3 g4 g5 g6 g7 g8 g9 g10 g11 g12 g13 g14 g15 g16 g17 g18 g19 g20 g21 g22 g23 g24 g25 g26 : Value} {v_points : Int32} {v_faces : Int64} (C0 : Cx p s m args meth c cX9_isFlag wsX9_isFlag RX9 3 (some .boolean)) (hK : va_K D vwCl (tyL cI cJ) s) (hA : ∀ q, s.heap.size ≤ q → A q) (hX : XT none A s s.heap) {Rr : Int32} (n : Nat) : ∀ (l1 : Int32) (l2 : Int32)  (H : Heap) (locs : List Loc) (ls : Array Slot), St D A s (w_X9_isFlag cI cJ h g2 g3 g4 g5 g6 g7 g8 g9 g10 g11 g12 g13 g14 g15 g16 g17 g18 g19 g20 g21 g22 g23 g24 g25 g26 v_points v_faces) H locs → lv_has ls 3 [(0, .ref h), (1, .int l1), (2, .int l2)] → f_X9_isFlag_4 v_points v_faces n l1 l2 = some Rr → W p l e rm_X9_isFlag s m args below meth c H locs 0 0 (MQ below (QI D cI cJ A (w_X9_isFlag cI cJ h g2 g3 g4 g5 g6 g7 g8 g9 g10 g11 g12 g13 g14 g15 g16 g17 g18 g19 g20 g21 g22 g23 g24 g25 g26 v_points v_faces) Rr) args s 0 0 A) (F0 m 4 ls []) := by
  have hx := C0.1.1
  have hb := C0.1.2.1
  induction n with
  | zero => intro l1 l2 H locs ls hSt hl hf; exact nomatch (show (none : Option _) = some Rr from hf)
  | succ n ih =>
    intro l1 l2 H locs ls hSt hl hf
    unfold f_X9_isFlag_4 at hf
    refine lv_iload_n hx hb dX9_isFlag_4 rfl (lv_at hl 2 rfl) ?_
    refine lv_aload_n hx hb dX9_isFlag_5 rfl (lv_at hl 0 rfl) ?_
    obtain ⟨R1, hR1, hf⟩ := Option.bind_eq_some_iff.mp hf
    have sp : Sp (w_X9_isFlag cI cJ h g2 g3 g4 g5 g6 g7 g8 g9 g10 g11 g12 g13 g14 g15 g16 g17 g18 g19 g20 g21 g22 g23 g24 g25 g26 v_points v_faces) (w_X9_all cI cJ h (.long v_faces) g2 g3 g4 g5 g6 g7 g8 g9 g10 g11 g12 g13 g14 g15 g16 g17 g18 g19 g20 g21 g22 g23 g24 g25 g26 v_points) (w_X9_all cI cJ h (.long v_faces) g2 g3 g4 g5 g6 g7 g8 g9 g10 g11 g12 g13 g14 g15 g16 g17 g18 g19 g20 g21 g22 g23 g24 g25 g26 v_points) (w_X9_isFlag cI cJ h g2 g3 g4 g5 g6 g7 g8 g9 g10 g11 g12 g13 g14 g15 g16 g17 g18 g19 g20 g21 g22 g23 g24 g25 g26 v_points v_faces) [0] [] [0] := ⟨rfl, rfl, rfl, by decide, by decide, by decide, by decide⟩
    refine hb_ci (hb_rV (As := []) (rest := [.int l2]) C0 hK hA XT.nn hSt sp (c_X9_all l D cI cJ h (.long v_faces) g2 g3 g4 g5 g6 g7 g8 g9 g10 g11 g12 g13 g14 g15 g16 g17 g18 g19 g20 g21 g22 g23 g24 g25 g26   v_points R1 hR1) gX9_isFlag_X9_all rfl ⟨rfl, rfl⟩ hd_X9_all ⟨Nat.le_of_ble_eq_true rfl, Nat.le_of_ble_eq_true rfl⟩ 0 8 rfl rfl rfl hl rfl (Nat.le_of_ble_eq_true rfl) dX9_isFlag_6 ⟨Nat.zero_le _, Nat.zero_le _⟩) hA hSt sp (fun H locs hSt => ?_)
    refine lv_icmp_gt (tgt := 44) hx hb dX9_isFlag_9 (by decide) (fun cc => ?_) (fun cc => ?_)
    · have hf := ite_t hf cc
      refine lv_iload_n hx hb dX9_isFlag_44 rfl (lv_at hl 1 rfl) ?_
      obtain ⟨hz, hf⟩ := gd_t hf
      cases hf
      exact hb_zret C0 hK hSt (isb_n hz).1 dX9_isFlag_45
    · have hf := ite_f hf cc
      refine lv_iload_n hx hb dX9_isFlag_12 rfl (lv_at hl 1 rfl) ?_
      refine lv_if_eq (tgt := 36) hx hb dX9_isFlag_13 (by decide) (fun cc => ?_) (fun cc => ?_)
      · have hf := ite_t hf cc
        exact k_X9_isFlag_36 C0 hK hA hX ih l2 _ _ _ hSt (lv_sub hl [0, 2] rfl) hf
      · have hf := ite_f hf cc
        refine lv_aload_n hx hb dX9_isFlag_16 rfl (lv_at hl 0 rfl) ?_
        refine lv_iload_n hx hb dX9_isFlag_17 rfl (lv_at hl 2 rfl) ?_
        obtain ⟨R2, hR2, hf⟩ := Option.bind_eq_some_iff.mp hf
        have sp : Sp (w_X9_isFlag cI cJ h g2 g3 g4 g5 g6 g7 g8 g9 g10 g11 g12 g13 g14 g15 g16 g17 g18 g19 g20 g21 g22 g23 g24 g25 g26 v_points v_faces) (w_X9_isMissing cI cJ h g2 g3 g4 g5 g6 g7 g8 g9 g10 g11 g12 g13 g14 g15 g16 g17 g18 g19 g20 g21 g22 g23 g24 g25 g26 v_points v_faces) (w_X9_isMissing cI cJ h g2 g3 g4 g5 g6 g7 g8 g9 g10 g11 g12 g13 g14 g15 g16 g17 g18 g19 g20 g21 g22 g23 g24 g25 g26 v_points v_faces) (w_X9_isFlag cI cJ h g2 g3 g4 g5 g6 g7 g8 g9 g10 g11 g12 g13 g14 g15 g16 g17 g18 g19 g20 g21 g22 g23 g24 g25 g26 v_points v_faces) [0] [] [0] := ⟨rfl, rfl, rfl, by decide, by decide, by decide, by decide⟩
        refine hb_ci (hb_rV (As := [.int l2]) (rest := []) C0 hK hA XT.nn hSt sp (c_X9_isMissing l D cI cJ h g2 g3 g4 g5 g6 g7 g8 g9 g10 g11 g12 g13 g14 g15 g16 g17 g18 g19 g20 g21 g22 g23 g24 g25 g26  l2 v_points v_faces R2 hR2) gX9_isFlag_X9_isMissing rfl ⟨rfl, rfl⟩ hd_X9_isMissing ⟨Nat.le_of_ble_eq_true rfl, Nat.le_of_ble_eq_true rfl⟩ 0 8 rfl rfl rfl hl rfl (Nat.le_of_ble_eq_true rfl) dX9_isFlag_18 ⟨Nat.zero_le _, Nat.zero_le _⟩) hA hSt sp (fun H locs hSt => ?_)
        refine lv_if_eq (tgt := 32) hx hb dX9_isFlag_21 (by decide) (fun cc => ?_) (fun cc => ?_)
        · have hf := ite_t hf cc
          exact k_X9_isFlag_32 C0 hK hA hX ih l2 _ _ _ hSt (lv_sub hl [0, 2] rfl) hf
        · have hf := ite_f hf cc
          refine lv_iload_n hx hb dX9_isFlag_24 rfl (lv_at hl 2 rfl) ?_
          obtain ⟨R3, hR3, hf⟩ := Option.bind_eq_some_iff.mp hf
          have sp : Sp (w_X9_isFlag cI cJ h g2 g3 g4 g5 g6 g7 g8 g9 g10 g11 g12 g13 g14 g15 g16 g17 g18 g19 g20 g21 g22 g23 g24 g25 g26 v_points v_faces) (w_X9_size cI cJ) (w_X9_size cI cJ) (w_X9_isFlag cI cJ h g2 g3 g4 g5 g6 g7 g8 g9 g10 g11 g12 g13 g14 g15 g16 g17 g18 g19 g20 g21 g22 g23 g24 g25 g26 v_points v_faces) [] [0] [0] := ⟨rfl, rfl, rfl, by decide, by decide, by decide, by decide⟩
          refine hb_ci (hb_rS (As := [.int l2]) (rest := []) C0 hK hA XT.nn hSt sp (c_X9_size l D cI cJ   l2  R3 hR3) gX9_isFlag_X9_size rfl ⟨rfl, rfl⟩ hd_X9_size ⟨Nat.le_of_ble_eq_true rfl, Nat.le_of_ble_eq_true rfl⟩ rfl hl rfl (Nat.le_of_ble_eq_true rfl) dX9_isFlag_25 ⟨Nat.zero_le _, Nat.zero_le _⟩) hA hSt sp (fun H locs hSt => ?_)
          refine lv_iconst (v := 2) hx hb dX9_isFlag_28 (by decide) ?_
          refine lv_icmp_ne (tgt := 36) hx hb dX9_isFlag_29 (by decide) (fun cc => ?_) (fun cc => ?_)
          · have hf := ite_f hf cc
            exact k_X9_isFlag_36 C0 hK hA hX ih l2 _ _ _ hSt (lv_sub hl [0, 2] rfl) hf
          · have hf := ite_t hf cc
            exact k_X9_isFlag_32 C0 hK hA hX ih l2 _ _ _ hSt (lv_sub hl [0, 2] rfl) hf
def f_X9_isFlag_0 (v_points : Int32) (v_faces : Int64)    : Option (Int32) := f_X9_isFlag_4 v_points v_faces  FU (1 : Int32) (0 : Int32)
set_option maxHeartbeats 4000000 in
set_option maxRecDepth 100000 in
theorem k_X9_isFlag_0 {p : Program} {l : Launch} {e : Env} {s : State} {m : MethodId} {args : Array Value} {below : List Frame} {meth : Method} {c : Code} {A : Nat → Prop} {D : va_G} {cI cJ : ClassId} {h : Nat} {g2 g3 g4 g5 g6 g7 g8 g9 g10 g11 g12 g13 g14 g15 g16 g17 g18 g19 g20 g21 g22 g23 g24 g25 g26 : Value} {v_points : Int32} {v_faces : Int64} (C0 : Cx p s m args meth c cX9_isFlag wsX9_isFlag RX9 3 (some .boolean)) (hK : va_K D vwCl (tyL cI cJ) s) (hA : ∀ q, s.heap.size ≤ q → A q) (hX : XT none A s s.heap) {Rr : Int32} : ∀   (H : Heap) (locs : List Loc) (ls : Array Slot), St D A s (w_X9_isFlag cI cJ h g2 g3 g4 g5 g6 g7 g8 g9 g10 g11 g12 g13 g14 g15 g16 g17 g18 g19 g20 g21 g22 g23 g24 g25 g26 v_points v_faces) H locs → lv_has ls 3 [(0, .ref h)] → f_X9_isFlag_0 v_points v_faces = some Rr → W p l e rm_X9_isFlag s m args below meth c H locs 0 0 (MQ below (QI D cI cJ A (w_X9_isFlag cI cJ h g2 g3 g4 g5 g6 g7 g8 g9 g10 g11 g12 g13 g14 g15 g16 g17 g18 g19 g20 g21 g22 g23 g24 g25 g26 v_points v_faces) Rr) args s 0 0 A) (F0 m 0 ls []) := by
  have hx := C0.1.1
  have hb := C0.1.2.1
  intro H locs ls hSt hl hf
  unfold f_X9_isFlag_0 at hf
  refine lv_iconst (v := 1) hx hb dX9_isFlag_0 (by decide) ?_
  refine lv_istore_n (lv' := [(1, .int (1 : Int32)), (0, .ref h)]) hx hb dX9_isFlag_1 rfl hl (by decide) rfl (fun ls hl => ?_)
  refine lv_iconst (v := 0) hx hb dX9_isFlag_2 (by decide) ?_
  refine lv_istore_n (lv' := [(2, .int (0 : Int32)), (1, .int (1 : Int32)), (0, .ref h)]) hx hb dX9_isFlag_3 rfl hl (by decide) rfl (fun ls hl => ?_)
  exact k_X9_isFlag_4 C0 hK hA hX  FU (1 : Int32) (0 : Int32) _ _ _ hSt (lv_sub hl [2, 1, 0] rfl) hf
def f_X9_isFlag (v_points : Int32) (v_faces : Int64)   : Option (Int32) := f_X9_isFlag_0 v_points v_faces
set_option maxRecDepth 100000 in
theorem c_X9_isFlag (l : Launch) (D : va_G) (cI cJ : ClassId) (h : Nat) (g2 g3 g4 g5 g6 g7 g8 g9 g10 g11 g12 g13 g14 g15 g16 g17 g18 g19 g20 g21 g22 g23 g24 g25 g26 : Value)  (v_points : Int32) (v_faces : Int64) (Rr : Int32) (hf : f_X9_isFlag v_points v_faces = some Rr) : CtI l yX9_isFlag wsX9_isFlag rm_X9_isFlag D cI cJ none [.ref h] (w_X9_isFlag cI cJ h g2 g3 g4 g5 g6 g7 g8 g9 g10 g11 g12 g13 g14 g15 g16 g17 g18 g19 g20 g21 g22 g23 g24 g25 g26 v_points v_faces) Rr (w_X9_isFlag cI cJ h g2 g3 g4 g5 g6 g7 g8 g9 g10 g11 g12 g13 g14 g15 g16 g17 g18 g19 g20 g21 g22 g23 g24 g25 g26 v_points v_faces) :=
  fun sz => BodyW.met (av := [.ref h]) (Qc := fun A => QI D cI cJ A (w_X9_isFlag cI cJ h g2 g3 g4 g5 g6 g7 g8 g9 g10 g11 g12 g13 g14 g15 g16 g17 g18 g19 g20 g21 g22 g23 g24 g25 g26 v_points v_faces) Rr) (by decide) rfl rfl (Nat.le_of_ble_eq_true rfl) (fun C0 hK hA hX ls hSt hl => k_X9_isFlag_0 C0 hK hA hX   _ _ ls hSt hl hf) sz
/-! X9 clear -/
abbrev rm_X9_clear : Room := { frames := 0, cells := 0, slots := 0, locals := 0 }
abbrev w_X9_clear (cI cJ : ClassId) (h : Nat) (h_base : Nat) (g0 : Value) (g1 : Value) (g2 : Value) (g3 : Value) (g4 : Value) (g6 : Value) (g7 : Value) (g8 : Value) (g9 : Value) (g10 : Value) (g11 : Value) (g12 : Value) (g13 : Value) (g14 : Value) (g15 : Value) (g16 : Value) (g17 : Value) (g18 : Value) (g19 : Value) (g20 : Value) (g21 : Value) (g22 : Value) (g23 : Value) (g24 : Value) (g25 : Value) (g26 : Value) (v_base : Nat → Int64) : va_W := [(h, .inr (8, [g0, g1, g2, g3, g4, .ref h_base, g6, g7, g8, g9, g10, g11, g12, g13, g14, g15, g16, g17, g18, g19, g20, g21, g22, g23, g24, g25, g26])), (h_base, .inl (cJ, 64, .inr (.inl v_base)))]
theorem iu_X9_clear_X9 : ∀ w ∈ wsX90, w ∈ wsX9_clear := by decide +kernel
theorem fl_X9_clear_25 : Cond.fieldLink RX9 25 (TX9 5).1 (TX9 5).2.1 (TX9 5).2.2.1 ∈ wsX9_clear := by decide +kernel
theorem hd_X9_clear : yX9_clear.cls = RX9 ∧ yX9_clear.cls ≠ "java/lang/invoke/MethodHandle" ∧ yX9_clear.cls ≠ "java/lang/invoke/VarHandle" ∧ (parseMethodDescriptor yX9_clear.desc).map (fun d => d.parameters.length) = some 0 := by decide +kernel
def f_X9_clear_2   : Nat → Int32 → (Nat → Int64) → Option ((Nat → Int64))
  | 0, _, _ => none
  | n + 1, l1, v_base => if (64 : Int32) ≤ l1 then some v_base else gd (ix l1 64) ((f_X9_clear_2 n) (l1 + 1) (vp_updL v_base l1.toNatClampNeg (0 : Int64)))
set_option maxHeartbeats 4000000 in
set_option maxRecDepth 100000 in
theorem k_X9_clear_2 {p : Program} {l : Launch} {e : Env} {s : State} {m : MethodId} {args : Array Value} {below : List Frame} {meth : Method} {c : Code} {A : Nat → Prop} {D : va_G} {cI cJ : ClassId} {h h_base : Nat} {g0 g1 g2 g3 g4 g6 g7 g8 g9 g10 g11 g12 g13 g14 g15 g16 g17 g18 g19 g20 g21 g22 g23 g24 g25 g26 : Value}  (C0 : Cx p s m args meth c cX9_clear wsX9_clear RX9 2 none) (hK : va_K D vwCl (tyL cI cJ) s) (hA : ∀ q, s.heap.size ≤ q → A q) (hX : XT none A s s.heap) {Rr : (Nat → Int64)} (n : Nat) : ∀ (l1 : Int32) (v_base : Nat → Int64) (H : Heap) (locs : List Loc) (ls : Array Slot), St D A s (w_X9_clear cI cJ h h_base g0 g1 g2 g3 g4 g6 g7 g8 g9 g10 g11 g12 g13 g14 g15 g16 g17 g18 g19 g20 g21 g22 g23 g24 g25 g26 v_base) H locs → lv_has ls 2 [(0, .ref h), (1, .int l1)] → f_X9_clear_2 n l1 v_base = some Rr → W p l e rm_X9_clear s m args below meth c H locs 0 0 (MQ below (QV D cI cJ A (w_X9_clear cI cJ h h_base g0 g1 g2 g3 g4 g6 g7 g8 g9 g10 g11 g12 g13 g14 g15 g16 g17 g18 g19 g20 g21 g22 g23 g24 g25 g26 Rr)) args s 0 0 A) (F0 m 2 ls []) := by
  have hx := C0.1.1
  have hb := C0.1.2.1
  induction n with
  | zero => intro l1 v_base H locs ls hSt hl hf; exact nomatch (show (none : Option _) = some Rr from hf)
  | succ n ih =>
    intro l1 v_base H locs ls hSt hl hf
    unfold f_X9_clear_2 at hf
    refine lv_iload_n hx hb dX9_clear_2 rfl (lv_at hl 1 rfl) ?_
    refine lv_bipush (v := 64) hx hb dX9_clear_3 (by decide) ?_
    refine lv_icmp_ge (tgt := 21) hx hb dX9_clear_5 (by decide) (fun cc => ?_) (fun cc => ?_)
    · have hf := ite_t hf cc
      cases hf
      exact hb_vret C0 hK hSt dX9_clear_21
    · have hf := ite_f hf cc
      refine lv_aload_n hx hb dX9_clear_8 rfl (lv_at hl 0 rfl) ?_
      refine hb_get C0 hK hSt 0 8 5 rfl rfl iu_X9_clear_X9 (by decide) fl_X9_clear_25 rfl dX9_clear_9 ?_
      refine lv_iload_n hx hb dX9_clear_12 rfl (lv_at hl 1 rfl) ?_
      refine lv_lconst (v := 0) hx hb dX9_clear_13 (by decide) ?_
      obtain ⟨hi, hf⟩ := gd_t hf
      refine hb_last C0 hK hSt 1 rfl hi (w' := w_X9_clear cI cJ h h_base g0 g1 g2 g3 g4 g6 g7 g8 g9 g10 g11 g12 g13 g14 g15 g16 g17 g18 g19 g20 g21 g22 g23 g24 g25 g26 (vp_updL v_base l1.toNatClampNeg (0 : Int64))) rfl dX9_clear_14 (fun H locs hSt => ?_)
      refine lv_iinc (v := l1 + 1) (lv' := [(1, .int (l1 + 1)), (0, .ref h)]) hx hb dX9_clear_15 hl (k := 1) rfl rfl (by decide) rfl (fun ls hl => ?_)
      refine lv_goto (tgt := 2) hx hb dX9_clear_18 (by decide) ?_
      exact ih (l1 + 1) (vp_updL v_base l1.toNatClampNeg (0 : Int64)) _ _ _ hSt (lv_sub hl [1, 0] rfl) hf
def f_X9_clear_0    (v_base : Nat → Int64) : Option ((Nat → Int64)) := f_X9_clear_2   FU (0 : Int32) v_base
set_option maxHeartbeats 4000000 in
set_option maxRecDepth 100000 in
theorem k_X9_clear_0 {p : Program} {l : Launch} {e : Env} {s : State} {m : MethodId} {args : Array Value} {below : List Frame} {meth : Method} {c : Code} {A : Nat → Prop} {D : va_G} {cI cJ : ClassId} {h h_base : Nat} {g0 g1 g2 g3 g4 g6 g7 g8 g9 g10 g11 g12 g13 g14 g15 g16 g17 g18 g19 g20 g21 g22 g23 g24 g25 g26 : Value}  (C0 : Cx p s m args meth c cX9_clear wsX9_clear RX9 2 none) (hK : va_K D vwCl (tyL cI cJ) s) (hA : ∀ q, s.heap.size ≤ q → A q) (hX : XT none A s s.heap) {Rr : (Nat → Int64)} : ∀  (v_base : Nat → Int64) (H : Heap) (locs : List Loc) (ls : Array Slot), St D A s (w_X9_clear cI cJ h h_base g0 g1 g2 g3 g4 g6 g7 g8 g9 g10 g11 g12 g13 g14 g15 g16 g17 g18 g19 g20 g21 g22 g23 g24 g25 g26 v_base) H locs → lv_has ls 2 [(0, .ref h)] → f_X9_clear_0 v_base = some Rr → W p l e rm_X9_clear s m args below meth c H locs 0 0 (MQ below (QV D cI cJ A (w_X9_clear cI cJ h h_base g0 g1 g2 g3 g4 g6 g7 g8 g9 g10 g11 g12 g13 g14 g15 g16 g17 g18 g19 g20 g21 g22 g23 g24 g25 g26 Rr)) args s 0 0 A) (F0 m 0 ls []) := by
  have hx := C0.1.1
  have hb := C0.1.2.1
  intro v_base H locs ls hSt hl hf
  unfold f_X9_clear_0 at hf
  refine lv_iconst (v := 0) hx hb dX9_clear_0 (by decide) ?_
  refine lv_istore_n (lv' := [(1, .int (0 : Int32)), (0, .ref h)]) hx hb dX9_clear_1 rfl hl (by decide) rfl (fun ls hl => ?_)
  exact k_X9_clear_2 C0 hK hA hX  FU (0 : Int32) v_base _ _ _ hSt (lv_sub hl [1, 0] rfl) hf
def f_X9_clear   (v_base : Nat → Int64) : Option ((Nat → Int64)) := f_X9_clear_0 v_base
set_option maxRecDepth 100000 in
theorem c_X9_clear (l : Launch) (D : va_G) (cI cJ : ClassId) (h h_base : Nat) (g0 g1 g2 g3 g4 g6 g7 g8 g9 g10 g11 g12 g13 g14 g15 g16 g17 g18 g19 g20 g21 g22 g23 g24 g25 g26 : Value)  (v_base : Nat → Int64) (Rr : (Nat → Int64)) (hf : f_X9_clear v_base = some Rr) : CtV l yX9_clear wsX9_clear rm_X9_clear D cI cJ none [.ref h] (w_X9_clear cI cJ h h_base g0 g1 g2 g3 g4 g6 g7 g8 g9 g10 g11 g12 g13 g14 g15 g16 g17 g18 g19 g20 g21 g22 g23 g24 g25 g26 v_base) (w_X9_clear cI cJ h h_base g0 g1 g2 g3 g4 g6 g7 g8 g9 g10 g11 g12 g13 g14 g15 g16 g17 g18 g19 g20 g21 g22 g23 g24 g25 g26 Rr) :=
  fun sz => BodyW.met (av := [.ref h]) (Qc := fun A => QV D cI cJ A (w_X9_clear cI cJ h h_base g0 g1 g2 g3 g4 g6 g7 g8 g9 g10 g11 g12 g13 g14 g15 g16 g17 g18 g19 g20 g21 g22 g23 g24 g25 g26 Rr)) (by decide) rfl rfl (Nat.le_of_ble_eq_true rfl) (fun C0 hK hA hX ls hSt hl => k_X9_clear_0 C0 hK hA hX  v_base _ _ ls hSt hl hf) sz
/-! X9 lays -/
abbrev rm_X9_lays : Room := { frames := 0, cells := 0, slots := 0, locals := 0 }
abbrev w_X9_lays (cI cJ : ClassId) (h : Nat) (h_base : Nat) (g0 : Value) (g1 : Value) (g2 : Value) (g3 : Value) (g4 : Value) (g6 : Value) (g7 : Value) (g8 : Value) (g9 : Value) (g10 : Value) (g11 : Value) (g12 : Value) (g13 : Value) (g14 : Value) (g15 : Value) (g16 : Value) (g17 : Value) (g18 : Value) (g19 : Value) (g20 : Value) (g21 : Value) (g22 : Value) (g23 : Value) (g24 : Value) (g25 : Value) (g26 : Value) (v_base : Nat → Int64) : va_W := [(h, .inr (8, [g0, g1, g2, g3, g4, .ref h_base, g6, g7, g8, g9, g10, g11, g12, g13, g14, g15, g16, g17, g18, g19, g20, g21, g22, g23, g24, g25, g26])), (h_base, .inl (cJ, 64, .inr (.inl v_base)))]
theorem iu_X9_lays_X9 : ∀ w ∈ wsX90, w ∈ wsX9_lays := by decide +kernel
theorem fl_X9_lays_25 : Cond.fieldLink RX9 25 (TX9 5).1 (TX9 5).2.1 (TX9 5).2.2.1 ∈ wsX9_lays := by decide +kernel
theorem hd_X9_lays : yX9_lays.cls = RX9 ∧ yX9_lays.cls ≠ "java/lang/invoke/MethodHandle" ∧ yX9_lays.cls ≠ "java/lang/invoke/VarHandle" ∧ (parseMethodDescriptor yX9_lays.desc).map (fun d => d.parameters.length) = some 1 := by decide +kernel
def f_X9_lays_6   : Nat → Int64 → Int32 → (Nat → Int64) → Option (Int32 × (Nat → Int64))
  | 0, _, _, _ => none
  | n + 1, l3, l5, v_base => if l5 < 0 then some ((0 : Int32), v_base) else if ((l3 >>> (l5.toInt64 &&& 63)) &&& (1 : Int64)) = (0 : Int64) then (f_X9_lays_6 n) l3 (l5 + (-1)) v_base else gd (ix l5 64) (if (v_base l5.toNatClampNeg) = (0 : Int64) then gd (ix l5 64) (some ((1 : Int32), vp_updL v_base l5.toNatClampNeg l3)) else gd (ix l5 64) (bnd (l3 ^^^ (v_base l5.toNatClampNeg)) (fun l3_1 => (f_X9_lays_6 n) l3_1 (l5 + (-1)) v_base)))
set_option maxHeartbeats 4000000 in
set_option maxRecDepth 100000 in
theorem k_X9_lays_6 {p : Program} {l : Launch} {e : Env} {s : State} {m : MethodId} {args : Array Value} {below : List Frame} {meth : Method} {c : Code} {A : Nat → Prop} {D : va_G} {cI cJ : ClassId} {h h_base : Nat} {g0 g1 g2 g3 g4 g6 g7 g8 g9 g10 g11 g12 g13 g14 g15 g16 g17 g18 g19 g20 g21 g22 g23 g24 g25 g26 : Value}  (C0 : Cx p s m args meth c cX9_lays wsX9_lays RX9 6 (some .boolean)) (hK : va_K D vwCl (tyL cI cJ) s) (hA : ∀ q, s.heap.size ≤ q → A q) (hX : XT none A s s.heap) {Rr : Int32 × (Nat → Int64)} (n : Nat) : ∀ (l3 : Int64) (l5 : Int32) (v_base : Nat → Int64) (H : Heap) (locs : List Loc) (ls : Array Slot), St D A s (w_X9_lays cI cJ h h_base g0 g1 g2 g3 g4 g6 g7 g8 g9 g10 g11 g12 g13 g14 g15 g16 g17 g18 g19 g20 g21 g22 g23 g24 g25 g26 v_base) H locs → lv_has ls 6 [(0, .ref h), (3, .long l3), (5, .int l5)] → f_X9_lays_6 n l3 l5 v_base = some Rr → W p l e rm_X9_lays s m args below meth c H locs 0 0 (MQ below (QI D cI cJ A (w_X9_lays cI cJ h h_base g0 g1 g2 g3 g4 g6 g7 g8 g9 g10 g11 g12 g13 g14 g15 g16 g17 g18 g19 g20 g21 g22 g23 g24 g25 g26 Rr.2) Rr.1) args s 0 0 A) (F0 m 6 ls []) := by
  have hx := C0.1.1
  have hb := C0.1.2.1
  induction n with
  | zero => intro l3 l5 v_base H locs ls hSt hl hf; exact nomatch (show (none : Option _) = some Rr from hf)
  | succ n ih =>
    intro l3 l5 v_base H locs ls hSt hl hf
    unfold f_X9_lays_6 at hf
    refine lv_iload hx hb dX9_lays_6 (lv_at hl 2 rfl) ?_
    refine lv_if_lt (tgt := 63) hx hb dX9_lays_8 (by decide) (fun cc => ?_) (fun cc => ?_)
    · have hf := ite_t hf cc
      refine lv_iconst (v := 0) hx hb dX9_lays_63 (by decide) ?_
      cases hf
      exact hb_zret C0 hK hSt nb0.1 dX9_lays_64
    · have hf := ite_f hf cc
      refine lv_lload_n hx hb dX9_lays_11 rfl (lv_at hl 1 rfl) ?_
      refine lv_iload hx hb dX9_lays_12 (lv_at hl 2 rfl) ?_
      refine lv_lshr (v := l3 >>> (l5.toInt64 &&& 63)) hx hb dX9_lays_14 rfl ?_
      refine lv_lconst (v := 1) hx hb dX9_lays_15 (by decide) ?_
      refine lv_land hx hb dX9_lays_16 ?_
      refine lv_lconst (v := 0) hx hb dX9_lays_17 (by decide) ?_
      refine W.lcmp hx hb dX9_lays_18 ?_
      refine lv_if_ne (tgt := 25) hx hb dX9_lays_19 (by decide) (fun cc => ?_) (fun cc => ?_)
      · have hf := ite_f hf (lc_f cc)
        refine lv_aload_n hx hb dX9_lays_25 rfl (lv_at hl 0 rfl) ?_
        refine hb_get C0 hK hSt 0 8 5 rfl rfl iu_X9_lays_X9 (by decide) fl_X9_lays_25 rfl dX9_lays_26 ?_
        refine lv_iload hx hb dX9_lays_29 (lv_at hl 2 rfl) ?_
        obtain ⟨hi, hf⟩ := gd_t hf
        refine hb_lald C0 hK hSt 1 rfl hi dX9_lays_31 ?_
        refine lv_lconst (v := 0) hx hb dX9_lays_32 (by decide) ?_
        refine W.lcmp hx hb dX9_lays_33 ?_
        refine lv_if_ne (tgt := 47) hx hb dX9_lays_34 (by decide) (fun cc => ?_) (fun cc => ?_)
        · have hf := ite_f hf (lc_f cc)
          refine lv_lload_n hx hb dX9_lays_47 rfl (lv_at hl 1 rfl) ?_
          refine lv_aload_n hx hb dX9_lays_48 rfl (lv_at hl 0 rfl) ?_
          refine hb_get C0 hK hSt 0 8 5 rfl rfl iu_X9_lays_X9 (by decide) fl_X9_lays_25 rfl dX9_lays_49 ?_
          refine lv_iload hx hb dX9_lays_52 (lv_at hl 2 rfl) ?_
          obtain ⟨hi, hf⟩ := gd_t hf
          refine hb_lald C0 hK hSt 1 rfl hi dX9_lays_54 ?_
          refine lv_lxor hx hb dX9_lays_55 ?_
          refine tp_l hf (fun l3_1 hf => ?_)
          refine lv_lstore_n (lv' := [(3, .long l3_1), (0, .ref h), (5, .int l5)]) hx hb dX9_lays_56 rfl hl (by decide) rfl (fun ls hl => ?_)
          refine lv_iinc (v := l5 + (-1)) (lv' := [(5, .int (l5 + (-1))), (3, .long l3_1), (0, .ref h)]) hx hb dX9_lays_57 hl (k := 2) rfl rfl (by decide) rfl (fun ls hl => ?_)
          refine lv_goto (tgt := 6) hx hb dX9_lays_60 (by decide) ?_
          exact ih l3_1 (l5 + (-1)) v_base _ _ _ hSt (lv_sub hl [2, 1, 0] rfl) hf
        · have hf := ite_t hf (lc_t cc)
          refine lv_aload_n hx hb dX9_lays_37 rfl (lv_at hl 0 rfl) ?_
          refine hb_get C0 hK hSt 0 8 5 rfl rfl iu_X9_lays_X9 (by decide) fl_X9_lays_25 rfl dX9_lays_38 ?_
          refine lv_iload hx hb dX9_lays_41 (lv_at hl 2 rfl) ?_
          refine lv_lload_n hx hb dX9_lays_43 rfl (lv_at hl 1 rfl) ?_
          obtain ⟨hi, hf⟩ := gd_t hf
          refine hb_last C0 hK hSt 1 rfl hi (w' := w_X9_lays cI cJ h h_base g0 g1 g2 g3 g4 g6 g7 g8 g9 g10 g11 g12 g13 g14 g15 g16 g17 g18 g19 g20 g21 g22 g23 g24 g25 g26 (vp_updL v_base l5.toNatClampNeg l3)) rfl dX9_lays_44 (fun H locs hSt => ?_)
          refine lv_iconst (v := 1) hx hb dX9_lays_45 (by decide) ?_
          cases hf
          exact hb_zret C0 hK hSt nb1.1 dX9_lays_46
      · have hf := ite_t hf (lc_t cc)
        refine lv_goto (tgt := 57) hx hb dX9_lays_22 (by decide) ?_
        refine lv_iinc (v := l5 + (-1)) (lv' := [(5, .int (l5 + (-1))), (0, .ref h), (3, .long l3)]) hx hb dX9_lays_57 hl (k := 2) rfl rfl (by decide) rfl (fun ls hl => ?_)
        refine lv_goto (tgt := 6) hx hb dX9_lays_60 (by decide) ?_
        exact ih l3 (l5 + (-1)) v_base _ _ _ hSt (lv_sub hl [1, 2, 0] rfl) hf
def f_X9_lays_0   (l1 : Int64) (v_base : Nat → Int64) : Option (Int32 × (Nat → Int64)) := f_X9_lays_6   FU l1 (63 : Int32) v_base
set_option maxHeartbeats 4000000 in
set_option maxRecDepth 100000 in
theorem k_X9_lays_0 {p : Program} {l : Launch} {e : Env} {s : State} {m : MethodId} {args : Array Value} {below : List Frame} {meth : Method} {c : Code} {A : Nat → Prop} {D : va_G} {cI cJ : ClassId} {h h_base : Nat} {g0 g1 g2 g3 g4 g6 g7 g8 g9 g10 g11 g12 g13 g14 g15 g16 g17 g18 g19 g20 g21 g22 g23 g24 g25 g26 : Value}  (C0 : Cx p s m args meth c cX9_lays wsX9_lays RX9 6 (some .boolean)) (hK : va_K D vwCl (tyL cI cJ) s) (hA : ∀ q, s.heap.size ≤ q → A q) (hX : XT none A s s.heap) {Rr : Int32 × (Nat → Int64)} : ∀ (l1 : Int64) (v_base : Nat → Int64) (H : Heap) (locs : List Loc) (ls : Array Slot), St D A s (w_X9_lays cI cJ h h_base g0 g1 g2 g3 g4 g6 g7 g8 g9 g10 g11 g12 g13 g14 g15 g16 g17 g18 g19 g20 g21 g22 g23 g24 g25 g26 v_base) H locs → lv_has ls 6 [(0, .ref h), (1, .long l1)] → f_X9_lays_0 l1 v_base = some Rr → W p l e rm_X9_lays s m args below meth c H locs 0 0 (MQ below (QI D cI cJ A (w_X9_lays cI cJ h h_base g0 g1 g2 g3 g4 g6 g7 g8 g9 g10 g11 g12 g13 g14 g15 g16 g17 g18 g19 g20 g21 g22 g23 g24 g25 g26 Rr.2) Rr.1) args s 0 0 A) (F0 m 0 ls []) := by
  have hx := C0.1.1
  have hb := C0.1.2.1
  intro l1 v_base H locs ls hSt hl hf
  unfold f_X9_lays_0 at hf
  refine lv_lload_n hx hb dX9_lays_0 rfl (lv_at hl 1 rfl) ?_
  refine lv_lstore_n (lv' := [(3, .long l1), (0, .ref h), (1, .long l1)]) hx hb dX9_lays_1 rfl hl (by decide) rfl (fun ls hl => ?_)
  refine lv_bipush (v := 63) hx hb dX9_lays_2 (by decide) ?_
  refine lv_istore (lv' := [(5, .int (63 : Int32)), (3, .long l1), (0, .ref h), (1, .long l1)]) hx hb dX9_lays_4 hl (by decide) rfl (fun ls hl => ?_)
  exact k_X9_lays_6 C0 hK hA hX  FU l1 (63 : Int32) v_base _ _ _ hSt (lv_sub hl [2, 1, 0] rfl) hf
def f_X9_lays  (l1 : Int64) (v_base : Nat → Int64) : Option (Int32 × (Nat → Int64)) := f_X9_lays_0 l1 v_base
set_option maxRecDepth 100000 in
theorem c_X9_lays (l : Launch) (D : va_G) (cI cJ : ClassId) (h h_base : Nat) (g0 g1 g2 g3 g4 g6 g7 g8 g9 g10 g11 g12 g13 g14 g15 g16 g17 g18 g19 g20 g21 g22 g23 g24 g25 g26 : Value) (l1 : Int64) (v_base : Nat → Int64) (Rr : Int32 × (Nat → Int64)) (hf : f_X9_lays l1 v_base = some Rr) : CtI l yX9_lays wsX9_lays rm_X9_lays D cI cJ none [.ref h, .long l1] (w_X9_lays cI cJ h h_base g0 g1 g2 g3 g4 g6 g7 g8 g9 g10 g11 g12 g13 g14 g15 g16 g17 g18 g19 g20 g21 g22 g23 g24 g25 g26 v_base) Rr.1 (w_X9_lays cI cJ h h_base g0 g1 g2 g3 g4 g6 g7 g8 g9 g10 g11 g12 g13 g14 g15 g16 g17 g18 g19 g20 g21 g22 g23 g24 g25 g26 Rr.2) :=
  fun sz => BodyW.met (av := [.ref h, .long l1]) (Qc := fun A => QI D cI cJ A (w_X9_lays cI cJ h h_base g0 g1 g2 g3 g4 g6 g7 g8 g9 g10 g11 g12 g13 g14 g15 g16 g17 g18 g19 g20 g21 g22 g23 g24 g25 g26 Rr.2) Rr.1) (by decide) rfl rfl (Nat.le_of_ble_eq_true rfl) (fun C0 hK hA hX ls hSt hl => k_X9_lays_0 C0 hK hA hX l1 v_base _ _ ls hSt hl hf) sz
/-! X9 border -/
abbrev rm_X9_border : Room := { frames := 0, cells := 0, slots := 0, locals := 0 }
abbrev w_X9_border (cI cJ : ClassId) (h : Nat) (g1 : Value) (g2 : Value) (g3 : Value) (g4 : Value) (g5 : Value) (g6 : Value) (g7 : Value) (g8 : Value) (g9 : Value) (g10 : Value) (g11 : Value) (g12 : Value) (g13 : Value) (g14 : Value) (g15 : Value) (g16 : Value) (g17 : Value) (g18 : Value) (g19 : Value) (g20 : Value) (g21 : Value) (g22 : Value) (g23 : Value) (g24 : Value) (g25 : Value) (g26 : Value) (v_points : Int32) : va_W := [(h, .inr (8, [.int v_points, g1, g2, g3, g4, g5, g6, g7, g8, g9, g10, g11, g12, g13, g14, g15, g16, g17, g18, g19, g20, g21, g22, g23, g24, g25, g26]))]
theorem iu_X9_border_X9 : ∀ w ∈ wsX90, w ∈ wsX9_border := by decide +kernel
theorem fl_X9_border_7 : Cond.fieldLink RX9 7 (TX9 0).1 (TX9 0).2.1 (TX9 0).2.2.1 ∈ wsX9_border := by decide +kernel
theorem hd_X9_border : yX9_border.cls = RX9 ∧ yX9_border.cls ≠ "java/lang/invoke/MethodHandle" ∧ yX9_border.cls ≠ "java/lang/invoke/VarHandle" ∧ (parseMethodDescriptor yX9_border.desc).map (fun d => d.parameters.length) = some 1 := by decide +kernel
def f_X9_border_39 (v_points : Int32) (k_5 : Int32 → Int64 → Int32 → Option (Int64)) (l1 : Int32) (l4 : Int32) (s0 : Int64) (s1 : Int64)  : Option (Int64) := k_5 l1 (s1 ^^^ s0) (l4 + 1)
set_option maxHeartbeats 4000000 in
set_option maxRecDepth 100000 in
theorem k_X9_border_39 {p : Program} {l : Launch} {e : Env} {s : State} {m : MethodId} {args : Array Value} {below : List Frame} {meth : Method} {c : Code} {A : Nat → Prop} {D : va_G} {cI cJ : ClassId} {h : Nat} {g1 g2 g3 g4 g5 g6 g7 g8 g9 g10 g11 g12 g13 g14 g15 g16 g17 g18 g19 g20 g21 g22 g23 g24 g25 g26 : Value} {v_points : Int32} (C0 : Cx p s m args meth c cX9_border wsX9_border RX9 5 (some .long)) (hK : va_K D vwCl (tyL cI cJ) s) (hA : ∀ q, s.heap.size ≤ q → A q) (hX : XT none A s s.heap) {Rr : Int64} {k_5 : Int32 → Int64 → Int32 → Option (Int64)} (hk_5 : ∀ (l1 : Int32) (l2 : Int64) (l4 : Int32)  (H : Heap) (locs : List Loc) (ls : Array Slot), St D A s (w_X9_border cI cJ h g1 g2 g3 g4 g5 g6 g7 g8 g9 g10 g11 g12 g13 g14 g15 g16 g17 g18 g19 g20 g21 g22 g23 g24 g25 g26 v_points) H locs → lv_has ls 5 [(0, .ref h), (1, .int l1), (2, .long l2), (4, .int l4)] → k_5 l1 l2 l4 = some Rr → W p l e rm_X9_border s m args below meth c H locs 0 0 (MQ below (QL D cI cJ A (w_X9_border cI cJ h g1 g2 g3 g4 g5 g6 g7 g8 g9 g10 g11 g12 g13 g14 g15 g16 g17 g18 g19 g20 g21 g22 g23 g24 g25 g26 v_points) Rr) args s 0 0 A) (F0 m 5 ls [])) : ∀ (l1 : Int32) (l4 : Int32) (s0 : Int64) (s1 : Int64)  (H : Heap) (locs : List Loc) (ls : Array Slot), St D A s (w_X9_border cI cJ h g1 g2 g3 g4 g5 g6 g7 g8 g9 g10 g11 g12 g13 g14 g15 g16 g17 g18 g19 g20 g21 g22 g23 g24 g25 g26 v_points) H locs → lv_has ls 5 [(0, .ref h), (1, .int l1), (4, .int l4)] → f_X9_border_39 v_points k_5 l1 l4 s0 s1 = some Rr → W p l e rm_X9_border s m args below meth c H locs 0 0 (MQ below (QL D cI cJ A (w_X9_border cI cJ h g1 g2 g3 g4 g5 g6 g7 g8 g9 g10 g11 g12 g13 g14 g15 g16 g17 g18 g19 g20 g21 g22 g23 g24 g25 g26 v_points) Rr) args s 0 0 A) (F0 m 39 ls [.long s0, .long s1]) := by
  have hx := C0.1.1
  have hb := C0.1.2.1
  intro l1 l4 s0 s1 H locs ls hSt hl hf
  unfold f_X9_border_39 at hf
  refine lv_lxor hx hb dX9_border_39 ?_
  refine lv_lstore_n (lv' := [(2, .long (s1 ^^^ s0)), (0, .ref h), (1, .int l1), (4, .int l4)]) hx hb dX9_border_40 rfl hl (by decide) rfl (fun ls hl => ?_)
  refine lv_iinc (v := l4 + 1) (lv' := [(4, .int (l4 + 1)), (2, .long (s1 ^^^ s0)), (0, .ref h), (1, .int l1)]) hx hb dX9_border_41 hl (k := 3) rfl rfl (by decide) rfl (fun ls hl => ?_)
  refine lv_goto (tgt := 5) hx hb dX9_border_44 (by decide) ?_
  exact hk_5 l1 (s1 ^^^ s0) (l4 + 1) _ _ _ hSt (lv_sub hl [2, 3, 1, 0] rfl) hf
def f_X9_border_5 (v_points : Int32)  : Nat → Int32 → Int64 → Int32 → Option (Int64)
  | 0, _, _, _ => none
  | n + 1, l1, l2, l4 => if v_points ≤ l4 then some l2 else if ((l1 >>> (l4 &&& 31)) &&& (1 : Int32)) = (1 : Int32) then f_X9_border_39 v_points (f_X9_border_5 v_points n) l1 l4 ((1 : Int64) <<< ((l1 &&& (((1 : Int32) <<< (l4 &&& 31)) ^^^ (-1 : Int32))).toInt64 &&& 63)) l2 else f_X9_border_39 v_points (f_X9_border_5 v_points n) l1 l4 (0 : Int64) l2
set_option maxHeartbeats 4000000 in
set_option maxRecDepth 100000 in
theorem k_X9_border_5 {p : Program} {l : Launch} {e : Env} {s : State} {m : MethodId} {args : Array Value} {below : List Frame} {meth : Method} {c : Code} {A : Nat → Prop} {D : va_G} {cI cJ : ClassId} {h : Nat} {g1 g2 g3 g4 g5 g6 g7 g8 g9 g10 g11 g12 g13 g14 g15 g16 g17 g18 g19 g20 g21 g22 g23 g24 g25 g26 : Value} {v_points : Int32} (C0 : Cx p s m args meth c cX9_border wsX9_border RX9 5 (some .long)) (hK : va_K D vwCl (tyL cI cJ) s) (hA : ∀ q, s.heap.size ≤ q → A q) (hX : XT none A s s.heap) {Rr : Int64} (n : Nat) : ∀ (l1 : Int32) (l2 : Int64) (l4 : Int32)  (H : Heap) (locs : List Loc) (ls : Array Slot), St D A s (w_X9_border cI cJ h g1 g2 g3 g4 g5 g6 g7 g8 g9 g10 g11 g12 g13 g14 g15 g16 g17 g18 g19 g20 g21 g22 g23 g24 g25 g26 v_points) H locs → lv_has ls 5 [(0, .ref h), (1, .int l1), (2, .long l2), (4, .int l4)] → f_X9_border_5 v_points n l1 l2 l4 = some Rr → W p l e rm_X9_border s m args below meth c H locs 0 0 (MQ below (QL D cI cJ A (w_X9_border cI cJ h g1 g2 g3 g4 g5 g6 g7 g8 g9 g10 g11 g12 g13 g14 g15 g16 g17 g18 g19 g20 g21 g22 g23 g24 g25 g26 v_points) Rr) args s 0 0 A) (F0 m 5 ls []) := by
  have hx := C0.1.1
  have hb := C0.1.2.1
  induction n with
  | zero => intro l1 l2 l4 H locs ls hSt hl hf; exact nomatch (show (none : Option _) = some Rr from hf)
  | succ n ih =>
    intro l1 l2 l4 H locs ls hSt hl hf
    unfold f_X9_border_5 at hf
    refine lv_iload hx hb dX9_border_5 (lv_at hl 3 rfl) ?_
    refine lv_aload_n hx hb dX9_border_7 rfl (lv_at hl 0 rfl) ?_
    refine hb_get C0 hK hSt 0 8 0 rfl rfl iu_X9_border_X9 (by decide) fl_X9_border_7 rfl dX9_border_8 ?_
    refine lv_icmp_ge (tgt := 47) hx hb dX9_border_11 (by decide) (fun cc => ?_) (fun cc => ?_)
    · have hf := ite_t hf cc
      refine lv_lload_n hx hb dX9_border_47 rfl (lv_at hl 2 rfl) ?_
      cases hf
      exact hb_lret C0 hK hSt dX9_border_48
    · have hf := ite_f hf cc
      refine lv_lload_n hx hb dX9_border_14 rfl (lv_at hl 2 rfl) ?_
      refine lv_iload_n hx hb dX9_border_15 rfl (lv_at hl 1 rfl) ?_
      refine lv_iload hx hb dX9_border_16 (lv_at hl 3 rfl) ?_
      refine lv_ishr hx hb dX9_border_18 ?_
      refine lv_iconst (v := 1) hx hb dX9_border_19 (by decide) ?_
      refine lv_iand hx hb dX9_border_20 ?_
      refine lv_iconst (v := 1) hx hb dX9_border_21 (by decide) ?_
      refine lv_icmp_ne (tgt := 38) hx hb dX9_border_22 (by decide) (fun cc => ?_) (fun cc => ?_)
      · have hf := ite_f hf cc
        refine lv_lconst (v := 0) hx hb dX9_border_38 (by decide) ?_
        exact k_X9_border_39 C0 hK hA hX ih l1 l4 (0 : Int64) l2 _ _ _ hSt (lv_sub hl [0, 1, 3] rfl) hf
      · have hf := ite_t hf cc
        refine lv_lconst (v := 1) hx hb dX9_border_25 (by decide) ?_
        refine lv_iload_n hx hb dX9_border_26 rfl (lv_at hl 1 rfl) ?_
        refine lv_iconst (v := 1) hx hb dX9_border_27 (by decide) ?_
        refine lv_iload hx hb dX9_border_28 (lv_at hl 3 rfl) ?_
        refine lv_ishl hx hb dX9_border_30 ?_
        refine lv_iconst (v := -1) hx hb dX9_border_31 (by decide) ?_
        refine lv_ixor hx hb dX9_border_32 ?_
        refine lv_iand hx hb dX9_border_33 ?_
        refine lv_lshl (v := (1 : Int64) <<< ((l1 &&& (((1 : Int32) <<< (l4 &&& 31)) ^^^ (-1 : Int32))).toInt64 &&& 63)) hx hb dX9_border_34 rfl ?_
        refine lv_goto (tgt := 39) hx hb dX9_border_35 (by decide) ?_
        exact k_X9_border_39 C0 hK hA hX ih l1 l4 ((1 : Int64) <<< ((l1 &&& (((1 : Int32) <<< (l4 &&& 31)) ^^^ (-1 : Int32))).toInt64 &&& 63)) l2 _ _ _ hSt (lv_sub hl [0, 1, 3] rfl) hf
def f_X9_border_0 (v_points : Int32)  (l1 : Int32)  : Option (Int64) := f_X9_border_5 v_points  FU l1 (0 : Int64) (0 : Int32)
set_option maxHeartbeats 4000000 in
set_option maxRecDepth 100000 in
theorem k_X9_border_0 {p : Program} {l : Launch} {e : Env} {s : State} {m : MethodId} {args : Array Value} {below : List Frame} {meth : Method} {c : Code} {A : Nat → Prop} {D : va_G} {cI cJ : ClassId} {h : Nat} {g1 g2 g3 g4 g5 g6 g7 g8 g9 g10 g11 g12 g13 g14 g15 g16 g17 g18 g19 g20 g21 g22 g23 g24 g25 g26 : Value} {v_points : Int32} (C0 : Cx p s m args meth c cX9_border wsX9_border RX9 5 (some .long)) (hK : va_K D vwCl (tyL cI cJ) s) (hA : ∀ q, s.heap.size ≤ q → A q) (hX : XT none A s s.heap) {Rr : Int64} : ∀ (l1 : Int32)  (H : Heap) (locs : List Loc) (ls : Array Slot), St D A s (w_X9_border cI cJ h g1 g2 g3 g4 g5 g6 g7 g8 g9 g10 g11 g12 g13 g14 g15 g16 g17 g18 g19 g20 g21 g22 g23 g24 g25 g26 v_points) H locs → lv_has ls 5 [(0, .ref h), (1, .int l1)] → f_X9_border_0 v_points l1 = some Rr → W p l e rm_X9_border s m args below meth c H locs 0 0 (MQ below (QL D cI cJ A (w_X9_border cI cJ h g1 g2 g3 g4 g5 g6 g7 g8 g9 g10 g11 g12 g13 g14 g15 g16 g17 g18 g19 g20 g21 g22 g23 g24 g25 g26 v_points) Rr) args s 0 0 A) (F0 m 0 ls []) := by
  have hx := C0.1.1
  have hb := C0.1.2.1
  intro l1 H locs ls hSt hl hf
  unfold f_X9_border_0 at hf
  refine lv_lconst (v := 0) hx hb dX9_border_0 (by decide) ?_
  refine lv_lstore_n (lv' := [(2, .long (0 : Int64)), (0, .ref h), (1, .int l1)]) hx hb dX9_border_1 rfl hl (by decide) rfl (fun ls hl => ?_)
  refine lv_iconst (v := 0) hx hb dX9_border_2 (by decide) ?_
  refine lv_istore (lv' := [(4, .int (0 : Int32)), (2, .long (0 : Int64)), (0, .ref h), (1, .int l1)]) hx hb dX9_border_3 hl (by decide) rfl (fun ls hl => ?_)
  exact k_X9_border_5 C0 hK hA hX  FU l1 (0 : Int64) (0 : Int32) _ _ _ hSt (lv_sub hl [2, 3, 1, 0] rfl) hf
def f_X9_border (v_points : Int32) (l1 : Int32)  : Option (Int64) := f_X9_border_0 v_points l1
set_option maxRecDepth 100000 in
theorem c_X9_border (l : Launch) (D : va_G) (cI cJ : ClassId) (h : Nat) (g1 g2 g3 g4 g5 g6 g7 g8 g9 g10 g11 g12 g13 g14 g15 g16 g17 g18 g19 g20 g21 g22 g23 g24 g25 g26 : Value) (l1 : Int32) (v_points : Int32) (Rr : Int64) (hf : f_X9_border v_points l1 = some Rr) : CtL l yX9_border wsX9_border rm_X9_border D cI cJ none [.ref h, .int l1] (w_X9_border cI cJ h g1 g2 g3 g4 g5 g6 g7 g8 g9 g10 g11 g12 g13 g14 g15 g16 g17 g18 g19 g20 g21 g22 g23 g24 g25 g26 v_points) Rr (w_X9_border cI cJ h g1 g2 g3 g4 g5 g6 g7 g8 g9 g10 g11 g12 g13 g14 g15 g16 g17 g18 g19 g20 g21 g22 g23 g24 g25 g26 v_points) :=
  fun sz => BodyW.met (av := [.ref h, .int l1]) (Qc := fun A => QL D cI cJ A (w_X9_border cI cJ h g1 g2 g3 g4 g5 g6 g7 g8 g9 g10 g11 g12 g13 g14 g15 g16 g17 g18 g19 g20 g21 g22 g23 g24 g25 g26 v_points) Rr) (by decide) rfl rfl (Nat.le_of_ble_eq_true rfl) (fun C0 hK hA hX ls hSt hl => k_X9_border_0 C0 hK hA hX l1  _ _ ls hSt hl hf) sz
/-! X9 borders -/
abbrev rm_X9_borders : Room := { frames := 1, cells := 0, slots := 0, locals := 25 }
abbrev w_X9_borders (cI cJ : ClassId) (h : Nat) (h_base : Nat) (g2 : Value) (g3 : Value) (g4 : Value) (g6 : Value) (g7 : Value) (g8 : Value) (g9 : Value) (g10 : Value) (g11 : Value) (g12 : Value) (g13 : Value) (g14 : Value) (g15 : Value) (g16 : Value) (g17 : Value) (g18 : Value) (g19 : Value) (g20 : Value) (g21 : Value) (g22 : Value) (g23 : Value) (g24 : Value) (g25 : Value) (g26 : Value) (v_points : Int32) (v_faces : Int64) (v_base : Nat → Int64) : va_W := [(h, .inr (8, [.int v_points, .long v_faces, g2, g3, g4, .ref h_base, g6, g7, g8, g9, g10, g11, g12, g13, g14, g15, g16, g17, g18, g19, g20, g21, g22, g23, g24, g25, g26])), (h_base, .inl (cJ, 64, .inr (.inl v_base)))]
theorem hd_X9_borders : yX9_borders.cls = RX9 ∧ yX9_borders.cls ≠ "java/lang/invoke/MethodHandle" ∧ yX9_borders.cls ≠ "java/lang/invoke/VarHandle" ∧ (parseMethodDescriptor yX9_borders.desc).map (fun d => d.parameters.length) = some 2 := by decide +kernel
def f_X9_borders_64 (v_points : Int32) (v_faces : Int64) (k_9 : Int32 → Int32 → Int32 → Int32 → (Nat → Int64) → Option (Int32 × (Nat → Int64))) (l1 : Int32) (l2 : Int32) (l4 : Int32) (s0 : Int32) (s1 : Int32) (v_base : Nat → Int64) : Option (Int32 × (Nat → Int64)) := k_9 l1 l2 (s1 + s0) (l4 + 1) v_base
set_option maxHeartbeats 4000000 in
set_option maxRecDepth 100000 in
theorem k_X9_borders_64 {p : Program} {l : Launch} {e : Env} {s : State} {m : MethodId} {args : Array Value} {below : List Frame} {meth : Method} {c : Code} {A : Nat → Prop} {D : va_G} {cI cJ : ClassId} {h h_base : Nat} {g2 g3 g4 g6 g7 g8 g9 g10 g11 g12 g13 g14 g15 g16 g17 g18 g19 g20 g21 g22 g23 g24 g25 g26 : Value} {v_points : Int32} {v_faces : Int64} (C0 : Cx p s m args meth c cX9_borders wsX9_borders RX9 5 (some .int)) (hK : va_K D vwCl (tyL cI cJ) s) (hA : ∀ q, s.heap.size ≤ q → A q) (hX : XT none A s s.heap) {Rr : Int32 × (Nat → Int64)} {k_9 : Int32 → Int32 → Int32 → Int32 → (Nat → Int64) → Option (Int32 × (Nat → Int64))} (hk_9 : ∀ (l1 : Int32) (l2 : Int32) (l3 : Int32) (l4 : Int32) (v_base : Nat → Int64) (H : Heap) (locs : List Loc) (ls : Array Slot), St D A s (w_X9_borders cI cJ h h_base g2 g3 g4 g6 g7 g8 g9 g10 g11 g12 g13 g14 g15 g16 g17 g18 g19 g20 g21 g22 g23 g24 g25 g26 v_points v_faces v_base) H locs → lv_has ls 5 [(0, .ref h), (1, .int l1), (2, .int l2), (3, .int l3), (4, .int l4)] → k_9 l1 l2 l3 l4 v_base = some Rr → W p l e rm_X9_borders s m args below meth c H locs 0 0 (MQ below (QI D cI cJ A (w_X9_borders cI cJ h h_base g2 g3 g4 g6 g7 g8 g9 g10 g11 g12 g13 g14 g15 g16 g17 g18 g19 g20 g21 g22 g23 g24 g25 g26 v_points v_faces Rr.2) Rr.1) args s 0 0 A) (F0 m 9 ls [])) : ∀ (l1 : Int32) (l2 : Int32) (l4 : Int32) (s0 : Int32) (s1 : Int32) (v_base : Nat → Int64) (H : Heap) (locs : List Loc) (ls : Array Slot), St D A s (w_X9_borders cI cJ h h_base g2 g3 g4 g6 g7 g8 g9 g10 g11 g12 g13 g14 g15 g16 g17 g18 g19 g20 g21 g22 g23 g24 g25 g26 v_points v_faces v_base) H locs → lv_has ls 5 [(0, .ref h), (1, .int l1), (2, .int l2), (4, .int l4)] → f_X9_borders_64 v_points v_faces k_9 l1 l2 l4 s0 s1 v_base = some Rr → W p l e rm_X9_borders s m args below meth c H locs 0 0 (MQ below (QI D cI cJ A (w_X9_borders cI cJ h h_base g2 g3 g4 g6 g7 g8 g9 g10 g11 g12 g13 g14 g15 g16 g17 g18 g19 g20 g21 g22 g23 g24 g25 g26 v_points v_faces Rr.2) Rr.1) args s 0 0 A) (F0 m 64 ls [.int s0, .int s1]) := by
  have hx := C0.1.1
  have hb := C0.1.2.1
  intro l1 l2 l4 s0 s1 v_base H locs ls hSt hl hf
  unfold f_X9_borders_64 at hf
  refine lv_iadd hx hb dX9_borders_64 ?_
  refine lv_istore_n (lv' := [(3, .int (s1 + s0)), (0, .ref h), (1, .int l1), (2, .int l2), (4, .int l4)]) hx hb dX9_borders_65 rfl hl (by decide) rfl (fun ls hl => ?_)
  refine lv_iinc (v := l4 + 1) (lv' := [(4, .int (l4 + 1)), (3, .int (s1 + s0)), (0, .ref h), (1, .int l1), (2, .int l2)]) hx hb dX9_borders_66 hl (k := 4) rfl rfl (by decide) rfl (fun ls hl => ?_)
  refine lv_goto (tgt := 9) hx hb dX9_borders_69 (by decide) ?_
  exact hk_9 l1 l2 (s1 + s0) (l4 + 1) v_base _ _ _ hSt (lv_sub hl [2, 3, 4, 1, 0] rfl) hf
def f_X9_borders_9 (v_points : Int32) (v_faces : Int64)  : Nat → Int32 → Int32 → Int32 → Int32 → (Nat → Int64) → Option (Int32 × (Nat → Int64))
  | 0, _, _, _, _, _ => none
  | n + 1, l1, l2, l3, l4, v_base => (f_X9_all v_points).bind (fun R1 => if R1 < l4 then some (l3, v_base) else (f_X9_size l4).bind (fun R2 => if R2 = l2 then if (l4 &&& (l1 ^^^ (-1 : Int32))) = 0 then (f_X9_isFace v_faces l4).bind (fun R3 => if R3 = 0 then (f_X9_borders_9 v_points v_faces n) l1 l2 l3 (l4 + 1) v_base else (f_X9_border v_points l4).bind (fun R4 => (f_X9_lays R4 v_base).bind (fun R5 => if R5.1 = 0 then f_X9_borders_64 v_points v_faces (f_X9_borders_9 v_points v_faces n) l1 l2 l4 (0 : Int32) l3 R5.2 else f_X9_borders_64 v_points v_faces (f_X9_borders_9 v_points v_faces n) l1 l2 l4 (1 : Int32) l3 R5.2))) else (f_X9_borders_9 v_points v_faces n) l1 l2 l3 (l4 + 1) v_base else (f_X9_borders_9 v_points v_faces n) l1 l2 l3 (l4 + 1) v_base))
set_option maxHeartbeats 4000000 in
set_option maxRecDepth 100000 in
theorem k_X9_borders_9 {p : Program} {l : Launch} {e : Env} {s : State} {m : MethodId} {args : Array Value} {below : List Frame} {meth : Method} {c : Code} {A : Nat → Prop} {D : va_G} {cI cJ : ClassId} {h h_base : Nat} {g2 g3 g4 g6 g7 g8 g9 g10 g11 g12 g13 g14 g15 g16 g17 g18 g19 g20 g21 g22 g23 g24 g25 g26 : Value} {v_points : Int32} {v_faces : Int64} (C0 : Cx p s m args meth c cX9_borders wsX9_borders RX9 5 (some .int)) (hK : va_K D vwCl (tyL cI cJ) s) (hA : ∀ q, s.heap.size ≤ q → A q) (hX : XT none A s s.heap) {Rr : Int32 × (Nat → Int64)} (n : Nat) : ∀ (l1 : Int32) (l2 : Int32) (l3 : Int32) (l4 : Int32) (v_base : Nat → Int64) (H : Heap) (locs : List Loc) (ls : Array Slot), St D A s (w_X9_borders cI cJ h h_base g2 g3 g4 g6 g7 g8 g9 g10 g11 g12 g13 g14 g15 g16 g17 g18 g19 g20 g21 g22 g23 g24 g25 g26 v_points v_faces v_base) H locs → lv_has ls 5 [(0, .ref h), (1, .int l1), (2, .int l2), (3, .int l3), (4, .int l4)] → f_X9_borders_9 v_points v_faces n l1 l2 l3 l4 v_base = some Rr → W p l e rm_X9_borders s m args below meth c H locs 0 0 (MQ below (QI D cI cJ A (w_X9_borders cI cJ h h_base g2 g3 g4 g6 g7 g8 g9 g10 g11 g12 g13 g14 g15 g16 g17 g18 g19 g20 g21 g22 g23 g24 g25 g26 v_points v_faces Rr.2) Rr.1) args s 0 0 A) (F0 m 9 ls []) := by
  have hx := C0.1.1
  have hb := C0.1.2.1
  induction n with
  | zero => intro l1 l2 l3 l4 v_base H locs ls hSt hl hf; exact nomatch (show (none : Option _) = some Rr from hf)
  | succ n ih =>
    intro l1 l2 l3 l4 v_base H locs ls hSt hl hf
    unfold f_X9_borders_9 at hf
    refine lv_iload hx hb dX9_borders_9 (lv_at hl 4 rfl) ?_
    refine lv_aload_n hx hb dX9_borders_11 rfl (lv_at hl 0 rfl) ?_
    obtain ⟨R1, hR1, hf⟩ := Option.bind_eq_some_iff.mp hf
    have sp : Sp (w_X9_borders cI cJ h h_base g2 g3 g4 g6 g7 g8 g9 g10 g11 g12 g13 g14 g15 g16 g17 g18 g19 g20 g21 g22 g23 g24 g25 g26 v_points v_faces v_base) (w_X9_all cI cJ h (.long v_faces) g2 g3 g4 (.ref h_base) g6 g7 g8 g9 g10 g11 g12 g13 g14 g15 g16 g17 g18 g19 g20 g21 g22 g23 g24 g25 g26 v_points) (w_X9_all cI cJ h (.long v_faces) g2 g3 g4 (.ref h_base) g6 g7 g8 g9 g10 g11 g12 g13 g14 g15 g16 g17 g18 g19 g20 g21 g22 g23 g24 g25 g26 v_points) (w_X9_borders cI cJ h h_base g2 g3 g4 g6 g7 g8 g9 g10 g11 g12 g13 g14 g15 g16 g17 g18 g19 g20 g21 g22 g23 g24 g25 g26 v_points v_faces v_base) [0] [1] [1, 0] := ⟨rfl, rfl, rfl, by decide, by decide, by decide, by decide⟩
    refine hb_ci (hb_rV (As := []) (rest := [.int l4]) C0 hK hA XT.nn hSt sp (c_X9_all l D cI cJ h (.long v_faces) g2 g3 g4 (.ref h_base) g6 g7 g8 g9 g10 g11 g12 g13 g14 g15 g16 g17 g18 g19 g20 g21 g22 g23 g24 g25 g26   v_points R1 hR1) gX9_borders_X9_all rfl ⟨rfl, rfl⟩ hd_X9_all ⟨Nat.le_of_ble_eq_true rfl, Nat.le_of_ble_eq_true rfl⟩ 0 8 rfl rfl rfl hl rfl (Nat.le_of_ble_eq_true rfl) dX9_borders_12 ⟨Nat.zero_le _, Nat.zero_le _⟩) hA hSt sp (fun H locs hSt => ?_)
    refine lv_icmp_gt (tgt := 72) hx hb dX9_borders_15 (by decide) (fun cc => ?_) (fun cc => ?_)
    · have hf := ite_t hf cc
      refine lv_iload_n hx hb dX9_borders_72 rfl (lv_at hl 3 rfl) ?_
      cases hf
      exact hb_iret C0 hK hSt dX9_borders_73
    · have hf := ite_f hf cc
      refine lv_iload hx hb dX9_borders_18 (lv_at hl 4 rfl) ?_
      obtain ⟨R2, hR2, hf⟩ := Option.bind_eq_some_iff.mp hf
      have sp : Sp (w_X9_borders cI cJ h h_base g2 g3 g4 g6 g7 g8 g9 g10 g11 g12 g13 g14 g15 g16 g17 g18 g19 g20 g21 g22 g23 g24 g25 g26 v_points v_faces v_base) (w_X9_size cI cJ) (w_X9_size cI cJ) (w_X9_borders cI cJ h h_base g2 g3 g4 g6 g7 g8 g9 g10 g11 g12 g13 g14 g15 g16 g17 g18 g19 g20 g21 g22 g23 g24 g25 g26 v_points v_faces v_base) [] [0, 1] [0, 1] := ⟨rfl, rfl, rfl, by decide, by decide, by decide, by decide⟩
      refine hb_ci (hb_rS (As := [.int l4]) (rest := []) C0 hK hA XT.nn hSt sp (c_X9_size l D cI cJ   l4  R2 hR2) gX9_borders_X9_size rfl ⟨rfl, rfl⟩ hd_X9_size ⟨Nat.le_of_ble_eq_true rfl, Nat.le_of_ble_eq_true rfl⟩ rfl hl rfl (Nat.le_of_ble_eq_true rfl) dX9_borders_20 ⟨Nat.zero_le _, Nat.zero_le _⟩) hA hSt sp (fun H locs hSt => ?_)
      refine lv_iload_n hx hb dX9_borders_23 rfl (lv_at hl 2 rfl) ?_
      refine lv_icmp_ne (tgt := 66) hx hb dX9_borders_24 (by decide) (fun cc => ?_) (fun cc => ?_)
      · have hf := ite_f hf cc
        refine lv_iinc (v := l4 + 1) (lv' := [(4, .int (l4 + 1)), (0, .ref h), (1, .int l1), (2, .int l2), (3, .int l3)]) hx hb dX9_borders_66 hl (k := 4) rfl rfl (by decide) rfl (fun ls hl => ?_)
        refine lv_goto (tgt := 9) hx hb dX9_borders_69 (by decide) ?_
        exact ih l1 l2 l3 (l4 + 1) v_base _ _ _ hSt (lv_sub hl [1, 2, 3, 4, 0] rfl) hf
      · have hf := ite_t hf cc
        refine lv_iload hx hb dX9_borders_27 (lv_at hl 4 rfl) ?_
        refine lv_iload_n hx hb dX9_borders_29 rfl (lv_at hl 1 rfl) ?_
        refine lv_iconst (v := -1) hx hb dX9_borders_30 (by decide) ?_
        refine lv_ixor hx hb dX9_borders_31 ?_
        refine lv_iand hx hb dX9_borders_32 ?_
        refine lv_if_ne (tgt := 66) hx hb dX9_borders_33 (by decide) (fun cc => ?_) (fun cc => ?_)
        · have hf := ite_f hf cc
          refine lv_iinc (v := l4 + 1) (lv' := [(4, .int (l4 + 1)), (0, .ref h), (1, .int l1), (2, .int l2), (3, .int l3)]) hx hb dX9_borders_66 hl (k := 4) rfl rfl (by decide) rfl (fun ls hl => ?_)
          refine lv_goto (tgt := 9) hx hb dX9_borders_69 (by decide) ?_
          exact ih l1 l2 l3 (l4 + 1) v_base _ _ _ hSt (lv_sub hl [1, 2, 3, 4, 0] rfl) hf
        · have hf := ite_t hf cc
          refine lv_aload_n hx hb dX9_borders_36 rfl (lv_at hl 0 rfl) ?_
          refine lv_iload hx hb dX9_borders_37 (lv_at hl 4 rfl) ?_
          obtain ⟨R3, hR3, hf⟩ := Option.bind_eq_some_iff.mp hf
          have sp : Sp (w_X9_borders cI cJ h h_base g2 g3 g4 g6 g7 g8 g9 g10 g11 g12 g13 g14 g15 g16 g17 g18 g19 g20 g21 g22 g23 g24 g25 g26 v_points v_faces v_base) (w_X9_isFace cI cJ h (.int v_points) g2 g3 g4 (.ref h_base) g6 g7 g8 g9 g10 g11 g12 g13 g14 g15 g16 g17 g18 g19 g20 g21 g22 g23 g24 g25 g26 v_faces) (w_X9_isFace cI cJ h (.int v_points) g2 g3 g4 (.ref h_base) g6 g7 g8 g9 g10 g11 g12 g13 g14 g15 g16 g17 g18 g19 g20 g21 g22 g23 g24 g25 g26 v_faces) (w_X9_borders cI cJ h h_base g2 g3 g4 g6 g7 g8 g9 g10 g11 g12 g13 g14 g15 g16 g17 g18 g19 g20 g21 g22 g23 g24 g25 g26 v_points v_faces v_base) [0] [1] [1, 0] := ⟨rfl, rfl, rfl, by decide, by decide, by decide, by decide⟩
          refine hb_ci (hb_rV (As := [.int l4]) (rest := []) C0 hK hA XT.nn hSt sp (c_X9_isFace l D cI cJ h (.int v_points) g2 g3 g4 (.ref h_base) g6 g7 g8 g9 g10 g11 g12 g13 g14 g15 g16 g17 g18 g19 g20 g21 g22 g23 g24 g25 g26  l4 v_faces R3 hR3) gX9_borders_X9_isFace rfl ⟨rfl, rfl⟩ hd_X9_isFace ⟨Nat.le_of_ble_eq_true rfl, Nat.le_of_ble_eq_true rfl⟩ 0 8 rfl rfl rfl hl rfl (Nat.le_of_ble_eq_true rfl) dX9_borders_39 ⟨Nat.zero_le _, Nat.zero_le _⟩) hA hSt sp (fun H locs hSt => ?_)
          refine lv_if_eq (tgt := 66) hx hb dX9_borders_42 (by decide) (fun cc => ?_) (fun cc => ?_)
          · have hf := ite_t hf cc
            refine lv_iinc (v := l4 + 1) (lv' := [(4, .int (l4 + 1)), (0, .ref h), (1, .int l1), (2, .int l2), (3, .int l3)]) hx hb dX9_borders_66 hl (k := 4) rfl rfl (by decide) rfl (fun ls hl => ?_)
            refine lv_goto (tgt := 9) hx hb dX9_borders_69 (by decide) ?_
            exact ih l1 l2 l3 (l4 + 1) v_base _ _ _ hSt (lv_sub hl [1, 2, 3, 4, 0] rfl) hf
          · have hf := ite_f hf cc
            refine lv_iload_n hx hb dX9_borders_45 rfl (lv_at hl 3 rfl) ?_
            refine lv_aload_n hx hb dX9_borders_46 rfl (lv_at hl 0 rfl) ?_
            refine lv_aload_n hx hb dX9_borders_47 rfl (lv_at hl 0 rfl) ?_
            refine lv_iload hx hb dX9_borders_48 (lv_at hl 4 rfl) ?_
            obtain ⟨R4, hR4, hf⟩ := Option.bind_eq_some_iff.mp hf
            have sp : Sp (w_X9_borders cI cJ h h_base g2 g3 g4 g6 g7 g8 g9 g10 g11 g12 g13 g14 g15 g16 g17 g18 g19 g20 g21 g22 g23 g24 g25 g26 v_points v_faces v_base) (w_X9_border cI cJ h (.long v_faces) g2 g3 g4 (.ref h_base) g6 g7 g8 g9 g10 g11 g12 g13 g14 g15 g16 g17 g18 g19 g20 g21 g22 g23 g24 g25 g26 v_points) (w_X9_border cI cJ h (.long v_faces) g2 g3 g4 (.ref h_base) g6 g7 g8 g9 g10 g11 g12 g13 g14 g15 g16 g17 g18 g19 g20 g21 g22 g23 g24 g25 g26 v_points) (w_X9_borders cI cJ h h_base g2 g3 g4 g6 g7 g8 g9 g10 g11 g12 g13 g14 g15 g16 g17 g18 g19 g20 g21 g22 g23 g24 g25 g26 v_points v_faces v_base) [0] [1] [1, 0] := ⟨rfl, rfl, rfl, by decide, by decide, by decide, by decide⟩
            refine hb_cl (hb_rV (As := [.int l4]) (rest := [.ref h, .int l3]) C0 hK hA XT.nn hSt sp (c_X9_border l D cI cJ h (.long v_faces) g2 g3 g4 (.ref h_base) g6 g7 g8 g9 g10 g11 g12 g13 g14 g15 g16 g17 g18 g19 g20 g21 g22 g23 g24 g25 g26  l4 v_points R4 hR4) gX9_borders_X9_border rfl ⟨rfl, rfl⟩ hd_X9_border ⟨Nat.le_of_ble_eq_true rfl, Nat.le_of_ble_eq_true rfl⟩ 0 8 rfl rfl rfl hl rfl (Nat.le_of_ble_eq_true rfl) dX9_borders_50 ⟨Nat.zero_le _, Nat.zero_le _⟩) hA hSt sp (fun H locs hSt => ?_)
            obtain ⟨R5, hR5, hf⟩ := Option.bind_eq_some_iff.mp hf
            have sp : Sp (w_X9_borders cI cJ h h_base g2 g3 g4 g6 g7 g8 g9 g10 g11 g12 g13 g14 g15 g16 g17 g18 g19 g20 g21 g22 g23 g24 g25 g26 v_points v_faces v_base) (w_X9_lays cI cJ h h_base (.int v_points) (.long v_faces) g2 g3 g4 g6 g7 g8 g9 g10 g11 g12 g13 g14 g15 g16 g17 g18 g19 g20 g21 g22 g23 g24 g25 g26 v_base) (w_X9_lays cI cJ h h_base (.int v_points) (.long v_faces) g2 g3 g4 g6 g7 g8 g9 g10 g11 g12 g13 g14 g15 g16 g17 g18 g19 g20 g21 g22 g23 g24 g25 g26 R5.2) (w_X9_borders cI cJ h h_base g2 g3 g4 g6 g7 g8 g9 g10 g11 g12 g13 g14 g15 g16 g17 g18 g19 g20 g21 g22 g23 g24 g25 g26 v_points v_faces R5.2) [0, 1] [] [0, 1] := ⟨rfl, rfl, rfl, by decide, by decide, by decide, by decide⟩
            refine hb_ci (hb_rV (As := [.long R4]) (rest := [.int l3]) C0 hK hA XT.nn hSt sp (c_X9_lays l D cI cJ h h_base (.int v_points) (.long v_faces) g2 g3 g4 g6 g7 g8 g9 g10 g11 g12 g13 g14 g15 g16 g17 g18 g19 g20 g21 g22 g23 g24 g25 g26  R4 v_base R5 hR5) gX9_borders_X9_lays rfl ⟨rfl, rfl⟩ hd_X9_lays ⟨Nat.le_of_ble_eq_true rfl, Nat.le_of_ble_eq_true rfl⟩ 0 8 rfl rfl rfl hl rfl (Nat.le_of_ble_eq_true rfl) dX9_borders_53 ⟨Nat.zero_le _, Nat.zero_le _⟩) hA hSt sp (fun H locs hSt => ?_)
            refine lv_if_eq (tgt := 63) hx hb dX9_borders_56 (by decide) (fun cc => ?_) (fun cc => ?_)
            · have hf := ite_t hf cc
              refine lv_iconst (v := 0) hx hb dX9_borders_63 (by decide) ?_
              exact k_X9_borders_64 C0 hK hA hX ih l1 l2 l4 (0 : Int32) l3 R5.2 _ _ _ hSt (lv_sub hl [0, 1, 2, 4] rfl) hf
            · have hf := ite_f hf cc
              refine lv_iconst (v := 1) hx hb dX9_borders_59 (by decide) ?_
              refine lv_goto (tgt := 64) hx hb dX9_borders_60 (by decide) ?_
              exact k_X9_borders_64 C0 hK hA hX ih l1 l2 l4 (1 : Int32) l3 R5.2 _ _ _ hSt (lv_sub hl [0, 1, 2, 4] rfl) hf
def f_X9_borders_0 (v_points : Int32) (v_faces : Int64)  (l1 : Int32) (l2 : Int32) (v_base : Nat → Int64) : Option (Int32 × (Nat → Int64)) := (f_X9_clear v_base).bind (fun R1 => f_X9_borders_9 v_points v_faces  FU l1 l2 (0 : Int32) (0 : Int32) R1)
set_option maxHeartbeats 4000000 in
set_option maxRecDepth 100000 in
theorem k_X9_borders_0 {p : Program} {l : Launch} {e : Env} {s : State} {m : MethodId} {args : Array Value} {below : List Frame} {meth : Method} {c : Code} {A : Nat → Prop} {D : va_G} {cI cJ : ClassId} {h h_base : Nat} {g2 g3 g4 g6 g7 g8 g9 g10 g11 g12 g13 g14 g15 g16 g17 g18 g19 g20 g21 g22 g23 g24 g25 g26 : Value} {v_points : Int32} {v_faces : Int64} (C0 : Cx p s m args meth c cX9_borders wsX9_borders RX9 5 (some .int)) (hK : va_K D vwCl (tyL cI cJ) s) (hA : ∀ q, s.heap.size ≤ q → A q) (hX : XT none A s s.heap) {Rr : Int32 × (Nat → Int64)} : ∀ (l1 : Int32) (l2 : Int32) (v_base : Nat → Int64) (H : Heap) (locs : List Loc) (ls : Array Slot), St D A s (w_X9_borders cI cJ h h_base g2 g3 g4 g6 g7 g8 g9 g10 g11 g12 g13 g14 g15 g16 g17 g18 g19 g20 g21 g22 g23 g24 g25 g26 v_points v_faces v_base) H locs → lv_has ls 5 [(0, .ref h), (1, .int l1), (2, .int l2)] → f_X9_borders_0 v_points v_faces l1 l2 v_base = some Rr → W p l e rm_X9_borders s m args below meth c H locs 0 0 (MQ below (QI D cI cJ A (w_X9_borders cI cJ h h_base g2 g3 g4 g6 g7 g8 g9 g10 g11 g12 g13 g14 g15 g16 g17 g18 g19 g20 g21 g22 g23 g24 g25 g26 v_points v_faces Rr.2) Rr.1) args s 0 0 A) (F0 m 0 ls []) := by
  have hx := C0.1.1
  have hb := C0.1.2.1
  intro l1 l2 v_base H locs ls hSt hl hf
  unfold f_X9_borders_0 at hf
  refine lv_aload_n hx hb dX9_borders_0 rfl (lv_at hl 0 rfl) ?_
  obtain ⟨R1, hR1, hf⟩ := Option.bind_eq_some_iff.mp hf
  have sp : Sp (w_X9_borders cI cJ h h_base g2 g3 g4 g6 g7 g8 g9 g10 g11 g12 g13 g14 g15 g16 g17 g18 g19 g20 g21 g22 g23 g24 g25 g26 v_points v_faces v_base) (w_X9_clear cI cJ h h_base (.int v_points) (.long v_faces) g2 g3 g4 g6 g7 g8 g9 g10 g11 g12 g13 g14 g15 g16 g17 g18 g19 g20 g21 g22 g23 g24 g25 g26 v_base) (w_X9_clear cI cJ h h_base (.int v_points) (.long v_faces) g2 g3 g4 g6 g7 g8 g9 g10 g11 g12 g13 g14 g15 g16 g17 g18 g19 g20 g21 g22 g23 g24 g25 g26 R1) (w_X9_borders cI cJ h h_base g2 g3 g4 g6 g7 g8 g9 g10 g11 g12 g13 g14 g15 g16 g17 g18 g19 g20 g21 g22 g23 g24 g25 g26 v_points v_faces R1) [0, 1] [] [0, 1] := ⟨rfl, rfl, rfl, by decide, by decide, by decide, by decide⟩
  refine hb_cv (hb_rV (As := []) (rest := []) C0 hK hA XT.nn hSt sp (c_X9_clear l D cI cJ h h_base (.int v_points) (.long v_faces) g2 g3 g4 g6 g7 g8 g9 g10 g11 g12 g13 g14 g15 g16 g17 g18 g19 g20 g21 g22 g23 g24 g25 g26   v_base R1 hR1) gX9_borders_X9_clear rfl ⟨rfl, rfl⟩ hd_X9_clear ⟨Nat.le_of_ble_eq_true rfl, Nat.le_of_ble_eq_true rfl⟩ 0 8 rfl rfl rfl hl rfl (Nat.le_of_ble_eq_true rfl) dX9_borders_1 ⟨Nat.zero_le _, Nat.zero_le _⟩) hA hSt sp (fun H locs hSt => ?_)
  refine lv_iconst (v := 0) hx hb dX9_borders_4 (by decide) ?_
  refine lv_istore_n (lv' := [(3, .int (0 : Int32)), (0, .ref h), (1, .int l1), (2, .int l2)]) hx hb dX9_borders_5 rfl hl (by decide) rfl (fun ls hl => ?_)
  refine lv_iconst (v := 0) hx hb dX9_borders_6 (by decide) ?_
  refine lv_istore (lv' := [(4, .int (0 : Int32)), (3, .int (0 : Int32)), (0, .ref h), (1, .int l1), (2, .int l2)]) hx hb dX9_borders_7 hl (by decide) rfl (fun ls hl => ?_)
  exact k_X9_borders_9 C0 hK hA hX  FU l1 l2 (0 : Int32) (0 : Int32) R1 _ _ _ hSt (lv_sub hl [2, 3, 4, 1, 0] rfl) hf
def f_X9_borders (v_points : Int32) (v_faces : Int64) (l1 : Int32) (l2 : Int32) (v_base : Nat → Int64) : Option (Int32 × (Nat → Int64)) := f_X9_borders_0 v_points v_faces l1 l2 v_base
set_option maxRecDepth 100000 in
theorem c_X9_borders (l : Launch) (D : va_G) (cI cJ : ClassId) (h h_base : Nat) (g2 g3 g4 g6 g7 g8 g9 g10 g11 g12 g13 g14 g15 g16 g17 g18 g19 g20 g21 g22 g23 g24 g25 g26 : Value) (l1 : Int32) (l2 : Int32) (v_points : Int32) (v_faces : Int64) (v_base : Nat → Int64) (Rr : Int32 × (Nat → Int64)) (hf : f_X9_borders v_points v_faces l1 l2 v_base = some Rr) : CtI l yX9_borders wsX9_borders rm_X9_borders D cI cJ none [.ref h, .int l1, .int l2] (w_X9_borders cI cJ h h_base g2 g3 g4 g6 g7 g8 g9 g10 g11 g12 g13 g14 g15 g16 g17 g18 g19 g20 g21 g22 g23 g24 g25 g26 v_points v_faces v_base) Rr.1 (w_X9_borders cI cJ h h_base g2 g3 g4 g6 g7 g8 g9 g10 g11 g12 g13 g14 g15 g16 g17 g18 g19 g20 g21 g22 g23 g24 g25 g26 v_points v_faces Rr.2) :=
  fun sz => BodyW.met (av := [.ref h, .int l1, .int l2]) (Qc := fun A => QI D cI cJ A (w_X9_borders cI cJ h h_base g2 g3 g4 g6 g7 g8 g9 g10 g11 g12 g13 g14 g15 g16 g17 g18 g19 g20 g21 g22 g23 g24 g25 g26 v_points v_faces Rr.2) Rr.1) (by decide) rfl rfl (Nat.le_of_ble_eq_true rfl) (fun C0 hK hA hX ls hSt hl => k_X9_borders_0 C0 hK hA hX l1 l2 v_base _ _ ls hSt hl hf) sz
/-! X9 holesOf -/
abbrev rm_X9_holesOf : Room := { frames := 2, cells := 0, slots := 0, locals := 49 }
abbrev w_X9_holesOf (cI cJ : ClassId) (h : Nat) (h_base : Nat) (g2 : Value) (g3 : Value) (g4 : Value) (g6 : Value) (g7 : Value) (g8 : Value) (g9 : Value) (g10 : Value) (g11 : Value) (g12 : Value) (g13 : Value) (g14 : Value) (g15 : Value) (g16 : Value) (g17 : Value) (g18 : Value) (g19 : Value) (g20 : Value) (g21 : Value) (g22 : Value) (g23 : Value) (g24 : Value) (g25 : Value) (g26 : Value) (v_points : Int32) (v_faces : Int64) (v_base : Nat → Int64) : va_W := [(h, .inr (8, [.int v_points, .long v_faces, g2, g3, g4, .ref h_base, g6, g7, g8, g9, g10, g11, g12, g13, g14, g15, g16, g17, g18, g19, g20, g21, g22, g23, g24, g25, g26])), (h_base, .inl (cJ, 64, .inr (.inl v_base)))]
theorem hd_X9_holesOf : yX9_holesOf.cls = RX9 ∧ yX9_holesOf.cls ≠ "java/lang/invoke/MethodHandle" ∧ yX9_holesOf.cls ≠ "java/lang/invoke/VarHandle" ∧ (parseMethodDescriptor yX9_holesOf.desc).map (fun d => d.parameters.length) = some 2 := by decide +kernel
def f_X9_holesOf_0 (v_points : Int32) (v_faces : Int64)  (l1 : Int32) (l2 : Int32) (v_base : Nat → Int64) : Option (Int32 × (Nat → Int64)) := (f_X9_facesOf v_points v_faces l1 (l2 + (1 : Int32))).bind (fun R1 => (f_X9_many R1).bind (fun R2 => (f_X9_borders v_points v_faces l1 (l2 + (1 : Int32)) v_base).bind (fun R3 => (f_X9_borders v_points v_faces l1 (l2 + (2 : Int32)) R3.2).bind (fun R4 => some ((R2 - R3.1) - R4.1, R4.2)))))
set_option maxHeartbeats 4000000 in
set_option maxRecDepth 100000 in
theorem k_X9_holesOf_0 {p : Program} {l : Launch} {e : Env} {s : State} {m : MethodId} {args : Array Value} {below : List Frame} {meth : Method} {c : Code} {A : Nat → Prop} {D : va_G} {cI cJ : ClassId} {h h_base : Nat} {g2 g3 g4 g6 g7 g8 g9 g10 g11 g12 g13 g14 g15 g16 g17 g18 g19 g20 g21 g22 g23 g24 g25 g26 : Value} {v_points : Int32} {v_faces : Int64} (C0 : Cx p s m args meth c cX9_holesOf wsX9_holesOf RX9 3 (some .int)) (hK : va_K D vwCl (tyL cI cJ) s) (hA : ∀ q, s.heap.size ≤ q → A q) (hX : XT none A s s.heap) {Rr : Int32 × (Nat → Int64)} : ∀ (l1 : Int32) (l2 : Int32) (v_base : Nat → Int64) (H : Heap) (locs : List Loc) (ls : Array Slot), St D A s (w_X9_holesOf cI cJ h h_base g2 g3 g4 g6 g7 g8 g9 g10 g11 g12 g13 g14 g15 g16 g17 g18 g19 g20 g21 g22 g23 g24 g25 g26 v_points v_faces v_base) H locs → lv_has ls 3 [(0, .ref h), (1, .int l1), (2, .int l2)] → f_X9_holesOf_0 v_points v_faces l1 l2 v_base = some Rr → W p l e rm_X9_holesOf s m args below meth c H locs 0 0 (MQ below (QI D cI cJ A (w_X9_holesOf cI cJ h h_base g2 g3 g4 g6 g7 g8 g9 g10 g11 g12 g13 g14 g15 g16 g17 g18 g19 g20 g21 g22 g23 g24 g25 g26 v_points v_faces Rr.2) Rr.1) args s 0 0 A) (F0 m 0 ls []) := by
  have hx := C0.1.1
  have hb := C0.1.2.1
  intro l1 l2 v_base H locs ls hSt hl hf
  unfold f_X9_holesOf_0 at hf
  refine lv_aload_n hx hb dX9_holesOf_0 rfl (lv_at hl 0 rfl) ?_
  refine lv_iload_n hx hb dX9_holesOf_1 rfl (lv_at hl 1 rfl) ?_
  refine lv_iload_n hx hb dX9_holesOf_2 rfl (lv_at hl 2 rfl) ?_
  refine lv_iconst (v := 1) hx hb dX9_holesOf_3 (by decide) ?_
  refine lv_iadd hx hb dX9_holesOf_4 ?_
  obtain ⟨R1, hR1, hf⟩ := Option.bind_eq_some_iff.mp hf
  have sp : Sp (w_X9_holesOf cI cJ h h_base g2 g3 g4 g6 g7 g8 g9 g10 g11 g12 g13 g14 g15 g16 g17 g18 g19 g20 g21 g22 g23 g24 g25 g26 v_points v_faces v_base) (w_X9_facesOf cI cJ h g2 g3 g4 (.ref h_base) g6 g7 g8 g9 g10 g11 g12 g13 g14 g15 g16 g17 g18 g19 g20 g21 g22 g23 g24 g25 g26 v_points v_faces) (w_X9_facesOf cI cJ h g2 g3 g4 (.ref h_base) g6 g7 g8 g9 g10 g11 g12 g13 g14 g15 g16 g17 g18 g19 g20 g21 g22 g23 g24 g25 g26 v_points v_faces) (w_X9_holesOf cI cJ h h_base g2 g3 g4 g6 g7 g8 g9 g10 g11 g12 g13 g14 g15 g16 g17 g18 g19 g20 g21 g22 g23 g24 g25 g26 v_points v_faces v_base) [0] [1] [1, 0] := ⟨rfl, rfl, rfl, by decide, by decide, by decide, by decide⟩
  refine hb_cl (hb_rV (As := [.int l1, .int (l2 + (1 : Int32))]) (rest := []) C0 hK hA XT.nn hSt sp (c_X9_facesOf l D cI cJ h g2 g3 g4 (.ref h_base) g6 g7 g8 g9 g10 g11 g12 g13 g14 g15 g16 g17 g18 g19 g20 g21 g22 g23 g24 g25 g26  l1 (l2 + (1 : Int32)) v_points v_faces R1 hR1) gX9_holesOf_X9_facesOf rfl ⟨rfl, rfl⟩ hd_X9_facesOf ⟨Nat.le_of_ble_eq_true rfl, Nat.le_of_ble_eq_true rfl⟩ 0 8 rfl rfl rfl hl rfl (Nat.le_of_ble_eq_true rfl) dX9_holesOf_5 ⟨Nat.zero_le _, Nat.zero_le _⟩) hA hSt sp (fun H locs hSt => ?_)
  obtain ⟨R2, hR2, hf⟩ := Option.bind_eq_some_iff.mp hf
  have sp : Sp (w_X9_holesOf cI cJ h h_base g2 g3 g4 g6 g7 g8 g9 g10 g11 g12 g13 g14 g15 g16 g17 g18 g19 g20 g21 g22 g23 g24 g25 g26 v_points v_faces v_base) (w_X9_many cI cJ) (w_X9_many cI cJ) (w_X9_holesOf cI cJ h h_base g2 g3 g4 g6 g7 g8 g9 g10 g11 g12 g13 g14 g15 g16 g17 g18 g19 g20 g21 g22 g23 g24 g25 g26 v_points v_faces v_base) [] [0, 1] [0, 1] := ⟨rfl, rfl, rfl, by decide, by decide, by decide, by decide⟩
  refine hb_ci (hb_rS (As := [.long R1]) (rest := []) C0 hK hA XT.nn hSt sp (c_X9_many l D cI cJ   R1  R2 hR2) gX9_holesOf_X9_many rfl ⟨rfl, rfl⟩ hd_X9_many ⟨Nat.le_of_ble_eq_true rfl, Nat.le_of_ble_eq_true rfl⟩ rfl hl rfl (Nat.le_of_ble_eq_true rfl) dX9_holesOf_8 ⟨Nat.zero_le _, Nat.zero_le _⟩) hA hSt sp (fun H locs hSt => ?_)
  refine lv_aload_n hx hb dX9_holesOf_11 rfl (lv_at hl 0 rfl) ?_
  refine lv_iload_n hx hb dX9_holesOf_12 rfl (lv_at hl 1 rfl) ?_
  refine lv_iload_n hx hb dX9_holesOf_13 rfl (lv_at hl 2 rfl) ?_
  refine lv_iconst (v := 1) hx hb dX9_holesOf_14 (by decide) ?_
  refine lv_iadd hx hb dX9_holesOf_15 ?_
  obtain ⟨R3, hR3, hf⟩ := Option.bind_eq_some_iff.mp hf
  have sp : Sp (w_X9_holesOf cI cJ h h_base g2 g3 g4 g6 g7 g8 g9 g10 g11 g12 g13 g14 g15 g16 g17 g18 g19 g20 g21 g22 g23 g24 g25 g26 v_points v_faces v_base) (w_X9_borders cI cJ h h_base g2 g3 g4 g6 g7 g8 g9 g10 g11 g12 g13 g14 g15 g16 g17 g18 g19 g20 g21 g22 g23 g24 g25 g26 v_points v_faces v_base) (w_X9_borders cI cJ h h_base g2 g3 g4 g6 g7 g8 g9 g10 g11 g12 g13 g14 g15 g16 g17 g18 g19 g20 g21 g22 g23 g24 g25 g26 v_points v_faces R3.2) (w_X9_holesOf cI cJ h h_base g2 g3 g4 g6 g7 g8 g9 g10 g11 g12 g13 g14 g15 g16 g17 g18 g19 g20 g21 g22 g23 g24 g25 g26 v_points v_faces R3.2) [0, 1] [] [0, 1] := ⟨rfl, rfl, rfl, by decide, by decide, by decide, by decide⟩
  refine hb_ci (hb_rV (As := [.int l1, .int (l2 + (1 : Int32))]) (rest := [.int R2]) C0 hK hA XT.nn hSt sp (c_X9_borders l D cI cJ h h_base g2 g3 g4 g6 g7 g8 g9 g10 g11 g12 g13 g14 g15 g16 g17 g18 g19 g20 g21 g22 g23 g24 g25 g26  l1 (l2 + (1 : Int32)) v_points v_faces v_base R3 hR3) gX9_holesOf_X9_borders rfl ⟨rfl, rfl⟩ hd_X9_borders ⟨Nat.le_of_ble_eq_true rfl, Nat.le_of_ble_eq_true rfl⟩ 0 8 rfl rfl rfl hl rfl (Nat.le_of_ble_eq_true rfl) dX9_holesOf_16 ⟨Nat.zero_le _, Nat.zero_le _⟩) hA hSt sp (fun H locs hSt => ?_)
  refine lv_isub hx hb dX9_holesOf_19 ?_
  refine lv_aload_n hx hb dX9_holesOf_20 rfl (lv_at hl 0 rfl) ?_
  refine lv_iload_n hx hb dX9_holesOf_21 rfl (lv_at hl 1 rfl) ?_
  refine lv_iload_n hx hb dX9_holesOf_22 rfl (lv_at hl 2 rfl) ?_
  refine lv_iconst (v := 2) hx hb dX9_holesOf_23 (by decide) ?_
  refine lv_iadd hx hb dX9_holesOf_24 ?_
  obtain ⟨R4, hR4, hf⟩ := Option.bind_eq_some_iff.mp hf
  have sp : Sp (w_X9_holesOf cI cJ h h_base g2 g3 g4 g6 g7 g8 g9 g10 g11 g12 g13 g14 g15 g16 g17 g18 g19 g20 g21 g22 g23 g24 g25 g26 v_points v_faces R3.2) (w_X9_borders cI cJ h h_base g2 g3 g4 g6 g7 g8 g9 g10 g11 g12 g13 g14 g15 g16 g17 g18 g19 g20 g21 g22 g23 g24 g25 g26 v_points v_faces R3.2) (w_X9_borders cI cJ h h_base g2 g3 g4 g6 g7 g8 g9 g10 g11 g12 g13 g14 g15 g16 g17 g18 g19 g20 g21 g22 g23 g24 g25 g26 v_points v_faces R4.2) (w_X9_holesOf cI cJ h h_base g2 g3 g4 g6 g7 g8 g9 g10 g11 g12 g13 g14 g15 g16 g17 g18 g19 g20 g21 g22 g23 g24 g25 g26 v_points v_faces R4.2) [0, 1] [] [0, 1] := ⟨rfl, rfl, rfl, by decide, by decide, by decide, by decide⟩
  refine hb_ci (hb_rV (As := [.int l1, .int (l2 + (2 : Int32))]) (rest := [.int (R2 - R3.1)]) C0 hK hA XT.nn hSt sp (c_X9_borders l D cI cJ h h_base g2 g3 g4 g6 g7 g8 g9 g10 g11 g12 g13 g14 g15 g16 g17 g18 g19 g20 g21 g22 g23 g24 g25 g26  l1 (l2 + (2 : Int32)) v_points v_faces R3.2 R4 hR4) gX9_holesOf_X9_borders rfl ⟨rfl, rfl⟩ hd_X9_borders ⟨Nat.le_of_ble_eq_true rfl, Nat.le_of_ble_eq_true rfl⟩ 0 8 rfl rfl rfl hl rfl (Nat.le_of_ble_eq_true rfl) dX9_holesOf_25 ⟨Nat.zero_le _, Nat.zero_le _⟩) hA hSt sp (fun H locs hSt => ?_)
  refine lv_isub hx hb dX9_holesOf_28 ?_
  cases hf
  exact hb_iret C0 hK hSt dX9_holesOf_29
def f_X9_holesOf (v_points : Int32) (v_faces : Int64) (l1 : Int32) (l2 : Int32) (v_base : Nat → Int64) : Option (Int32 × (Nat → Int64)) := f_X9_holesOf_0 v_points v_faces l1 l2 v_base
set_option maxRecDepth 100000 in
theorem c_X9_holesOf (l : Launch) (D : va_G) (cI cJ : ClassId) (h h_base : Nat) (g2 g3 g4 g6 g7 g8 g9 g10 g11 g12 g13 g14 g15 g16 g17 g18 g19 g20 g21 g22 g23 g24 g25 g26 : Value) (l1 : Int32) (l2 : Int32) (v_points : Int32) (v_faces : Int64) (v_base : Nat → Int64) (Rr : Int32 × (Nat → Int64)) (hf : f_X9_holesOf v_points v_faces l1 l2 v_base = some Rr) : CtI l yX9_holesOf wsX9_holesOf rm_X9_holesOf D cI cJ none [.ref h, .int l1, .int l2] (w_X9_holesOf cI cJ h h_base g2 g3 g4 g6 g7 g8 g9 g10 g11 g12 g13 g14 g15 g16 g17 g18 g19 g20 g21 g22 g23 g24 g25 g26 v_points v_faces v_base) Rr.1 (w_X9_holesOf cI cJ h h_base g2 g3 g4 g6 g7 g8 g9 g10 g11 g12 g13 g14 g15 g16 g17 g18 g19 g20 g21 g22 g23 g24 g25 g26 v_points v_faces Rr.2) :=
  fun sz => BodyW.met (av := [.ref h, .int l1, .int l2]) (Qc := fun A => QI D cI cJ A (w_X9_holesOf cI cJ h h_base g2 g3 g4 g6 g7 g8 g9 g10 g11 g12 g13 g14 g15 g16 g17 g18 g19 g20 g21 g22 g23 g24 g25 g26 v_points v_faces Rr.2) Rr.1) (by decide) rfl rfl (Nat.le_of_ble_eq_true rfl) (fun C0 hK hA hX ls hSt hl => k_X9_holesOf_0 C0 hK hA hX l1 l2 v_base _ _ ls hSt hl hf) sz
/-! X9 holes -/
abbrev rm_X9_holes : Room := { frames := 3, cells := 0, slots := 0, locals := 71 }
abbrev w_X9_holes (cI cJ : ClassId) (h : Nat) (h_base : Nat) (g2 : Value) (g3 : Value) (g4 : Value) (g6 : Value) (g7 : Value) (g8 : Value) (g9 : Value) (g10 : Value) (g11 : Value) (g12 : Value) (g13 : Value) (g14 : Value) (g15 : Value) (g16 : Value) (g17 : Value) (g18 : Value) (g19 : Value) (g20 : Value) (g21 : Value) (g22 : Value) (g23 : Value) (g24 : Value) (g25 : Value) (g26 : Value) (v_points : Int32) (v_faces : Int64) (v_base : Nat → Int64) : va_W := [(h, .inr (8, [.int v_points, .long v_faces, g2, g3, g4, .ref h_base, g6, g7, g8, g9, g10, g11, g12, g13, g14, g15, g16, g17, g18, g19, g20, g21, g22, g23, g24, g25, g26])), (h_base, .inl (cJ, 64, .inr (.inl v_base)))]
theorem hd_X9_holes : yX9_holes.cls = RX9 ∧ yX9_holes.cls ≠ "java/lang/invoke/MethodHandle" ∧ yX9_holes.cls ≠ "java/lang/invoke/VarHandle" ∧ (parseMethodDescriptor yX9_holes.desc).map (fun d => d.parameters.length) = some 2 := by decide +kernel
def f_X9_holes_0 (v_points : Int32) (v_faces : Int64)  (l1 : Int32) (l2 : Int32) (v_base : Nat → Int64) : Option (Int32 × (Nat → Int64)) := (f_X9_isSet v_points l1).bind (fun R1 => if R1 = 0 then some ((-1 : Int32), v_base) else (f_X9_isIn l2 (-1 : Int32) (5 : Int32)).bind (fun R2 => if R2 = 0 then some ((-1 : Int32), v_base) else (f_X9_holesOf v_points v_faces l1 l2 v_base).bind (fun R3 => some (R3.1, R3.2))))
set_option maxHeartbeats 4000000 in
set_option maxRecDepth 100000 in
theorem k_X9_holes_0 {p : Program} {l : Launch} {e : Env} {s : State} {m : MethodId} {args : Array Value} {below : List Frame} {meth : Method} {c : Code} {A : Nat → Prop} {D : va_G} {cI cJ : ClassId} {h h_base : Nat} {g2 g3 g4 g6 g7 g8 g9 g10 g11 g12 g13 g14 g15 g16 g17 g18 g19 g20 g21 g22 g23 g24 g25 g26 : Value} {v_points : Int32} {v_faces : Int64} (C0 : Cx p s m args meth c cX9_holes wsX9_holes RX9 3 (some .int)) (hK : va_K D vwCl (tyL cI cJ) s) (hA : ∀ q, s.heap.size ≤ q → A q) (hX : XT none A s s.heap) {Rr : Int32 × (Nat → Int64)} : ∀ (l1 : Int32) (l2 : Int32) (v_base : Nat → Int64) (H : Heap) (locs : List Loc) (ls : Array Slot), St D A s (w_X9_holes cI cJ h h_base g2 g3 g4 g6 g7 g8 g9 g10 g11 g12 g13 g14 g15 g16 g17 g18 g19 g20 g21 g22 g23 g24 g25 g26 v_points v_faces v_base) H locs → lv_has ls 3 [(0, .ref h), (1, .int l1), (2, .int l2)] → f_X9_holes_0 v_points v_faces l1 l2 v_base = some Rr → W p l e rm_X9_holes s m args below meth c H locs 0 0 (MQ below (QI D cI cJ A (w_X9_holes cI cJ h h_base g2 g3 g4 g6 g7 g8 g9 g10 g11 g12 g13 g14 g15 g16 g17 g18 g19 g20 g21 g22 g23 g24 g25 g26 v_points v_faces Rr.2) Rr.1) args s 0 0 A) (F0 m 0 ls []) := by
  have hx := C0.1.1
  have hb := C0.1.2.1
  intro l1 l2 v_base H locs ls hSt hl hf
  unfold f_X9_holes_0 at hf
  refine lv_aload_n hx hb dX9_holes_0 rfl (lv_at hl 0 rfl) ?_
  refine lv_iload_n hx hb dX9_holes_1 rfl (lv_at hl 1 rfl) ?_
  obtain ⟨R1, hR1, hf⟩ := Option.bind_eq_some_iff.mp hf
  have sp : Sp (w_X9_holes cI cJ h h_base g2 g3 g4 g6 g7 g8 g9 g10 g11 g12 g13 g14 g15 g16 g17 g18 g19 g20 g21 g22 g23 g24 g25 g26 v_points v_faces v_base) (w_X9_isSet cI cJ h (.long v_faces) g2 g3 g4 (.ref h_base) g6 g7 g8 g9 g10 g11 g12 g13 g14 g15 g16 g17 g18 g19 g20 g21 g22 g23 g24 g25 g26 v_points) (w_X9_isSet cI cJ h (.long v_faces) g2 g3 g4 (.ref h_base) g6 g7 g8 g9 g10 g11 g12 g13 g14 g15 g16 g17 g18 g19 g20 g21 g22 g23 g24 g25 g26 v_points) (w_X9_holes cI cJ h h_base g2 g3 g4 g6 g7 g8 g9 g10 g11 g12 g13 g14 g15 g16 g17 g18 g19 g20 g21 g22 g23 g24 g25 g26 v_points v_faces v_base) [0] [1] [1, 0] := ⟨rfl, rfl, rfl, by decide, by decide, by decide, by decide⟩
  refine hb_ci (hb_rV (As := [.int l1]) (rest := []) C0 hK hA XT.nn hSt sp (c_X9_isSet l D cI cJ h (.long v_faces) g2 g3 g4 (.ref h_base) g6 g7 g8 g9 g10 g11 g12 g13 g14 g15 g16 g17 g18 g19 g20 g21 g22 g23 g24 g25 g26  l1 v_points R1 hR1) gX9_holes_X9_isSet rfl ⟨rfl, rfl⟩ hd_X9_isSet ⟨Nat.le_of_ble_eq_true rfl, Nat.le_of_ble_eq_true rfl⟩ 0 8 rfl rfl rfl hl rfl (Nat.le_of_ble_eq_true rfl) dX9_holes_2 ⟨Nat.zero_le _, Nat.zero_le _⟩) hA hSt sp (fun H locs hSt => ?_)
  refine lv_if_eq (tgt := 26) hx hb dX9_holes_5 (by decide) (fun cc => ?_) (fun cc => ?_)
  · have hf := ite_t hf cc
    refine lv_iconst (v := -1) hx hb dX9_holes_26 (by decide) ?_
    cases hf
    exact hb_iret C0 hK hSt dX9_holes_27
  · have hf := ite_f hf cc
    refine lv_iload_n hx hb dX9_holes_8 rfl (lv_at hl 2 rfl) ?_
    refine lv_iconst (v := -1) hx hb dX9_holes_9 (by decide) ?_
    refine lv_iconst (v := 5) hx hb dX9_holes_10 (by decide) ?_
    obtain ⟨R2, hR2, hf⟩ := Option.bind_eq_some_iff.mp hf
    have sp : Sp (w_X9_holes cI cJ h h_base g2 g3 g4 g6 g7 g8 g9 g10 g11 g12 g13 g14 g15 g16 g17 g18 g19 g20 g21 g22 g23 g24 g25 g26 v_points v_faces v_base) (w_X9_isIn cI cJ) (w_X9_isIn cI cJ) (w_X9_holes cI cJ h h_base g2 g3 g4 g6 g7 g8 g9 g10 g11 g12 g13 g14 g15 g16 g17 g18 g19 g20 g21 g22 g23 g24 g25 g26 v_points v_faces v_base) [] [0, 1] [0, 1] := ⟨rfl, rfl, rfl, by decide, by decide, by decide, by decide⟩
    refine hb_ci (hb_rS (As := [.int l2, .int (-1 : Int32), .int (5 : Int32)]) (rest := []) C0 hK hA XT.nn hSt sp (c_X9_isIn l D cI cJ   l2 (-1 : Int32) (5 : Int32)  R2 hR2) gX9_holes_X9_isIn rfl ⟨rfl, rfl⟩ hd_X9_isIn ⟨Nat.le_of_ble_eq_true rfl, Nat.le_of_ble_eq_true rfl⟩ rfl hl rfl (Nat.le_of_ble_eq_true rfl) dX9_holes_11 ⟨Nat.zero_le _, Nat.zero_le _⟩) hA hSt sp (fun H locs hSt => ?_)
    refine lv_if_eq (tgt := 26) hx hb dX9_holes_14 (by decide) (fun cc => ?_) (fun cc => ?_)
    · have hf := ite_t hf cc
      refine lv_iconst (v := -1) hx hb dX9_holes_26 (by decide) ?_
      cases hf
      exact hb_iret C0 hK hSt dX9_holes_27
    · have hf := ite_f hf cc
      refine lv_aload_n hx hb dX9_holes_17 rfl (lv_at hl 0 rfl) ?_
      refine lv_iload_n hx hb dX9_holes_18 rfl (lv_at hl 1 rfl) ?_
      refine lv_iload_n hx hb dX9_holes_19 rfl (lv_at hl 2 rfl) ?_
      obtain ⟨R3, hR3, hf⟩ := Option.bind_eq_some_iff.mp hf
      have sp : Sp (w_X9_holes cI cJ h h_base g2 g3 g4 g6 g7 g8 g9 g10 g11 g12 g13 g14 g15 g16 g17 g18 g19 g20 g21 g22 g23 g24 g25 g26 v_points v_faces v_base) (w_X9_holesOf cI cJ h h_base g2 g3 g4 g6 g7 g8 g9 g10 g11 g12 g13 g14 g15 g16 g17 g18 g19 g20 g21 g22 g23 g24 g25 g26 v_points v_faces v_base) (w_X9_holesOf cI cJ h h_base g2 g3 g4 g6 g7 g8 g9 g10 g11 g12 g13 g14 g15 g16 g17 g18 g19 g20 g21 g22 g23 g24 g25 g26 v_points v_faces R3.2) (w_X9_holes cI cJ h h_base g2 g3 g4 g6 g7 g8 g9 g10 g11 g12 g13 g14 g15 g16 g17 g18 g19 g20 g21 g22 g23 g24 g25 g26 v_points v_faces R3.2) [0, 1] [] [0, 1] := ⟨rfl, rfl, rfl, by decide, by decide, by decide, by decide⟩
      refine hb_ci (hb_rV (As := [.int l1, .int l2]) (rest := []) C0 hK hA XT.nn hSt sp (c_X9_holesOf l D cI cJ h h_base g2 g3 g4 g6 g7 g8 g9 g10 g11 g12 g13 g14 g15 g16 g17 g18 g19 g20 g21 g22 g23 g24 g25 g26  l1 l2 v_points v_faces v_base R3 hR3) gX9_holes_X9_holesOf rfl ⟨rfl, rfl⟩ hd_X9_holesOf ⟨Nat.le_of_ble_eq_true rfl, Nat.le_of_ble_eq_true rfl⟩ 0 8 rfl rfl rfl hl rfl (Nat.le_of_ble_eq_true rfl) dX9_holes_20 ⟨Nat.zero_le _, Nat.zero_le _⟩) hA hSt sp (fun H locs hSt => ?_)
      refine lv_goto (tgt := 27) hx hb dX9_holes_23 (by decide) ?_
      cases hf
      exact hb_iret C0 hK hSt dX9_holes_27
def f_X9_holes (v_points : Int32) (v_faces : Int64) (l1 : Int32) (l2 : Int32) (v_base : Nat → Int64) : Option (Int32 × (Nat → Int64)) := f_X9_holes_0 v_points v_faces l1 l2 v_base
set_option maxRecDepth 100000 in
theorem c_X9_holes (l : Launch) (D : va_G) (cI cJ : ClassId) (h h_base : Nat) (g2 g3 g4 g6 g7 g8 g9 g10 g11 g12 g13 g14 g15 g16 g17 g18 g19 g20 g21 g22 g23 g24 g25 g26 : Value) (l1 : Int32) (l2 : Int32) (v_points : Int32) (v_faces : Int64) (v_base : Nat → Int64) (Rr : Int32 × (Nat → Int64)) (hf : f_X9_holes v_points v_faces l1 l2 v_base = some Rr) : CtI l yX9_holes wsX9_holes rm_X9_holes D cI cJ none [.ref h, .int l1, .int l2] (w_X9_holes cI cJ h h_base g2 g3 g4 g6 g7 g8 g9 g10 g11 g12 g13 g14 g15 g16 g17 g18 g19 g20 g21 g22 g23 g24 g25 g26 v_points v_faces v_base) Rr.1 (w_X9_holes cI cJ h h_base g2 g3 g4 g6 g7 g8 g9 g10 g11 g12 g13 g14 g15 g16 g17 g18 g19 g20 g21 g22 g23 g24 g25 g26 v_points v_faces Rr.2) :=
  fun sz => BodyW.met (av := [.ref h, .int l1, .int l2]) (Qc := fun A => QI D cI cJ A (w_X9_holes cI cJ h h_base g2 g3 g4 g6 g7 g8 g9 g10 g11 g12 g13 g14 g15 g16 g17 g18 g19 g20 g21 g22 g23 g24 g25 g26 v_points v_faces Rr.2) Rr.1) (by decide) rfl rfl (Nat.le_of_ble_eq_true rfl) (fun C0 hK hA hX ls hSt hl => k_X9_holes_0 C0 hK hA hX l1 l2 v_base _ _ ls hSt hl hf) sz
/-! X9 space -/
abbrev rm_X9_space : Room := { frames := 3, cells := 0, slots := 0, locals := 71 }
abbrev w_X9_space (cI cJ : ClassId) (h : Nat) (h_base : Nat) (g2 : Value) (g3 : Value) (g4 : Value) (g6 : Value) (g7 : Value) (g8 : Value) (g9 : Value) (g10 : Value) (g11 : Value) (g12 : Value) (g13 : Value) (g14 : Value) (g15 : Value) (g16 : Value) (g17 : Value) (g18 : Value) (g19 : Value) (g20 : Value) (g21 : Value) (g22 : Value) (g23 : Value) (g24 : Value) (g25 : Value) (g26 : Value) (v_points : Int32) (v_faces : Int64) (v_base : Nat → Int64) : va_W := [(h, .inr (8, [.int v_points, .long v_faces, g2, g3, g4, .ref h_base, g6, g7, g8, g9, g10, g11, g12, g13, g14, g15, g16, g17, g18, g19, g20, g21, g22, g23, g24, g25, g26])), (h_base, .inl (cJ, 64, .inr (.inl v_base)))]
theorem hd_X9_space : yX9_space.cls = RX9 ∧ yX9_space.cls ≠ "java/lang/invoke/MethodHandle" ∧ yX9_space.cls ≠ "java/lang/invoke/VarHandle" ∧ (parseMethodDescriptor yX9_space.desc).map (fun d => d.parameters.length) = some 2 := by decide +kernel
def f_X9_space_79 (v_points : Int32) (v_faces : Int64) (k_26 : Int32 → Int32 → Int32 → Int32 → (Nat → Int64) → Option (Int32 × (Nat → Int64))) (l1 : Int32) (l2 : Int32) (l4 : Int32) (s0 : Int32) (s1 : Int32) (v_base : Nat → Int64) : Option (Int32 × (Nat → Int64)) := k_26 l1 l2 (s1 + s0) (l4 + 1) v_base
set_option maxHeartbeats 4000000 in
set_option maxRecDepth 100000 in
theorem k_X9_space_79 {p : Program} {l : Launch} {e : Env} {s : State} {m : MethodId} {args : Array Value} {below : List Frame} {meth : Method} {c : Code} {A : Nat → Prop} {D : va_G} {cI cJ : ClassId} {h h_base : Nat} {g2 g3 g4 g6 g7 g8 g9 g10 g11 g12 g13 g14 g15 g16 g17 g18 g19 g20 g21 g22 g23 g24 g25 g26 : Value} {v_points : Int32} {v_faces : Int64} (C0 : Cx p s m args meth c cX9_space wsX9_space RX9 6 (some .int)) (hK : va_K D vwCl (tyL cI cJ) s) (hA : ∀ q, s.heap.size ≤ q → A q) (hX : XT none A s s.heap) {Rr : Int32 × (Nat → Int64)} {k_26 : Int32 → Int32 → Int32 → Int32 → (Nat → Int64) → Option (Int32 × (Nat → Int64))} (hk_26 : ∀ (l1 : Int32) (l2 : Int32) (l3 : Int32) (l4 : Int32) (v_base : Nat → Int64) (H : Heap) (locs : List Loc) (ls : Array Slot), St D A s (w_X9_space cI cJ h h_base g2 g3 g4 g6 g7 g8 g9 g10 g11 g12 g13 g14 g15 g16 g17 g18 g19 g20 g21 g22 g23 g24 g25 g26 v_points v_faces v_base) H locs → lv_has ls 6 [(0, .ref h), (1, .int l1), (2, .int l2), (3, .int l3), (4, .int l4)] → k_26 l1 l2 l3 l4 v_base = some Rr → W p l e rm_X9_space s m args below meth c H locs 0 0 (MQ below (QI D cI cJ A (w_X9_space cI cJ h h_base g2 g3 g4 g6 g7 g8 g9 g10 g11 g12 g13 g14 g15 g16 g17 g18 g19 g20 g21 g22 g23 g24 g25 g26 v_points v_faces Rr.2) Rr.1) args s 0 0 A) (F0 m 26 ls [])) : ∀ (l1 : Int32) (l2 : Int32) (l4 : Int32) (s0 : Int32) (s1 : Int32) (v_base : Nat → Int64) (H : Heap) (locs : List Loc) (ls : Array Slot), St D A s (w_X9_space cI cJ h h_base g2 g3 g4 g6 g7 g8 g9 g10 g11 g12 g13 g14 g15 g16 g17 g18 g19 g20 g21 g22 g23 g24 g25 g26 v_points v_faces v_base) H locs → lv_has ls 6 [(0, .ref h), (1, .int l1), (2, .int l2), (4, .int l4)] → f_X9_space_79 v_points v_faces k_26 l1 l2 l4 s0 s1 v_base = some Rr → W p l e rm_X9_space s m args below meth c H locs 0 0 (MQ below (QI D cI cJ A (w_X9_space cI cJ h h_base g2 g3 g4 g6 g7 g8 g9 g10 g11 g12 g13 g14 g15 g16 g17 g18 g19 g20 g21 g22 g23 g24 g25 g26 v_points v_faces Rr.2) Rr.1) args s 0 0 A) (F0 m 79 ls [.int s0, .int s1]) := by
  have hx := C0.1.1
  have hb := C0.1.2.1
  intro l1 l2 l4 s0 s1 v_base H locs ls hSt hl hf
  unfold f_X9_space_79 at hf
  refine lv_iadd hx hb dX9_space_79 ?_
  refine lv_istore_n (lv' := [(3, .int (s1 + s0)), (0, .ref h), (1, .int l1), (2, .int l2), (4, .int l4)]) hx hb dX9_space_80 rfl hl (by decide) rfl (fun ls hl => ?_)
  refine lv_iinc (v := l4 + 1) (lv' := [(4, .int (l4 + 1)), (3, .int (s1 + s0)), (0, .ref h), (1, .int l1), (2, .int l2)]) hx hb dX9_space_81 hl (k := 4) rfl rfl (by decide) rfl (fun ls hl => ?_)
  refine lv_goto (tgt := 26) hx hb dX9_space_84 (by decide) ?_
  exact hk_26 l1 l2 (s1 + s0) (l4 + 1) v_base _ _ _ hSt (lv_sub hl [2, 3, 4, 1, 0] rfl) hf
def f_X9_space_54 (v_points : Int32) (v_faces : Int64) (k_26 : Int32 → Int32 → Int32 → Int32 → (Nat → Int64) → Option (Int32 × (Nat → Int64))) (l1 : Int32) (l2 : Int32) (l3 : Int32) (l4 : Int32) (s0 : Int32) (v_base : Nat → Int64) : Option (Int32 × (Nat → Int64)) := (f_X9_isIn s0 (-1 : Int32) (5 : Int32)).bind (fun R1 => if R1 = 0 then f_X9_space_79 v_points v_faces k_26 l1 l2 l4 (0 : Int32) l3 v_base else (f_X9_holesOf v_points v_faces l4 s0 v_base).bind (fun R2 => f_X9_space_79 v_points v_faces k_26 l1 l2 l4 R2.1 l3 R2.2))
set_option maxHeartbeats 4000000 in
set_option maxRecDepth 100000 in
theorem k_X9_space_54 {p : Program} {l : Launch} {e : Env} {s : State} {m : MethodId} {args : Array Value} {below : List Frame} {meth : Method} {c : Code} {A : Nat → Prop} {D : va_G} {cI cJ : ClassId} {h h_base : Nat} {g2 g3 g4 g6 g7 g8 g9 g10 g11 g12 g13 g14 g15 g16 g17 g18 g19 g20 g21 g22 g23 g24 g25 g26 : Value} {v_points : Int32} {v_faces : Int64} (C0 : Cx p s m args meth c cX9_space wsX9_space RX9 6 (some .int)) (hK : va_K D vwCl (tyL cI cJ) s) (hA : ∀ q, s.heap.size ≤ q → A q) (hX : XT none A s s.heap) {Rr : Int32 × (Nat → Int64)} {k_26 : Int32 → Int32 → Int32 → Int32 → (Nat → Int64) → Option (Int32 × (Nat → Int64))} (hk_26 : ∀ (l1 : Int32) (l2 : Int32) (l3 : Int32) (l4 : Int32) (v_base : Nat → Int64) (H : Heap) (locs : List Loc) (ls : Array Slot), St D A s (w_X9_space cI cJ h h_base g2 g3 g4 g6 g7 g8 g9 g10 g11 g12 g13 g14 g15 g16 g17 g18 g19 g20 g21 g22 g23 g24 g25 g26 v_points v_faces v_base) H locs → lv_has ls 6 [(0, .ref h), (1, .int l1), (2, .int l2), (3, .int l3), (4, .int l4)] → k_26 l1 l2 l3 l4 v_base = some Rr → W p l e rm_X9_space s m args below meth c H locs 0 0 (MQ below (QI D cI cJ A (w_X9_space cI cJ h h_base g2 g3 g4 g6 g7 g8 g9 g10 g11 g12 g13 g14 g15 g16 g17 g18 g19 g20 g21 g22 g23 g24 g25 g26 v_points v_faces Rr.2) Rr.1) args s 0 0 A) (F0 m 26 ls [])) : ∀ (l1 : Int32) (l2 : Int32) (l3 : Int32) (l4 : Int32) (s0 : Int32) (v_base : Nat → Int64) (H : Heap) (locs : List Loc) (ls : Array Slot), St D A s (w_X9_space cI cJ h h_base g2 g3 g4 g6 g7 g8 g9 g10 g11 g12 g13 g14 g15 g16 g17 g18 g19 g20 g21 g22 g23 g24 g25 g26 v_points v_faces v_base) H locs → lv_has ls 6 [(0, .ref h), (1, .int l1), (2, .int l2), (3, .int l3), (4, .int l4)] → f_X9_space_54 v_points v_faces k_26 l1 l2 l3 l4 s0 v_base = some Rr → W p l e rm_X9_space s m args below meth c H locs 0 0 (MQ below (QI D cI cJ A (w_X9_space cI cJ h h_base g2 g3 g4 g6 g7 g8 g9 g10 g11 g12 g13 g14 g15 g16 g17 g18 g19 g20 g21 g22 g23 g24 g25 g26 v_points v_faces Rr.2) Rr.1) args s 0 0 A) (F0 m 54 ls [.int s0]) := by
  have hx := C0.1.1
  have hb := C0.1.2.1
  intro l1 l2 l3 l4 s0 v_base H locs ls hSt hl hf
  unfold f_X9_space_54 at hf
  refine lv_istore (lv' := [(5, .int s0), (0, .ref h), (1, .int l1), (2, .int l2), (3, .int l3), (4, .int l4)]) hx hb dX9_space_54 hl (by decide) rfl (fun ls hl => ?_)
  refine lv_iload_n hx hb dX9_space_56 rfl (lv_at hl 4 rfl) ?_
  refine lv_iload hx hb dX9_space_57 (lv_at hl 0 rfl) ?_
  refine lv_iconst (v := -1) hx hb dX9_space_59 (by decide) ?_
  refine lv_iconst (v := 5) hx hb dX9_space_60 (by decide) ?_
  obtain ⟨R1, hR1, hf⟩ := Option.bind_eq_some_iff.mp hf
  have sp : Sp (w_X9_space cI cJ h h_base g2 g3 g4 g6 g7 g8 g9 g10 g11 g12 g13 g14 g15 g16 g17 g18 g19 g20 g21 g22 g23 g24 g25 g26 v_points v_faces v_base) (w_X9_isIn cI cJ) (w_X9_isIn cI cJ) (w_X9_space cI cJ h h_base g2 g3 g4 g6 g7 g8 g9 g10 g11 g12 g13 g14 g15 g16 g17 g18 g19 g20 g21 g22 g23 g24 g25 g26 v_points v_faces v_base) [] [0, 1] [0, 1] := ⟨rfl, rfl, rfl, by decide, by decide, by decide, by decide⟩
  refine hb_ci (hb_rS (As := [.int s0, .int (-1 : Int32), .int (5 : Int32)]) (rest := [.int l3]) C0 hK hA XT.nn hSt sp (c_X9_isIn l D cI cJ   s0 (-1 : Int32) (5 : Int32)  R1 hR1) gX9_space_X9_isIn rfl ⟨rfl, rfl⟩ hd_X9_isIn ⟨Nat.le_of_ble_eq_true rfl, Nat.le_of_ble_eq_true rfl⟩ rfl hl rfl (Nat.le_of_ble_eq_true rfl) dX9_space_61 ⟨Nat.zero_le _, Nat.zero_le _⟩) hA hSt sp (fun H locs hSt => ?_)
  refine lv_if_eq (tgt := 78) hx hb dX9_space_64 (by decide) (fun cc => ?_) (fun cc => ?_)
  · have hf := ite_t hf cc
    refine lv_iconst (v := 0) hx hb dX9_space_78 (by decide) ?_
    exact k_X9_space_79 C0 hK hA hX hk_26 l1 l2 l4 (0 : Int32) l3 v_base _ _ _ hSt (lv_sub hl [1, 2, 3, 5] rfl) hf
  · have hf := ite_f hf cc
    refine lv_aload_n hx hb dX9_space_67 rfl (lv_at hl 1 rfl) ?_
    refine lv_iload hx hb dX9_space_68 (lv_at hl 5 rfl) ?_
    refine lv_iload hx hb dX9_space_70 (lv_at hl 0 rfl) ?_
    obtain ⟨R2, hR2, hf⟩ := Option.bind_eq_some_iff.mp hf
    have sp : Sp (w_X9_space cI cJ h h_base g2 g3 g4 g6 g7 g8 g9 g10 g11 g12 g13 g14 g15 g16 g17 g18 g19 g20 g21 g22 g23 g24 g25 g26 v_points v_faces v_base) (w_X9_holesOf cI cJ h h_base g2 g3 g4 g6 g7 g8 g9 g10 g11 g12 g13 g14 g15 g16 g17 g18 g19 g20 g21 g22 g23 g24 g25 g26 v_points v_faces v_base) (w_X9_holesOf cI cJ h h_base g2 g3 g4 g6 g7 g8 g9 g10 g11 g12 g13 g14 g15 g16 g17 g18 g19 g20 g21 g22 g23 g24 g25 g26 v_points v_faces R2.2) (w_X9_space cI cJ h h_base g2 g3 g4 g6 g7 g8 g9 g10 g11 g12 g13 g14 g15 g16 g17 g18 g19 g20 g21 g22 g23 g24 g25 g26 v_points v_faces R2.2) [0, 1] [] [0, 1] := ⟨rfl, rfl, rfl, by decide, by decide, by decide, by decide⟩
    refine hb_ci (hb_rV (As := [.int l4, .int s0]) (rest := [.int l3]) C0 hK hA XT.nn hSt sp (c_X9_holesOf l D cI cJ h h_base g2 g3 g4 g6 g7 g8 g9 g10 g11 g12 g13 g14 g15 g16 g17 g18 g19 g20 g21 g22 g23 g24 g25 g26  l4 s0 v_points v_faces v_base R2 hR2) gX9_space_X9_holesOf rfl ⟨rfl, rfl⟩ hd_X9_holesOf ⟨Nat.le_of_ble_eq_true rfl, Nat.le_of_ble_eq_true rfl⟩ 0 8 rfl rfl rfl hl rfl (Nat.le_of_ble_eq_true rfl) dX9_space_72 ⟨Nat.zero_le _, Nat.zero_le _⟩) hA hSt sp (fun H locs hSt => ?_)
    refine lv_goto (tgt := 79) hx hb dX9_space_75 (by decide) ?_
    exact k_X9_space_79 C0 hK hA hX hk_26 l1 l2 l4 R2.1 l3 R2.2 _ _ _ hSt (lv_sub hl [1, 2, 3, 5] rfl) hf
def f_X9_space_26 (v_points : Int32) (v_faces : Int64)  : Nat → Int32 → Int32 → Int32 → Int32 → (Nat → Int64) → Option (Int32 × (Nat → Int64))
  | 0, _, _, _, _, _ => none
  | n + 1, l1, l2, l3, l4, v_base => (f_X9_all v_points).bind (fun R1 => if R1 < l4 then some (l3, v_base) else if l2 = 0 then (f_X9_size l4).bind (fun R2 => f_X9_space_54 v_points v_faces (f_X9_space_26 v_points v_faces n) l1 l2 l3 l4 ((l1 - R2) - (1 : Int32)) v_base) else f_X9_space_54 v_points v_faces (f_X9_space_26 v_points v_faces n) l1 l2 l3 l4 (l1 - (1 : Int32)) v_base)
set_option maxHeartbeats 4000000 in
set_option maxRecDepth 100000 in
theorem k_X9_space_26 {p : Program} {l : Launch} {e : Env} {s : State} {m : MethodId} {args : Array Value} {below : List Frame} {meth : Method} {c : Code} {A : Nat → Prop} {D : va_G} {cI cJ : ClassId} {h h_base : Nat} {g2 g3 g4 g6 g7 g8 g9 g10 g11 g12 g13 g14 g15 g16 g17 g18 g19 g20 g21 g22 g23 g24 g25 g26 : Value} {v_points : Int32} {v_faces : Int64} (C0 : Cx p s m args meth c cX9_space wsX9_space RX9 6 (some .int)) (hK : va_K D vwCl (tyL cI cJ) s) (hA : ∀ q, s.heap.size ≤ q → A q) (hX : XT none A s s.heap) {Rr : Int32 × (Nat → Int64)} (n : Nat) : ∀ (l1 : Int32) (l2 : Int32) (l3 : Int32) (l4 : Int32) (v_base : Nat → Int64) (H : Heap) (locs : List Loc) (ls : Array Slot), St D A s (w_X9_space cI cJ h h_base g2 g3 g4 g6 g7 g8 g9 g10 g11 g12 g13 g14 g15 g16 g17 g18 g19 g20 g21 g22 g23 g24 g25 g26 v_points v_faces v_base) H locs → lv_has ls 6 [(0, .ref h), (1, .int l1), (2, .int l2), (3, .int l3), (4, .int l4)] → f_X9_space_26 v_points v_faces n l1 l2 l3 l4 v_base = some Rr → W p l e rm_X9_space s m args below meth c H locs 0 0 (MQ below (QI D cI cJ A (w_X9_space cI cJ h h_base g2 g3 g4 g6 g7 g8 g9 g10 g11 g12 g13 g14 g15 g16 g17 g18 g19 g20 g21 g22 g23 g24 g25 g26 v_points v_faces Rr.2) Rr.1) args s 0 0 A) (F0 m 26 ls []) := by
  have hx := C0.1.1
  have hb := C0.1.2.1
  induction n with
  | zero => intro l1 l2 l3 l4 v_base H locs ls hSt hl hf; exact nomatch (show (none : Option _) = some Rr from hf)
  | succ n ih =>
    intro l1 l2 l3 l4 v_base H locs ls hSt hl hf
    unfold f_X9_space_26 at hf
    refine lv_iload hx hb dX9_space_26 (lv_at hl 4 rfl) ?_
    refine lv_aload_n hx hb dX9_space_28 rfl (lv_at hl 0 rfl) ?_
    obtain ⟨R1, hR1, hf⟩ := Option.bind_eq_some_iff.mp hf
    have sp : Sp (w_X9_space cI cJ h h_base g2 g3 g4 g6 g7 g8 g9 g10 g11 g12 g13 g14 g15 g16 g17 g18 g19 g20 g21 g22 g23 g24 g25 g26 v_points v_faces v_base) (w_X9_all cI cJ h (.long v_faces) g2 g3 g4 (.ref h_base) g6 g7 g8 g9 g10 g11 g12 g13 g14 g15 g16 g17 g18 g19 g20 g21 g22 g23 g24 g25 g26 v_points) (w_X9_all cI cJ h (.long v_faces) g2 g3 g4 (.ref h_base) g6 g7 g8 g9 g10 g11 g12 g13 g14 g15 g16 g17 g18 g19 g20 g21 g22 g23 g24 g25 g26 v_points) (w_X9_space cI cJ h h_base g2 g3 g4 g6 g7 g8 g9 g10 g11 g12 g13 g14 g15 g16 g17 g18 g19 g20 g21 g22 g23 g24 g25 g26 v_points v_faces v_base) [0] [1] [1, 0] := ⟨rfl, rfl, rfl, by decide, by decide, by decide, by decide⟩
    refine hb_ci (hb_rV (As := []) (rest := [.int l4]) C0 hK hA XT.nn hSt sp (c_X9_all l D cI cJ h (.long v_faces) g2 g3 g4 (.ref h_base) g6 g7 g8 g9 g10 g11 g12 g13 g14 g15 g16 g17 g18 g19 g20 g21 g22 g23 g24 g25 g26   v_points R1 hR1) gX9_space_X9_all rfl ⟨rfl, rfl⟩ hd_X9_all ⟨Nat.le_of_ble_eq_true rfl, Nat.le_of_ble_eq_true rfl⟩ 0 8 rfl rfl rfl hl rfl (Nat.le_of_ble_eq_true rfl) dX9_space_29 ⟨Nat.zero_le _, Nat.zero_le _⟩) hA hSt sp (fun H locs hSt => ?_)
    refine lv_icmp_gt (tgt := 87) hx hb dX9_space_32 (by decide) (fun cc => ?_) (fun cc => ?_)
    · have hf := ite_t hf cc
      refine lv_iload_n hx hb dX9_space_87 rfl (lv_at hl 3 rfl) ?_
      cases hf
      exact hb_iret C0 hK hSt dX9_space_88
    · have hf := ite_f hf cc
      refine lv_iload_n hx hb dX9_space_35 rfl (lv_at hl 2 rfl) ?_
      refine lv_if_ne (tgt := 51) hx hb dX9_space_36 (by decide) (fun cc => ?_) (fun cc => ?_)
      · have hf := ite_f hf cc
        refine lv_iload_n hx hb dX9_space_51 rfl (lv_at hl 1 rfl) ?_
        refine lv_iconst (v := 1) hx hb dX9_space_52 (by decide) ?_
        refine lv_isub hx hb dX9_space_53 ?_
        exact k_X9_space_54 C0 hK hA hX ih l1 l2 l3 l4 (l1 - (1 : Int32)) v_base _ _ _ hSt (lv_sub hl [0, 1, 2, 3, 4] rfl) hf
      · have hf := ite_t hf cc
        refine lv_iload_n hx hb dX9_space_39 rfl (lv_at hl 1 rfl) ?_
        refine lv_iload hx hb dX9_space_40 (lv_at hl 4 rfl) ?_
        obtain ⟨R2, hR2, hf⟩ := Option.bind_eq_some_iff.mp hf
        have sp : Sp (w_X9_space cI cJ h h_base g2 g3 g4 g6 g7 g8 g9 g10 g11 g12 g13 g14 g15 g16 g17 g18 g19 g20 g21 g22 g23 g24 g25 g26 v_points v_faces v_base) (w_X9_size cI cJ) (w_X9_size cI cJ) (w_X9_space cI cJ h h_base g2 g3 g4 g6 g7 g8 g9 g10 g11 g12 g13 g14 g15 g16 g17 g18 g19 g20 g21 g22 g23 g24 g25 g26 v_points v_faces v_base) [] [0, 1] [0, 1] := ⟨rfl, rfl, rfl, by decide, by decide, by decide, by decide⟩
        refine hb_ci (hb_rS (As := [.int l4]) (rest := [.int l1]) C0 hK hA XT.nn hSt sp (c_X9_size l D cI cJ   l4  R2 hR2) gX9_space_X9_size rfl ⟨rfl, rfl⟩ hd_X9_size ⟨Nat.le_of_ble_eq_true rfl, Nat.le_of_ble_eq_true rfl⟩ rfl hl rfl (Nat.le_of_ble_eq_true rfl) dX9_space_42 ⟨Nat.zero_le _, Nat.zero_le _⟩) hA hSt sp (fun H locs hSt => ?_)
        refine lv_isub hx hb dX9_space_45 ?_
        refine lv_iconst (v := 1) hx hb dX9_space_46 (by decide) ?_
        refine lv_isub hx hb dX9_space_47 ?_
        refine lv_goto (tgt := 54) hx hb dX9_space_48 (by decide) ?_
        exact k_X9_space_54 C0 hK hA hX ih l1 l2 l3 l4 ((l1 - R2) - (1 : Int32)) v_base _ _ _ hSt (lv_sub hl [0, 1, 2, 3, 4] rfl) hf
def f_X9_space_0 (v_points : Int32) (v_faces : Int64)  (l1 : Int32) (l2 : Int32) (v_base : Nat → Int64) : Option (Int32 × (Nat → Int64)) := (f_X9_isIn l1 (0 : Int32) (12 : Int32)).bind (fun R1 => if R1 = 0 then some ((-1 : Int32), v_base) else (f_X9_isIn l2 (0 : Int32) (1 : Int32)).bind (fun R2 => if R2 = 0 then some ((-1 : Int32), v_base) else f_X9_space_26 v_points v_faces  FU l1 l2 (0 : Int32) (0 : Int32) v_base))
set_option maxHeartbeats 4000000 in
set_option maxRecDepth 100000 in
theorem k_X9_space_0 {p : Program} {l : Launch} {e : Env} {s : State} {m : MethodId} {args : Array Value} {below : List Frame} {meth : Method} {c : Code} {A : Nat → Prop} {D : va_G} {cI cJ : ClassId} {h h_base : Nat} {g2 g3 g4 g6 g7 g8 g9 g10 g11 g12 g13 g14 g15 g16 g17 g18 g19 g20 g21 g22 g23 g24 g25 g26 : Value} {v_points : Int32} {v_faces : Int64} (C0 : Cx p s m args meth c cX9_space wsX9_space RX9 6 (some .int)) (hK : va_K D vwCl (tyL cI cJ) s) (hA : ∀ q, s.heap.size ≤ q → A q) (hX : XT none A s s.heap) {Rr : Int32 × (Nat → Int64)} : ∀ (l1 : Int32) (l2 : Int32) (v_base : Nat → Int64) (H : Heap) (locs : List Loc) (ls : Array Slot), St D A s (w_X9_space cI cJ h h_base g2 g3 g4 g6 g7 g8 g9 g10 g11 g12 g13 g14 g15 g16 g17 g18 g19 g20 g21 g22 g23 g24 g25 g26 v_points v_faces v_base) H locs → lv_has ls 6 [(0, .ref h), (1, .int l1), (2, .int l2)] → f_X9_space_0 v_points v_faces l1 l2 v_base = some Rr → W p l e rm_X9_space s m args below meth c H locs 0 0 (MQ below (QI D cI cJ A (w_X9_space cI cJ h h_base g2 g3 g4 g6 g7 g8 g9 g10 g11 g12 g13 g14 g15 g16 g17 g18 g19 g20 g21 g22 g23 g24 g25 g26 v_points v_faces Rr.2) Rr.1) args s 0 0 A) (F0 m 0 ls []) := by
  have hx := C0.1.1
  have hb := C0.1.2.1
  intro l1 l2 v_base H locs ls hSt hl hf
  unfold f_X9_space_0 at hf
  refine lv_iload_n hx hb dX9_space_0 rfl (lv_at hl 1 rfl) ?_
  refine lv_iconst (v := 0) hx hb dX9_space_1 (by decide) ?_
  refine lv_bipush (v := 12) hx hb dX9_space_2 (by decide) ?_
  obtain ⟨R1, hR1, hf⟩ := Option.bind_eq_some_iff.mp hf
  have sp : Sp (w_X9_space cI cJ h h_base g2 g3 g4 g6 g7 g8 g9 g10 g11 g12 g13 g14 g15 g16 g17 g18 g19 g20 g21 g22 g23 g24 g25 g26 v_points v_faces v_base) (w_X9_isIn cI cJ) (w_X9_isIn cI cJ) (w_X9_space cI cJ h h_base g2 g3 g4 g6 g7 g8 g9 g10 g11 g12 g13 g14 g15 g16 g17 g18 g19 g20 g21 g22 g23 g24 g25 g26 v_points v_faces v_base) [] [0, 1] [0, 1] := ⟨rfl, rfl, rfl, by decide, by decide, by decide, by decide⟩
  refine hb_ci (hb_rS (As := [.int l1, .int (0 : Int32), .int (12 : Int32)]) (rest := []) C0 hK hA XT.nn hSt sp (c_X9_isIn l D cI cJ   l1 (0 : Int32) (12 : Int32)  R1 hR1) gX9_space_X9_isIn rfl ⟨rfl, rfl⟩ hd_X9_isIn ⟨Nat.le_of_ble_eq_true rfl, Nat.le_of_ble_eq_true rfl⟩ rfl hl rfl (Nat.le_of_ble_eq_true rfl) dX9_space_4 ⟨Nat.zero_le _, Nat.zero_le _⟩) hA hSt sp (fun H locs hSt => ?_)
  refine lv_if_eq (tgt := 19) hx hb dX9_space_7 (by decide) (fun cc => ?_) (fun cc => ?_)
  · have hf := ite_t hf cc
    refine lv_iconst (v := -1) hx hb dX9_space_19 (by decide) ?_
    cases hf
    exact hb_iret C0 hK hSt dX9_space_20
  · have hf := ite_f hf cc
    refine lv_iload_n hx hb dX9_space_10 rfl (lv_at hl 2 rfl) ?_
    refine lv_iconst (v := 0) hx hb dX9_space_11 (by decide) ?_
    refine lv_iconst (v := 1) hx hb dX9_space_12 (by decide) ?_
    obtain ⟨R2, hR2, hf⟩ := Option.bind_eq_some_iff.mp hf
    have sp : Sp (w_X9_space cI cJ h h_base g2 g3 g4 g6 g7 g8 g9 g10 g11 g12 g13 g14 g15 g16 g17 g18 g19 g20 g21 g22 g23 g24 g25 g26 v_points v_faces v_base) (w_X9_isIn cI cJ) (w_X9_isIn cI cJ) (w_X9_space cI cJ h h_base g2 g3 g4 g6 g7 g8 g9 g10 g11 g12 g13 g14 g15 g16 g17 g18 g19 g20 g21 g22 g23 g24 g25 g26 v_points v_faces v_base) [] [0, 1] [0, 1] := ⟨rfl, rfl, rfl, by decide, by decide, by decide, by decide⟩
    refine hb_ci (hb_rS (As := [.int l2, .int (0 : Int32), .int (1 : Int32)]) (rest := []) C0 hK hA XT.nn hSt sp (c_X9_isIn l D cI cJ   l2 (0 : Int32) (1 : Int32)  R2 hR2) gX9_space_X9_isIn rfl ⟨rfl, rfl⟩ hd_X9_isIn ⟨Nat.le_of_ble_eq_true rfl, Nat.le_of_ble_eq_true rfl⟩ rfl hl rfl (Nat.le_of_ble_eq_true rfl) dX9_space_13 ⟨Nat.zero_le _, Nat.zero_le _⟩) hA hSt sp (fun H locs hSt => ?_)
    refine lv_if_ne (tgt := 21) hx hb dX9_space_16 (by decide) (fun cc => ?_) (fun cc => ?_)
    · have hf := ite_f hf cc
      refine lv_iconst (v := 0) hx hb dX9_space_21 (by decide) ?_
      refine lv_istore_n (lv' := [(3, .int (0 : Int32)), (0, .ref h), (1, .int l1), (2, .int l2)]) hx hb dX9_space_22 rfl hl (by decide) rfl (fun ls hl => ?_)
      refine lv_iconst (v := 0) hx hb dX9_space_23 (by decide) ?_
      refine lv_istore (lv' := [(4, .int (0 : Int32)), (3, .int (0 : Int32)), (0, .ref h), (1, .int l1), (2, .int l2)]) hx hb dX9_space_24 hl (by decide) rfl (fun ls hl => ?_)
      exact k_X9_space_26 C0 hK hA hX  FU l1 l2 (0 : Int32) (0 : Int32) v_base _ _ _ hSt (lv_sub hl [2, 3, 4, 1, 0] rfl) hf
    · have hf := ite_t hf cc
      refine lv_iconst (v := -1) hx hb dX9_space_19 (by decide) ?_
      cases hf
      exact hb_iret C0 hK hSt dX9_space_20
def f_X9_space (v_points : Int32) (v_faces : Int64) (l1 : Int32) (l2 : Int32) (v_base : Nat → Int64) : Option (Int32 × (Nat → Int64)) := f_X9_space_0 v_points v_faces l1 l2 v_base
set_option maxRecDepth 100000 in
theorem c_X9_space (l : Launch) (D : va_G) (cI cJ : ClassId) (h h_base : Nat) (g2 g3 g4 g6 g7 g8 g9 g10 g11 g12 g13 g14 g15 g16 g17 g18 g19 g20 g21 g22 g23 g24 g25 g26 : Value) (l1 : Int32) (l2 : Int32) (v_points : Int32) (v_faces : Int64) (v_base : Nat → Int64) (Rr : Int32 × (Nat → Int64)) (hf : f_X9_space v_points v_faces l1 l2 v_base = some Rr) : CtI l yX9_space wsX9_space rm_X9_space D cI cJ none [.ref h, .int l1, .int l2] (w_X9_space cI cJ h h_base g2 g3 g4 g6 g7 g8 g9 g10 g11 g12 g13 g14 g15 g16 g17 g18 g19 g20 g21 g22 g23 g24 g25 g26 v_points v_faces v_base) Rr.1 (w_X9_space cI cJ h h_base g2 g3 g4 g6 g7 g8 g9 g10 g11 g12 g13 g14 g15 g16 g17 g18 g19 g20 g21 g22 g23 g24 g25 g26 v_points v_faces Rr.2) :=
  fun sz => BodyW.met (av := [.ref h, .int l1, .int l2]) (Qc := fun A => QI D cI cJ A (w_X9_space cI cJ h h_base g2 g3 g4 g6 g7 g8 g9 g10 g11 g12 g13 g14 g15 g16 g17 g18 g19 g20 g21 g22 g23 g24 g25 g26 v_points v_faces Rr.2) Rr.1) (by decide) rfl rfl (Nat.le_of_ble_eq_true rfl) (fun C0 hK hA hX ls hSt hl => k_X9_space_0 C0 hK hA hX l1 l2 v_base _ _ ls hSt hl hf) sz
/-! X9 tower -/
abbrev rm_X9_tower : Room := { frames := 3, cells := 0, slots := 0, locals := 71 }
abbrev w_X9_tower (cI cJ : ClassId) (h : Nat) (h_base : Nat) (g2 : Value) (g3 : Value) (g4 : Value) (g6 : Value) (g7 : Value) (g8 : Value) (g9 : Value) (g10 : Value) (g11 : Value) (g12 : Value) (g13 : Value) (g14 : Value) (g15 : Value) (g16 : Value) (g17 : Value) (g18 : Value) (g19 : Value) (g20 : Value) (g21 : Value) (g22 : Value) (g23 : Value) (g24 : Value) (g25 : Value) (g26 : Value) (v_points : Int32) (v_faces : Int64) (v_base : Nat → Int64) : va_W := [(h, .inr (8, [.int v_points, .long v_faces, g2, g3, g4, .ref h_base, g6, g7, g8, g9, g10, g11, g12, g13, g14, g15, g16, g17, g18, g19, g20, g21, g22, g23, g24, g25, g26])), (h_base, .inl (cJ, 64, .inr (.inl v_base)))]
theorem hd_X9_tower : yX9_tower.cls = RX9 ∧ yX9_tower.cls ≠ "java/lang/invoke/MethodHandle" ∧ yX9_tower.cls ≠ "java/lang/invoke/VarHandle" ∧ (parseMethodDescriptor yX9_tower.desc).map (fun d => d.parameters.length) = some 2 := by decide +kernel
def f_X9_tower_74 (v_points : Int32) (v_faces : Int64) (k_27 : Int32 → Int32 → Int32 → Int32 → (Nat → Int64) → Option (Int32 × (Nat → Int64))) (l1 : Int32) (l2 : Int32) (l4 : Int32) (s0 : Int32) (s1 : Int32) (v_base : Nat → Int64) : Option (Int32 × (Nat → Int64)) := k_27 l1 l2 (s1 + s0) (l4 + 1) v_base
set_option maxHeartbeats 4000000 in
set_option maxRecDepth 100000 in
theorem k_X9_tower_74 {p : Program} {l : Launch} {e : Env} {s : State} {m : MethodId} {args : Array Value} {below : List Frame} {meth : Method} {c : Code} {A : Nat → Prop} {D : va_G} {cI cJ : ClassId} {h h_base : Nat} {g2 g3 g4 g6 g7 g8 g9 g10 g11 g12 g13 g14 g15 g16 g17 g18 g19 g20 g21 g22 g23 g24 g25 g26 : Value} {v_points : Int32} {v_faces : Int64} (C0 : Cx p s m args meth c cX9_tower wsX9_tower RX9 5 (some .int)) (hK : va_K D vwCl (tyL cI cJ) s) (hA : ∀ q, s.heap.size ≤ q → A q) (hX : XT none A s s.heap) {Rr : Int32 × (Nat → Int64)} {k_27 : Int32 → Int32 → Int32 → Int32 → (Nat → Int64) → Option (Int32 × (Nat → Int64))} (hk_27 : ∀ (l1 : Int32) (l2 : Int32) (l3 : Int32) (l4 : Int32) (v_base : Nat → Int64) (H : Heap) (locs : List Loc) (ls : Array Slot), St D A s (w_X9_tower cI cJ h h_base g2 g3 g4 g6 g7 g8 g9 g10 g11 g12 g13 g14 g15 g16 g17 g18 g19 g20 g21 g22 g23 g24 g25 g26 v_points v_faces v_base) H locs → lv_has ls 5 [(0, .ref h), (1, .int l1), (2, .int l2), (3, .int l3), (4, .int l4)] → k_27 l1 l2 l3 l4 v_base = some Rr → W p l e rm_X9_tower s m args below meth c H locs 0 0 (MQ below (QI D cI cJ A (w_X9_tower cI cJ h h_base g2 g3 g4 g6 g7 g8 g9 g10 g11 g12 g13 g14 g15 g16 g17 g18 g19 g20 g21 g22 g23 g24 g25 g26 v_points v_faces Rr.2) Rr.1) args s 0 0 A) (F0 m 27 ls [])) : ∀ (l1 : Int32) (l2 : Int32) (l4 : Int32) (s0 : Int32) (s1 : Int32) (v_base : Nat → Int64) (H : Heap) (locs : List Loc) (ls : Array Slot), St D A s (w_X9_tower cI cJ h h_base g2 g3 g4 g6 g7 g8 g9 g10 g11 g12 g13 g14 g15 g16 g17 g18 g19 g20 g21 g22 g23 g24 g25 g26 v_points v_faces v_base) H locs → lv_has ls 5 [(0, .ref h), (1, .int l1), (2, .int l2), (4, .int l4)] → f_X9_tower_74 v_points v_faces k_27 l1 l2 l4 s0 s1 v_base = some Rr → W p l e rm_X9_tower s m args below meth c H locs 0 0 (MQ below (QI D cI cJ A (w_X9_tower cI cJ h h_base g2 g3 g4 g6 g7 g8 g9 g10 g11 g12 g13 g14 g15 g16 g17 g18 g19 g20 g21 g22 g23 g24 g25 g26 v_points v_faces Rr.2) Rr.1) args s 0 0 A) (F0 m 74 ls [.int s0, .int s1]) := by
  have hx := C0.1.1
  have hb := C0.1.2.1
  intro l1 l2 l4 s0 s1 v_base H locs ls hSt hl hf
  unfold f_X9_tower_74 at hf
  refine lv_iadd hx hb dX9_tower_74 ?_
  refine lv_istore_n (lv' := [(3, .int (s1 + s0)), (0, .ref h), (1, .int l1), (2, .int l2), (4, .int l4)]) hx hb dX9_tower_75 rfl hl (by decide) rfl (fun ls hl => ?_)
  refine lv_iinc (v := l4 + 1) (lv' := [(4, .int (l4 + 1)), (3, .int (s1 + s0)), (0, .ref h), (1, .int l1), (2, .int l2)]) hx hb dX9_tower_76 hl (k := 4) rfl rfl (by decide) rfl (fun ls hl => ?_)
  refine lv_goto (tgt := 27) hx hb dX9_tower_79 (by decide) ?_
  exact hk_27 l1 l2 (s1 + s0) (l4 + 1) v_base _ _ _ hSt (lv_sub hl [2, 3, 4, 1, 0] rfl) hf
def f_X9_tower_73 (v_points : Int32) (v_faces : Int64) (k_27 : Int32 → Int32 → Int32 → Int32 → (Nat → Int64) → Option (Int32 × (Nat → Int64))) (l1 : Int32) (l2 : Int32) (l4 : Int32) (s0 : Int32) (v_base : Nat → Int64) : Option (Int32 × (Nat → Int64)) := f_X9_tower_74 v_points v_faces k_27 l1 l2 l4 (0 : Int32) s0 v_base
set_option maxHeartbeats 4000000 in
set_option maxRecDepth 100000 in
theorem k_X9_tower_73 {p : Program} {l : Launch} {e : Env} {s : State} {m : MethodId} {args : Array Value} {below : List Frame} {meth : Method} {c : Code} {A : Nat → Prop} {D : va_G} {cI cJ : ClassId} {h h_base : Nat} {g2 g3 g4 g6 g7 g8 g9 g10 g11 g12 g13 g14 g15 g16 g17 g18 g19 g20 g21 g22 g23 g24 g25 g26 : Value} {v_points : Int32} {v_faces : Int64} (C0 : Cx p s m args meth c cX9_tower wsX9_tower RX9 5 (some .int)) (hK : va_K D vwCl (tyL cI cJ) s) (hA : ∀ q, s.heap.size ≤ q → A q) (hX : XT none A s s.heap) {Rr : Int32 × (Nat → Int64)} {k_27 : Int32 → Int32 → Int32 → Int32 → (Nat → Int64) → Option (Int32 × (Nat → Int64))} (hk_27 : ∀ (l1 : Int32) (l2 : Int32) (l3 : Int32) (l4 : Int32) (v_base : Nat → Int64) (H : Heap) (locs : List Loc) (ls : Array Slot), St D A s (w_X9_tower cI cJ h h_base g2 g3 g4 g6 g7 g8 g9 g10 g11 g12 g13 g14 g15 g16 g17 g18 g19 g20 g21 g22 g23 g24 g25 g26 v_points v_faces v_base) H locs → lv_has ls 5 [(0, .ref h), (1, .int l1), (2, .int l2), (3, .int l3), (4, .int l4)] → k_27 l1 l2 l3 l4 v_base = some Rr → W p l e rm_X9_tower s m args below meth c H locs 0 0 (MQ below (QI D cI cJ A (w_X9_tower cI cJ h h_base g2 g3 g4 g6 g7 g8 g9 g10 g11 g12 g13 g14 g15 g16 g17 g18 g19 g20 g21 g22 g23 g24 g25 g26 v_points v_faces Rr.2) Rr.1) args s 0 0 A) (F0 m 27 ls [])) : ∀ (l1 : Int32) (l2 : Int32) (l4 : Int32) (s0 : Int32) (v_base : Nat → Int64) (H : Heap) (locs : List Loc) (ls : Array Slot), St D A s (w_X9_tower cI cJ h h_base g2 g3 g4 g6 g7 g8 g9 g10 g11 g12 g13 g14 g15 g16 g17 g18 g19 g20 g21 g22 g23 g24 g25 g26 v_points v_faces v_base) H locs → lv_has ls 5 [(0, .ref h), (1, .int l1), (2, .int l2), (4, .int l4)] → f_X9_tower_73 v_points v_faces k_27 l1 l2 l4 s0 v_base = some Rr → W p l e rm_X9_tower s m args below meth c H locs 0 0 (MQ below (QI D cI cJ A (w_X9_tower cI cJ h h_base g2 g3 g4 g6 g7 g8 g9 g10 g11 g12 g13 g14 g15 g16 g17 g18 g19 g20 g21 g22 g23 g24 g25 g26 v_points v_faces Rr.2) Rr.1) args s 0 0 A) (F0 m 73 ls [.int s0]) := by
  have hx := C0.1.1
  have hb := C0.1.2.1
  intro l1 l2 l4 s0 v_base H locs ls hSt hl hf
  unfold f_X9_tower_73 at hf
  refine lv_iconst (v := 0) hx hb dX9_tower_73 (by decide) ?_
  exact k_X9_tower_74 C0 hK hA hX hk_27 l1 l2 l4 (0 : Int32) s0 v_base _ _ _ hSt (lv_sub hl [0, 1, 2, 3] rfl) hf
def f_X9_tower_27 (v_points : Int32) (v_faces : Int64)  : Nat → Int32 → Int32 → Int32 → Int32 → (Nat → Int64) → Option (Int32 × (Nat → Int64))
  | 0, _, _, _, _, _ => none
  | n + 1, l1, l2, l3, l4, v_base => (f_X9_all v_points).bind (fun R1 => if R1 < l4 then some (l3, v_base) else (f_X9_size l4).bind (fun R2 => if R2 = l2 then (f_X9_isIn ((l2 - l1) - (1 : Int32)) (-1 : Int32) (5 : Int32)).bind (fun R3 => if R3 = 0 then f_X9_tower_73 v_points v_faces (f_X9_tower_27 v_points v_faces n) l1 l2 l4 l3 v_base else (f_X9_holesOf v_points v_faces l4 ((l2 - l1) - (1 : Int32)) v_base).bind (fun R4 => f_X9_tower_74 v_points v_faces (f_X9_tower_27 v_points v_faces n) l1 l2 l4 R4.1 l3 R4.2)) else f_X9_tower_73 v_points v_faces (f_X9_tower_27 v_points v_faces n) l1 l2 l4 l3 v_base))
set_option maxHeartbeats 4000000 in
set_option maxRecDepth 100000 in
theorem k_X9_tower_27 {p : Program} {l : Launch} {e : Env} {s : State} {m : MethodId} {args : Array Value} {below : List Frame} {meth : Method} {c : Code} {A : Nat → Prop} {D : va_G} {cI cJ : ClassId} {h h_base : Nat} {g2 g3 g4 g6 g7 g8 g9 g10 g11 g12 g13 g14 g15 g16 g17 g18 g19 g20 g21 g22 g23 g24 g25 g26 : Value} {v_points : Int32} {v_faces : Int64} (C0 : Cx p s m args meth c cX9_tower wsX9_tower RX9 5 (some .int)) (hK : va_K D vwCl (tyL cI cJ) s) (hA : ∀ q, s.heap.size ≤ q → A q) (hX : XT none A s s.heap) {Rr : Int32 × (Nat → Int64)} (n : Nat) : ∀ (l1 : Int32) (l2 : Int32) (l3 : Int32) (l4 : Int32) (v_base : Nat → Int64) (H : Heap) (locs : List Loc) (ls : Array Slot), St D A s (w_X9_tower cI cJ h h_base g2 g3 g4 g6 g7 g8 g9 g10 g11 g12 g13 g14 g15 g16 g17 g18 g19 g20 g21 g22 g23 g24 g25 g26 v_points v_faces v_base) H locs → lv_has ls 5 [(0, .ref h), (1, .int l1), (2, .int l2), (3, .int l3), (4, .int l4)] → f_X9_tower_27 v_points v_faces n l1 l2 l3 l4 v_base = some Rr → W p l e rm_X9_tower s m args below meth c H locs 0 0 (MQ below (QI D cI cJ A (w_X9_tower cI cJ h h_base g2 g3 g4 g6 g7 g8 g9 g10 g11 g12 g13 g14 g15 g16 g17 g18 g19 g20 g21 g22 g23 g24 g25 g26 v_points v_faces Rr.2) Rr.1) args s 0 0 A) (F0 m 27 ls []) := by
  have hx := C0.1.1
  have hb := C0.1.2.1
  induction n with
  | zero => intro l1 l2 l3 l4 v_base H locs ls hSt hl hf; exact nomatch (show (none : Option _) = some Rr from hf)
  | succ n ih =>
    intro l1 l2 l3 l4 v_base H locs ls hSt hl hf
    unfold f_X9_tower_27 at hf
    refine lv_iload hx hb dX9_tower_27 (lv_at hl 4 rfl) ?_
    refine lv_aload_n hx hb dX9_tower_29 rfl (lv_at hl 0 rfl) ?_
    obtain ⟨R1, hR1, hf⟩ := Option.bind_eq_some_iff.mp hf
    have sp : Sp (w_X9_tower cI cJ h h_base g2 g3 g4 g6 g7 g8 g9 g10 g11 g12 g13 g14 g15 g16 g17 g18 g19 g20 g21 g22 g23 g24 g25 g26 v_points v_faces v_base) (w_X9_all cI cJ h (.long v_faces) g2 g3 g4 (.ref h_base) g6 g7 g8 g9 g10 g11 g12 g13 g14 g15 g16 g17 g18 g19 g20 g21 g22 g23 g24 g25 g26 v_points) (w_X9_all cI cJ h (.long v_faces) g2 g3 g4 (.ref h_base) g6 g7 g8 g9 g10 g11 g12 g13 g14 g15 g16 g17 g18 g19 g20 g21 g22 g23 g24 g25 g26 v_points) (w_X9_tower cI cJ h h_base g2 g3 g4 g6 g7 g8 g9 g10 g11 g12 g13 g14 g15 g16 g17 g18 g19 g20 g21 g22 g23 g24 g25 g26 v_points v_faces v_base) [0] [1] [1, 0] := ⟨rfl, rfl, rfl, by decide, by decide, by decide, by decide⟩
    refine hb_ci (hb_rV (As := []) (rest := [.int l4]) C0 hK hA XT.nn hSt sp (c_X9_all l D cI cJ h (.long v_faces) g2 g3 g4 (.ref h_base) g6 g7 g8 g9 g10 g11 g12 g13 g14 g15 g16 g17 g18 g19 g20 g21 g22 g23 g24 g25 g26   v_points R1 hR1) gX9_tower_X9_all rfl ⟨rfl, rfl⟩ hd_X9_all ⟨Nat.le_of_ble_eq_true rfl, Nat.le_of_ble_eq_true rfl⟩ 0 8 rfl rfl rfl hl rfl (Nat.le_of_ble_eq_true rfl) dX9_tower_30 ⟨Nat.zero_le _, Nat.zero_le _⟩) hA hSt sp (fun H locs hSt => ?_)
    refine lv_icmp_gt (tgt := 82) hx hb dX9_tower_33 (by decide) (fun cc => ?_) (fun cc => ?_)
    · have hf := ite_t hf cc
      refine lv_iload_n hx hb dX9_tower_82 rfl (lv_at hl 3 rfl) ?_
      cases hf
      exact hb_iret C0 hK hSt dX9_tower_83
    · have hf := ite_f hf cc
      refine lv_iload_n hx hb dX9_tower_36 rfl (lv_at hl 3 rfl) ?_
      refine lv_iload hx hb dX9_tower_37 (lv_at hl 4 rfl) ?_
      obtain ⟨R2, hR2, hf⟩ := Option.bind_eq_some_iff.mp hf
      have sp : Sp (w_X9_tower cI cJ h h_base g2 g3 g4 g6 g7 g8 g9 g10 g11 g12 g13 g14 g15 g16 g17 g18 g19 g20 g21 g22 g23 g24 g25 g26 v_points v_faces v_base) (w_X9_size cI cJ) (w_X9_size cI cJ) (w_X9_tower cI cJ h h_base g2 g3 g4 g6 g7 g8 g9 g10 g11 g12 g13 g14 g15 g16 g17 g18 g19 g20 g21 g22 g23 g24 g25 g26 v_points v_faces v_base) [] [0, 1] [0, 1] := ⟨rfl, rfl, rfl, by decide, by decide, by decide, by decide⟩
      refine hb_ci (hb_rS (As := [.int l4]) (rest := [.int l3]) C0 hK hA XT.nn hSt sp (c_X9_size l D cI cJ   l4  R2 hR2) gX9_tower_X9_size rfl ⟨rfl, rfl⟩ hd_X9_size ⟨Nat.le_of_ble_eq_true rfl, Nat.le_of_ble_eq_true rfl⟩ rfl hl rfl (Nat.le_of_ble_eq_true rfl) dX9_tower_39 ⟨Nat.zero_le _, Nat.zero_le _⟩) hA hSt sp (fun H locs hSt => ?_)
      refine lv_iload_n hx hb dX9_tower_42 rfl (lv_at hl 2 rfl) ?_
      refine lv_icmp_ne (tgt := 73) hx hb dX9_tower_43 (by decide) (fun cc => ?_) (fun cc => ?_)
      · have hf := ite_f hf cc
        exact k_X9_tower_73 C0 hK hA hX ih l1 l2 l4 l3 v_base _ _ _ hSt (lv_sub hl [0, 1, 2, 4] rfl) hf
      · have hf := ite_t hf cc
        refine lv_iload_n hx hb dX9_tower_46 rfl (lv_at hl 2 rfl) ?_
        refine lv_iload_n hx hb dX9_tower_47 rfl (lv_at hl 1 rfl) ?_
        refine lv_isub hx hb dX9_tower_48 ?_
        refine lv_iconst (v := 1) hx hb dX9_tower_49 (by decide) ?_
        refine lv_isub hx hb dX9_tower_50 ?_
        refine lv_iconst (v := -1) hx hb dX9_tower_51 (by decide) ?_
        refine lv_iconst (v := 5) hx hb dX9_tower_52 (by decide) ?_
        obtain ⟨R3, hR3, hf⟩ := Option.bind_eq_some_iff.mp hf
        have sp : Sp (w_X9_tower cI cJ h h_base g2 g3 g4 g6 g7 g8 g9 g10 g11 g12 g13 g14 g15 g16 g17 g18 g19 g20 g21 g22 g23 g24 g25 g26 v_points v_faces v_base) (w_X9_isIn cI cJ) (w_X9_isIn cI cJ) (w_X9_tower cI cJ h h_base g2 g3 g4 g6 g7 g8 g9 g10 g11 g12 g13 g14 g15 g16 g17 g18 g19 g20 g21 g22 g23 g24 g25 g26 v_points v_faces v_base) [] [0, 1] [0, 1] := ⟨rfl, rfl, rfl, by decide, by decide, by decide, by decide⟩
        refine hb_ci (hb_rS (As := [.int ((l2 - l1) - (1 : Int32)), .int (-1 : Int32), .int (5 : Int32)]) (rest := [.int l3]) C0 hK hA XT.nn hSt sp (c_X9_isIn l D cI cJ   ((l2 - l1) - (1 : Int32)) (-1 : Int32) (5 : Int32)  R3 hR3) gX9_tower_X9_isIn rfl ⟨rfl, rfl⟩ hd_X9_isIn ⟨Nat.le_of_ble_eq_true rfl, Nat.le_of_ble_eq_true rfl⟩ rfl hl rfl (Nat.le_of_ble_eq_true rfl) dX9_tower_53 ⟨Nat.zero_le _, Nat.zero_le _⟩) hA hSt sp (fun H locs hSt => ?_)
        refine lv_if_eq (tgt := 73) hx hb dX9_tower_56 (by decide) (fun cc => ?_) (fun cc => ?_)
        · have hf := ite_t hf cc
          exact k_X9_tower_73 C0 hK hA hX ih l1 l2 l4 l3 v_base _ _ _ hSt (lv_sub hl [0, 1, 2, 4] rfl) hf
        · have hf := ite_f hf cc
          refine lv_aload_n hx hb dX9_tower_59 rfl (lv_at hl 0 rfl) ?_
          refine lv_iload hx hb dX9_tower_60 (lv_at hl 4 rfl) ?_
          refine lv_iload_n hx hb dX9_tower_62 rfl (lv_at hl 2 rfl) ?_
          refine lv_iload_n hx hb dX9_tower_63 rfl (lv_at hl 1 rfl) ?_
          refine lv_isub hx hb dX9_tower_64 ?_
          refine lv_iconst (v := 1) hx hb dX9_tower_65 (by decide) ?_
          refine lv_isub hx hb dX9_tower_66 ?_
          obtain ⟨R4, hR4, hf⟩ := Option.bind_eq_some_iff.mp hf
          have sp : Sp (w_X9_tower cI cJ h h_base g2 g3 g4 g6 g7 g8 g9 g10 g11 g12 g13 g14 g15 g16 g17 g18 g19 g20 g21 g22 g23 g24 g25 g26 v_points v_faces v_base) (w_X9_holesOf cI cJ h h_base g2 g3 g4 g6 g7 g8 g9 g10 g11 g12 g13 g14 g15 g16 g17 g18 g19 g20 g21 g22 g23 g24 g25 g26 v_points v_faces v_base) (w_X9_holesOf cI cJ h h_base g2 g3 g4 g6 g7 g8 g9 g10 g11 g12 g13 g14 g15 g16 g17 g18 g19 g20 g21 g22 g23 g24 g25 g26 v_points v_faces R4.2) (w_X9_tower cI cJ h h_base g2 g3 g4 g6 g7 g8 g9 g10 g11 g12 g13 g14 g15 g16 g17 g18 g19 g20 g21 g22 g23 g24 g25 g26 v_points v_faces R4.2) [0, 1] [] [0, 1] := ⟨rfl, rfl, rfl, by decide, by decide, by decide, by decide⟩
          refine hb_ci (hb_rV (As := [.int l4, .int ((l2 - l1) - (1 : Int32))]) (rest := [.int l3]) C0 hK hA XT.nn hSt sp (c_X9_holesOf l D cI cJ h h_base g2 g3 g4 g6 g7 g8 g9 g10 g11 g12 g13 g14 g15 g16 g17 g18 g19 g20 g21 g22 g23 g24 g25 g26  l4 ((l2 - l1) - (1 : Int32)) v_points v_faces v_base R4 hR4) gX9_tower_X9_holesOf rfl ⟨rfl, rfl⟩ hd_X9_holesOf ⟨Nat.le_of_ble_eq_true rfl, Nat.le_of_ble_eq_true rfl⟩ 0 8 rfl rfl rfl hl rfl (Nat.le_of_ble_eq_true rfl) dX9_tower_67 ⟨Nat.zero_le _, Nat.zero_le _⟩) hA hSt sp (fun H locs hSt => ?_)
          refine lv_goto (tgt := 74) hx hb dX9_tower_70 (by decide) ?_
          exact k_X9_tower_74 C0 hK hA hX ih l1 l2 l4 R4.1 l3 R4.2 _ _ _ hSt (lv_sub hl [0, 1, 2, 4] rfl) hf
def f_X9_tower_0 (v_points : Int32) (v_faces : Int64)  (l1 : Int32) (l2 : Int32) (v_base : Nat → Int64) : Option (Int32 × (Nat → Int64)) := (f_X9_isIn l1 (0 : Int32) (6 : Int32)).bind (fun R1 => if R1 = 0 then some ((-1 : Int32), v_base) else (f_X9_isIn l2 (0 : Int32) (6 : Int32)).bind (fun R2 => if R2 = 0 then some ((-1 : Int32), v_base) else f_X9_tower_27 v_points v_faces  FU l1 l2 (0 : Int32) (0 : Int32) v_base))
set_option maxHeartbeats 4000000 in
set_option maxRecDepth 100000 in
theorem k_X9_tower_0 {p : Program} {l : Launch} {e : Env} {s : State} {m : MethodId} {args : Array Value} {below : List Frame} {meth : Method} {c : Code} {A : Nat → Prop} {D : va_G} {cI cJ : ClassId} {h h_base : Nat} {g2 g3 g4 g6 g7 g8 g9 g10 g11 g12 g13 g14 g15 g16 g17 g18 g19 g20 g21 g22 g23 g24 g25 g26 : Value} {v_points : Int32} {v_faces : Int64} (C0 : Cx p s m args meth c cX9_tower wsX9_tower RX9 5 (some .int)) (hK : va_K D vwCl (tyL cI cJ) s) (hA : ∀ q, s.heap.size ≤ q → A q) (hX : XT none A s s.heap) {Rr : Int32 × (Nat → Int64)} : ∀ (l1 : Int32) (l2 : Int32) (v_base : Nat → Int64) (H : Heap) (locs : List Loc) (ls : Array Slot), St D A s (w_X9_tower cI cJ h h_base g2 g3 g4 g6 g7 g8 g9 g10 g11 g12 g13 g14 g15 g16 g17 g18 g19 g20 g21 g22 g23 g24 g25 g26 v_points v_faces v_base) H locs → lv_has ls 5 [(0, .ref h), (1, .int l1), (2, .int l2)] → f_X9_tower_0 v_points v_faces l1 l2 v_base = some Rr → W p l e rm_X9_tower s m args below meth c H locs 0 0 (MQ below (QI D cI cJ A (w_X9_tower cI cJ h h_base g2 g3 g4 g6 g7 g8 g9 g10 g11 g12 g13 g14 g15 g16 g17 g18 g19 g20 g21 g22 g23 g24 g25 g26 v_points v_faces Rr.2) Rr.1) args s 0 0 A) (F0 m 0 ls []) := by
  have hx := C0.1.1
  have hb := C0.1.2.1
  intro l1 l2 v_base H locs ls hSt hl hf
  unfold f_X9_tower_0 at hf
  refine lv_iload_n hx hb dX9_tower_0 rfl (lv_at hl 1 rfl) ?_
  refine lv_iconst (v := 0) hx hb dX9_tower_1 (by decide) ?_
  refine lv_bipush (v := 6) hx hb dX9_tower_2 (by decide) ?_
  obtain ⟨R1, hR1, hf⟩ := Option.bind_eq_some_iff.mp hf
  have sp : Sp (w_X9_tower cI cJ h h_base g2 g3 g4 g6 g7 g8 g9 g10 g11 g12 g13 g14 g15 g16 g17 g18 g19 g20 g21 g22 g23 g24 g25 g26 v_points v_faces v_base) (w_X9_isIn cI cJ) (w_X9_isIn cI cJ) (w_X9_tower cI cJ h h_base g2 g3 g4 g6 g7 g8 g9 g10 g11 g12 g13 g14 g15 g16 g17 g18 g19 g20 g21 g22 g23 g24 g25 g26 v_points v_faces v_base) [] [0, 1] [0, 1] := ⟨rfl, rfl, rfl, by decide, by decide, by decide, by decide⟩
  refine hb_ci (hb_rS (As := [.int l1, .int (0 : Int32), .int (6 : Int32)]) (rest := []) C0 hK hA XT.nn hSt sp (c_X9_isIn l D cI cJ   l1 (0 : Int32) (6 : Int32)  R1 hR1) gX9_tower_X9_isIn rfl ⟨rfl, rfl⟩ hd_X9_isIn ⟨Nat.le_of_ble_eq_true rfl, Nat.le_of_ble_eq_true rfl⟩ rfl hl rfl (Nat.le_of_ble_eq_true rfl) dX9_tower_4 ⟨Nat.zero_le _, Nat.zero_le _⟩) hA hSt sp (fun H locs hSt => ?_)
  refine lv_if_eq (tgt := 20) hx hb dX9_tower_7 (by decide) (fun cc => ?_) (fun cc => ?_)
  · have hf := ite_t hf cc
    refine lv_iconst (v := -1) hx hb dX9_tower_20 (by decide) ?_
    cases hf
    exact hb_iret C0 hK hSt dX9_tower_21
  · have hf := ite_f hf cc
    refine lv_iload_n hx hb dX9_tower_10 rfl (lv_at hl 2 rfl) ?_
    refine lv_iconst (v := 0) hx hb dX9_tower_11 (by decide) ?_
    refine lv_bipush (v := 6) hx hb dX9_tower_12 (by decide) ?_
    obtain ⟨R2, hR2, hf⟩ := Option.bind_eq_some_iff.mp hf
    have sp : Sp (w_X9_tower cI cJ h h_base g2 g3 g4 g6 g7 g8 g9 g10 g11 g12 g13 g14 g15 g16 g17 g18 g19 g20 g21 g22 g23 g24 g25 g26 v_points v_faces v_base) (w_X9_isIn cI cJ) (w_X9_isIn cI cJ) (w_X9_tower cI cJ h h_base g2 g3 g4 g6 g7 g8 g9 g10 g11 g12 g13 g14 g15 g16 g17 g18 g19 g20 g21 g22 g23 g24 g25 g26 v_points v_faces v_base) [] [0, 1] [0, 1] := ⟨rfl, rfl, rfl, by decide, by decide, by decide, by decide⟩
    refine hb_ci (hb_rS (As := [.int l2, .int (0 : Int32), .int (6 : Int32)]) (rest := []) C0 hK hA XT.nn hSt sp (c_X9_isIn l D cI cJ   l2 (0 : Int32) (6 : Int32)  R2 hR2) gX9_tower_X9_isIn rfl ⟨rfl, rfl⟩ hd_X9_isIn ⟨Nat.le_of_ble_eq_true rfl, Nat.le_of_ble_eq_true rfl⟩ rfl hl rfl (Nat.le_of_ble_eq_true rfl) dX9_tower_14 ⟨Nat.zero_le _, Nat.zero_le _⟩) hA hSt sp (fun H locs hSt => ?_)
    refine lv_if_ne (tgt := 22) hx hb dX9_tower_17 (by decide) (fun cc => ?_) (fun cc => ?_)
    · have hf := ite_f hf cc
      refine lv_iconst (v := 0) hx hb dX9_tower_22 (by decide) ?_
      refine lv_istore_n (lv' := [(3, .int (0 : Int32)), (0, .ref h), (1, .int l1), (2, .int l2)]) hx hb dX9_tower_23 rfl hl (by decide) rfl (fun ls hl => ?_)
      refine lv_iconst (v := 0) hx hb dX9_tower_24 (by decide) ?_
      refine lv_istore (lv' := [(4, .int (0 : Int32)), (3, .int (0 : Int32)), (0, .ref h), (1, .int l1), (2, .int l2)]) hx hb dX9_tower_25 hl (by decide) rfl (fun ls hl => ?_)
      exact k_X9_tower_27 C0 hK hA hX  FU l1 l2 (0 : Int32) (0 : Int32) v_base _ _ _ hSt (lv_sub hl [2, 3, 4, 1, 0] rfl) hf
    · have hf := ite_t hf cc
      refine lv_iconst (v := -1) hx hb dX9_tower_20 (by decide) ?_
      cases hf
      exact hb_iret C0 hK hSt dX9_tower_21
def f_X9_tower (v_points : Int32) (v_faces : Int64) (l1 : Int32) (l2 : Int32) (v_base : Nat → Int64) : Option (Int32 × (Nat → Int64)) := f_X9_tower_0 v_points v_faces l1 l2 v_base
set_option maxRecDepth 100000 in
theorem c_X9_tower (l : Launch) (D : va_G) (cI cJ : ClassId) (h h_base : Nat) (g2 g3 g4 g6 g7 g8 g9 g10 g11 g12 g13 g14 g15 g16 g17 g18 g19 g20 g21 g22 g23 g24 g25 g26 : Value) (l1 : Int32) (l2 : Int32) (v_points : Int32) (v_faces : Int64) (v_base : Nat → Int64) (Rr : Int32 × (Nat → Int64)) (hf : f_X9_tower v_points v_faces l1 l2 v_base = some Rr) : CtI l yX9_tower wsX9_tower rm_X9_tower D cI cJ none [.ref h, .int l1, .int l2] (w_X9_tower cI cJ h h_base g2 g3 g4 g6 g7 g8 g9 g10 g11 g12 g13 g14 g15 g16 g17 g18 g19 g20 g21 g22 g23 g24 g25 g26 v_points v_faces v_base) Rr.1 (w_X9_tower cI cJ h h_base g2 g3 g4 g6 g7 g8 g9 g10 g11 g12 g13 g14 g15 g16 g17 g18 g19 g20 g21 g22 g23 g24 g25 g26 v_points v_faces Rr.2) :=
  fun sz => BodyW.met (av := [.ref h, .int l1, .int l2]) (Qc := fun A => QI D cI cJ A (w_X9_tower cI cJ h h_base g2 g3 g4 g6 g7 g8 g9 g10 g11 g12 g13 g14 g15 g16 g17 g18 g19 g20 g21 g22 g23 g24 g25 g26 v_points v_faces Rr.2) Rr.1) (by decide) rfl rfl (Nat.le_of_ble_eq_true rfl) (fun C0 hK hA hX ls hSt hl => k_X9_tower_0 C0 hK hA hX l1 l2 v_base _ _ ls hSt hl hf) sz
/-! X9 odd -/
abbrev rm_X9_odd : Room := { frames := 0, cells := 0, slots := 0, locals := 0 }
abbrev w_X9_odd (cI cJ : ClassId) (h : Nat) (g1 : Value) (g2 : Value) (g3 : Value) (g4 : Value) (g5 : Value) (g6 : Value) (g7 : Value) (g8 : Value) (g9 : Value) (g10 : Value) (g11 : Value) (g12 : Value) (g13 : Value) (g14 : Value) (g15 : Value) (g16 : Value) (g17 : Value) (g18 : Value) (g19 : Value) (g20 : Value) (g21 : Value) (g22 : Value) (g23 : Value) (g24 : Value) (g25 : Value) (g26 : Value) (v_points : Int32) : va_W := [(h, .inr (8, [.int v_points, g1, g2, g3, g4, g5, g6, g7, g8, g9, g10, g11, g12, g13, g14, g15, g16, g17, g18, g19, g20, g21, g22, g23, g24, g25, g26]))]
theorem iu_X9_odd_X9 : ∀ w ∈ wsX90, w ∈ wsX9_odd := by decide +kernel
theorem fl_X9_odd_7 : Cond.fieldLink RX9 7 (TX9 0).1 (TX9 0).2.1 (TX9 0).2.2.1 ∈ wsX9_odd := by decide +kernel
theorem hd_X9_odd : yX9_odd.cls = RX9 ∧ yX9_odd.cls ≠ "java/lang/invoke/MethodHandle" ∧ yX9_odd.cls ≠ "java/lang/invoke/VarHandle" ∧ (parseMethodDescriptor yX9_odd.desc).map (fun d => d.parameters.length) = some 2 := by decide +kernel
def f_X9_odd_6 (v_points : Int32)  : Nat → Int32 → Int64 → Int64 → Int32 → Option (Int32)
  | 0, _, _, _, _ => none
  | n + 1, l1, l2, l4, l6 => if v_points ≤ l6 then if l4 = (1 : Int64) then some (1 : Int32) else some (0 : Int32) else if ((l1 >>> (l6 &&& 31)) &&& (1 : Int32)) = (1 : Int32) then bnd (l4 ^^^ ((l2 >>> ((l1 &&& (((1 : Int32) <<< (l6 &&& 31)) ^^^ (-1 : Int32))).toInt64 &&& 63)) &&& (1 : Int64))) (fun l4_1 => (f_X9_odd_6 v_points n) l1 l2 l4_1 (l6 + 1)) else (f_X9_odd_6 v_points n) l1 l2 l4 (l6 + 1)
set_option maxHeartbeats 4000000 in
set_option maxRecDepth 100000 in
theorem k_X9_odd_6 {p : Program} {l : Launch} {e : Env} {s : State} {m : MethodId} {args : Array Value} {below : List Frame} {meth : Method} {c : Code} {A : Nat → Prop} {D : va_G} {cI cJ : ClassId} {h : Nat} {g1 g2 g3 g4 g5 g6 g7 g8 g9 g10 g11 g12 g13 g14 g15 g16 g17 g18 g19 g20 g21 g22 g23 g24 g25 g26 : Value} {v_points : Int32} (C0 : Cx p s m args meth c cX9_odd wsX9_odd RX9 7 (some .boolean)) (hK : va_K D vwCl (tyL cI cJ) s) (hA : ∀ q, s.heap.size ≤ q → A q) (hX : XT none A s s.heap) {Rr : Int32} (n : Nat) : ∀ (l1 : Int32) (l2 : Int64) (l4 : Int64) (l6 : Int32)  (H : Heap) (locs : List Loc) (ls : Array Slot), St D A s (w_X9_odd cI cJ h g1 g2 g3 g4 g5 g6 g7 g8 g9 g10 g11 g12 g13 g14 g15 g16 g17 g18 g19 g20 g21 g22 g23 g24 g25 g26 v_points) H locs → lv_has ls 7 [(0, .ref h), (1, .int l1), (2, .long l2), (4, .long l4), (6, .int l6)] → f_X9_odd_6 v_points n l1 l2 l4 l6 = some Rr → W p l e rm_X9_odd s m args below meth c H locs 0 0 (MQ below (QI D cI cJ A (w_X9_odd cI cJ h g1 g2 g3 g4 g5 g6 g7 g8 g9 g10 g11 g12 g13 g14 g15 g16 g17 g18 g19 g20 g21 g22 g23 g24 g25 g26 v_points) Rr) args s 0 0 A) (F0 m 6 ls []) := by
  have hx := C0.1.1
  have hb := C0.1.2.1
  induction n with
  | zero => intro l1 l2 l4 l6 H locs ls hSt hl hf; exact nomatch (show (none : Option _) = some Rr from hf)
  | succ n ih =>
    intro l1 l2 l4 l6 H locs ls hSt hl hf
    unfold f_X9_odd_6 at hf
    refine lv_iload hx hb dX9_odd_6 (lv_at hl 4 rfl) ?_
    refine lv_aload_n hx hb dX9_odd_8 rfl (lv_at hl 0 rfl) ?_
    refine hb_get C0 hK hSt 0 8 0 rfl rfl iu_X9_odd_X9 (by decide) fl_X9_odd_7 rfl dX9_odd_9 ?_
    refine lv_icmp_ge (tgt := 48) hx hb dX9_odd_12 (by decide) (fun cc => ?_) (fun cc => ?_)
    · have hf := ite_t hf cc
      refine lv_lload hx hb dX9_odd_48 (lv_at hl 3 rfl) ?_
      refine lv_lconst (v := 1) hx hb dX9_odd_50 (by decide) ?_
      refine W.lcmp hx hb dX9_odd_51 ?_
      refine lv_if_ne (tgt := 59) hx hb dX9_odd_52 (by decide) (fun cc => ?_) (fun cc => ?_)
      · have hf := ite_f hf (lc_f cc)
        refine lv_iconst (v := 0) hx hb dX9_odd_59 (by decide) ?_
        cases hf
        exact hb_zret C0 hK hSt nb0.1 dX9_odd_60
      · have hf := ite_t hf (lc_t cc)
        refine lv_iconst (v := 1) hx hb dX9_odd_55 (by decide) ?_
        refine lv_goto (tgt := 60) hx hb dX9_odd_56 (by decide) ?_
        cases hf
        exact hb_zret C0 hK hSt nb1.1 dX9_odd_60
    · have hf := ite_f hf cc
      refine lv_iload_n hx hb dX9_odd_15 rfl (lv_at hl 1 rfl) ?_
      refine lv_iload hx hb dX9_odd_16 (lv_at hl 4 rfl) ?_
      refine lv_ishr hx hb dX9_odd_18 ?_
      refine lv_iconst (v := 1) hx hb dX9_odd_19 (by decide) ?_
      refine lv_iand hx hb dX9_odd_20 ?_
      refine lv_iconst (v := 1) hx hb dX9_odd_21 (by decide) ?_
      refine lv_icmp_ne (tgt := 42) hx hb dX9_odd_22 (by decide) (fun cc => ?_) (fun cc => ?_)
      · have hf := ite_f hf cc
        refine lv_iinc (v := l6 + 1) (lv' := [(6, .int (l6 + 1)), (0, .ref h), (1, .int l1), (2, .long l2), (4, .long l4)]) hx hb dX9_odd_42 hl (k := 4) rfl rfl (by decide) rfl (fun ls hl => ?_)
        refine lv_goto (tgt := 6) hx hb dX9_odd_45 (by decide) ?_
        exact ih l1 l2 l4 (l6 + 1) _ _ _ hSt (lv_sub hl [1, 2, 3, 4, 0] rfl) hf
      · have hf := ite_t hf cc
        refine lv_lload hx hb dX9_odd_25 (lv_at hl 3 rfl) ?_
        refine lv_lload_n hx hb dX9_odd_27 rfl (lv_at hl 2 rfl) ?_
        refine lv_iload_n hx hb dX9_odd_28 rfl (lv_at hl 1 rfl) ?_
        refine lv_iconst (v := 1) hx hb dX9_odd_29 (by decide) ?_
        refine lv_iload hx hb dX9_odd_30 (lv_at hl 4 rfl) ?_
        refine lv_ishl hx hb dX9_odd_32 ?_
        refine lv_iconst (v := -1) hx hb dX9_odd_33 (by decide) ?_
        refine lv_ixor hx hb dX9_odd_34 ?_
        refine lv_iand hx hb dX9_odd_35 ?_
        refine lv_lshr (v := l2 >>> ((l1 &&& (((1 : Int32) <<< (l6 &&& 31)) ^^^ (-1 : Int32))).toInt64 &&& 63)) hx hb dX9_odd_36 rfl ?_
        refine lv_lconst (v := 1) hx hb dX9_odd_37 (by decide) ?_
        refine lv_land hx hb dX9_odd_38 ?_
        refine lv_lxor hx hb dX9_odd_39 ?_
        refine tp_l hf (fun l4_1 hf => ?_)
        refine lv_lstore (lv' := [(4, .long l4_1), (0, .ref h), (1, .int l1), (2, .long l2), (6, .int l6)]) hx hb dX9_odd_40 hl (by decide) rfl (fun ls hl => ?_)
        refine lv_iinc (v := l6 + 1) (lv' := [(6, .int (l6 + 1)), (4, .long l4_1), (0, .ref h), (1, .int l1), (2, .long l2)]) hx hb dX9_odd_42 hl (k := 4) rfl rfl (by decide) rfl (fun ls hl => ?_)
        refine lv_goto (tgt := 6) hx hb dX9_odd_45 (by decide) ?_
        exact ih l1 l2 l4_1 (l6 + 1) _ _ _ hSt (lv_sub hl [2, 3, 4, 1, 0] rfl) hf
def f_X9_odd_0 (v_points : Int32)  (l1 : Int32) (l2 : Int64)  : Option (Int32) := f_X9_odd_6 v_points  FU l1 l2 (0 : Int64) (0 : Int32)
set_option maxHeartbeats 4000000 in
set_option maxRecDepth 100000 in
theorem k_X9_odd_0 {p : Program} {l : Launch} {e : Env} {s : State} {m : MethodId} {args : Array Value} {below : List Frame} {meth : Method} {c : Code} {A : Nat → Prop} {D : va_G} {cI cJ : ClassId} {h : Nat} {g1 g2 g3 g4 g5 g6 g7 g8 g9 g10 g11 g12 g13 g14 g15 g16 g17 g18 g19 g20 g21 g22 g23 g24 g25 g26 : Value} {v_points : Int32} (C0 : Cx p s m args meth c cX9_odd wsX9_odd RX9 7 (some .boolean)) (hK : va_K D vwCl (tyL cI cJ) s) (hA : ∀ q, s.heap.size ≤ q → A q) (hX : XT none A s s.heap) {Rr : Int32} : ∀ (l1 : Int32) (l2 : Int64)  (H : Heap) (locs : List Loc) (ls : Array Slot), St D A s (w_X9_odd cI cJ h g1 g2 g3 g4 g5 g6 g7 g8 g9 g10 g11 g12 g13 g14 g15 g16 g17 g18 g19 g20 g21 g22 g23 g24 g25 g26 v_points) H locs → lv_has ls 7 [(0, .ref h), (1, .int l1), (2, .long l2)] → f_X9_odd_0 v_points l1 l2 = some Rr → W p l e rm_X9_odd s m args below meth c H locs 0 0 (MQ below (QI D cI cJ A (w_X9_odd cI cJ h g1 g2 g3 g4 g5 g6 g7 g8 g9 g10 g11 g12 g13 g14 g15 g16 g17 g18 g19 g20 g21 g22 g23 g24 g25 g26 v_points) Rr) args s 0 0 A) (F0 m 0 ls []) := by
  have hx := C0.1.1
  have hb := C0.1.2.1
  intro l1 l2 H locs ls hSt hl hf
  unfold f_X9_odd_0 at hf
  refine lv_lconst (v := 0) hx hb dX9_odd_0 (by decide) ?_
  refine lv_lstore (lv' := [(4, .long (0 : Int64)), (0, .ref h), (1, .int l1), (2, .long l2)]) hx hb dX9_odd_1 hl (by decide) rfl (fun ls hl => ?_)
  refine lv_iconst (v := 0) hx hb dX9_odd_3 (by decide) ?_
  refine lv_istore (lv' := [(6, .int (0 : Int32)), (4, .long (0 : Int64)), (0, .ref h), (1, .int l1), (2, .long l2)]) hx hb dX9_odd_4 hl (by decide) rfl (fun ls hl => ?_)
  exact k_X9_odd_6 C0 hK hA hX  FU l1 l2 (0 : Int64) (0 : Int32) _ _ _ hSt (lv_sub hl [2, 3, 4, 1, 0] rfl) hf
def f_X9_odd (v_points : Int32) (l1 : Int32) (l2 : Int64)  : Option (Int32) := f_X9_odd_0 v_points l1 l2
set_option maxRecDepth 100000 in
theorem c_X9_odd (l : Launch) (D : va_G) (cI cJ : ClassId) (h : Nat) (g1 g2 g3 g4 g5 g6 g7 g8 g9 g10 g11 g12 g13 g14 g15 g16 g17 g18 g19 g20 g21 g22 g23 g24 g25 g26 : Value) (l1 : Int32) (l2 : Int64) (v_points : Int32) (Rr : Int32) (hf : f_X9_odd v_points l1 l2 = some Rr) : CtI l yX9_odd wsX9_odd rm_X9_odd D cI cJ none [.ref h, .int l1, .long l2] (w_X9_odd cI cJ h g1 g2 g3 g4 g5 g6 g7 g8 g9 g10 g11 g12 g13 g14 g15 g16 g17 g18 g19 g20 g21 g22 g23 g24 g25 g26 v_points) Rr (w_X9_odd cI cJ h g1 g2 g3 g4 g5 g6 g7 g8 g9 g10 g11 g12 g13 g14 g15 g16 g17 g18 g19 g20 g21 g22 g23 g24 g25 g26 v_points) :=
  fun sz => BodyW.met (av := [.ref h, .int l1, .long l2]) (Qc := fun A => QI D cI cJ A (w_X9_odd cI cJ h g1 g2 g3 g4 g5 g6 g7 g8 g9 g10 g11 g12 g13 g14 g15 g16 g17 g18 g19 g20 g21 g22 g23 g24 g25 g26 v_points) Rr) (by decide) rfl rfl (Nat.le_of_ble_eq_true rfl) (fun C0 hK hA hX ls hSt hl => k_X9_odd_0 C0 hK hA hX l1 l2  _ _ ls hSt hl hf) sz
/-! X9 rise -/
abbrev rm_X9_rise : Room := { frames := 1, cells := 0, slots := 0, locals := 26 }
abbrev w_X9_rise (cI cJ : ClassId) (h : Nat) (g2 : Value) (g3 : Value) (g4 : Value) (g5 : Value) (g6 : Value) (g7 : Value) (g8 : Value) (g9 : Value) (g10 : Value) (g11 : Value) (g12 : Value) (g13 : Value) (g14 : Value) (g15 : Value) (g16 : Value) (g17 : Value) (g18 : Value) (g19 : Value) (g20 : Value) (g21 : Value) (g22 : Value) (g23 : Value) (g24 : Value) (g25 : Value) (g26 : Value) (v_points : Int32) (v_faces : Int64) : va_W := [(h, .inr (8, [.int v_points, .long v_faces, g2, g3, g4, g5, g6, g7, g8, g9, g10, g11, g12, g13, g14, g15, g16, g17, g18, g19, g20, g21, g22, g23, g24, g25, g26]))]
theorem hd_X9_rise : yX9_rise.cls = RX9 ∧ yX9_rise.cls ≠ "java/lang/invoke/MethodHandle" ∧ yX9_rise.cls ≠ "java/lang/invoke/VarHandle" ∧ (parseMethodDescriptor yX9_rise.desc).map (fun d => d.parameters.length) = some 3 := by decide +kernel
def f_X9_rise_68 (v_points : Int32) (v_faces : Int64) (k_6 : Int64 → Int32 → Int32 → Int64 → Int32 → Option (Int64)) (l1 : Int64) (l3 : Int32) (l4 : Int32) (l7 : Int32) (s0 : Int64) (s1 : Int64)  : Option (Int64) := k_6 l1 l3 l4 (s1 ||| s0) (l7 + 1)
set_option maxHeartbeats 4000000 in
set_option maxRecDepth 100000 in
theorem k_X9_rise_68 {p : Program} {l : Launch} {e : Env} {s : State} {m : MethodId} {args : Array Value} {below : List Frame} {meth : Method} {c : Code} {A : Nat → Prop} {D : va_G} {cI cJ : ClassId} {h : Nat} {g2 g3 g4 g5 g6 g7 g8 g9 g10 g11 g12 g13 g14 g15 g16 g17 g18 g19 g20 g21 g22 g23 g24 g25 g26 : Value} {v_points : Int32} {v_faces : Int64} (C0 : Cx p s m args meth c cX9_rise wsX9_rise RX9 8 (some .long)) (hK : va_K D vwCl (tyL cI cJ) s) (hA : ∀ q, s.heap.size ≤ q → A q) (hX : XT none A s s.heap) {Rr : Int64} {k_6 : Int64 → Int32 → Int32 → Int64 → Int32 → Option (Int64)} (hk_6 : ∀ (l1 : Int64) (l3 : Int32) (l4 : Int32) (l5 : Int64) (l7 : Int32)  (H : Heap) (locs : List Loc) (ls : Array Slot), St D A s (w_X9_rise cI cJ h g2 g3 g4 g5 g6 g7 g8 g9 g10 g11 g12 g13 g14 g15 g16 g17 g18 g19 g20 g21 g22 g23 g24 g25 g26 v_points v_faces) H locs → lv_has ls 8 [(0, .ref h), (1, .long l1), (3, .int l3), (4, .int l4), (5, .long l5), (7, .int l7)] → k_6 l1 l3 l4 l5 l7 = some Rr → W p l e rm_X9_rise s m args below meth c H locs 0 0 (MQ below (QL D cI cJ A (w_X9_rise cI cJ h g2 g3 g4 g5 g6 g7 g8 g9 g10 g11 g12 g13 g14 g15 g16 g17 g18 g19 g20 g21 g22 g23 g24 g25 g26 v_points v_faces) Rr) args s 0 0 A) (F0 m 6 ls [])) : ∀ (l1 : Int64) (l3 : Int32) (l4 : Int32) (l7 : Int32) (s0 : Int64) (s1 : Int64)  (H : Heap) (locs : List Loc) (ls : Array Slot), St D A s (w_X9_rise cI cJ h g2 g3 g4 g5 g6 g7 g8 g9 g10 g11 g12 g13 g14 g15 g16 g17 g18 g19 g20 g21 g22 g23 g24 g25 g26 v_points v_faces) H locs → lv_has ls 8 [(0, .ref h), (1, .long l1), (3, .int l3), (4, .int l4), (7, .int l7)] → f_X9_rise_68 v_points v_faces k_6 l1 l3 l4 l7 s0 s1 = some Rr → W p l e rm_X9_rise s m args below meth c H locs 0 0 (MQ below (QL D cI cJ A (w_X9_rise cI cJ h g2 g3 g4 g5 g6 g7 g8 g9 g10 g11 g12 g13 g14 g15 g16 g17 g18 g19 g20 g21 g22 g23 g24 g25 g26 v_points v_faces) Rr) args s 0 0 A) (F0 m 68 ls [.long s0, .long s1]) := by
  have hx := C0.1.1
  have hb := C0.1.2.1
  intro l1 l3 l4 l7 s0 s1 H locs ls hSt hl hf
  unfold f_X9_rise_68 at hf
  refine lv_lor hx hb dX9_rise_68 ?_
  refine lv_lstore (lv' := [(5, .long (s1 ||| s0)), (0, .ref h), (1, .long l1), (3, .int l3), (4, .int l4), (7, .int l7)]) hx hb dX9_rise_69 hl (by decide) rfl (fun ls hl => ?_)
  refine lv_iinc (v := l7 + 1) (lv' := [(7, .int (l7 + 1)), (5, .long (s1 ||| s0)), (0, .ref h), (1, .long l1), (3, .int l3), (4, .int l4)]) hx hb dX9_rise_71 hl (k := 5) rfl rfl (by decide) rfl (fun ls hl => ?_)
  refine lv_goto (tgt := 6) hx hb dX9_rise_74 (by decide) ?_
  exact hk_6 l1 l3 l4 (s1 ||| s0) (l7 + 1) _ _ _ hSt (lv_sub hl [2, 3, 4, 5, 1, 0] rfl) hf
def f_X9_rise_6 (v_points : Int32) (v_faces : Int64)  : Nat → Int64 → Int32 → Int32 → Int64 → Int32 → Option (Int64)
  | 0, _, _, _, _, _ => none
  | n + 1, l1, l3, l4, l5, l7 => (f_X9_all v_points).bind (fun R1 => if R1 < l7 then some l5 else (f_X9_size l7).bind (fun R2 => if R2 = (l4 + (1 : Int32)) then if (l7 &&& (l3 ^^^ (-1 : Int32))) = 0 then (f_X9_isFace v_faces l7).bind (fun R3 => if R3 = 0 then (f_X9_rise_6 v_points v_faces n) l1 l3 l4 l5 (l7 + 1) else (f_X9_odd v_points l7 l1).bind (fun R4 => if R4 = 0 then f_X9_rise_68 v_points v_faces (f_X9_rise_6 v_points v_faces n) l1 l3 l4 l7 (0 : Int64) l5 else f_X9_rise_68 v_points v_faces (f_X9_rise_6 v_points v_faces n) l1 l3 l4 l7 ((1 : Int64) <<< (l7.toInt64 &&& 63)) l5)) else (f_X9_rise_6 v_points v_faces n) l1 l3 l4 l5 (l7 + 1) else (f_X9_rise_6 v_points v_faces n) l1 l3 l4 l5 (l7 + 1)))
set_option maxHeartbeats 4000000 in
set_option maxRecDepth 100000 in
theorem k_X9_rise_6 {p : Program} {l : Launch} {e : Env} {s : State} {m : MethodId} {args : Array Value} {below : List Frame} {meth : Method} {c : Code} {A : Nat → Prop} {D : va_G} {cI cJ : ClassId} {h : Nat} {g2 g3 g4 g5 g6 g7 g8 g9 g10 g11 g12 g13 g14 g15 g16 g17 g18 g19 g20 g21 g22 g23 g24 g25 g26 : Value} {v_points : Int32} {v_faces : Int64} (C0 : Cx p s m args meth c cX9_rise wsX9_rise RX9 8 (some .long)) (hK : va_K D vwCl (tyL cI cJ) s) (hA : ∀ q, s.heap.size ≤ q → A q) (hX : XT none A s s.heap) {Rr : Int64} (n : Nat) : ∀ (l1 : Int64) (l3 : Int32) (l4 : Int32) (l5 : Int64) (l7 : Int32)  (H : Heap) (locs : List Loc) (ls : Array Slot), St D A s (w_X9_rise cI cJ h g2 g3 g4 g5 g6 g7 g8 g9 g10 g11 g12 g13 g14 g15 g16 g17 g18 g19 g20 g21 g22 g23 g24 g25 g26 v_points v_faces) H locs → lv_has ls 8 [(0, .ref h), (1, .long l1), (3, .int l3), (4, .int l4), (5, .long l5), (7, .int l7)] → f_X9_rise_6 v_points v_faces n l1 l3 l4 l5 l7 = some Rr → W p l e rm_X9_rise s m args below meth c H locs 0 0 (MQ below (QL D cI cJ A (w_X9_rise cI cJ h g2 g3 g4 g5 g6 g7 g8 g9 g10 g11 g12 g13 g14 g15 g16 g17 g18 g19 g20 g21 g22 g23 g24 g25 g26 v_points v_faces) Rr) args s 0 0 A) (F0 m 6 ls []) := by
  have hx := C0.1.1
  have hb := C0.1.2.1
  induction n with
  | zero => intro l1 l3 l4 l5 l7 H locs ls hSt hl hf; exact nomatch (show (none : Option _) = some Rr from hf)
  | succ n ih =>
    intro l1 l3 l4 l5 l7 H locs ls hSt hl hf
    unfold f_X9_rise_6 at hf
    refine lv_iload hx hb dX9_rise_6 (lv_at hl 5 rfl) ?_
    refine lv_aload_n hx hb dX9_rise_8 rfl (lv_at hl 0 rfl) ?_
    obtain ⟨R1, hR1, hf⟩ := Option.bind_eq_some_iff.mp hf
    have sp : Sp (w_X9_rise cI cJ h g2 g3 g4 g5 g6 g7 g8 g9 g10 g11 g12 g13 g14 g15 g16 g17 g18 g19 g20 g21 g22 g23 g24 g25 g26 v_points v_faces) (w_X9_all cI cJ h (.long v_faces) g2 g3 g4 g5 g6 g7 g8 g9 g10 g11 g12 g13 g14 g15 g16 g17 g18 g19 g20 g21 g22 g23 g24 g25 g26 v_points) (w_X9_all cI cJ h (.long v_faces) g2 g3 g4 g5 g6 g7 g8 g9 g10 g11 g12 g13 g14 g15 g16 g17 g18 g19 g20 g21 g22 g23 g24 g25 g26 v_points) (w_X9_rise cI cJ h g2 g3 g4 g5 g6 g7 g8 g9 g10 g11 g12 g13 g14 g15 g16 g17 g18 g19 g20 g21 g22 g23 g24 g25 g26 v_points v_faces) [0] [] [0] := ⟨rfl, rfl, rfl, by decide, by decide, by decide, by decide⟩
    refine hb_ci (hb_rV (As := []) (rest := [.int l7]) C0 hK hA XT.nn hSt sp (c_X9_all l D cI cJ h (.long v_faces) g2 g3 g4 g5 g6 g7 g8 g9 g10 g11 g12 g13 g14 g15 g16 g17 g18 g19 g20 g21 g22 g23 g24 g25 g26   v_points R1 hR1) gX9_rise_X9_all rfl ⟨rfl, rfl⟩ hd_X9_all ⟨Nat.le_of_ble_eq_true rfl, Nat.le_of_ble_eq_true rfl⟩ 0 8 rfl rfl rfl hl rfl (Nat.le_of_ble_eq_true rfl) dX9_rise_9 ⟨Nat.zero_le _, Nat.zero_le _⟩) hA hSt sp (fun H locs hSt => ?_)
    refine lv_icmp_gt (tgt := 77) hx hb dX9_rise_12 (by decide) (fun cc => ?_) (fun cc => ?_)
    · have hf := ite_t hf cc
      refine lv_lload hx hb dX9_rise_77 (lv_at hl 4 rfl) ?_
      cases hf
      exact hb_lret C0 hK hSt dX9_rise_79
    · have hf := ite_f hf cc
      refine lv_iload hx hb dX9_rise_15 (lv_at hl 5 rfl) ?_
      obtain ⟨R2, hR2, hf⟩ := Option.bind_eq_some_iff.mp hf
      have sp : Sp (w_X9_rise cI cJ h g2 g3 g4 g5 g6 g7 g8 g9 g10 g11 g12 g13 g14 g15 g16 g17 g18 g19 g20 g21 g22 g23 g24 g25 g26 v_points v_faces) (w_X9_size cI cJ) (w_X9_size cI cJ) (w_X9_rise cI cJ h g2 g3 g4 g5 g6 g7 g8 g9 g10 g11 g12 g13 g14 g15 g16 g17 g18 g19 g20 g21 g22 g23 g24 g25 g26 v_points v_faces) [] [0] [0] := ⟨rfl, rfl, rfl, by decide, by decide, by decide, by decide⟩
      refine hb_ci (hb_rS (As := [.int l7]) (rest := []) C0 hK hA XT.nn hSt sp (c_X9_size l D cI cJ   l7  R2 hR2) gX9_rise_X9_size rfl ⟨rfl, rfl⟩ hd_X9_size ⟨Nat.le_of_ble_eq_true rfl, Nat.le_of_ble_eq_true rfl⟩ rfl hl rfl (Nat.le_of_ble_eq_true rfl) dX9_rise_17 ⟨Nat.zero_le _, Nat.zero_le _⟩) hA hSt sp (fun H locs hSt => ?_)
      refine lv_iload hx hb dX9_rise_20 (lv_at hl 3 rfl) ?_
      refine lv_iconst (v := 1) hx hb dX9_rise_22 (by decide) ?_
      refine lv_iadd hx hb dX9_rise_23 ?_
      refine lv_icmp_ne (tgt := 71) hx hb dX9_rise_24 (by decide) (fun cc => ?_) (fun cc => ?_)
      · have hf := ite_f hf cc
        refine lv_iinc (v := l7 + 1) (lv' := [(7, .int (l7 + 1)), (0, .ref h), (1, .long l1), (3, .int l3), (4, .int l4), (5, .long l5)]) hx hb dX9_rise_71 hl (k := 5) rfl rfl (by decide) rfl (fun ls hl => ?_)
        refine lv_goto (tgt := 6) hx hb dX9_rise_74 (by decide) ?_
        exact ih l1 l3 l4 l5 (l7 + 1) _ _ _ hSt (lv_sub hl [1, 2, 3, 4, 5, 0] rfl) hf
      · have hf := ite_t hf cc
        refine lv_iload hx hb dX9_rise_27 (lv_at hl 5 rfl) ?_
        refine lv_iload_n hx hb dX9_rise_29 rfl (lv_at hl 2 rfl) ?_
        refine lv_iconst (v := -1) hx hb dX9_rise_30 (by decide) ?_
        refine lv_ixor hx hb dX9_rise_31 ?_
        refine lv_iand hx hb dX9_rise_32 ?_
        refine lv_if_ne (tgt := 71) hx hb dX9_rise_33 (by decide) (fun cc => ?_) (fun cc => ?_)
        · have hf := ite_f hf cc
          refine lv_iinc (v := l7 + 1) (lv' := [(7, .int (l7 + 1)), (0, .ref h), (1, .long l1), (3, .int l3), (4, .int l4), (5, .long l5)]) hx hb dX9_rise_71 hl (k := 5) rfl rfl (by decide) rfl (fun ls hl => ?_)
          refine lv_goto (tgt := 6) hx hb dX9_rise_74 (by decide) ?_
          exact ih l1 l3 l4 l5 (l7 + 1) _ _ _ hSt (lv_sub hl [1, 2, 3, 4, 5, 0] rfl) hf
        · have hf := ite_t hf cc
          refine lv_aload_n hx hb dX9_rise_36 rfl (lv_at hl 0 rfl) ?_
          refine lv_iload hx hb dX9_rise_37 (lv_at hl 5 rfl) ?_
          obtain ⟨R3, hR3, hf⟩ := Option.bind_eq_some_iff.mp hf
          have sp : Sp (w_X9_rise cI cJ h g2 g3 g4 g5 g6 g7 g8 g9 g10 g11 g12 g13 g14 g15 g16 g17 g18 g19 g20 g21 g22 g23 g24 g25 g26 v_points v_faces) (w_X9_isFace cI cJ h (.int v_points) g2 g3 g4 g5 g6 g7 g8 g9 g10 g11 g12 g13 g14 g15 g16 g17 g18 g19 g20 g21 g22 g23 g24 g25 g26 v_faces) (w_X9_isFace cI cJ h (.int v_points) g2 g3 g4 g5 g6 g7 g8 g9 g10 g11 g12 g13 g14 g15 g16 g17 g18 g19 g20 g21 g22 g23 g24 g25 g26 v_faces) (w_X9_rise cI cJ h g2 g3 g4 g5 g6 g7 g8 g9 g10 g11 g12 g13 g14 g15 g16 g17 g18 g19 g20 g21 g22 g23 g24 g25 g26 v_points v_faces) [0] [] [0] := ⟨rfl, rfl, rfl, by decide, by decide, by decide, by decide⟩
          refine hb_ci (hb_rV (As := [.int l7]) (rest := []) C0 hK hA XT.nn hSt sp (c_X9_isFace l D cI cJ h (.int v_points) g2 g3 g4 g5 g6 g7 g8 g9 g10 g11 g12 g13 g14 g15 g16 g17 g18 g19 g20 g21 g22 g23 g24 g25 g26  l7 v_faces R3 hR3) gX9_rise_X9_isFace rfl ⟨rfl, rfl⟩ hd_X9_isFace ⟨Nat.le_of_ble_eq_true rfl, Nat.le_of_ble_eq_true rfl⟩ 0 8 rfl rfl rfl hl rfl (Nat.le_of_ble_eq_true rfl) dX9_rise_39 ⟨Nat.zero_le _, Nat.zero_le _⟩) hA hSt sp (fun H locs hSt => ?_)
          refine lv_if_ne (tgt := 48) hx hb dX9_rise_42 (by decide) (fun cc => ?_) (fun cc => ?_)
          · have hf := ite_f hf cc
            refine lv_lload hx hb dX9_rise_48 (lv_at hl 4 rfl) ?_
            refine lv_aload_n hx hb dX9_rise_50 rfl (lv_at hl 0 rfl) ?_
            refine lv_iload hx hb dX9_rise_51 (lv_at hl 5 rfl) ?_
            refine lv_lload_n hx hb dX9_rise_53 rfl (lv_at hl 1 rfl) ?_
            obtain ⟨R4, hR4, hf⟩ := Option.bind_eq_some_iff.mp hf
            have sp : Sp (w_X9_rise cI cJ h g2 g3 g4 g5 g6 g7 g8 g9 g10 g11 g12 g13 g14 g15 g16 g17 g18 g19 g20 g21 g22 g23 g24 g25 g26 v_points v_faces) (w_X9_odd cI cJ h (.long v_faces) g2 g3 g4 g5 g6 g7 g8 g9 g10 g11 g12 g13 g14 g15 g16 g17 g18 g19 g20 g21 g22 g23 g24 g25 g26 v_points) (w_X9_odd cI cJ h (.long v_faces) g2 g3 g4 g5 g6 g7 g8 g9 g10 g11 g12 g13 g14 g15 g16 g17 g18 g19 g20 g21 g22 g23 g24 g25 g26 v_points) (w_X9_rise cI cJ h g2 g3 g4 g5 g6 g7 g8 g9 g10 g11 g12 g13 g14 g15 g16 g17 g18 g19 g20 g21 g22 g23 g24 g25 g26 v_points v_faces) [0] [] [0] := ⟨rfl, rfl, rfl, by decide, by decide, by decide, by decide⟩
            refine hb_ci (hb_rV (As := [.int l7, .long l1]) (rest := [.long l5]) C0 hK hA XT.nn hSt sp (c_X9_odd l D cI cJ h (.long v_faces) g2 g3 g4 g5 g6 g7 g8 g9 g10 g11 g12 g13 g14 g15 g16 g17 g18 g19 g20 g21 g22 g23 g24 g25 g26  l7 l1 v_points R4 hR4) gX9_rise_X9_odd rfl ⟨rfl, rfl⟩ hd_X9_odd ⟨Nat.le_of_ble_eq_true rfl, Nat.le_of_ble_eq_true rfl⟩ 0 8 rfl rfl rfl hl rfl (Nat.le_of_ble_eq_true rfl) dX9_rise_54 ⟨Nat.zero_le _, Nat.zero_le _⟩) hA hSt sp (fun H locs hSt => ?_)
            refine lv_if_eq (tgt := 67) hx hb dX9_rise_57 (by decide) (fun cc => ?_) (fun cc => ?_)
            · have hf := ite_t hf cc
              refine lv_lconst (v := 0) hx hb dX9_rise_67 (by decide) ?_
              exact k_X9_rise_68 C0 hK hA hX ih l1 l3 l4 l7 (0 : Int64) l5 _ _ _ hSt (lv_sub hl [0, 1, 2, 3, 5] rfl) hf
            · have hf := ite_f hf cc
              refine lv_lconst (v := 1) hx hb dX9_rise_60 (by decide) ?_
              refine lv_iload hx hb dX9_rise_61 (lv_at hl 5 rfl) ?_
              refine lv_lshl (v := (1 : Int64) <<< (l7.toInt64 &&& 63)) hx hb dX9_rise_63 rfl ?_
              refine lv_goto (tgt := 68) hx hb dX9_rise_64 (by decide) ?_
              exact k_X9_rise_68 C0 hK hA hX ih l1 l3 l4 l7 ((1 : Int64) <<< (l7.toInt64 &&& 63)) l5 _ _ _ hSt (lv_sub hl [0, 1, 2, 3, 5] rfl) hf
          · have hf := ite_t hf cc
            refine lv_goto (tgt := 71) hx hb dX9_rise_45 (by decide) ?_
            refine lv_iinc (v := l7 + 1) (lv' := [(7, .int (l7 + 1)), (0, .ref h), (1, .long l1), (3, .int l3), (4, .int l4), (5, .long l5)]) hx hb dX9_rise_71 hl (k := 5) rfl rfl (by decide) rfl (fun ls hl => ?_)
            refine lv_goto (tgt := 6) hx hb dX9_rise_74 (by decide) ?_
            exact ih l1 l3 l4 l5 (l7 + 1) _ _ _ hSt (lv_sub hl [1, 2, 3, 4, 5, 0] rfl) hf
def f_X9_rise_0 (v_points : Int32) (v_faces : Int64)  (l1 : Int64) (l3 : Int32) (l4 : Int32)  : Option (Int64) := f_X9_rise_6 v_points v_faces  FU l1 l3 l4 (0 : Int64) (0 : Int32)
set_option maxHeartbeats 4000000 in
set_option maxRecDepth 100000 in
theorem k_X9_rise_0 {p : Program} {l : Launch} {e : Env} {s : State} {m : MethodId} {args : Array Value} {below : List Frame} {meth : Method} {c : Code} {A : Nat → Prop} {D : va_G} {cI cJ : ClassId} {h : Nat} {g2 g3 g4 g5 g6 g7 g8 g9 g10 g11 g12 g13 g14 g15 g16 g17 g18 g19 g20 g21 g22 g23 g24 g25 g26 : Value} {v_points : Int32} {v_faces : Int64} (C0 : Cx p s m args meth c cX9_rise wsX9_rise RX9 8 (some .long)) (hK : va_K D vwCl (tyL cI cJ) s) (hA : ∀ q, s.heap.size ≤ q → A q) (hX : XT none A s s.heap) {Rr : Int64} : ∀ (l1 : Int64) (l3 : Int32) (l4 : Int32)  (H : Heap) (locs : List Loc) (ls : Array Slot), St D A s (w_X9_rise cI cJ h g2 g3 g4 g5 g6 g7 g8 g9 g10 g11 g12 g13 g14 g15 g16 g17 g18 g19 g20 g21 g22 g23 g24 g25 g26 v_points v_faces) H locs → lv_has ls 8 [(0, .ref h), (1, .long l1), (3, .int l3), (4, .int l4)] → f_X9_rise_0 v_points v_faces l1 l3 l4 = some Rr → W p l e rm_X9_rise s m args below meth c H locs 0 0 (MQ below (QL D cI cJ A (w_X9_rise cI cJ h g2 g3 g4 g5 g6 g7 g8 g9 g10 g11 g12 g13 g14 g15 g16 g17 g18 g19 g20 g21 g22 g23 g24 g25 g26 v_points v_faces) Rr) args s 0 0 A) (F0 m 0 ls []) := by
  have hx := C0.1.1
  have hb := C0.1.2.1
  intro l1 l3 l4 H locs ls hSt hl hf
  unfold f_X9_rise_0 at hf
  refine lv_lconst (v := 0) hx hb dX9_rise_0 (by decide) ?_
  refine lv_lstore (lv' := [(5, .long (0 : Int64)), (0, .ref h), (1, .long l1), (3, .int l3), (4, .int l4)]) hx hb dX9_rise_1 hl (by decide) rfl (fun ls hl => ?_)
  refine lv_iconst (v := 0) hx hb dX9_rise_3 (by decide) ?_
  refine lv_istore (lv' := [(7, .int (0 : Int32)), (5, .long (0 : Int64)), (0, .ref h), (1, .long l1), (3, .int l3), (4, .int l4)]) hx hb dX9_rise_4 hl (by decide) rfl (fun ls hl => ?_)
  exact k_X9_rise_6 C0 hK hA hX  FU l1 l3 l4 (0 : Int64) (0 : Int32) _ _ _ hSt (lv_sub hl [2, 3, 4, 5, 1, 0] rfl) hf
def f_X9_rise (v_points : Int32) (v_faces : Int64) (l1 : Int64) (l3 : Int32) (l4 : Int32)  : Option (Int64) := f_X9_rise_0 v_points v_faces l1 l3 l4
set_option maxRecDepth 100000 in
theorem c_X9_rise (l : Launch) (D : va_G) (cI cJ : ClassId) (h : Nat) (g2 g3 g4 g5 g6 g7 g8 g9 g10 g11 g12 g13 g14 g15 g16 g17 g18 g19 g20 g21 g22 g23 g24 g25 g26 : Value) (l1 : Int64) (l3 : Int32) (l4 : Int32) (v_points : Int32) (v_faces : Int64) (Rr : Int64) (hf : f_X9_rise v_points v_faces l1 l3 l4 = some Rr) : CtL l yX9_rise wsX9_rise rm_X9_rise D cI cJ none [.ref h, .long l1, .int l3, .int l4] (w_X9_rise cI cJ h g2 g3 g4 g5 g6 g7 g8 g9 g10 g11 g12 g13 g14 g15 g16 g17 g18 g19 g20 g21 g22 g23 g24 g25 g26 v_points v_faces) Rr (w_X9_rise cI cJ h g2 g3 g4 g5 g6 g7 g8 g9 g10 g11 g12 g13 g14 g15 g16 g17 g18 g19 g20 g21 g22 g23 g24 g25 g26 v_points v_faces) :=
  fun sz => BodyW.met (av := [.ref h, .long l1, .int l3, .int l4]) (Qc := fun A => QL D cI cJ A (w_X9_rise cI cJ h g2 g3 g4 g5 g6 g7 g8 g9 g10 g11 g12 g13 g14 g15 g16 g17 g18 g19 g20 g21 g22 g23 g24 g25 g26 v_points v_faces) Rr) (by decide) rfl rfl (Nat.le_of_ble_eq_true rfl) (fun C0 hK hA hX ls hSt hl => k_X9_rise_0 C0 hK hA hX l1 l3 l4  _ _ ls hSt hl hf) sz
/-! X9 highest -/
abbrev rm_X9_highest : Room := { frames := 0, cells := 0, slots := 0, locals := 0 }
abbrev w_X9_highest (cI cJ : ClassId)    : va_W := []
theorem hd_X9_highest : yX9_highest.cls ≠ "java/lang/invoke/MethodHandle" ∧ yX9_highest.cls ≠ "java/lang/invoke/VarHandle" ∧ (parseMethodDescriptor yX9_highest.desc).map (fun d => d.parameters.length) = some 1 := by decide +kernel
def f_X9_highest_3   : Nat → Int64 → Int32 → Option (Int64)
  | 0, _, _ => none
  | n + 1, l0, l2 => if ((l0 >>> (l2.toInt64 &&& 63)) &&& (1 : Int64)) = (0 : Int64) then (f_X9_highest_3 n) l0 (l2 + (-1)) else some ((1 : Int64) <<< (l2.toInt64 &&& 63))
set_option maxHeartbeats 4000000 in
set_option maxRecDepth 100000 in
theorem k_X9_highest_3 {p : Program} {l : Launch} {e : Env} {s : State} {m : MethodId} {args : Array Value} {below : List Frame} {meth : Method} {c : Code} {A : Nat → Prop} {D : va_G} {cI cJ : ClassId}   (C0 : Cx p s m args meth c cX9_highest wsX9_highest RX9 3 (some .long)) (hK : va_K D vwCl (tyL cI cJ) s) (hA : ∀ q, s.heap.size ≤ q → A q) (hX : XT none A s s.heap) {Rr : Int64} (n : Nat) : ∀ (l0 : Int64) (l2 : Int32)  (H : Heap) (locs : List Loc) (ls : Array Slot), St D A s (w_X9_highest cI cJ) H locs → lv_has ls 3 [(0, .long l0), (2, .int l2)] → f_X9_highest_3 n l0 l2 = some Rr → W p l e rm_X9_highest s m args below meth c H locs 0 0 (MQ below (QL D cI cJ A (w_X9_highest cI cJ) Rr) args s 0 0 A) (F0 m 3 ls []) := by
  have hx := C0.1.1
  have hb := C0.1.2.1
  induction n with
  | zero => intro l0 l2 H locs ls hSt hl hf; exact nomatch (show (none : Option _) = some Rr from hf)
  | succ n ih =>
    intro l0 l2 H locs ls hSt hl hf
    unfold f_X9_highest_3 at hf
    refine lv_lload_n hx hb dX9_highest_3 rfl (lv_at hl 0 rfl) ?_
    refine lv_iload_n hx hb dX9_highest_4 rfl (lv_at hl 1 rfl) ?_
    refine lv_lshr (v := l0 >>> (l2.toInt64 &&& 63)) hx hb dX9_highest_5 rfl ?_
    refine lv_lconst (v := 1) hx hb dX9_highest_6 (by decide) ?_
    refine lv_land hx hb dX9_highest_7 ?_
    refine lv_lconst (v := 0) hx hb dX9_highest_8 (by decide) ?_
    refine W.lcmp hx hb dX9_highest_9 ?_
    refine lv_if_ne (tgt := 19) hx hb dX9_highest_10 (by decide) (fun cc => ?_) (fun cc => ?_)
    · have hf := ite_f hf (lc_f cc)
      refine lv_lconst (v := 1) hx hb dX9_highest_19 (by decide) ?_
      refine lv_iload_n hx hb dX9_highest_20 rfl (lv_at hl 1 rfl) ?_
      refine lv_lshl (v := (1 : Int64) <<< (l2.toInt64 &&& 63)) hx hb dX9_highest_21 rfl ?_
      cases hf
      exact hb_lret C0 hK hSt dX9_highest_22
    · have hf := ite_t hf (lc_t cc)
      refine lv_iinc (v := l2 + (-1)) (lv' := [(2, .int (l2 + (-1))), (0, .long l0)]) hx hb dX9_highest_13 hl (k := 1) rfl rfl (by decide) rfl (fun ls hl => ?_)
      refine lv_goto (tgt := 3) hx hb dX9_highest_16 (by decide) ?_
      exact ih l0 (l2 + (-1)) _ _ _ hSt (lv_sub hl [1, 0] rfl) hf
def f_X9_highest_0   (l0 : Int64)  : Option (Int64) := f_X9_highest_3   FU l0 (63 : Int32)
set_option maxHeartbeats 4000000 in
set_option maxRecDepth 100000 in
theorem k_X9_highest_0 {p : Program} {l : Launch} {e : Env} {s : State} {m : MethodId} {args : Array Value} {below : List Frame} {meth : Method} {c : Code} {A : Nat → Prop} {D : va_G} {cI cJ : ClassId}   (C0 : Cx p s m args meth c cX9_highest wsX9_highest RX9 3 (some .long)) (hK : va_K D vwCl (tyL cI cJ) s) (hA : ∀ q, s.heap.size ≤ q → A q) (hX : XT none A s s.heap) {Rr : Int64} : ∀ (l0 : Int64)  (H : Heap) (locs : List Loc) (ls : Array Slot), St D A s (w_X9_highest cI cJ) H locs → lv_has ls 3 [(0, .long l0)] → f_X9_highest_0 l0 = some Rr → W p l e rm_X9_highest s m args below meth c H locs 0 0 (MQ below (QL D cI cJ A (w_X9_highest cI cJ) Rr) args s 0 0 A) (F0 m 0 ls []) := by
  have hx := C0.1.1
  have hb := C0.1.2.1
  intro l0 H locs ls hSt hl hf
  unfold f_X9_highest_0 at hf
  refine lv_bipush (v := 63) hx hb dX9_highest_0 (by decide) ?_
  refine lv_istore_n (lv' := [(2, .int (63 : Int32)), (0, .long l0)]) hx hb dX9_highest_2 rfl hl (by decide) rfl (fun ls hl => ?_)
  exact k_X9_highest_3 C0 hK hA hX  FU l0 (63 : Int32) _ _ _ hSt (lv_sub hl [1, 0] rfl) hf
def f_X9_highest  (l0 : Int64)  : Option (Int64) := f_X9_highest_0 l0
set_option maxRecDepth 100000 in
theorem c_X9_highest (l : Launch) (D : va_G) (cI cJ : ClassId)  (l0 : Int64)  (Rr : Int64) (hf : f_X9_highest l0 = some Rr) : CtL l yX9_highest wsX9_highest rm_X9_highest D cI cJ none [.long l0] (w_X9_highest cI cJ) Rr (w_X9_highest cI cJ) :=
  fun sz => BodyW.met (av := [.long l0]) (Qc := fun A => QL D cI cJ A (w_X9_highest cI cJ) Rr) (by decide) rfl rfl (Nat.le_of_ble_eq_true rfl) (fun C0 hK hA hX ls hSt hl => k_X9_highest_0 C0 hK hA hX l0  _ _ ls hSt hl hf) sz
/-! X9 closed -/
abbrev rm_X9_closed : Room := { frames := 2, cells := 0, slots := 0, locals := 53 }
abbrev w_X9_closed (cI cJ : ClassId) (h : Nat) (h_rises : Nat) (h_marks : Nat) (h3 : Nat) (g2 : Value) (g3 : Value) (g4 : Value) (g5 : Value) (g8 : Value) (g9 : Value) (g10 : Value) (g11 : Value) (g12 : Value) (g13 : Value) (g14 : Value) (g15 : Value) (g16 : Value) (g17 : Value) (g18 : Value) (g19 : Value) (g20 : Value) (g21 : Value) (g22 : Value) (g23 : Value) (g24 : Value) (g25 : Value) (g26 : Value) (v_points : Int32) (v_faces : Int64) (v_rises : Nat → Int64) (v_marks : Nat → Int64) (v3 : Nat → Int64) : va_W := [(h, .inr (8, [.int v_points, .long v_faces, g2, g3, g4, g5, .ref h_rises, .ref h_marks, g8, g9, g10, g11, g12, g13, g14, g15, g16, g17, g18, g19, g20, g21, g22, g23, g24, g25, g26])), (h_rises, .inl (cJ, 20, .inr (.inl v_rises))), (h_marks, .inl (cJ, 20, .inr (.inl v_marks))), (h3, .inl (cJ, 20, .inr (.inl v3)))]
theorem iu_X9_closed_X9 : ∀ w ∈ wsX90, w ∈ wsX9_closed := by decide +kernel
theorem fl_X9_closed_28 : Cond.fieldLink RX9 28 (TX9 6).1 (TX9 6).2.1 (TX9 6).2.2.1 ∈ wsX9_closed := by decide +kernel
theorem fl_X9_closed_31 : Cond.fieldLink RX9 31 (TX9 7).1 (TX9 7).2.1 (TX9 7).2.2.1 ∈ wsX9_closed := by decide +kernel
theorem hd_X9_closed : yX9_closed.cls = RX9 ∧ yX9_closed.cls ≠ "java/lang/invoke/MethodHandle" ∧ yX9_closed.cls ≠ "java/lang/invoke/VarHandle" ∧ (parseMethodDescriptor yX9_closed.desc).map (fun d => d.parameters.length) = some 3 := by decide +kernel
def f_X9_closed_67 (v_points : Int32) (v_faces : Int64) (k_9 : Int32 → Int32 → Int32 → Int32 → Int32 → (Nat → Int64) → (Nat → Int64) → (Nat → Int64) → Option (Int32 × (Nat → Int64) × (Nat → Int64) × (Nat → Int64))) : Nat → Int32 → Int32 → Int32 → Int32 → Int32 → Int64 → Int64 → Int32 → (Nat → Int64) → (Nat → Int64) → (Nat → Int64) → Option (Int32 × (Nat → Int64) × (Nat → Int64) × (Nat → Int64))
  | 0, _, _, _, _, _, _, _, _, _, _, _ => none
  | n + 1, l1, l2, l4, l5, l6, l7, l9, l11, v_rises, v_marks, v3 => if l4 ≤ l11 then if l9 = (0 : Int64) then gd (ix l5 20) (k_9 l1 l2 l4 (l5 + 1) (l6 + 1) v_rises v_marks (vp_updL v3 l5.toNatClampNeg l7)) else gd (ix l4 20) (gd (ix l4 20) (k_9 l1 l2 (l4 + 1) l5 (l6 + 1) (vp_updL v_rises l4.toNatClampNeg l9) (vp_updL v_marks l4.toNatClampNeg l7) v3)) else gd (ix l11 20) ((f_X9_highest (v_rises l11.toNatClampNeg)).bind (fun R1 => if (l9 &&& R1) = (0 : Int64) then (f_X9_closed_67 v_points v_faces k_9 n) l1 l2 l4 l5 l6 l7 l9 (l11 + 1) v_rises v_marks v3 else gd (ix l11 20) (bnd (l9 ^^^ (v_rises l11.toNatClampNeg)) (fun l9_2 => gd (ix l11 20) (bnd (l7 ^^^ (v_marks l11.toNatClampNeg)) (fun l7_3 => (f_X9_closed_67 v_points v_faces k_9 n) l1 l2 l4 l5 l6 l7_3 l9_2 (l11 + 1) v_rises v_marks v3))))))
set_option maxHeartbeats 4000000 in
set_option maxRecDepth 100000 in
theorem k_X9_closed_67 {p : Program} {l : Launch} {e : Env} {s : State} {m : MethodId} {args : Array Value} {below : List Frame} {meth : Method} {c : Code} {A : Nat → Prop} {D : va_G} {cI cJ : ClassId} {h h_rises h_marks h3 : Nat} {g2 g3 g4 g5 g8 g9 g10 g11 g12 g13 g14 g15 g16 g17 g18 g19 g20 g21 g22 g23 g24 g25 g26 : Value} {v_points : Int32} {v_faces : Int64} (C0 : Cx p s m args meth c cX9_closed wsX9_closed RX9 12 (some .int)) (hK : va_K D vwCl (tyL cI cJ) s) (hA : ∀ q, s.heap.size ≤ q → A q) (hX : XT none A s s.heap) {Rr : Int32 × (Nat → Int64) × (Nat → Int64) × (Nat → Int64)} {k_9 : Int32 → Int32 → Int32 → Int32 → Int32 → (Nat → Int64) → (Nat → Int64) → (Nat → Int64) → Option (Int32 × (Nat → Int64) × (Nat → Int64) × (Nat → Int64))} (hk_9 : ∀ (l1 : Int32) (l2 : Int32) (l4 : Int32) (l5 : Int32) (l6 : Int32) (v_rises : Nat → Int64) (v_marks : Nat → Int64) (v3 : Nat → Int64) (H : Heap) (locs : List Loc) (ls : Array Slot), St D A s (w_X9_closed cI cJ h h_rises h_marks h3 g2 g3 g4 g5 g8 g9 g10 g11 g12 g13 g14 g15 g16 g17 g18 g19 g20 g21 g22 g23 g24 g25 g26 v_points v_faces v_rises v_marks v3) H locs → lv_has ls 12 [(0, .ref h), (1, .int l1), (2, .int l2), (3, .ref h3), (4, .int l4), (5, .int l5), (6, .int l6)] → k_9 l1 l2 l4 l5 l6 v_rises v_marks v3 = some Rr → W p l e rm_X9_closed s m args below meth c H locs 0 0 (MQ below (QI D cI cJ A (w_X9_closed cI cJ h h_rises h_marks h3 g2 g3 g4 g5 g8 g9 g10 g11 g12 g13 g14 g15 g16 g17 g18 g19 g20 g21 g22 g23 g24 g25 g26 v_points v_faces Rr.2.1 Rr.2.2.1 Rr.2.2.2) Rr.1) args s 0 0 A) (F0 m 9 ls [])) (n : Nat) : ∀ (l1 : Int32) (l2 : Int32) (l4 : Int32) (l5 : Int32) (l6 : Int32) (l7 : Int64) (l9 : Int64) (l11 : Int32) (v_rises : Nat → Int64) (v_marks : Nat → Int64) (v3 : Nat → Int64) (H : Heap) (locs : List Loc) (ls : Array Slot), St D A s (w_X9_closed cI cJ h h_rises h_marks h3 g2 g3 g4 g5 g8 g9 g10 g11 g12 g13 g14 g15 g16 g17 g18 g19 g20 g21 g22 g23 g24 g25 g26 v_points v_faces v_rises v_marks v3) H locs → lv_has ls 12 [(0, .ref h), (1, .int l1), (2, .int l2), (3, .ref h3), (4, .int l4), (5, .int l5), (6, .int l6), (7, .long l7), (9, .long l9), (11, .int l11)] → f_X9_closed_67 v_points v_faces k_9 n l1 l2 l4 l5 l6 l7 l9 l11 v_rises v_marks v3 = some Rr → W p l e rm_X9_closed s m args below meth c H locs 0 0 (MQ below (QI D cI cJ A (w_X9_closed cI cJ h h_rises h_marks h3 g2 g3 g4 g5 g8 g9 g10 g11 g12 g13 g14 g15 g16 g17 g18 g19 g20 g21 g22 g23 g24 g25 g26 v_points v_faces Rr.2.1 Rr.2.2.1 Rr.2.2.2) Rr.1) args s 0 0 A) (F0 m 67 ls []) := by
  have hx := C0.1.1
  have hb := C0.1.2.1
  induction n with
  | zero => intro l1 l2 l4 l5 l6 l7 l9 l11 v_rises v_marks v3 H locs ls hSt hl hf; exact nomatch (show (none : Option _) = some Rr from hf)
  | succ n ih =>
    intro l1 l2 l4 l5 l6 l7 l9 l11 v_rises v_marks v3 H locs ls hSt hl hf
    unfold f_X9_closed_67 at hf
    refine lv_iload hx hb dX9_closed_67 (lv_at hl 9 rfl) ?_
    refine lv_iload hx hb dX9_closed_69 (lv_at hl 4 rfl) ?_
    refine lv_icmp_ge (tgt := 125) hx hb dX9_closed_71 (by decide) (fun cc => ?_) (fun cc => ?_)
    · have hf := ite_t hf cc
      refine lv_lload hx hb dX9_closed_125 (lv_at hl 8 rfl) ?_
      refine lv_lconst (v := 0) hx hb dX9_closed_127 (by decide) ?_
      refine W.lcmp hx hb dX9_closed_128 ?_
      refine lv_if_ne (tgt := 144) hx hb dX9_closed_129 (by decide) (fun cc => ?_) (fun cc => ?_)
      · have hf := ite_f hf (lc_f cc)
        refine lv_aload_n hx hb dX9_closed_144 rfl (lv_at hl 0 rfl) ?_
        refine hb_get C0 hK hSt 0 8 6 rfl rfl iu_X9_closed_X9 (by decide) fl_X9_closed_28 rfl dX9_closed_145 ?_
        refine lv_iload hx hb dX9_closed_148 (lv_at hl 4 rfl) ?_
        refine lv_lload hx hb dX9_closed_150 (lv_at hl 8 rfl) ?_
        obtain ⟨hi, hf⟩ := gd_t hf
        refine hb_last C0 hK hSt 1 rfl hi (w' := w_X9_closed cI cJ h h_rises h_marks h3 g2 g3 g4 g5 g8 g9 g10 g11 g12 g13 g14 g15 g16 g17 g18 g19 g20 g21 g22 g23 g24 g25 g26 v_points v_faces (vp_updL v_rises l4.toNatClampNeg l9) v_marks v3) rfl dX9_closed_152 (fun H locs hSt => ?_)
        refine lv_aload_n hx hb dX9_closed_153 rfl (lv_at hl 0 rfl) ?_
        refine hb_get C0 hK hSt 0 8 7 rfl rfl iu_X9_closed_X9 (by decide) fl_X9_closed_31 rfl dX9_closed_154 ?_
        refine lv_iload hx hb dX9_closed_157 (lv_at hl 4 rfl) ?_
        refine lv_lload hx hb dX9_closed_159 (lv_at hl 7 rfl) ?_
        obtain ⟨hi, hf⟩ := gd_t hf
        refine hb_last C0 hK hSt 2 rfl hi (w' := w_X9_closed cI cJ h h_rises h_marks h3 g2 g3 g4 g5 g8 g9 g10 g11 g12 g13 g14 g15 g16 g17 g18 g19 g20 g21 g22 g23 g24 g25 g26 v_points v_faces (vp_updL v_rises l4.toNatClampNeg l9) (vp_updL v_marks l4.toNatClampNeg l7) v3) rfl dX9_closed_161 (fun H locs hSt => ?_)
        refine lv_iinc (v := l4 + 1) (lv' := [(4, .int (l4 + 1)), (0, .ref h), (1, .int l1), (2, .int l2), (3, .ref h3), (5, .int l5), (6, .int l6), (7, .long l7), (9, .long l9), (11, .int l11)]) hx hb dX9_closed_162 hl (k := 4) rfl rfl (by decide) rfl (fun ls hl => ?_)
        refine lv_iinc (v := l6 + 1) (lv' := [(6, .int (l6 + 1)), (4, .int (l4 + 1)), (0, .ref h), (1, .int l1), (2, .int l2), (3, .ref h3), (5, .int l5), (7, .long l7), (9, .long l9), (11, .int l11)]) hx hb dX9_closed_165 hl (k := 6) rfl rfl (by decide) rfl (fun ls hl => ?_)
        refine lv_goto (tgt := 9) hx hb dX9_closed_168 (by decide) ?_
        exact hk_9 l1 l2 (l4 + 1) l5 (l6 + 1) (vp_updL v_rises l4.toNatClampNeg l9) (vp_updL v_marks l4.toNatClampNeg l7) v3 _ _ _ hSt (lv_sub hl [2, 3, 4, 5, 1, 6, 0] rfl) hf
      · have hf := ite_t hf (lc_t cc)
        refine lv_aload_n hx hb dX9_closed_132 rfl (lv_at hl 3 rfl) ?_
        refine lv_iload hx hb dX9_closed_133 (lv_at hl 5 rfl) ?_
        refine lv_lload hx hb dX9_closed_135 (lv_at hl 7 rfl) ?_
        obtain ⟨hi, hf⟩ := gd_t hf
        refine hb_last C0 hK hSt 3 rfl hi (w' := w_X9_closed cI cJ h h_rises h_marks h3 g2 g3 g4 g5 g8 g9 g10 g11 g12 g13 g14 g15 g16 g17 g18 g19 g20 g21 g22 g23 g24 g25 g26 v_points v_faces v_rises v_marks (vp_updL v3 l5.toNatClampNeg l7)) rfl dX9_closed_137 (fun H locs hSt => ?_)
        refine lv_iinc (v := l5 + 1) (lv' := [(5, .int (l5 + 1)), (0, .ref h), (1, .int l1), (2, .int l2), (3, .ref h3), (4, .int l4), (6, .int l6), (7, .long l7), (9, .long l9), (11, .int l11)]) hx hb dX9_closed_138 hl (k := 5) rfl rfl (by decide) rfl (fun ls hl => ?_)
        refine lv_goto (tgt := 165) hx hb dX9_closed_141 (by decide) ?_
        refine lv_iinc (v := l6 + 1) (lv' := [(6, .int (l6 + 1)), (5, .int (l5 + 1)), (0, .ref h), (1, .int l1), (2, .int l2), (3, .ref h3), (4, .int l4), (7, .long l7), (9, .long l9), (11, .int l11)]) hx hb dX9_closed_165 hl (k := 6) rfl rfl (by decide) rfl (fun ls hl => ?_)
        refine lv_goto (tgt := 9) hx hb dX9_closed_168 (by decide) ?_
        exact hk_9 l1 l2 l4 (l5 + 1) (l6 + 1) v_rises v_marks (vp_updL v3 l5.toNatClampNeg l7) _ _ _ hSt (lv_sub hl [2, 3, 4, 5, 6, 1, 0] rfl) hf
    · have hf := ite_f hf cc
      refine lv_lload hx hb dX9_closed_74 (lv_at hl 8 rfl) ?_
      refine lv_aload_n hx hb dX9_closed_76 rfl (lv_at hl 0 rfl) ?_
      refine hb_get C0 hK hSt 0 8 6 rfl rfl iu_X9_closed_X9 (by decide) fl_X9_closed_28 rfl dX9_closed_77 ?_
      refine lv_iload hx hb dX9_closed_80 (lv_at hl 9 rfl) ?_
      obtain ⟨hi, hf⟩ := gd_t hf
      refine hb_lald C0 hK hSt 1 rfl hi dX9_closed_82 ?_
      obtain ⟨R1, hR1, hf⟩ := Option.bind_eq_some_iff.mp hf
      have sp : Sp (w_X9_closed cI cJ h h_rises h_marks h3 g2 g3 g4 g5 g8 g9 g10 g11 g12 g13 g14 g15 g16 g17 g18 g19 g20 g21 g22 g23 g24 g25 g26 v_points v_faces v_rises v_marks v3) (w_X9_highest cI cJ) (w_X9_highest cI cJ) (w_X9_closed cI cJ h h_rises h_marks h3 g2 g3 g4 g5 g8 g9 g10 g11 g12 g13 g14 g15 g16 g17 g18 g19 g20 g21 g22 g23 g24 g25 g26 v_points v_faces v_rises v_marks v3) [] [0, 1, 2, 3] [0, 1, 2, 3] := ⟨rfl, rfl, rfl, by decide, by decide, by decide, by decide⟩
      refine hb_cl (hb_rS (As := [.long (v_rises l11.toNatClampNeg)]) (rest := [.long l9]) C0 hK hA XT.nn hSt sp (c_X9_highest l D cI cJ   (v_rises l11.toNatClampNeg)  R1 hR1) gX9_closed_X9_highest rfl ⟨rfl, rfl⟩ hd_X9_highest ⟨Nat.le_of_ble_eq_true rfl, Nat.le_of_ble_eq_true rfl⟩ rfl hl rfl (Nat.le_of_ble_eq_true rfl) dX9_closed_83 ⟨Nat.zero_le _, Nat.zero_le _⟩) hA hSt sp (fun H locs hSt => ?_)
      refine lv_land hx hb dX9_closed_86 ?_
      refine lv_lconst (v := 0) hx hb dX9_closed_87 (by decide) ?_
      refine W.lcmp hx hb dX9_closed_88 ?_
      refine lv_if_ne (tgt := 95) hx hb dX9_closed_89 (by decide) (fun cc => ?_) (fun cc => ?_)
      · have hf := ite_f hf (lc_f cc)
        refine lv_lload hx hb dX9_closed_95 (lv_at hl 8 rfl) ?_
        refine lv_aload_n hx hb dX9_closed_97 rfl (lv_at hl 0 rfl) ?_
        refine hb_get C0 hK hSt 0 8 6 rfl rfl iu_X9_closed_X9 (by decide) fl_X9_closed_28 rfl dX9_closed_98 ?_
        refine lv_iload hx hb dX9_closed_101 (lv_at hl 9 rfl) ?_
        obtain ⟨hi, hf⟩ := gd_t hf
        refine hb_lald C0 hK hSt 1 rfl hi dX9_closed_103 ?_
        refine lv_lxor hx hb dX9_closed_104 ?_
        refine tp_l hf (fun l9_2 hf => ?_)
        refine lv_lstore (lv' := [(9, .long l9_2), (0, .ref h), (1, .int l1), (2, .int l2), (3, .ref h3), (4, .int l4), (5, .int l5), (6, .int l6), (7, .long l7), (11, .int l11)]) hx hb dX9_closed_105 hl (by decide) rfl (fun ls hl => ?_)
        refine lv_lload hx hb dX9_closed_107 (lv_at hl 8 rfl) ?_
        refine lv_aload_n hx hb dX9_closed_109 rfl (lv_at hl 1 rfl) ?_
        refine hb_get C0 hK hSt 0 8 7 rfl rfl iu_X9_closed_X9 (by decide) fl_X9_closed_31 rfl dX9_closed_110 ?_
        refine lv_iload hx hb dX9_closed_113 (lv_at hl 9 rfl) ?_
        obtain ⟨hi, hf⟩ := gd_t hf
        refine hb_lald C0 hK hSt 2 rfl hi dX9_closed_115 ?_
        refine lv_lxor hx hb dX9_closed_116 ?_
        refine tp_l hf (fun l7_3 hf => ?_)
        refine lv_lstore (lv' := [(7, .long l7_3), (9, .long l9_2), (0, .ref h), (1, .int l1), (2, .int l2), (3, .ref h3), (4, .int l4), (5, .int l5), (6, .int l6), (11, .int l11)]) hx hb dX9_closed_117 hl (by decide) rfl (fun ls hl => ?_)
        refine lv_iinc (v := l11 + 1) (lv' := [(11, .int (l11 + 1)), (7, .long l7_3), (9, .long l9_2), (0, .ref h), (1, .int l1), (2, .int l2), (3, .ref h3), (4, .int l4), (5, .int l5), (6, .int l6)]) hx hb dX9_closed_119 hl (k := 9) rfl rfl (by decide) rfl (fun ls hl => ?_)
        refine lv_goto (tgt := 67) hx hb dX9_closed_122 (by decide) ?_
        exact ih l1 l2 l4 l5 l6 l7_3 l9_2 (l11 + 1) v_rises v_marks v3 _ _ _ hSt (lv_sub hl [3, 4, 5, 6, 7, 8, 9, 1, 2, 0] rfl) hf
      · have hf := ite_t hf (lc_t cc)
        refine lv_goto (tgt := 119) hx hb dX9_closed_92 (by decide) ?_
        refine lv_iinc (v := l11 + 1) (lv' := [(11, .int (l11 + 1)), (0, .ref h), (1, .int l1), (2, .int l2), (3, .ref h3), (4, .int l4), (5, .int l5), (6, .int l6), (7, .long l7), (9, .long l9)]) hx hb dX9_closed_119 hl (k := 9) rfl rfl (by decide) rfl (fun ls hl => ?_)
        refine lv_goto (tgt := 67) hx hb dX9_closed_122 (by decide) ?_
        exact ih l1 l2 l4 l5 l6 l7 l9 (l11 + 1) v_rises v_marks v3 _ _ _ hSt (lv_sub hl [1, 2, 3, 4, 5, 6, 7, 8, 9, 0] rfl) hf
def f_X9_closed_9 (v_points : Int32) (v_faces : Int64)  : Nat → Int32 → Int32 → Int32 → Int32 → Int32 → (Nat → Int64) → (Nat → Int64) → (Nat → Int64) → Option (Int32 × (Nat → Int64) × (Nat → Int64) × (Nat → Int64))
  | 0, _, _, _, _, _, _, _, _ => none
  | n + 1, l1, l2, l4, l5, l6, v_rises, v_marks, v3 => (f_X9_all v_points).bind (fun R1 => if R1 < l6 then some (l5, v_rises, v_marks, v3) else (f_X9_size l6).bind (fun R2 => if R2 = l2 then if (l6 &&& (l1 ^^^ (-1 : Int32))) = 0 then (f_X9_isFace v_faces l6).bind (fun R3 => if R3 = 0 then (f_X9_closed_9 v_points v_faces n) l1 l2 l4 l5 (l6 + 1) v_rises v_marks v3 else bnd ((1 : Int64) <<< (l6.toInt64 &&& 63)) (fun l7_4 => (f_X9_rise v_points v_faces l7_4 l1 l2).bind (fun R5 => f_X9_closed_67 v_points v_faces (f_X9_closed_9 v_points v_faces n) FU l1 l2 l4 l5 l6 l7_4 R5 (0 : Int32) v_rises v_marks v3))) else (f_X9_closed_9 v_points v_faces n) l1 l2 l4 l5 (l6 + 1) v_rises v_marks v3 else (f_X9_closed_9 v_points v_faces n) l1 l2 l4 l5 (l6 + 1) v_rises v_marks v3))
set_option maxHeartbeats 4000000 in
set_option maxRecDepth 100000 in
theorem k_X9_closed_9 {p : Program} {l : Launch} {e : Env} {s : State} {m : MethodId} {args : Array Value} {below : List Frame} {meth : Method} {c : Code} {A : Nat → Prop} {D : va_G} {cI cJ : ClassId} {h h_rises h_marks h3 : Nat} {g2 g3 g4 g5 g8 g9 g10 g11 g12 g13 g14 g15 g16 g17 g18 g19 g20 g21 g22 g23 g24 g25 g26 : Value} {v_points : Int32} {v_faces : Int64} (C0 : Cx p s m args meth c cX9_closed wsX9_closed RX9 12 (some .int)) (hK : va_K D vwCl (tyL cI cJ) s) (hA : ∀ q, s.heap.size ≤ q → A q) (hX : XT none A s s.heap) {Rr : Int32 × (Nat → Int64) × (Nat → Int64) × (Nat → Int64)} (n : Nat) : ∀ (l1 : Int32) (l2 : Int32) (l4 : Int32) (l5 : Int32) (l6 : Int32) (v_rises : Nat → Int64) (v_marks : Nat → Int64) (v3 : Nat → Int64) (H : Heap) (locs : List Loc) (ls : Array Slot), St D A s (w_X9_closed cI cJ h h_rises h_marks h3 g2 g3 g4 g5 g8 g9 g10 g11 g12 g13 g14 g15 g16 g17 g18 g19 g20 g21 g22 g23 g24 g25 g26 v_points v_faces v_rises v_marks v3) H locs → lv_has ls 12 [(0, .ref h), (1, .int l1), (2, .int l2), (3, .ref h3), (4, .int l4), (5, .int l5), (6, .int l6)] → f_X9_closed_9 v_points v_faces n l1 l2 l4 l5 l6 v_rises v_marks v3 = some Rr → W p l e rm_X9_closed s m args below meth c H locs 0 0 (MQ below (QI D cI cJ A (w_X9_closed cI cJ h h_rises h_marks h3 g2 g3 g4 g5 g8 g9 g10 g11 g12 g13 g14 g15 g16 g17 g18 g19 g20 g21 g22 g23 g24 g25 g26 v_points v_faces Rr.2.1 Rr.2.2.1 Rr.2.2.2) Rr.1) args s 0 0 A) (F0 m 9 ls []) := by
  have hx := C0.1.1
  have hb := C0.1.2.1
  induction n with
  | zero => intro l1 l2 l4 l5 l6 v_rises v_marks v3 H locs ls hSt hl hf; exact nomatch (show (none : Option _) = some Rr from hf)
  | succ n ih =>
    intro l1 l2 l4 l5 l6 v_rises v_marks v3 H locs ls hSt hl hf
    unfold f_X9_closed_9 at hf
    refine lv_iload hx hb dX9_closed_9 (lv_at hl 6 rfl) ?_
    refine lv_aload_n hx hb dX9_closed_11 rfl (lv_at hl 0 rfl) ?_
    obtain ⟨R1, hR1, hf⟩ := Option.bind_eq_some_iff.mp hf
    have sp : Sp (w_X9_closed cI cJ h h_rises h_marks h3 g2 g3 g4 g5 g8 g9 g10 g11 g12 g13 g14 g15 g16 g17 g18 g19 g20 g21 g22 g23 g24 g25 g26 v_points v_faces v_rises v_marks v3) (w_X9_all cI cJ h (.long v_faces) g2 g3 g4 g5 (.ref h_rises) (.ref h_marks) g8 g9 g10 g11 g12 g13 g14 g15 g16 g17 g18 g19 g20 g21 g22 g23 g24 g25 g26 v_points) (w_X9_all cI cJ h (.long v_faces) g2 g3 g4 g5 (.ref h_rises) (.ref h_marks) g8 g9 g10 g11 g12 g13 g14 g15 g16 g17 g18 g19 g20 g21 g22 g23 g24 g25 g26 v_points) (w_X9_closed cI cJ h h_rises h_marks h3 g2 g3 g4 g5 g8 g9 g10 g11 g12 g13 g14 g15 g16 g17 g18 g19 g20 g21 g22 g23 g24 g25 g26 v_points v_faces v_rises v_marks v3) [0] [1, 2, 3] [3, 0, 1, 2] := ⟨rfl, rfl, rfl, by decide, by decide, by decide, by decide⟩
    refine hb_ci (hb_rV (As := []) (rest := [.int l6]) C0 hK hA XT.nn hSt sp (c_X9_all l D cI cJ h (.long v_faces) g2 g3 g4 g5 (.ref h_rises) (.ref h_marks) g8 g9 g10 g11 g12 g13 g14 g15 g16 g17 g18 g19 g20 g21 g22 g23 g24 g25 g26   v_points R1 hR1) gX9_closed_X9_all rfl ⟨rfl, rfl⟩ hd_X9_all ⟨Nat.le_of_ble_eq_true rfl, Nat.le_of_ble_eq_true rfl⟩ 0 8 rfl rfl rfl hl rfl (Nat.le_of_ble_eq_true rfl) dX9_closed_12 ⟨Nat.zero_le _, Nat.zero_le _⟩) hA hSt sp (fun H locs hSt => ?_)
    refine lv_icmp_gt (tgt := 171) hx hb dX9_closed_15 (by decide) (fun cc => ?_) (fun cc => ?_)
    · have hf := ite_t hf cc
      refine lv_iload hx hb dX9_closed_171 (lv_at hl 5 rfl) ?_
      cases hf
      exact hb_iret C0 hK hSt dX9_closed_173
    · have hf := ite_f hf cc
      refine lv_iload hx hb dX9_closed_18 (lv_at hl 6 rfl) ?_
      obtain ⟨R2, hR2, hf⟩ := Option.bind_eq_some_iff.mp hf
      have sp : Sp (w_X9_closed cI cJ h h_rises h_marks h3 g2 g3 g4 g5 g8 g9 g10 g11 g12 g13 g14 g15 g16 g17 g18 g19 g20 g21 g22 g23 g24 g25 g26 v_points v_faces v_rises v_marks v3) (w_X9_size cI cJ) (w_X9_size cI cJ) (w_X9_closed cI cJ h h_rises h_marks h3 g2 g3 g4 g5 g8 g9 g10 g11 g12 g13 g14 g15 g16 g17 g18 g19 g20 g21 g22 g23 g24 g25 g26 v_points v_faces v_rises v_marks v3) [] [0, 1, 2, 3] [0, 1, 2, 3] := ⟨rfl, rfl, rfl, by decide, by decide, by decide, by decide⟩
      refine hb_ci (hb_rS (As := [.int l6]) (rest := []) C0 hK hA XT.nn hSt sp (c_X9_size l D cI cJ   l6  R2 hR2) gX9_closed_X9_size rfl ⟨rfl, rfl⟩ hd_X9_size ⟨Nat.le_of_ble_eq_true rfl, Nat.le_of_ble_eq_true rfl⟩ rfl hl rfl (Nat.le_of_ble_eq_true rfl) dX9_closed_20 ⟨Nat.zero_le _, Nat.zero_le _⟩) hA hSt sp (fun H locs hSt => ?_)
      refine lv_iload_n hx hb dX9_closed_23 rfl (lv_at hl 2 rfl) ?_
      refine lv_icmp_ne (tgt := 165) hx hb dX9_closed_24 (by decide) (fun cc => ?_) (fun cc => ?_)
      · have hf := ite_f hf cc
        refine lv_iinc (v := l6 + 1) (lv' := [(6, .int (l6 + 1)), (0, .ref h), (1, .int l1), (2, .int l2), (3, .ref h3), (4, .int l4), (5, .int l5)]) hx hb dX9_closed_165 hl (k := 6) rfl rfl (by decide) rfl (fun ls hl => ?_)
        refine lv_goto (tgt := 9) hx hb dX9_closed_168 (by decide) ?_
        exact ih l1 l2 l4 l5 (l6 + 1) v_rises v_marks v3 _ _ _ hSt (lv_sub hl [1, 2, 3, 4, 5, 6, 0] rfl) hf
      · have hf := ite_t hf cc
        refine lv_iload hx hb dX9_closed_27 (lv_at hl 6 rfl) ?_
        refine lv_iload_n hx hb dX9_closed_29 rfl (lv_at hl 1 rfl) ?_
        refine lv_iconst (v := -1) hx hb dX9_closed_30 (by decide) ?_
        refine lv_ixor hx hb dX9_closed_31 ?_
        refine lv_iand hx hb dX9_closed_32 ?_
        refine lv_if_ne (tgt := 165) hx hb dX9_closed_33 (by decide) (fun cc => ?_) (fun cc => ?_)
        · have hf := ite_f hf cc
          refine lv_iinc (v := l6 + 1) (lv' := [(6, .int (l6 + 1)), (0, .ref h), (1, .int l1), (2, .int l2), (3, .ref h3), (4, .int l4), (5, .int l5)]) hx hb dX9_closed_165 hl (k := 6) rfl rfl (by decide) rfl (fun ls hl => ?_)
          refine lv_goto (tgt := 9) hx hb dX9_closed_168 (by decide) ?_
          exact ih l1 l2 l4 l5 (l6 + 1) v_rises v_marks v3 _ _ _ hSt (lv_sub hl [1, 2, 3, 4, 5, 6, 0] rfl) hf
        · have hf := ite_t hf cc
          refine lv_aload_n hx hb dX9_closed_36 rfl (lv_at hl 0 rfl) ?_
          refine lv_iload hx hb dX9_closed_37 (lv_at hl 6 rfl) ?_
          obtain ⟨R3, hR3, hf⟩ := Option.bind_eq_some_iff.mp hf
          have sp : Sp (w_X9_closed cI cJ h h_rises h_marks h3 g2 g3 g4 g5 g8 g9 g10 g11 g12 g13 g14 g15 g16 g17 g18 g19 g20 g21 g22 g23 g24 g25 g26 v_points v_faces v_rises v_marks v3) (w_X9_isFace cI cJ h (.int v_points) g2 g3 g4 g5 (.ref h_rises) (.ref h_marks) g8 g9 g10 g11 g12 g13 g14 g15 g16 g17 g18 g19 g20 g21 g22 g23 g24 g25 g26 v_faces) (w_X9_isFace cI cJ h (.int v_points) g2 g3 g4 g5 (.ref h_rises) (.ref h_marks) g8 g9 g10 g11 g12 g13 g14 g15 g16 g17 g18 g19 g20 g21 g22 g23 g24 g25 g26 v_faces) (w_X9_closed cI cJ h h_rises h_marks h3 g2 g3 g4 g5 g8 g9 g10 g11 g12 g13 g14 g15 g16 g17 g18 g19 g20 g21 g22 g23 g24 g25 g26 v_points v_faces v_rises v_marks v3) [0] [1, 2, 3] [3, 0, 1, 2] := ⟨rfl, rfl, rfl, by decide, by decide, by decide, by decide⟩
          refine hb_ci (hb_rV (As := [.int l6]) (rest := []) C0 hK hA XT.nn hSt sp (c_X9_isFace l D cI cJ h (.int v_points) g2 g3 g4 g5 (.ref h_rises) (.ref h_marks) g8 g9 g10 g11 g12 g13 g14 g15 g16 g17 g18 g19 g20 g21 g22 g23 g24 g25 g26  l6 v_faces R3 hR3) gX9_closed_X9_isFace rfl ⟨rfl, rfl⟩ hd_X9_isFace ⟨Nat.le_of_ble_eq_true rfl, Nat.le_of_ble_eq_true rfl⟩ 0 8 rfl rfl rfl hl rfl (Nat.le_of_ble_eq_true rfl) dX9_closed_39 ⟨Nat.zero_le _, Nat.zero_le _⟩) hA hSt sp (fun H locs hSt => ?_)
          refine lv_if_ne (tgt := 48) hx hb dX9_closed_42 (by decide) (fun cc => ?_) (fun cc => ?_)
          · have hf := ite_f hf cc
            refine lv_lconst (v := 1) hx hb dX9_closed_48 (by decide) ?_
            refine lv_iload hx hb dX9_closed_49 (lv_at hl 6 rfl) ?_
            refine lv_lshl (v := (1 : Int64) <<< (l6.toInt64 &&& 63)) hx hb dX9_closed_51 rfl ?_
            refine tp_l hf (fun l7_4 hf => ?_)
            refine lv_lstore (lv' := [(7, .long l7_4), (0, .ref h), (1, .int l1), (2, .int l2), (3, .ref h3), (4, .int l4), (5, .int l5), (6, .int l6)]) hx hb dX9_closed_52 hl (by decide) rfl (fun ls hl => ?_)
            refine lv_aload_n hx hb dX9_closed_54 rfl (lv_at hl 1 rfl) ?_
            refine lv_lload hx hb dX9_closed_55 (lv_at hl 0 rfl) ?_
            refine lv_iload_n hx hb dX9_closed_57 rfl (lv_at hl 2 rfl) ?_
            refine lv_iload_n hx hb dX9_closed_58 rfl (lv_at hl 3 rfl) ?_
            obtain ⟨R5, hR5, hf⟩ := Option.bind_eq_some_iff.mp hf
            have sp : Sp (w_X9_closed cI cJ h h_rises h_marks h3 g2 g3 g4 g5 g8 g9 g10 g11 g12 g13 g14 g15 g16 g17 g18 g19 g20 g21 g22 g23 g24 g25 g26 v_points v_faces v_rises v_marks v3) (w_X9_rise cI cJ h g2 g3 g4 g5 (.ref h_rises) (.ref h_marks) g8 g9 g10 g11 g12 g13 g14 g15 g16 g17 g18 g19 g20 g21 g22 g23 g24 g25 g26 v_points v_faces) (w_X9_rise cI cJ h g2 g3 g4 g5 (.ref h_rises) (.ref h_marks) g8 g9 g10 g11 g12 g13 g14 g15 g16 g17 g18 g19 g20 g21 g22 g23 g24 g25 g26 v_points v_faces) (w_X9_closed cI cJ h h_rises h_marks h3 g2 g3 g4 g5 g8 g9 g10 g11 g12 g13 g14 g15 g16 g17 g18 g19 g20 g21 g22 g23 g24 g25 g26 v_points v_faces v_rises v_marks v3) [0] [1, 2, 3] [3, 0, 1, 2] := ⟨rfl, rfl, rfl, by decide, by decide, by decide, by decide⟩
            refine hb_cl (hb_rV (As := [.long l7_4, .int l1, .int l2]) (rest := []) C0 hK hA XT.nn hSt sp (c_X9_rise l D cI cJ h g2 g3 g4 g5 (.ref h_rises) (.ref h_marks) g8 g9 g10 g11 g12 g13 g14 g15 g16 g17 g18 g19 g20 g21 g22 g23 g24 g25 g26  l7_4 l1 l2 v_points v_faces R5 hR5) gX9_closed_X9_rise rfl ⟨rfl, rfl⟩ hd_X9_rise ⟨Nat.le_of_ble_eq_true rfl, Nat.le_of_ble_eq_true rfl⟩ 0 8 rfl rfl rfl hl rfl (Nat.le_of_ble_eq_true rfl) dX9_closed_59 ⟨Nat.zero_le _, Nat.zero_le _⟩) hA hSt sp (fun H locs hSt => ?_)
            refine lv_lstore (lv' := [(9, .long R5), (7, .long l7_4), (0, .ref h), (1, .int l1), (2, .int l2), (3, .ref h3), (4, .int l4), (5, .int l5), (6, .int l6)]) hx hb dX9_closed_62 hl (by decide) rfl (fun ls hl => ?_)
            refine lv_iconst (v := 0) hx hb dX9_closed_64 (by decide) ?_
            refine lv_istore (lv' := [(11, .int (0 : Int32)), (9, .long R5), (7, .long l7_4), (0, .ref h), (1, .int l1), (2, .int l2), (3, .ref h3), (4, .int l4), (5, .int l5), (6, .int l6)]) hx hb dX9_closed_65 hl (by decide) rfl (fun ls hl => ?_)
            exact k_X9_closed_67 C0 hK hA hX ih FU l1 l2 l4 l5 l6 l7_4 R5 (0 : Int32) v_rises v_marks v3 _ _ _ hSt (lv_sub hl [3, 4, 5, 6, 7, 8, 9, 2, 1, 0] rfl) hf
          · have hf := ite_t hf cc
            refine lv_goto (tgt := 165) hx hb dX9_closed_45 (by decide) ?_
            refine lv_iinc (v := l6 + 1) (lv' := [(6, .int (l6 + 1)), (0, .ref h), (1, .int l1), (2, .int l2), (3, .ref h3), (4, .int l4), (5, .int l5)]) hx hb dX9_closed_165 hl (k := 6) rfl rfl (by decide) rfl (fun ls hl => ?_)
            refine lv_goto (tgt := 9) hx hb dX9_closed_168 (by decide) ?_
            exact ih l1 l2 l4 l5 (l6 + 1) v_rises v_marks v3 _ _ _ hSt (lv_sub hl [1, 2, 3, 4, 5, 6, 0] rfl) hf
def f_X9_closed_0 (v_points : Int32) (v_faces : Int64)  (l1 : Int32) (l2 : Int32) (v_rises : Nat → Int64) (v_marks : Nat → Int64) (v3 : Nat → Int64) : Option (Int32 × (Nat → Int64) × (Nat → Int64) × (Nat → Int64)) := f_X9_closed_9 v_points v_faces  FU l1 l2 (0 : Int32) (0 : Int32) (0 : Int32) v_rises v_marks v3
set_option maxHeartbeats 4000000 in
set_option maxRecDepth 100000 in
theorem k_X9_closed_0 {p : Program} {l : Launch} {e : Env} {s : State} {m : MethodId} {args : Array Value} {below : List Frame} {meth : Method} {c : Code} {A : Nat → Prop} {D : va_G} {cI cJ : ClassId} {h h_rises h_marks h3 : Nat} {g2 g3 g4 g5 g8 g9 g10 g11 g12 g13 g14 g15 g16 g17 g18 g19 g20 g21 g22 g23 g24 g25 g26 : Value} {v_points : Int32} {v_faces : Int64} (C0 : Cx p s m args meth c cX9_closed wsX9_closed RX9 12 (some .int)) (hK : va_K D vwCl (tyL cI cJ) s) (hA : ∀ q, s.heap.size ≤ q → A q) (hX : XT none A s s.heap) {Rr : Int32 × (Nat → Int64) × (Nat → Int64) × (Nat → Int64)} : ∀ (l1 : Int32) (l2 : Int32) (v_rises : Nat → Int64) (v_marks : Nat → Int64) (v3 : Nat → Int64) (H : Heap) (locs : List Loc) (ls : Array Slot), St D A s (w_X9_closed cI cJ h h_rises h_marks h3 g2 g3 g4 g5 g8 g9 g10 g11 g12 g13 g14 g15 g16 g17 g18 g19 g20 g21 g22 g23 g24 g25 g26 v_points v_faces v_rises v_marks v3) H locs → lv_has ls 12 [(0, .ref h), (1, .int l1), (2, .int l2), (3, .ref h3)] → f_X9_closed_0 v_points v_faces l1 l2 v_rises v_marks v3 = some Rr → W p l e rm_X9_closed s m args below meth c H locs 0 0 (MQ below (QI D cI cJ A (w_X9_closed cI cJ h h_rises h_marks h3 g2 g3 g4 g5 g8 g9 g10 g11 g12 g13 g14 g15 g16 g17 g18 g19 g20 g21 g22 g23 g24 g25 g26 v_points v_faces Rr.2.1 Rr.2.2.1 Rr.2.2.2) Rr.1) args s 0 0 A) (F0 m 0 ls []) := by
  have hx := C0.1.1
  have hb := C0.1.2.1
  intro l1 l2 v_rises v_marks v3 H locs ls hSt hl hf
  unfold f_X9_closed_0 at hf
  refine lv_iconst (v := 0) hx hb dX9_closed_0 (by decide) ?_
  refine lv_istore (lv' := [(4, .int (0 : Int32)), (0, .ref h), (1, .int l1), (2, .int l2), (3, .ref h3)]) hx hb dX9_closed_1 hl (by decide) rfl (fun ls hl => ?_)
  refine lv_iconst (v := 0) hx hb dX9_closed_3 (by decide) ?_
  refine lv_istore (lv' := [(5, .int (0 : Int32)), (4, .int (0 : Int32)), (0, .ref h), (1, .int l1), (2, .int l2), (3, .ref h3)]) hx hb dX9_closed_4 hl (by decide) rfl (fun ls hl => ?_)
  refine lv_iconst (v := 0) hx hb dX9_closed_6 (by decide) ?_
  refine lv_istore (lv' := [(6, .int (0 : Int32)), (5, .int (0 : Int32)), (4, .int (0 : Int32)), (0, .ref h), (1, .int l1), (2, .int l2), (3, .ref h3)]) hx hb dX9_closed_7 hl (by decide) rfl (fun ls hl => ?_)
  exact k_X9_closed_9 C0 hK hA hX  FU l1 l2 (0 : Int32) (0 : Int32) (0 : Int32) v_rises v_marks v3 _ _ _ hSt (lv_sub hl [3, 4, 5, 6, 2, 1, 0] rfl) hf
def f_X9_closed (v_points : Int32) (v_faces : Int64) (l1 : Int32) (l2 : Int32) (v_rises : Nat → Int64) (v_marks : Nat → Int64) (v3 : Nat → Int64) : Option (Int32 × (Nat → Int64) × (Nat → Int64) × (Nat → Int64)) := f_X9_closed_0 v_points v_faces l1 l2 v_rises v_marks v3
set_option maxRecDepth 100000 in
theorem c_X9_closed (l : Launch) (D : va_G) (cI cJ : ClassId) (h h_rises h_marks h3 : Nat) (g2 g3 g4 g5 g8 g9 g10 g11 g12 g13 g14 g15 g16 g17 g18 g19 g20 g21 g22 g23 g24 g25 g26 : Value) (l1 : Int32) (l2 : Int32) (v_points : Int32) (v_faces : Int64) (v_rises : Nat → Int64) (v_marks : Nat → Int64) (v3 : Nat → Int64) (Rr : Int32 × (Nat → Int64) × (Nat → Int64) × (Nat → Int64)) (hf : f_X9_closed v_points v_faces l1 l2 v_rises v_marks v3 = some Rr) : CtI l yX9_closed wsX9_closed rm_X9_closed D cI cJ none [.ref h, .int l1, .int l2, .ref h3] (w_X9_closed cI cJ h h_rises h_marks h3 g2 g3 g4 g5 g8 g9 g10 g11 g12 g13 g14 g15 g16 g17 g18 g19 g20 g21 g22 g23 g24 g25 g26 v_points v_faces v_rises v_marks v3) Rr.1 (w_X9_closed cI cJ h h_rises h_marks h3 g2 g3 g4 g5 g8 g9 g10 g11 g12 g13 g14 g15 g16 g17 g18 g19 g20 g21 g22 g23 g24 g25 g26 v_points v_faces Rr.2.1 Rr.2.2.1 Rr.2.2.2) :=
  fun sz => BodyW.met (av := [.ref h, .int l1, .int l2, .ref h3]) (Qc := fun A => QI D cI cJ A (w_X9_closed cI cJ h h_rises h_marks h3 g2 g3 g4 g5 g8 g9 g10 g11 g12 g13 g14 g15 g16 g17 g18 g19 g20 g21 g22 g23 g24 g25 g26 v_points v_faces Rr.2.1 Rr.2.2.1 Rr.2.2.2) Rr.1) (by decide) rfl rfl (Nat.le_of_ble_eq_true rfl) (fun C0 hK hA hX ls hSt hl => k_X9_closed_0 C0 hK hA hX l1 l2 v_rises v_marks v3 _ _ ls hSt hl hf) sz
/-! X9 product -/
abbrev rm_X9_product : Room := { frames := 1, cells := 0, slots := 0, locals := 22 }
abbrev w_X9_product (cI cJ : ClassId) (h : Nat) (g2 : Value) (g3 : Value) (g4 : Value) (g5 : Value) (g6 : Value) (g7 : Value) (g8 : Value) (g9 : Value) (g10 : Value) (g11 : Value) (g12 : Value) (g13 : Value) (g14 : Value) (g15 : Value) (g16 : Value) (g17 : Value) (g18 : Value) (g19 : Value) (g20 : Value) (g21 : Value) (g22 : Value) (g23 : Value) (g24 : Value) (g25 : Value) (g26 : Value) (v_points : Int32) (v_faces : Int64) : va_W := [(h, .inr (8, [.int v_points, .long v_faces, g2, g3, g4, g5, g6, g7, g8, g9, g10, g11, g12, g13, g14, g15, g16, g17, g18, g19, g20, g21, g22, g23, g24, g25, g26]))]
theorem hd_X9_product : yX9_product.cls = RX9 ∧ yX9_product.cls ≠ "java/lang/invoke/MethodHandle" ∧ yX9_product.cls ≠ "java/lang/invoke/VarHandle" ∧ (parseMethodDescriptor yX9_product.desc).map (fun d => d.parameters.length) = some 6 := by decide +kernel
def f_X9_product_6 (v_points : Int32) (v_faces : Int64)  : Nat → Int64 → Int32 → Int32 → Int64 → Int32 → Int32 → Int64 → Int32 → Option (Int64)
  | 0, _, _, _, _, _, _, _, _ => none
  | n + 1, l1, l3, l4, l5, l7, l8, l9, l11 => (f_X9_all v_points).bind (fun R1 => if R1 < l11 then some l9 else if (l11 &&& ((l3 ||| l7) ^^^ (-1 : Int32))) = 0 then (f_X9_size (l11 &&& l3)).bind (fun R2 => if R2 = l4 then (f_X9_size (l11 &&& l7)).bind (fun R3 => if R3 = l8 then (f_X9_isFace v_faces l11).bind (fun R4 => if R4 = 0 then (f_X9_product_6 v_points v_faces n) l1 l3 l4 l5 l7 l8 l9 (l11 + 1) else bnd (l9 ||| ((((l1 >>> ((l11 &&& l3).toInt64 &&& 63)) &&& (l5 >>> ((l11 &&& l7).toInt64 &&& 63))) &&& (1 : Int64)) <<< (l11.toInt64 &&& 63))) (fun l9_5 => (f_X9_product_6 v_points v_faces n) l1 l3 l4 l5 l7 l8 l9_5 (l11 + 1))) else (f_X9_product_6 v_points v_faces n) l1 l3 l4 l5 l7 l8 l9 (l11 + 1)) else (f_X9_product_6 v_points v_faces n) l1 l3 l4 l5 l7 l8 l9 (l11 + 1)) else (f_X9_product_6 v_points v_faces n) l1 l3 l4 l5 l7 l8 l9 (l11 + 1))
set_option maxHeartbeats 4000000 in
set_option maxRecDepth 100000 in
theorem k_X9_product_6 {p : Program} {l : Launch} {e : Env} {s : State} {m : MethodId} {args : Array Value} {below : List Frame} {meth : Method} {c : Code} {A : Nat → Prop} {D : va_G} {cI cJ : ClassId} {h : Nat} {g2 g3 g4 g5 g6 g7 g8 g9 g10 g11 g12 g13 g14 g15 g16 g17 g18 g19 g20 g21 g22 g23 g24 g25 g26 : Value} {v_points : Int32} {v_faces : Int64} (C0 : Cx p s m args meth c cX9_product wsX9_product RX9 12 (some .long)) (hK : va_K D vwCl (tyL cI cJ) s) (hA : ∀ q, s.heap.size ≤ q → A q) (hX : XT none A s s.heap) {Rr : Int64} (n : Nat) : ∀ (l1 : Int64) (l3 : Int32) (l4 : Int32) (l5 : Int64) (l7 : Int32) (l8 : Int32) (l9 : Int64) (l11 : Int32)  (H : Heap) (locs : List Loc) (ls : Array Slot), St D A s (w_X9_product cI cJ h g2 g3 g4 g5 g6 g7 g8 g9 g10 g11 g12 g13 g14 g15 g16 g17 g18 g19 g20 g21 g22 g23 g24 g25 g26 v_points v_faces) H locs → lv_has ls 12 [(0, .ref h), (1, .long l1), (3, .int l3), (4, .int l4), (5, .long l5), (7, .int l7), (8, .int l8), (9, .long l9), (11, .int l11)] → f_X9_product_6 v_points v_faces n l1 l3 l4 l5 l7 l8 l9 l11 = some Rr → W p l e rm_X9_product s m args below meth c H locs 0 0 (MQ below (QL D cI cJ A (w_X9_product cI cJ h g2 g3 g4 g5 g6 g7 g8 g9 g10 g11 g12 g13 g14 g15 g16 g17 g18 g19 g20 g21 g22 g23 g24 g25 g26 v_points v_faces) Rr) args s 0 0 A) (F0 m 6 ls []) := by
  have hx := C0.1.1
  have hb := C0.1.2.1
  induction n with
  | zero => intro l1 l3 l4 l5 l7 l8 l9 l11 H locs ls hSt hl hf; exact nomatch (show (none : Option _) = some Rr from hf)
  | succ n ih =>
    intro l1 l3 l4 l5 l7 l8 l9 l11 H locs ls hSt hl hf
    unfold f_X9_product_6 at hf
    refine lv_iload hx hb dX9_product_6 (lv_at hl 8 rfl) ?_
    refine lv_aload_n hx hb dX9_product_8 rfl (lv_at hl 0 rfl) ?_
    obtain ⟨R1, hR1, hf⟩ := Option.bind_eq_some_iff.mp hf
    have sp : Sp (w_X9_product cI cJ h g2 g3 g4 g5 g6 g7 g8 g9 g10 g11 g12 g13 g14 g15 g16 g17 g18 g19 g20 g21 g22 g23 g24 g25 g26 v_points v_faces) (w_X9_all cI cJ h (.long v_faces) g2 g3 g4 g5 g6 g7 g8 g9 g10 g11 g12 g13 g14 g15 g16 g17 g18 g19 g20 g21 g22 g23 g24 g25 g26 v_points) (w_X9_all cI cJ h (.long v_faces) g2 g3 g4 g5 g6 g7 g8 g9 g10 g11 g12 g13 g14 g15 g16 g17 g18 g19 g20 g21 g22 g23 g24 g25 g26 v_points) (w_X9_product cI cJ h g2 g3 g4 g5 g6 g7 g8 g9 g10 g11 g12 g13 g14 g15 g16 g17 g18 g19 g20 g21 g22 g23 g24 g25 g26 v_points v_faces) [0] [] [0] := ⟨rfl, rfl, rfl, by decide, by decide, by decide, by decide⟩
    refine hb_ci (hb_rV (As := []) (rest := [.int l11]) C0 hK hA XT.nn hSt sp (c_X9_all l D cI cJ h (.long v_faces) g2 g3 g4 g5 g6 g7 g8 g9 g10 g11 g12 g13 g14 g15 g16 g17 g18 g19 g20 g21 g22 g23 g24 g25 g26   v_points R1 hR1) gX9_product_X9_all rfl ⟨rfl, rfl⟩ hd_X9_all ⟨Nat.le_of_ble_eq_true rfl, Nat.le_of_ble_eq_true rfl⟩ 0 8 rfl rfl rfl hl rfl (Nat.le_of_ble_eq_true rfl) dX9_product_9 ⟨Nat.zero_le _, Nat.zero_le _⟩) hA hSt sp (fun H locs hSt => ?_)
    refine lv_icmp_gt (tgt := 95) hx hb dX9_product_12 (by decide) (fun cc => ?_) (fun cc => ?_)
    · have hf := ite_t hf cc
      refine lv_lload hx hb dX9_product_95 (lv_at hl 7 rfl) ?_
      cases hf
      exact hb_lret C0 hK hSt dX9_product_97
    · have hf := ite_f hf cc
      refine lv_iload hx hb dX9_product_15 (lv_at hl 8 rfl) ?_
      refine lv_iload_n hx hb dX9_product_17 rfl (lv_at hl 2 rfl) ?_
      refine lv_iload hx hb dX9_product_18 (lv_at hl 5 rfl) ?_
      refine lv_ior hx hb dX9_product_20 ?_
      refine lv_iconst (v := -1) hx hb dX9_product_21 (by decide) ?_
      refine lv_ixor hx hb dX9_product_22 ?_
      refine lv_iand hx hb dX9_product_23 ?_
      refine lv_if_ne (tgt := 89) hx hb dX9_product_24 (by decide) (fun cc => ?_) (fun cc => ?_)
      · have hf := ite_f hf cc
        refine lv_iinc (v := l11 + 1) (lv' := [(11, .int (l11 + 1)), (0, .ref h), (1, .long l1), (3, .int l3), (4, .int l4), (5, .long l5), (7, .int l7), (8, .int l8), (9, .long l9)]) hx hb dX9_product_89 hl (k := 8) rfl rfl (by decide) rfl (fun ls hl => ?_)
        refine lv_goto (tgt := 6) hx hb dX9_product_92 (by decide) ?_
        exact ih l1 l3 l4 l5 l7 l8 l9 (l11 + 1) _ _ _ hSt (lv_sub hl [1, 2, 3, 4, 5, 6, 7, 8, 0] rfl) hf
      · have hf := ite_t hf cc
        refine lv_iload hx hb dX9_product_27 (lv_at hl 8 rfl) ?_
        refine lv_iload_n hx hb dX9_product_29 rfl (lv_at hl 2 rfl) ?_
        refine lv_iand hx hb dX9_product_30 ?_
        obtain ⟨R2, hR2, hf⟩ := Option.bind_eq_some_iff.mp hf
        have sp : Sp (w_X9_product cI cJ h g2 g3 g4 g5 g6 g7 g8 g9 g10 g11 g12 g13 g14 g15 g16 g17 g18 g19 g20 g21 g22 g23 g24 g25 g26 v_points v_faces) (w_X9_size cI cJ) (w_X9_size cI cJ) (w_X9_product cI cJ h g2 g3 g4 g5 g6 g7 g8 g9 g10 g11 g12 g13 g14 g15 g16 g17 g18 g19 g20 g21 g22 g23 g24 g25 g26 v_points v_faces) [] [0] [0] := ⟨rfl, rfl, rfl, by decide, by decide, by decide, by decide⟩
        refine hb_ci (hb_rS (As := [.int (l11 &&& l3)]) (rest := []) C0 hK hA XT.nn hSt sp (c_X9_size l D cI cJ   (l11 &&& l3)  R2 hR2) gX9_product_X9_size rfl ⟨rfl, rfl⟩ hd_X9_size ⟨Nat.le_of_ble_eq_true rfl, Nat.le_of_ble_eq_true rfl⟩ rfl hl rfl (Nat.le_of_ble_eq_true rfl) dX9_product_31 ⟨Nat.zero_le _, Nat.zero_le _⟩) hA hSt sp (fun H locs hSt => ?_)
        refine lv_iload hx hb dX9_product_34 (lv_at hl 3 rfl) ?_
        refine lv_icmp_ne (tgt := 89) hx hb dX9_product_36 (by decide) (fun cc => ?_) (fun cc => ?_)
        · have hf := ite_f hf cc
          refine lv_iinc (v := l11 + 1) (lv' := [(11, .int (l11 + 1)), (0, .ref h), (1, .long l1), (3, .int l3), (4, .int l4), (5, .long l5), (7, .int l7), (8, .int l8), (9, .long l9)]) hx hb dX9_product_89 hl (k := 8) rfl rfl (by decide) rfl (fun ls hl => ?_)
          refine lv_goto (tgt := 6) hx hb dX9_product_92 (by decide) ?_
          exact ih l1 l3 l4 l5 l7 l8 l9 (l11 + 1) _ _ _ hSt (lv_sub hl [1, 2, 3, 4, 5, 6, 7, 8, 0] rfl) hf
        · have hf := ite_t hf cc
          refine lv_iload hx hb dX9_product_39 (lv_at hl 8 rfl) ?_
          refine lv_iload hx hb dX9_product_41 (lv_at hl 5 rfl) ?_
          refine lv_iand hx hb dX9_product_43 ?_
          obtain ⟨R3, hR3, hf⟩ := Option.bind_eq_some_iff.mp hf
          have sp : Sp (w_X9_product cI cJ h g2 g3 g4 g5 g6 g7 g8 g9 g10 g11 g12 g13 g14 g15 g16 g17 g18 g19 g20 g21 g22 g23 g24 g25 g26 v_points v_faces) (w_X9_size cI cJ) (w_X9_size cI cJ) (w_X9_product cI cJ h g2 g3 g4 g5 g6 g7 g8 g9 g10 g11 g12 g13 g14 g15 g16 g17 g18 g19 g20 g21 g22 g23 g24 g25 g26 v_points v_faces) [] [0] [0] := ⟨rfl, rfl, rfl, by decide, by decide, by decide, by decide⟩
          refine hb_ci (hb_rS (As := [.int (l11 &&& l7)]) (rest := []) C0 hK hA XT.nn hSt sp (c_X9_size l D cI cJ   (l11 &&& l7)  R3 hR3) gX9_product_X9_size rfl ⟨rfl, rfl⟩ hd_X9_size ⟨Nat.le_of_ble_eq_true rfl, Nat.le_of_ble_eq_true rfl⟩ rfl hl rfl (Nat.le_of_ble_eq_true rfl) dX9_product_44 ⟨Nat.zero_le _, Nat.zero_le _⟩) hA hSt sp (fun H locs hSt => ?_)
          refine lv_iload hx hb dX9_product_47 (lv_at hl 6 rfl) ?_
          refine lv_icmp_ne (tgt := 89) hx hb dX9_product_49 (by decide) (fun cc => ?_) (fun cc => ?_)
          · have hf := ite_f hf cc
            refine lv_iinc (v := l11 + 1) (lv' := [(11, .int (l11 + 1)), (0, .ref h), (1, .long l1), (3, .int l3), (4, .int l4), (5, .long l5), (7, .int l7), (8, .int l8), (9, .long l9)]) hx hb dX9_product_89 hl (k := 8) rfl rfl (by decide) rfl (fun ls hl => ?_)
            refine lv_goto (tgt := 6) hx hb dX9_product_92 (by decide) ?_
            exact ih l1 l3 l4 l5 l7 l8 l9 (l11 + 1) _ _ _ hSt (lv_sub hl [1, 2, 3, 4, 5, 6, 7, 8, 0] rfl) hf
          · have hf := ite_t hf cc
            refine lv_aload_n hx hb dX9_product_52 rfl (lv_at hl 0 rfl) ?_
            refine lv_iload hx hb dX9_product_53 (lv_at hl 8 rfl) ?_
            obtain ⟨R4, hR4, hf⟩ := Option.bind_eq_some_iff.mp hf
            have sp : Sp (w_X9_product cI cJ h g2 g3 g4 g5 g6 g7 g8 g9 g10 g11 g12 g13 g14 g15 g16 g17 g18 g19 g20 g21 g22 g23 g24 g25 g26 v_points v_faces) (w_X9_isFace cI cJ h (.int v_points) g2 g3 g4 g5 g6 g7 g8 g9 g10 g11 g12 g13 g14 g15 g16 g17 g18 g19 g20 g21 g22 g23 g24 g25 g26 v_faces) (w_X9_isFace cI cJ h (.int v_points) g2 g3 g4 g5 g6 g7 g8 g9 g10 g11 g12 g13 g14 g15 g16 g17 g18 g19 g20 g21 g22 g23 g24 g25 g26 v_faces) (w_X9_product cI cJ h g2 g3 g4 g5 g6 g7 g8 g9 g10 g11 g12 g13 g14 g15 g16 g17 g18 g19 g20 g21 g22 g23 g24 g25 g26 v_points v_faces) [0] [] [0] := ⟨rfl, rfl, rfl, by decide, by decide, by decide, by decide⟩
            refine hb_ci (hb_rV (As := [.int l11]) (rest := []) C0 hK hA XT.nn hSt sp (c_X9_isFace l D cI cJ h (.int v_points) g2 g3 g4 g5 g6 g7 g8 g9 g10 g11 g12 g13 g14 g15 g16 g17 g18 g19 g20 g21 g22 g23 g24 g25 g26  l11 v_faces R4 hR4) gX9_product_X9_isFace rfl ⟨rfl, rfl⟩ hd_X9_isFace ⟨Nat.le_of_ble_eq_true rfl, Nat.le_of_ble_eq_true rfl⟩ 0 8 rfl rfl rfl hl rfl (Nat.le_of_ble_eq_true rfl) dX9_product_55 ⟨Nat.zero_le _, Nat.zero_le _⟩) hA hSt sp (fun H locs hSt => ?_)
            refine lv_if_ne (tgt := 64) hx hb dX9_product_58 (by decide) (fun cc => ?_) (fun cc => ?_)
            · have hf := ite_f hf cc
              refine lv_lload hx hb dX9_product_64 (lv_at hl 7 rfl) ?_
              refine lv_lload_n hx hb dX9_product_66 rfl (lv_at hl 1 rfl) ?_
              refine lv_iload hx hb dX9_product_67 (lv_at hl 8 rfl) ?_
              refine lv_iload_n hx hb dX9_product_69 rfl (lv_at hl 2 rfl) ?_
              refine lv_iand hx hb dX9_product_70 ?_
              refine lv_lshr (v := l1 >>> ((l11 &&& l3).toInt64 &&& 63)) hx hb dX9_product_71 rfl ?_
              refine lv_lload hx hb dX9_product_72 (lv_at hl 4 rfl) ?_
              refine lv_iload hx hb dX9_product_74 (lv_at hl 8 rfl) ?_
              refine lv_iload hx hb dX9_product_76 (lv_at hl 5 rfl) ?_
              refine lv_iand hx hb dX9_product_78 ?_
              refine lv_lshr (v := l5 >>> ((l11 &&& l7).toInt64 &&& 63)) hx hb dX9_product_79 rfl ?_
              refine lv_land hx hb dX9_product_80 ?_
              refine lv_lconst (v := 1) hx hb dX9_product_81 (by decide) ?_
              refine lv_land hx hb dX9_product_82 ?_
              refine lv_iload hx hb dX9_product_83 (lv_at hl 8 rfl) ?_
              refine lv_lshl (v := (((l1 >>> ((l11 &&& l3).toInt64 &&& 63)) &&& (l5 >>> ((l11 &&& l7).toInt64 &&& 63))) &&& (1 : Int64)) <<< (l11.toInt64 &&& 63)) hx hb dX9_product_85 rfl ?_
              refine lv_lor hx hb dX9_product_86 ?_
              refine tp_l hf (fun l9_5 hf => ?_)
              refine lv_lstore (lv' := [(9, .long l9_5), (0, .ref h), (1, .long l1), (3, .int l3), (4, .int l4), (5, .long l5), (7, .int l7), (8, .int l8), (11, .int l11)]) hx hb dX9_product_87 hl (by decide) rfl (fun ls hl => ?_)
              refine lv_iinc (v := l11 + 1) (lv' := [(11, .int (l11 + 1)), (9, .long l9_5), (0, .ref h), (1, .long l1), (3, .int l3), (4, .int l4), (5, .long l5), (7, .int l7), (8, .int l8)]) hx hb dX9_product_89 hl (k := 8) rfl rfl (by decide) rfl (fun ls hl => ?_)
              refine lv_goto (tgt := 6) hx hb dX9_product_92 (by decide) ?_
              exact ih l1 l3 l4 l5 l7 l8 l9_5 (l11 + 1) _ _ _ hSt (lv_sub hl [2, 3, 4, 5, 6, 7, 8, 1, 0] rfl) hf
            · have hf := ite_t hf cc
              refine lv_goto (tgt := 89) hx hb dX9_product_61 (by decide) ?_
              refine lv_iinc (v := l11 + 1) (lv' := [(11, .int (l11 + 1)), (0, .ref h), (1, .long l1), (3, .int l3), (4, .int l4), (5, .long l5), (7, .int l7), (8, .int l8), (9, .long l9)]) hx hb dX9_product_89 hl (k := 8) rfl rfl (by decide) rfl (fun ls hl => ?_)
              refine lv_goto (tgt := 6) hx hb dX9_product_92 (by decide) ?_
              exact ih l1 l3 l4 l5 l7 l8 l9 (l11 + 1) _ _ _ hSt (lv_sub hl [1, 2, 3, 4, 5, 6, 7, 8, 0] rfl) hf
def f_X9_product_0 (v_points : Int32) (v_faces : Int64)  (l1 : Int64) (l3 : Int32) (l4 : Int32) (l5 : Int64) (l7 : Int32) (l8 : Int32)  : Option (Int64) := f_X9_product_6 v_points v_faces  FU l1 l3 l4 l5 l7 l8 (0 : Int64) (0 : Int32)
set_option maxHeartbeats 4000000 in
set_option maxRecDepth 100000 in
theorem k_X9_product_0 {p : Program} {l : Launch} {e : Env} {s : State} {m : MethodId} {args : Array Value} {below : List Frame} {meth : Method} {c : Code} {A : Nat → Prop} {D : va_G} {cI cJ : ClassId} {h : Nat} {g2 g3 g4 g5 g6 g7 g8 g9 g10 g11 g12 g13 g14 g15 g16 g17 g18 g19 g20 g21 g22 g23 g24 g25 g26 : Value} {v_points : Int32} {v_faces : Int64} (C0 : Cx p s m args meth c cX9_product wsX9_product RX9 12 (some .long)) (hK : va_K D vwCl (tyL cI cJ) s) (hA : ∀ q, s.heap.size ≤ q → A q) (hX : XT none A s s.heap) {Rr : Int64} : ∀ (l1 : Int64) (l3 : Int32) (l4 : Int32) (l5 : Int64) (l7 : Int32) (l8 : Int32)  (H : Heap) (locs : List Loc) (ls : Array Slot), St D A s (w_X9_product cI cJ h g2 g3 g4 g5 g6 g7 g8 g9 g10 g11 g12 g13 g14 g15 g16 g17 g18 g19 g20 g21 g22 g23 g24 g25 g26 v_points v_faces) H locs → lv_has ls 12 [(0, .ref h), (1, .long l1), (3, .int l3), (4, .int l4), (5, .long l5), (7, .int l7), (8, .int l8)] → f_X9_product_0 v_points v_faces l1 l3 l4 l5 l7 l8 = some Rr → W p l e rm_X9_product s m args below meth c H locs 0 0 (MQ below (QL D cI cJ A (w_X9_product cI cJ h g2 g3 g4 g5 g6 g7 g8 g9 g10 g11 g12 g13 g14 g15 g16 g17 g18 g19 g20 g21 g22 g23 g24 g25 g26 v_points v_faces) Rr) args s 0 0 A) (F0 m 0 ls []) := by
  have hx := C0.1.1
  have hb := C0.1.2.1
  intro l1 l3 l4 l5 l7 l8 H locs ls hSt hl hf
  unfold f_X9_product_0 at hf
  refine lv_lconst (v := 0) hx hb dX9_product_0 (by decide) ?_
  refine lv_lstore (lv' := [(9, .long (0 : Int64)), (0, .ref h), (1, .long l1), (3, .int l3), (4, .int l4), (5, .long l5), (7, .int l7), (8, .int l8)]) hx hb dX9_product_1 hl (by decide) rfl (fun ls hl => ?_)
  refine lv_iconst (v := 0) hx hb dX9_product_3 (by decide) ?_
  refine lv_istore (lv' := [(11, .int (0 : Int32)), (9, .long (0 : Int64)), (0, .ref h), (1, .long l1), (3, .int l3), (4, .int l4), (5, .long l5), (7, .int l7), (8, .int l8)]) hx hb dX9_product_4 hl (by decide) rfl (fun ls hl => ?_)
  exact k_X9_product_6 C0 hK hA hX  FU l1 l3 l4 l5 l7 l8 (0 : Int64) (0 : Int32) _ _ _ hSt (lv_sub hl [2, 3, 4, 5, 6, 7, 8, 1, 0] rfl) hf
def f_X9_product (v_points : Int32) (v_faces : Int64) (l1 : Int64) (l3 : Int32) (l4 : Int32) (l5 : Int64) (l7 : Int32) (l8 : Int32)  : Option (Int64) := f_X9_product_0 v_points v_faces l1 l3 l4 l5 l7 l8
set_option maxRecDepth 100000 in
theorem c_X9_product (l : Launch) (D : va_G) (cI cJ : ClassId) (h : Nat) (g2 g3 g4 g5 g6 g7 g8 g9 g10 g11 g12 g13 g14 g15 g16 g17 g18 g19 g20 g21 g22 g23 g24 g25 g26 : Value) (l1 : Int64) (l3 : Int32) (l4 : Int32) (l5 : Int64) (l7 : Int32) (l8 : Int32) (v_points : Int32) (v_faces : Int64) (Rr : Int64) (hf : f_X9_product v_points v_faces l1 l3 l4 l5 l7 l8 = some Rr) : CtL l yX9_product wsX9_product rm_X9_product D cI cJ none [.ref h, .long l1, .int l3, .int l4, .long l5, .int l7, .int l8] (w_X9_product cI cJ h g2 g3 g4 g5 g6 g7 g8 g9 g10 g11 g12 g13 g14 g15 g16 g17 g18 g19 g20 g21 g22 g23 g24 g25 g26 v_points v_faces) Rr (w_X9_product cI cJ h g2 g3 g4 g5 g6 g7 g8 g9 g10 g11 g12 g13 g14 g15 g16 g17 g18 g19 g20 g21 g22 g23 g24 g25 g26 v_points v_faces) :=
  fun sz => BodyW.met (av := [.ref h, .long l1, .int l3, .int l4, .long l5, .int l7, .int l8]) (Qc := fun A => QL D cI cJ A (w_X9_product cI cJ h g2 g3 g4 g5 g6 g7 g8 g9 g10 g11 g12 g13 g14 g15 g16 g17 g18 g19 g20 g21 g22 g23 g24 g25 g26 v_points v_faces) Rr) (by decide) rfl rfl (Nat.le_of_ble_eq_true rfl) (fun C0 hK hA hX ls hSt hl => k_X9_product_0 C0 hK hA hX l1 l3 l4 l5 l7 l8  _ _ ls hSt hl hf) sz
/-! X9 rankOf -/
abbrev rm_X9_rankOf : Room := { frames := 3, cells := 0, slots := 0, locals := 84 }
abbrev w_X9_rankOf (cI cJ : ClassId) (h : Nat) (h_base : Nat) (h_rises : Nat) (h_marks : Nat) (h_closedJ : Nat) (h_closedL : Nat) (g2 : Value) (g3 : Value) (g4 : Value) (g10 : Value) (g11 : Value) (g12 : Value) (g13 : Value) (g14 : Value) (g15 : Value) (g16 : Value) (g17 : Value) (g18 : Value) (g19 : Value) (g20 : Value) (g21 : Value) (g22 : Value) (g23 : Value) (g24 : Value) (g25 : Value) (g26 : Value) (v_points : Int32) (v_faces : Int64) (v_base : Nat → Int64) (v_rises : Nat → Int64) (v_marks : Nat → Int64) (v_closedJ : Nat → Int64) (v_closedL : Nat → Int64) : va_W := [(h, .inr (8, [.int v_points, .long v_faces, g2, g3, g4, .ref h_base, .ref h_rises, .ref h_marks, .ref h_closedJ, .ref h_closedL, g10, g11, g12, g13, g14, g15, g16, g17, g18, g19, g20, g21, g22, g23, g24, g25, g26])), (h_base, .inl (cJ, 64, .inr (.inl v_base))), (h_rises, .inl (cJ, 20, .inr (.inl v_rises))), (h_marks, .inl (cJ, 20, .inr (.inl v_marks))), (h_closedJ, .inl (cJ, 20, .inr (.inl v_closedJ))), (h_closedL, .inl (cJ, 20, .inr (.inl v_closedL)))]
theorem iu_X9_rankOf_X9 : ∀ w ∈ wsX90, w ∈ wsX9_rankOf := by decide +kernel
theorem fl_X9_rankOf_34 : Cond.fieldLink RX9 34 (TX9 8).1 (TX9 8).2.1 (TX9 8).2.2.1 ∈ wsX9_rankOf := by decide +kernel
theorem fl_X9_rankOf_37 : Cond.fieldLink RX9 37 (TX9 9).1 (TX9 9).2.1 (TX9 9).2.2.1 ∈ wsX9_rankOf := by decide +kernel
theorem hd_X9_rankOf : yX9_rankOf.cls = RX9 ∧ yX9_rankOf.cls ≠ "java/lang/invoke/MethodHandle" ∧ yX9_rankOf.cls ≠ "java/lang/invoke/VarHandle" ∧ (parseMethodDescriptor yX9_rankOf.desc).map (fun d => d.parameters.length) = some 4 := by decide +kernel
def f_X9_rankOf_183 (v_points : Int32) (v_faces : Int64) (k_125 : Int32 → Int32 → Int32 → Int32 → Int32 → Int32 → Int32 → Int32 → (Nat → Int64) → (Nat → Int64) → (Nat → Int64) → (Nat → Int64) → (Nat → Int64) → Option (Int32 × (Nat → Int64) × (Nat → Int64) × (Nat → Int64) × (Nat → Int64) × (Nat → Int64))) (k_135 : Int32 → Int32 → Int32 → Int32 → Int32 → Int32 → Int32 → Int32 → Int32 → (Nat → Int64) → (Nat → Int64) → (Nat → Int64) → (Nat → Int64) → (Nat → Int64) → Option (Int32 × (Nat → Int64) × (Nat → Int64) × (Nat → Int64) × (Nat → Int64) × (Nat → Int64))) (l1 : Int32) (l2 : Int32) (l3 : Int32) (l4 : Int32) (l5 : Int32) (l6 : Int32) (l8 : Int32) (l9 : Int32) (s0 : Int32) (s1 : Int32) (v_base : Nat → Int64) (v_rises : Nat → Int64) (v_marks : Nat → Int64) (v_closedJ : Nat → Int64) (v_closedL : Nat → Int64) : Option (Int32 × (Nat → Int64) × (Nat → Int64) × (Nat → Int64) × (Nat → Int64) × (Nat → Int64)) := k_135 l1 l2 l3 l4 l5 l6 (s1 + s0) l8 (l9 + 1) v_base v_rises v_marks v_closedJ v_closedL
set_option maxHeartbeats 4000000 in
set_option maxRecDepth 100000 in
theorem k_X9_rankOf_183 {p : Program} {l : Launch} {e : Env} {s : State} {m : MethodId} {args : Array Value} {below : List Frame} {meth : Method} {c : Code} {A : Nat → Prop} {D : va_G} {cI cJ : ClassId} {h h_base h_rises h_marks h_closedJ h_closedL : Nat} {g2 g3 g4 g10 g11 g12 g13 g14 g15 g16 g17 g18 g19 g20 g21 g22 g23 g24 g25 g26 : Value} {v_points : Int32} {v_faces : Int64} (C0 : Cx p s m args meth c cX9_rankOf wsX9_rankOf RX9 10 (some .int)) (hK : va_K D vwCl (tyL cI cJ) s) (hA : ∀ q, s.heap.size ≤ q → A q) (hX : XT none A s s.heap) {Rr : Int32 × (Nat → Int64) × (Nat → Int64) × (Nat → Int64) × (Nat → Int64) × (Nat → Int64)} {k_125 : Int32 → Int32 → Int32 → Int32 → Int32 → Int32 → Int32 → Int32 → (Nat → Int64) → (Nat → Int64) → (Nat → Int64) → (Nat → Int64) → (Nat → Int64) → Option (Int32 × (Nat → Int64) × (Nat → Int64) × (Nat → Int64) × (Nat → Int64) × (Nat → Int64))} (hk_125 : ∀ (l1 : Int32) (l2 : Int32) (l3 : Int32) (l4 : Int32) (l5 : Int32) (l6 : Int32) (l7 : Int32) (l8 : Int32) (v_base : Nat → Int64) (v_rises : Nat → Int64) (v_marks : Nat → Int64) (v_closedJ : Nat → Int64) (v_closedL : Nat → Int64) (H : Heap) (locs : List Loc) (ls : Array Slot), St D A s (w_X9_rankOf cI cJ h h_base h_rises h_marks h_closedJ h_closedL g2 g3 g4 g10 g11 g12 g13 g14 g15 g16 g17 g18 g19 g20 g21 g22 g23 g24 g25 g26 v_points v_faces v_base v_rises v_marks v_closedJ v_closedL) H locs → lv_has ls 10 [(0, .ref h), (1, .int l1), (2, .int l2), (3, .int l3), (4, .int l4), (5, .int l5), (6, .int l6), (7, .int l7), (8, .int l8)] → k_125 l1 l2 l3 l4 l5 l6 l7 l8 v_base v_rises v_marks v_closedJ v_closedL = some Rr → W p l e rm_X9_rankOf s m args below meth c H locs 0 0 (MQ below (QI D cI cJ A (w_X9_rankOf cI cJ h h_base h_rises h_marks h_closedJ h_closedL g2 g3 g4 g10 g11 g12 g13 g14 g15 g16 g17 g18 g19 g20 g21 g22 g23 g24 g25 g26 v_points v_faces Rr.2.1 Rr.2.2.1 Rr.2.2.2.1 Rr.2.2.2.2.1 Rr.2.2.2.2.2) Rr.1) args s 0 0 A) (F0 m 125 ls [])) {k_135 : Int32 → Int32 → Int32 → Int32 → Int32 → Int32 → Int32 → Int32 → Int32 → (Nat → Int64) → (Nat → Int64) → (Nat → Int64) → (Nat → Int64) → (Nat → Int64) → Option (Int32 × (Nat → Int64) × (Nat → Int64) × (Nat → Int64) × (Nat → Int64) × (Nat → Int64))} (hk_135 : ∀ (l1 : Int32) (l2 : Int32) (l3 : Int32) (l4 : Int32) (l5 : Int32) (l6 : Int32) (l7 : Int32) (l8 : Int32) (l9 : Int32) (v_base : Nat → Int64) (v_rises : Nat → Int64) (v_marks : Nat → Int64) (v_closedJ : Nat → Int64) (v_closedL : Nat → Int64) (H : Heap) (locs : List Loc) (ls : Array Slot), St D A s (w_X9_rankOf cI cJ h h_base h_rises h_marks h_closedJ h_closedL g2 g3 g4 g10 g11 g12 g13 g14 g15 g16 g17 g18 g19 g20 g21 g22 g23 g24 g25 g26 v_points v_faces v_base v_rises v_marks v_closedJ v_closedL) H locs → lv_has ls 10 [(0, .ref h), (1, .int l1), (2, .int l2), (3, .int l3), (4, .int l4), (5, .int l5), (6, .int l6), (7, .int l7), (8, .int l8), (9, .int l9)] → k_135 l1 l2 l3 l4 l5 l6 l7 l8 l9 v_base v_rises v_marks v_closedJ v_closedL = some Rr → W p l e rm_X9_rankOf s m args below meth c H locs 0 0 (MQ below (QI D cI cJ A (w_X9_rankOf cI cJ h h_base h_rises h_marks h_closedJ h_closedL g2 g3 g4 g10 g11 g12 g13 g14 g15 g16 g17 g18 g19 g20 g21 g22 g23 g24 g25 g26 v_points v_faces Rr.2.1 Rr.2.2.1 Rr.2.2.2.1 Rr.2.2.2.2.1 Rr.2.2.2.2.2) Rr.1) args s 0 0 A) (F0 m 135 ls [])) : ∀ (l1 : Int32) (l2 : Int32) (l3 : Int32) (l4 : Int32) (l5 : Int32) (l6 : Int32) (l8 : Int32) (l9 : Int32) (s0 : Int32) (s1 : Int32) (v_base : Nat → Int64) (v_rises : Nat → Int64) (v_marks : Nat → Int64) (v_closedJ : Nat → Int64) (v_closedL : Nat → Int64) (H : Heap) (locs : List Loc) (ls : Array Slot), St D A s (w_X9_rankOf cI cJ h h_base h_rises h_marks h_closedJ h_closedL g2 g3 g4 g10 g11 g12 g13 g14 g15 g16 g17 g18 g19 g20 g21 g22 g23 g24 g25 g26 v_points v_faces v_base v_rises v_marks v_closedJ v_closedL) H locs → lv_has ls 10 [(0, .ref h), (1, .int l1), (2, .int l2), (3, .int l3), (4, .int l4), (5, .int l5), (6, .int l6), (8, .int l8), (9, .int l9)] → f_X9_rankOf_183 v_points v_faces k_125 k_135 l1 l2 l3 l4 l5 l6 l8 l9 s0 s1 v_base v_rises v_marks v_closedJ v_closedL = some Rr → W p l e rm_X9_rankOf s m args below meth c H locs 0 0 (MQ below (QI D cI cJ A (w_X9_rankOf cI cJ h h_base h_rises h_marks h_closedJ h_closedL g2 g3 g4 g10 g11 g12 g13 g14 g15 g16 g17 g18 g19 g20 g21 g22 g23 g24 g25 g26 v_points v_faces Rr.2.1 Rr.2.2.1 Rr.2.2.2.1 Rr.2.2.2.2.1 Rr.2.2.2.2.2) Rr.1) args s 0 0 A) (F0 m 183 ls [.int s0, .int s1]) := by
  have hx := C0.1.1
  have hb := C0.1.2.1
  intro l1 l2 l3 l4 l5 l6 l8 l9 s0 s1 v_base v_rises v_marks v_closedJ v_closedL H locs ls hSt hl hf
  unfold f_X9_rankOf_183 at hf
  refine lv_iadd hx hb dX9_rankOf_183 ?_
  refine lv_istore (lv' := [(7, .int (s1 + s0)), (0, .ref h), (1, .int l1), (2, .int l2), (3, .int l3), (4, .int l4), (5, .int l5), (6, .int l6), (8, .int l8), (9, .int l9)]) hx hb dX9_rankOf_184 hl (by decide) rfl (fun ls hl => ?_)
  refine lv_iinc (v := l9 + 1) (lv' := [(9, .int (l9 + 1)), (7, .int (s1 + s0)), (0, .ref h), (1, .int l1), (2, .int l2), (3, .int l3), (4, .int l4), (5, .int l5), (6, .int l6), (8, .int l8)]) hx hb dX9_rankOf_186 hl (k := 9) rfl rfl (by decide) rfl (fun ls hl => ?_)
  refine lv_goto (tgt := 135) hx hb dX9_rankOf_189 (by decide) ?_
  exact hk_135 l1 l2 l3 l4 l5 l6 (s1 + s0) l8 (l9 + 1) v_base v_rises v_marks v_closedJ v_closedL _ _ _ hSt (lv_sub hl [2, 3, 4, 5, 6, 7, 8, 1, 9, 0] rfl) hf
def f_X9_rankOf_135 (v_points : Int32) (v_faces : Int64) (k_125 : Int32 → Int32 → Int32 → Int32 → Int32 → Int32 → Int32 → Int32 → (Nat → Int64) → (Nat → Int64) → (Nat → Int64) → (Nat → Int64) → (Nat → Int64) → Option (Int32 × (Nat → Int64) × (Nat → Int64) × (Nat → Int64) × (Nat → Int64) × (Nat → Int64))) : Nat → Int32 → Int32 → Int32 → Int32 → Int32 → Int32 → Int32 → Int32 → Int32 → (Nat → Int64) → (Nat → Int64) → (Nat → Int64) → (Nat → Int64) → (Nat → Int64) → Option (Int32 × (Nat → Int64) × (Nat → Int64) × (Nat → Int64) × (Nat → Int64) × (Nat → Int64))
  | 0, _, _, _, _, _, _, _, _, _, _, _, _, _, _ => none
  | n + 1, l1, l2, l3, l4, l5, l6, l7, l8, l9, v_base, v_rises, v_marks, v_closedJ, v_closedL => if l6 ≤ l9 then k_125 l1 l2 l3 l4 l5 l6 l7 (l8 + 1) v_base v_rises v_marks v_closedJ v_closedL else gd (ix l8 20) (gd (ix l9 20) ((f_X9_product v_points v_faces (v_closedJ l8.toNatClampNeg) l1 (l3 + (1 : Int32)) (v_closedL l9.toNatClampNeg) l2 (l4 + (1 : Int32))).bind (fun R1 => (f_X9_lays R1 v_base).bind (fun R2 => if R2.1 = 0 then f_X9_rankOf_183 v_points v_faces k_125 (f_X9_rankOf_135 v_points v_faces k_125 n) l1 l2 l3 l4 l5 l6 l8 l9 (0 : Int32) l7 R2.2 v_rises v_marks v_closedJ v_closedL else f_X9_rankOf_183 v_points v_faces k_125 (f_X9_rankOf_135 v_points v_faces k_125 n) l1 l2 l3 l4 l5 l6 l8 l9 (1 : Int32) l7 R2.2 v_rises v_marks v_closedJ v_closedL))))
set_option maxHeartbeats 4000000 in
set_option maxRecDepth 100000 in
theorem k_X9_rankOf_135 {p : Program} {l : Launch} {e : Env} {s : State} {m : MethodId} {args : Array Value} {below : List Frame} {meth : Method} {c : Code} {A : Nat → Prop} {D : va_G} {cI cJ : ClassId} {h h_base h_rises h_marks h_closedJ h_closedL : Nat} {g2 g3 g4 g10 g11 g12 g13 g14 g15 g16 g17 g18 g19 g20 g21 g22 g23 g24 g25 g26 : Value} {v_points : Int32} {v_faces : Int64} (C0 : Cx p s m args meth c cX9_rankOf wsX9_rankOf RX9 10 (some .int)) (hK : va_K D vwCl (tyL cI cJ) s) (hA : ∀ q, s.heap.size ≤ q → A q) (hX : XT none A s s.heap) {Rr : Int32 × (Nat → Int64) × (Nat → Int64) × (Nat → Int64) × (Nat → Int64) × (Nat → Int64)} {k_125 : Int32 → Int32 → Int32 → Int32 → Int32 → Int32 → Int32 → Int32 → (Nat → Int64) → (Nat → Int64) → (Nat → Int64) → (Nat → Int64) → (Nat → Int64) → Option (Int32 × (Nat → Int64) × (Nat → Int64) × (Nat → Int64) × (Nat → Int64) × (Nat → Int64))} (hk_125 : ∀ (l1 : Int32) (l2 : Int32) (l3 : Int32) (l4 : Int32) (l5 : Int32) (l6 : Int32) (l7 : Int32) (l8 : Int32) (v_base : Nat → Int64) (v_rises : Nat → Int64) (v_marks : Nat → Int64) (v_closedJ : Nat → Int64) (v_closedL : Nat → Int64) (H : Heap) (locs : List Loc) (ls : Array Slot), St D A s (w_X9_rankOf cI cJ h h_base h_rises h_marks h_closedJ h_closedL g2 g3 g4 g10 g11 g12 g13 g14 g15 g16 g17 g18 g19 g20 g21 g22 g23 g24 g25 g26 v_points v_faces v_base v_rises v_marks v_closedJ v_closedL) H locs → lv_has ls 10 [(0, .ref h), (1, .int l1), (2, .int l2), (3, .int l3), (4, .int l4), (5, .int l5), (6, .int l6), (7, .int l7), (8, .int l8)] → k_125 l1 l2 l3 l4 l5 l6 l7 l8 v_base v_rises v_marks v_closedJ v_closedL = some Rr → W p l e rm_X9_rankOf s m args below meth c H locs 0 0 (MQ below (QI D cI cJ A (w_X9_rankOf cI cJ h h_base h_rises h_marks h_closedJ h_closedL g2 g3 g4 g10 g11 g12 g13 g14 g15 g16 g17 g18 g19 g20 g21 g22 g23 g24 g25 g26 v_points v_faces Rr.2.1 Rr.2.2.1 Rr.2.2.2.1 Rr.2.2.2.2.1 Rr.2.2.2.2.2) Rr.1) args s 0 0 A) (F0 m 125 ls [])) (n : Nat) : ∀ (l1 : Int32) (l2 : Int32) (l3 : Int32) (l4 : Int32) (l5 : Int32) (l6 : Int32) (l7 : Int32) (l8 : Int32) (l9 : Int32) (v_base : Nat → Int64) (v_rises : Nat → Int64) (v_marks : Nat → Int64) (v_closedJ : Nat → Int64) (v_closedL : Nat → Int64) (H : Heap) (locs : List Loc) (ls : Array Slot), St D A s (w_X9_rankOf cI cJ h h_base h_rises h_marks h_closedJ h_closedL g2 g3 g4 g10 g11 g12 g13 g14 g15 g16 g17 g18 g19 g20 g21 g22 g23 g24 g25 g26 v_points v_faces v_base v_rises v_marks v_closedJ v_closedL) H locs → lv_has ls 10 [(0, .ref h), (1, .int l1), (2, .int l2), (3, .int l3), (4, .int l4), (5, .int l5), (6, .int l6), (7, .int l7), (8, .int l8), (9, .int l9)] → f_X9_rankOf_135 v_points v_faces k_125 n l1 l2 l3 l4 l5 l6 l7 l8 l9 v_base v_rises v_marks v_closedJ v_closedL = some Rr → W p l e rm_X9_rankOf s m args below meth c H locs 0 0 (MQ below (QI D cI cJ A (w_X9_rankOf cI cJ h h_base h_rises h_marks h_closedJ h_closedL g2 g3 g4 g10 g11 g12 g13 g14 g15 g16 g17 g18 g19 g20 g21 g22 g23 g24 g25 g26 v_points v_faces Rr.2.1 Rr.2.2.1 Rr.2.2.2.1 Rr.2.2.2.2.1 Rr.2.2.2.2.2) Rr.1) args s 0 0 A) (F0 m 135 ls []) := by
  have hx := C0.1.1
  have hb := C0.1.2.1
  induction n with
  | zero => intro l1 l2 l3 l4 l5 l6 l7 l8 l9 v_base v_rises v_marks v_closedJ v_closedL H locs ls hSt hl hf; exact nomatch (show (none : Option _) = some Rr from hf)
  | succ n ih =>
    intro l1 l2 l3 l4 l5 l6 l7 l8 l9 v_base v_rises v_marks v_closedJ v_closedL H locs ls hSt hl hf
    unfold f_X9_rankOf_135 at hf
    refine lv_iload hx hb dX9_rankOf_135 (lv_at hl 9 rfl) ?_
    refine lv_iload hx hb dX9_rankOf_137 (lv_at hl 6 rfl) ?_
    refine lv_icmp_ge (tgt := 192) hx hb dX9_rankOf_139 (by decide) (fun cc => ?_) (fun cc => ?_)
    · have hf := ite_t hf cc
      refine lv_iinc (v := l8 + 1) (lv' := [(8, .int (l8 + 1)), (0, .ref h), (1, .int l1), (2, .int l2), (3, .int l3), (4, .int l4), (5, .int l5), (6, .int l6), (7, .int l7), (9, .int l9)]) hx hb dX9_rankOf_192 hl (k := 8) rfl rfl (by decide) rfl (fun ls hl => ?_)
      refine lv_goto (tgt := 125) hx hb dX9_rankOf_195 (by decide) ?_
      exact hk_125 l1 l2 l3 l4 l5 l6 l7 (l8 + 1) v_base v_rises v_marks v_closedJ v_closedL _ _ _ hSt (lv_sub hl [1, 2, 3, 4, 5, 6, 7, 8, 0] rfl) hf
    · have hf := ite_f hf cc
      refine lv_iload hx hb dX9_rankOf_142 (lv_at hl 7 rfl) ?_
      refine lv_aload_n hx hb dX9_rankOf_144 rfl (lv_at hl 0 rfl) ?_
      refine lv_aload_n hx hb dX9_rankOf_145 rfl (lv_at hl 0 rfl) ?_
      refine lv_aload_n hx hb dX9_rankOf_146 rfl (lv_at hl 0 rfl) ?_
      refine hb_get C0 hK hSt 0 8 8 rfl rfl iu_X9_rankOf_X9 (by decide) fl_X9_rankOf_34 rfl dX9_rankOf_147 ?_
      refine lv_iload hx hb dX9_rankOf_150 (lv_at hl 8 rfl) ?_
      obtain ⟨hi, hf⟩ := gd_t hf
      refine hb_lald C0 hK hSt 4 rfl hi dX9_rankOf_152 ?_
      refine lv_iload_n hx hb dX9_rankOf_153 rfl (lv_at hl 1 rfl) ?_
      refine lv_iload_n hx hb dX9_rankOf_154 rfl (lv_at hl 3 rfl) ?_
      refine lv_iconst (v := 1) hx hb dX9_rankOf_155 (by decide) ?_
      refine lv_iadd hx hb dX9_rankOf_156 ?_
      refine lv_aload_n hx hb dX9_rankOf_157 rfl (lv_at hl 0 rfl) ?_
      refine hb_get C0 hK hSt 0 8 9 rfl rfl iu_X9_rankOf_X9 (by decide) fl_X9_rankOf_37 rfl dX9_rankOf_158 ?_
      refine lv_iload hx hb dX9_rankOf_161 (lv_at hl 9 rfl) ?_
      obtain ⟨hi, hf⟩ := gd_t hf
      refine hb_lald C0 hK hSt 5 rfl hi dX9_rankOf_163 ?_
      refine lv_iload_n hx hb dX9_rankOf_164 rfl (lv_at hl 2 rfl) ?_
      refine lv_iload hx hb dX9_rankOf_165 (lv_at hl 4 rfl) ?_
      refine lv_iconst (v := 1) hx hb dX9_rankOf_167 (by decide) ?_
      refine lv_iadd hx hb dX9_rankOf_168 ?_
      obtain ⟨R1, hR1, hf⟩ := Option.bind_eq_some_iff.mp hf
      have sp : Sp (w_X9_rankOf cI cJ h h_base h_rises h_marks h_closedJ h_closedL g2 g3 g4 g10 g11 g12 g13 g14 g15 g16 g17 g18 g19 g20 g21 g22 g23 g24 g25 g26 v_points v_faces v_base v_rises v_marks v_closedJ v_closedL) (w_X9_product cI cJ h g2 g3 g4 (.ref h_base) (.ref h_rises) (.ref h_marks) (.ref h_closedJ) (.ref h_closedL) g10 g11 g12 g13 g14 g15 g16 g17 g18 g19 g20 g21 g22 g23 g24 g25 g26 v_points v_faces) (w_X9_product cI cJ h g2 g3 g4 (.ref h_base) (.ref h_rises) (.ref h_marks) (.ref h_closedJ) (.ref h_closedL) g10 g11 g12 g13 g14 g15 g16 g17 g18 g19 g20 g21 g22 g23 g24 g25 g26 v_points v_faces) (w_X9_rankOf cI cJ h h_base h_rises h_marks h_closedJ h_closedL g2 g3 g4 g10 g11 g12 g13 g14 g15 g16 g17 g18 g19 g20 g21 g22 g23 g24 g25 g26 v_points v_faces v_base v_rises v_marks v_closedJ v_closedL) [0] [1, 2, 3, 4, 5] [5, 0, 1, 2, 3, 4] := ⟨rfl, rfl, rfl, by decide, by decide, by decide, by decide⟩
      refine hb_cl (hb_rV (As := [.long (v_closedJ l8.toNatClampNeg), .int l1, .int (l3 + (1 : Int32)), .long (v_closedL l9.toNatClampNeg), .int l2, .int (l4 + (1 : Int32))]) (rest := [.ref h, .int l7]) C0 hK hA XT.nn hSt sp (c_X9_product l D cI cJ h g2 g3 g4 (.ref h_base) (.ref h_rises) (.ref h_marks) (.ref h_closedJ) (.ref h_closedL) g10 g11 g12 g13 g14 g15 g16 g17 g18 g19 g20 g21 g22 g23 g24 g25 g26  (v_closedJ l8.toNatClampNeg) l1 (l3 + (1 : Int32)) (v_closedL l9.toNatClampNeg) l2 (l4 + (1 : Int32)) v_points v_faces R1 hR1) gX9_rankOf_X9_product rfl ⟨rfl, rfl⟩ hd_X9_product ⟨Nat.le_of_ble_eq_true rfl, Nat.le_of_ble_eq_true rfl⟩ 0 8 rfl rfl rfl hl rfl (Nat.le_of_ble_eq_true rfl) dX9_rankOf_169 ⟨Nat.zero_le _, Nat.zero_le _⟩) hA hSt sp (fun H locs hSt => ?_)
      obtain ⟨R2, hR2, hf⟩ := Option.bind_eq_some_iff.mp hf
      have sp : Sp (w_X9_rankOf cI cJ h h_base h_rises h_marks h_closedJ h_closedL g2 g3 g4 g10 g11 g12 g13 g14 g15 g16 g17 g18 g19 g20 g21 g22 g23 g24 g25 g26 v_points v_faces v_base v_rises v_marks v_closedJ v_closedL) (w_X9_lays cI cJ h h_base (.int v_points) (.long v_faces) g2 g3 g4 (.ref h_rises) (.ref h_marks) (.ref h_closedJ) (.ref h_closedL) g10 g11 g12 g13 g14 g15 g16 g17 g18 g19 g20 g21 g22 g23 g24 g25 g26 v_base) (w_X9_lays cI cJ h h_base (.int v_points) (.long v_faces) g2 g3 g4 (.ref h_rises) (.ref h_marks) (.ref h_closedJ) (.ref h_closedL) g10 g11 g12 g13 g14 g15 g16 g17 g18 g19 g20 g21 g22 g23 g24 g25 g26 R2.2) (w_X9_rankOf cI cJ h h_base h_rises h_marks h_closedJ h_closedL g2 g3 g4 g10 g11 g12 g13 g14 g15 g16 g17 g18 g19 g20 g21 g22 g23 g24 g25 g26 v_points v_faces R2.2 v_rises v_marks v_closedJ v_closedL) [0, 1] [2, 3, 4, 5] [4, 5, 0, 1, 2, 3] := ⟨rfl, rfl, rfl, by decide, by decide, by decide, by decide⟩
      refine hb_ci (hb_rV (As := [.long R1]) (rest := [.int l7]) C0 hK hA XT.nn hSt sp (c_X9_lays l D cI cJ h h_base (.int v_points) (.long v_faces) g2 g3 g4 (.ref h_rises) (.ref h_marks) (.ref h_closedJ) (.ref h_closedL) g10 g11 g12 g13 g14 g15 g16 g17 g18 g19 g20 g21 g22 g23 g24 g25 g26  R1 v_base R2 hR2) gX9_rankOf_X9_lays rfl ⟨rfl, rfl⟩ hd_X9_lays ⟨Nat.le_of_ble_eq_true rfl, Nat.le_of_ble_eq_true rfl⟩ 0 8 rfl rfl rfl hl rfl (Nat.le_of_ble_eq_true rfl) dX9_rankOf_172 ⟨Nat.zero_le _, Nat.zero_le _⟩) hA hSt sp (fun H locs hSt => ?_)
      refine lv_if_eq (tgt := 182) hx hb dX9_rankOf_175 (by decide) (fun cc => ?_) (fun cc => ?_)
      · have hf := ite_t hf cc
        refine lv_iconst (v := 0) hx hb dX9_rankOf_182 (by decide) ?_
        exact k_X9_rankOf_183 C0 hK hA hX hk_125 ih l1 l2 l3 l4 l5 l6 l8 l9 (0 : Int32) l7 R2.2 v_rises v_marks v_closedJ v_closedL _ _ _ hSt (lv_sub hl [0, 1, 2, 3, 4, 5, 6, 8, 9] rfl) hf
      · have hf := ite_f hf cc
        refine lv_iconst (v := 1) hx hb dX9_rankOf_178 (by decide) ?_
        refine lv_goto (tgt := 183) hx hb dX9_rankOf_179 (by decide) ?_
        exact k_X9_rankOf_183 C0 hK hA hX hk_125 ih l1 l2 l3 l4 l5 l6 l8 l9 (1 : Int32) l7 R2.2 v_rises v_marks v_closedJ v_closedL _ _ _ hSt (lv_sub hl [0, 1, 2, 3, 4, 5, 6, 8, 9] rfl) hf
def f_X9_rankOf_125 (v_points : Int32) (v_faces : Int64)  : Nat → Int32 → Int32 → Int32 → Int32 → Int32 → Int32 → Int32 → Int32 → (Nat → Int64) → (Nat → Int64) → (Nat → Int64) → (Nat → Int64) → (Nat → Int64) → Option (Int32 × (Nat → Int64) × (Nat → Int64) × (Nat → Int64) × (Nat → Int64) × (Nat → Int64))
  | 0, _, _, _, _, _, _, _, _, _, _, _, _, _ => none
  | n + 1, l1, l2, l3, l4, l5, l6, l7, l8, v_base, v_rises, v_marks, v_closedJ, v_closedL => if l5 ≤ l8 then some (l7, v_base, v_rises, v_marks, v_closedJ, v_closedL) else f_X9_rankOf_135 v_points v_faces (f_X9_rankOf_125 v_points v_faces n) FU l1 l2 l3 l4 l5 l6 l7 l8 (0 : Int32) v_base v_rises v_marks v_closedJ v_closedL
set_option maxHeartbeats 4000000 in
set_option maxRecDepth 100000 in
theorem k_X9_rankOf_125 {p : Program} {l : Launch} {e : Env} {s : State} {m : MethodId} {args : Array Value} {below : List Frame} {meth : Method} {c : Code} {A : Nat → Prop} {D : va_G} {cI cJ : ClassId} {h h_base h_rises h_marks h_closedJ h_closedL : Nat} {g2 g3 g4 g10 g11 g12 g13 g14 g15 g16 g17 g18 g19 g20 g21 g22 g23 g24 g25 g26 : Value} {v_points : Int32} {v_faces : Int64} (C0 : Cx p s m args meth c cX9_rankOf wsX9_rankOf RX9 10 (some .int)) (hK : va_K D vwCl (tyL cI cJ) s) (hA : ∀ q, s.heap.size ≤ q → A q) (hX : XT none A s s.heap) {Rr : Int32 × (Nat → Int64) × (Nat → Int64) × (Nat → Int64) × (Nat → Int64) × (Nat → Int64)} (n : Nat) : ∀ (l1 : Int32) (l2 : Int32) (l3 : Int32) (l4 : Int32) (l5 : Int32) (l6 : Int32) (l7 : Int32) (l8 : Int32) (v_base : Nat → Int64) (v_rises : Nat → Int64) (v_marks : Nat → Int64) (v_closedJ : Nat → Int64) (v_closedL : Nat → Int64) (H : Heap) (locs : List Loc) (ls : Array Slot), St D A s (w_X9_rankOf cI cJ h h_base h_rises h_marks h_closedJ h_closedL g2 g3 g4 g10 g11 g12 g13 g14 g15 g16 g17 g18 g19 g20 g21 g22 g23 g24 g25 g26 v_points v_faces v_base v_rises v_marks v_closedJ v_closedL) H locs → lv_has ls 10 [(0, .ref h), (1, .int l1), (2, .int l2), (3, .int l3), (4, .int l4), (5, .int l5), (6, .int l6), (7, .int l7), (8, .int l8)] → f_X9_rankOf_125 v_points v_faces n l1 l2 l3 l4 l5 l6 l7 l8 v_base v_rises v_marks v_closedJ v_closedL = some Rr → W p l e rm_X9_rankOf s m args below meth c H locs 0 0 (MQ below (QI D cI cJ A (w_X9_rankOf cI cJ h h_base h_rises h_marks h_closedJ h_closedL g2 g3 g4 g10 g11 g12 g13 g14 g15 g16 g17 g18 g19 g20 g21 g22 g23 g24 g25 g26 v_points v_faces Rr.2.1 Rr.2.2.1 Rr.2.2.2.1 Rr.2.2.2.2.1 Rr.2.2.2.2.2) Rr.1) args s 0 0 A) (F0 m 125 ls []) := by
  have hx := C0.1.1
  have hb := C0.1.2.1
  induction n with
  | zero => intro l1 l2 l3 l4 l5 l6 l7 l8 v_base v_rises v_marks v_closedJ v_closedL H locs ls hSt hl hf; exact nomatch (show (none : Option _) = some Rr from hf)
  | succ n ih =>
    intro l1 l2 l3 l4 l5 l6 l7 l8 v_base v_rises v_marks v_closedJ v_closedL H locs ls hSt hl hf
    unfold f_X9_rankOf_125 at hf
    refine lv_iload hx hb dX9_rankOf_125 (lv_at hl 8 rfl) ?_
    refine lv_iload hx hb dX9_rankOf_127 (lv_at hl 5 rfl) ?_
    refine lv_icmp_ge (tgt := 198) hx hb dX9_rankOf_129 (by decide) (fun cc => ?_) (fun cc => ?_)
    · have hf := ite_t hf cc
      refine lv_iload hx hb dX9_rankOf_198 (lv_at hl 7 rfl) ?_
      cases hf
      exact hb_iret C0 hK hSt dX9_rankOf_200
    · have hf := ite_f hf cc
      refine lv_iconst (v := 0) hx hb dX9_rankOf_132 (by decide) ?_
      refine lv_istore (lv' := [(9, .int (0 : Int32)), (0, .ref h), (1, .int l1), (2, .int l2), (3, .int l3), (4, .int l4), (5, .int l5), (6, .int l6), (7, .int l7), (8, .int l8)]) hx hb dX9_rankOf_133 hl (by decide) rfl (fun ls hl => ?_)
      exact k_X9_rankOf_135 C0 hK hA hX ih FU l1 l2 l3 l4 l5 l6 l7 l8 (0 : Int32) v_base v_rises v_marks v_closedJ v_closedL _ _ _ hSt (lv_sub hl [1, 2, 3, 4, 5, 6, 7, 8, 9, 0] rfl) hf
def f_X9_rankOf_48 (v_points : Int32) (v_faces : Int64)  : Nat → Int32 → Int32 → Int32 → Int32 → Int32 → Int32 → Int32 → (Nat → Int64) → (Nat → Int64) → (Nat → Int64) → (Nat → Int64) → (Nat → Int64) → Option (Int32 × (Nat → Int64) × (Nat → Int64) × (Nat → Int64) × (Nat → Int64) × (Nat → Int64))
  | 0, _, _, _, _, _, _, _, _, _, _, _, _ => none
  | n + 1, l1, l2, l3, l4, l5, l6, l7, v_base, v_rises, v_marks, v_closedJ, v_closedL => (f_X9_all v_points).bind (fun R1 => if R1 < l7 then f_X9_rankOf_125 v_points v_faces  FU l1 l2 l3 l4 l5 l6 (0 : Int32) (0 : Int32) v_base v_rises v_marks v_closedJ v_closedL else (f_X9_size l7).bind (fun R2 => if R2 = ((l3 + l4) + (1 : Int32)) then if (l7 &&& ((l1 ||| l2) ^^^ (-1 : Int32))) = 0 then (f_X9_isFace v_faces l7).bind (fun R3 => if R3 = 0 then (f_X9_rankOf_48 v_points v_faces n) l1 l2 l3 l4 l5 l6 (l7 + 1) v_base v_rises v_marks v_closedJ v_closedL else (f_X9_rise v_points v_faces ((1 : Int64) <<< (l7.toInt64 &&& 63)) (l1 ||| l2) ((l3 + l4) + (1 : Int32))).bind (fun R4 => (f_X9_lays R4 v_base).bind (fun R5 => (f_X9_rankOf_48 v_points v_faces n) l1 l2 l3 l4 l5 l6 (l7 + 1) R5.2 v_rises v_marks v_closedJ v_closedL))) else (f_X9_rankOf_48 v_points v_faces n) l1 l2 l3 l4 l5 l6 (l7 + 1) v_base v_rises v_marks v_closedJ v_closedL else (f_X9_rankOf_48 v_points v_faces n) l1 l2 l3 l4 l5 l6 (l7 + 1) v_base v_rises v_marks v_closedJ v_closedL))
set_option maxHeartbeats 4000000 in
set_option maxRecDepth 100000 in
theorem k_X9_rankOf_48 {p : Program} {l : Launch} {e : Env} {s : State} {m : MethodId} {args : Array Value} {below : List Frame} {meth : Method} {c : Code} {A : Nat → Prop} {D : va_G} {cI cJ : ClassId} {h h_base h_rises h_marks h_closedJ h_closedL : Nat} {g2 g3 g4 g10 g11 g12 g13 g14 g15 g16 g17 g18 g19 g20 g21 g22 g23 g24 g25 g26 : Value} {v_points : Int32} {v_faces : Int64} (C0 : Cx p s m args meth c cX9_rankOf wsX9_rankOf RX9 10 (some .int)) (hK : va_K D vwCl (tyL cI cJ) s) (hA : ∀ q, s.heap.size ≤ q → A q) (hX : XT none A s s.heap) {Rr : Int32 × (Nat → Int64) × (Nat → Int64) × (Nat → Int64) × (Nat → Int64) × (Nat → Int64)} (n : Nat) : ∀ (l1 : Int32) (l2 : Int32) (l3 : Int32) (l4 : Int32) (l5 : Int32) (l6 : Int32) (l7 : Int32) (v_base : Nat → Int64) (v_rises : Nat → Int64) (v_marks : Nat → Int64) (v_closedJ : Nat → Int64) (v_closedL : Nat → Int64) (H : Heap) (locs : List Loc) (ls : Array Slot), St D A s (w_X9_rankOf cI cJ h h_base h_rises h_marks h_closedJ h_closedL g2 g3 g4 g10 g11 g12 g13 g14 g15 g16 g17 g18 g19 g20 g21 g22 g23 g24 g25 g26 v_points v_faces v_base v_rises v_marks v_closedJ v_closedL) H locs → lv_has ls 10 [(0, .ref h), (1, .int l1), (2, .int l2), (3, .int l3), (4, .int l4), (5, .int l5), (6, .int l6), (7, .int l7)] → f_X9_rankOf_48 v_points v_faces n l1 l2 l3 l4 l5 l6 l7 v_base v_rises v_marks v_closedJ v_closedL = some Rr → W p l e rm_X9_rankOf s m args below meth c H locs 0 0 (MQ below (QI D cI cJ A (w_X9_rankOf cI cJ h h_base h_rises h_marks h_closedJ h_closedL g2 g3 g4 g10 g11 g12 g13 g14 g15 g16 g17 g18 g19 g20 g21 g22 g23 g24 g25 g26 v_points v_faces Rr.2.1 Rr.2.2.1 Rr.2.2.2.1 Rr.2.2.2.2.1 Rr.2.2.2.2.2) Rr.1) args s 0 0 A) (F0 m 48 ls []) := by
  have hx := C0.1.1
  have hb := C0.1.2.1
  induction n with
  | zero => intro l1 l2 l3 l4 l5 l6 l7 v_base v_rises v_marks v_closedJ v_closedL H locs ls hSt hl hf; exact nomatch (show (none : Option _) = some Rr from hf)
  | succ n ih =>
    intro l1 l2 l3 l4 l5 l6 l7 v_base v_rises v_marks v_closedJ v_closedL H locs ls hSt hl hf
    unfold f_X9_rankOf_48 at hf
    refine lv_iload hx hb dX9_rankOf_48 (lv_at hl 7 rfl) ?_
    refine lv_aload_n hx hb dX9_rankOf_50 rfl (lv_at hl 0 rfl) ?_
    obtain ⟨R1, hR1, hf⟩ := Option.bind_eq_some_iff.mp hf
    have sp : Sp (w_X9_rankOf cI cJ h h_base h_rises h_marks h_closedJ h_closedL g2 g3 g4 g10 g11 g12 g13 g14 g15 g16 g17 g18 g19 g20 g21 g22 g23 g24 g25 g26 v_points v_faces v_base v_rises v_marks v_closedJ v_closedL) (w_X9_all cI cJ h (.long v_faces) g2 g3 g4 (.ref h_base) (.ref h_rises) (.ref h_marks) (.ref h_closedJ) (.ref h_closedL) g10 g11 g12 g13 g14 g15 g16 g17 g18 g19 g20 g21 g22 g23 g24 g25 g26 v_points) (w_X9_all cI cJ h (.long v_faces) g2 g3 g4 (.ref h_base) (.ref h_rises) (.ref h_marks) (.ref h_closedJ) (.ref h_closedL) g10 g11 g12 g13 g14 g15 g16 g17 g18 g19 g20 g21 g22 g23 g24 g25 g26 v_points) (w_X9_rankOf cI cJ h h_base h_rises h_marks h_closedJ h_closedL g2 g3 g4 g10 g11 g12 g13 g14 g15 g16 g17 g18 g19 g20 g21 g22 g23 g24 g25 g26 v_points v_faces v_base v_rises v_marks v_closedJ v_closedL) [0] [1, 2, 3, 4, 5] [5, 0, 1, 2, 3, 4] := ⟨rfl, rfl, rfl, by decide, by decide, by decide, by decide⟩
    refine hb_ci (hb_rV (As := []) (rest := [.int l7]) C0 hK hA XT.nn hSt sp (c_X9_all l D cI cJ h (.long v_faces) g2 g3 g4 (.ref h_base) (.ref h_rises) (.ref h_marks) (.ref h_closedJ) (.ref h_closedL) g10 g11 g12 g13 g14 g15 g16 g17 g18 g19 g20 g21 g22 g23 g24 g25 g26   v_points R1 hR1) gX9_rankOf_X9_all rfl ⟨rfl, rfl⟩ hd_X9_all ⟨Nat.le_of_ble_eq_true rfl, Nat.le_of_ble_eq_true rfl⟩ 0 8 rfl rfl rfl hl rfl (Nat.le_of_ble_eq_true rfl) dX9_rankOf_51 ⟨Nat.zero_le _, Nat.zero_le _⟩) hA hSt sp (fun H locs hSt => ?_)
    refine lv_icmp_gt (tgt := 119) hx hb dX9_rankOf_54 (by decide) (fun cc => ?_) (fun cc => ?_)
    · have hf := ite_t hf cc
      refine lv_iconst (v := 0) hx hb dX9_rankOf_119 (by decide) ?_
      refine lv_istore (lv' := [(7, .int (0 : Int32)), (0, .ref h), (1, .int l1), (2, .int l2), (3, .int l3), (4, .int l4), (5, .int l5), (6, .int l6)]) hx hb dX9_rankOf_120 hl (by decide) rfl (fun ls hl => ?_)
      refine lv_iconst (v := 0) hx hb dX9_rankOf_122 (by decide) ?_
      refine lv_istore (lv' := [(8, .int (0 : Int32)), (7, .int (0 : Int32)), (0, .ref h), (1, .int l1), (2, .int l2), (3, .int l3), (4, .int l4), (5, .int l5), (6, .int l6)]) hx hb dX9_rankOf_123 hl (by decide) rfl (fun ls hl => ?_)
      exact k_X9_rankOf_125 C0 hK hA hX  FU l1 l2 l3 l4 l5 l6 (0 : Int32) (0 : Int32) v_base v_rises v_marks v_closedJ v_closedL _ _ _ hSt (lv_sub hl [2, 3, 4, 5, 6, 7, 8, 1, 0] rfl) hf
    · have hf := ite_f hf cc
      refine lv_iload hx hb dX9_rankOf_57 (lv_at hl 7 rfl) ?_
      obtain ⟨R2, hR2, hf⟩ := Option.bind_eq_some_iff.mp hf
      have sp : Sp (w_X9_rankOf cI cJ h h_base h_rises h_marks h_closedJ h_closedL g2 g3 g4 g10 g11 g12 g13 g14 g15 g16 g17 g18 g19 g20 g21 g22 g23 g24 g25 g26 v_points v_faces v_base v_rises v_marks v_closedJ v_closedL) (w_X9_size cI cJ) (w_X9_size cI cJ) (w_X9_rankOf cI cJ h h_base h_rises h_marks h_closedJ h_closedL g2 g3 g4 g10 g11 g12 g13 g14 g15 g16 g17 g18 g19 g20 g21 g22 g23 g24 g25 g26 v_points v_faces v_base v_rises v_marks v_closedJ v_closedL) [] [0, 1, 2, 3, 4, 5] [0, 1, 2, 3, 4, 5] := ⟨rfl, rfl, rfl, by decide, by decide, by decide, by decide⟩
      refine hb_ci (hb_rS (As := [.int l7]) (rest := []) C0 hK hA XT.nn hSt sp (c_X9_size l D cI cJ   l7  R2 hR2) gX9_rankOf_X9_size rfl ⟨rfl, rfl⟩ hd_X9_size ⟨Nat.le_of_ble_eq_true rfl, Nat.le_of_ble_eq_true rfl⟩ rfl hl rfl (Nat.le_of_ble_eq_true rfl) dX9_rankOf_59 ⟨Nat.zero_le _, Nat.zero_le _⟩) hA hSt sp (fun H locs hSt => ?_)
      refine lv_iload_n hx hb dX9_rankOf_62 rfl (lv_at hl 3 rfl) ?_
      refine lv_iload hx hb dX9_rankOf_63 (lv_at hl 4 rfl) ?_
      refine lv_iadd hx hb dX9_rankOf_65 ?_
      refine lv_iconst (v := 1) hx hb dX9_rankOf_66 (by decide) ?_
      refine lv_iadd hx hb dX9_rankOf_67 ?_
      refine lv_icmp_ne (tgt := 113) hx hb dX9_rankOf_68 (by decide) (fun cc => ?_) (fun cc => ?_)
      · have hf := ite_f hf cc
        refine lv_iinc (v := l7 + 1) (lv' := [(7, .int (l7 + 1)), (0, .ref h), (1, .int l1), (2, .int l2), (3, .int l3), (4, .int l4), (5, .int l5), (6, .int l6)]) hx hb dX9_rankOf_113 hl (k := 7) rfl rfl (by decide) rfl (fun ls hl => ?_)
        refine lv_goto (tgt := 48) hx hb dX9_rankOf_116 (by decide) ?_
        exact ih l1 l2 l3 l4 l5 l6 (l7 + 1) v_base v_rises v_marks v_closedJ v_closedL _ _ _ hSt (lv_sub hl [1, 2, 3, 4, 5, 6, 7, 0] rfl) hf
      · have hf := ite_t hf cc
        refine lv_iload hx hb dX9_rankOf_71 (lv_at hl 7 rfl) ?_
        refine lv_iload_n hx hb dX9_rankOf_73 rfl (lv_at hl 1 rfl) ?_
        refine lv_iload_n hx hb dX9_rankOf_74 rfl (lv_at hl 2 rfl) ?_
        refine lv_ior hx hb dX9_rankOf_75 ?_
        refine lv_iconst (v := -1) hx hb dX9_rankOf_76 (by decide) ?_
        refine lv_ixor hx hb dX9_rankOf_77 ?_
        refine lv_iand hx hb dX9_rankOf_78 ?_
        refine lv_if_ne (tgt := 113) hx hb dX9_rankOf_79 (by decide) (fun cc => ?_) (fun cc => ?_)
        · have hf := ite_f hf cc
          refine lv_iinc (v := l7 + 1) (lv' := [(7, .int (l7 + 1)), (0, .ref h), (1, .int l1), (2, .int l2), (3, .int l3), (4, .int l4), (5, .int l5), (6, .int l6)]) hx hb dX9_rankOf_113 hl (k := 7) rfl rfl (by decide) rfl (fun ls hl => ?_)
          refine lv_goto (tgt := 48) hx hb dX9_rankOf_116 (by decide) ?_
          exact ih l1 l2 l3 l4 l5 l6 (l7 + 1) v_base v_rises v_marks v_closedJ v_closedL _ _ _ hSt (lv_sub hl [1, 2, 3, 4, 5, 6, 7, 0] rfl) hf
        · have hf := ite_t hf cc
          refine lv_aload_n hx hb dX9_rankOf_82 rfl (lv_at hl 0 rfl) ?_
          refine lv_iload hx hb dX9_rankOf_83 (lv_at hl 7 rfl) ?_
          obtain ⟨R3, hR3, hf⟩ := Option.bind_eq_some_iff.mp hf
          have sp : Sp (w_X9_rankOf cI cJ h h_base h_rises h_marks h_closedJ h_closedL g2 g3 g4 g10 g11 g12 g13 g14 g15 g16 g17 g18 g19 g20 g21 g22 g23 g24 g25 g26 v_points v_faces v_base v_rises v_marks v_closedJ v_closedL) (w_X9_isFace cI cJ h (.int v_points) g2 g3 g4 (.ref h_base) (.ref h_rises) (.ref h_marks) (.ref h_closedJ) (.ref h_closedL) g10 g11 g12 g13 g14 g15 g16 g17 g18 g19 g20 g21 g22 g23 g24 g25 g26 v_faces) (w_X9_isFace cI cJ h (.int v_points) g2 g3 g4 (.ref h_base) (.ref h_rises) (.ref h_marks) (.ref h_closedJ) (.ref h_closedL) g10 g11 g12 g13 g14 g15 g16 g17 g18 g19 g20 g21 g22 g23 g24 g25 g26 v_faces) (w_X9_rankOf cI cJ h h_base h_rises h_marks h_closedJ h_closedL g2 g3 g4 g10 g11 g12 g13 g14 g15 g16 g17 g18 g19 g20 g21 g22 g23 g24 g25 g26 v_points v_faces v_base v_rises v_marks v_closedJ v_closedL) [0] [1, 2, 3, 4, 5] [5, 0, 1, 2, 3, 4] := ⟨rfl, rfl, rfl, by decide, by decide, by decide, by decide⟩
          refine hb_ci (hb_rV (As := [.int l7]) (rest := []) C0 hK hA XT.nn hSt sp (c_X9_isFace l D cI cJ h (.int v_points) g2 g3 g4 (.ref h_base) (.ref h_rises) (.ref h_marks) (.ref h_closedJ) (.ref h_closedL) g10 g11 g12 g13 g14 g15 g16 g17 g18 g19 g20 g21 g22 g23 g24 g25 g26  l7 v_faces R3 hR3) gX9_rankOf_X9_isFace rfl ⟨rfl, rfl⟩ hd_X9_isFace ⟨Nat.le_of_ble_eq_true rfl, Nat.le_of_ble_eq_true rfl⟩ 0 8 rfl rfl rfl hl rfl (Nat.le_of_ble_eq_true rfl) dX9_rankOf_85 ⟨Nat.zero_le _, Nat.zero_le _⟩) hA hSt sp (fun H locs hSt => ?_)
          refine lv_if_eq (tgt := 113) hx hb dX9_rankOf_88 (by decide) (fun cc => ?_) (fun cc => ?_)
          · have hf := ite_t hf cc
            refine lv_iinc (v := l7 + 1) (lv' := [(7, .int (l7 + 1)), (0, .ref h), (1, .int l1), (2, .int l2), (3, .int l3), (4, .int l4), (5, .int l5), (6, .int l6)]) hx hb dX9_rankOf_113 hl (k := 7) rfl rfl (by decide) rfl (fun ls hl => ?_)
            refine lv_goto (tgt := 48) hx hb dX9_rankOf_116 (by decide) ?_
            exact ih l1 l2 l3 l4 l5 l6 (l7 + 1) v_base v_rises v_marks v_closedJ v_closedL _ _ _ hSt (lv_sub hl [1, 2, 3, 4, 5, 6, 7, 0] rfl) hf
          · have hf := ite_f hf cc
            refine lv_aload_n hx hb dX9_rankOf_91 rfl (lv_at hl 0 rfl) ?_
            refine lv_aload_n hx hb dX9_rankOf_92 rfl (lv_at hl 0 rfl) ?_
            refine lv_lconst (v := 1) hx hb dX9_rankOf_93 (by decide) ?_
            refine lv_iload hx hb dX9_rankOf_94 (lv_at hl 7 rfl) ?_
            refine lv_lshl (v := (1 : Int64) <<< (l7.toInt64 &&& 63)) hx hb dX9_rankOf_96 rfl ?_
            refine lv_iload_n hx hb dX9_rankOf_97 rfl (lv_at hl 1 rfl) ?_
            refine lv_iload_n hx hb dX9_rankOf_98 rfl (lv_at hl 2 rfl) ?_
            refine lv_ior hx hb dX9_rankOf_99 ?_
            refine lv_iload_n hx hb dX9_rankOf_100 rfl (lv_at hl 3 rfl) ?_
            refine lv_iload hx hb dX9_rankOf_101 (lv_at hl 4 rfl) ?_
            refine lv_iadd hx hb dX9_rankOf_103 ?_
            refine lv_iconst (v := 1) hx hb dX9_rankOf_104 (by decide) ?_
            refine lv_iadd hx hb dX9_rankOf_105 ?_
            obtain ⟨R4, hR4, hf⟩ := Option.bind_eq_some_iff.mp hf
            have sp : Sp (w_X9_rankOf cI cJ h h_base h_rises h_marks h_closedJ h_closedL g2 g3 g4 g10 g11 g12 g13 g14 g15 g16 g17 g18 g19 g20 g21 g22 g23 g24 g25 g26 v_points v_faces v_base v_rises v_marks v_closedJ v_closedL) (w_X9_rise cI cJ h g2 g3 g4 (.ref h_base) (.ref h_rises) (.ref h_marks) (.ref h_closedJ) (.ref h_closedL) g10 g11 g12 g13 g14 g15 g16 g17 g18 g19 g20 g21 g22 g23 g24 g25 g26 v_points v_faces) (w_X9_rise cI cJ h g2 g3 g4 (.ref h_base) (.ref h_rises) (.ref h_marks) (.ref h_closedJ) (.ref h_closedL) g10 g11 g12 g13 g14 g15 g16 g17 g18 g19 g20 g21 g22 g23 g24 g25 g26 v_points v_faces) (w_X9_rankOf cI cJ h h_base h_rises h_marks h_closedJ h_closedL g2 g3 g4 g10 g11 g12 g13 g14 g15 g16 g17 g18 g19 g20 g21 g22 g23 g24 g25 g26 v_points v_faces v_base v_rises v_marks v_closedJ v_closedL) [0] [1, 2, 3, 4, 5] [5, 0, 1, 2, 3, 4] := ⟨rfl, rfl, rfl, by decide, by decide, by decide, by decide⟩
            refine hb_cl (hb_rV (As := [.long ((1 : Int64) <<< (l7.toInt64 &&& 63)), .int (l1 ||| l2), .int ((l3 + l4) + (1 : Int32))]) (rest := [.ref h]) C0 hK hA XT.nn hSt sp (c_X9_rise l D cI cJ h g2 g3 g4 (.ref h_base) (.ref h_rises) (.ref h_marks) (.ref h_closedJ) (.ref h_closedL) g10 g11 g12 g13 g14 g15 g16 g17 g18 g19 g20 g21 g22 g23 g24 g25 g26  ((1 : Int64) <<< (l7.toInt64 &&& 63)) (l1 ||| l2) ((l3 + l4) + (1 : Int32)) v_points v_faces R4 hR4) gX9_rankOf_X9_rise rfl ⟨rfl, rfl⟩ hd_X9_rise ⟨Nat.le_of_ble_eq_true rfl, Nat.le_of_ble_eq_true rfl⟩ 0 8 rfl rfl rfl hl rfl (Nat.le_of_ble_eq_true rfl) dX9_rankOf_106 ⟨Nat.zero_le _, Nat.zero_le _⟩) hA hSt sp (fun H locs hSt => ?_)
            obtain ⟨R5, hR5, hf⟩ := Option.bind_eq_some_iff.mp hf
            have sp : Sp (w_X9_rankOf cI cJ h h_base h_rises h_marks h_closedJ h_closedL g2 g3 g4 g10 g11 g12 g13 g14 g15 g16 g17 g18 g19 g20 g21 g22 g23 g24 g25 g26 v_points v_faces v_base v_rises v_marks v_closedJ v_closedL) (w_X9_lays cI cJ h h_base (.int v_points) (.long v_faces) g2 g3 g4 (.ref h_rises) (.ref h_marks) (.ref h_closedJ) (.ref h_closedL) g10 g11 g12 g13 g14 g15 g16 g17 g18 g19 g20 g21 g22 g23 g24 g25 g26 v_base) (w_X9_lays cI cJ h h_base (.int v_points) (.long v_faces) g2 g3 g4 (.ref h_rises) (.ref h_marks) (.ref h_closedJ) (.ref h_closedL) g10 g11 g12 g13 g14 g15 g16 g17 g18 g19 g20 g21 g22 g23 g24 g25 g26 R5.2) (w_X9_rankOf cI cJ h h_base h_rises h_marks h_closedJ h_closedL g2 g3 g4 g10 g11 g12 g13 g14 g15 g16 g17 g18 g19 g20 g21 g22 g23 g24 g25 g26 v_points v_faces R5.2 v_rises v_marks v_closedJ v_closedL) [0, 1] [2, 3, 4, 5] [4, 5, 0, 1, 2, 3] := ⟨rfl, rfl, rfl, by decide, by decide, by decide, by decide⟩
            refine hb_ci (hb_rV (As := [.long R4]) (rest := []) C0 hK hA XT.nn hSt sp (c_X9_lays l D cI cJ h h_base (.int v_points) (.long v_faces) g2 g3 g4 (.ref h_rises) (.ref h_marks) (.ref h_closedJ) (.ref h_closedL) g10 g11 g12 g13 g14 g15 g16 g17 g18 g19 g20 g21 g22 g23 g24 g25 g26  R4 v_base R5 hR5) gX9_rankOf_X9_lays rfl ⟨rfl, rfl⟩ hd_X9_lays ⟨Nat.le_of_ble_eq_true rfl, Nat.le_of_ble_eq_true rfl⟩ 0 8 rfl rfl rfl hl rfl (Nat.le_of_ble_eq_true rfl) dX9_rankOf_109 ⟨Nat.zero_le _, Nat.zero_le _⟩) hA hSt sp (fun H locs hSt => ?_)
            refine lv_pop hx hb dX9_rankOf_112 rfl ?_
            refine lv_iinc (v := l7 + 1) (lv' := [(7, .int (l7 + 1)), (0, .ref h), (1, .int l1), (2, .int l2), (3, .int l3), (4, .int l4), (5, .int l5), (6, .int l6)]) hx hb dX9_rankOf_113 hl (k := 7) rfl rfl (by decide) rfl (fun ls hl => ?_)
            refine lv_goto (tgt := 48) hx hb dX9_rankOf_116 (by decide) ?_
            exact ih l1 l2 l3 l4 l5 l6 (l7 + 1) R5.2 v_rises v_marks v_closedJ v_closedL _ _ _ hSt (lv_sub hl [1, 2, 3, 4, 5, 6, 7, 0] rfl) hf
def f_X9_rankOf_0 (v_points : Int32) (v_faces : Int64)  (l1 : Int32) (l2 : Int32) (l3 : Int32) (l4 : Int32) (v_base : Nat → Int64) (v_rises : Nat → Int64) (v_marks : Nat → Int64) (v_closedJ : Nat → Int64) (v_closedL : Nat → Int64) : Option (Int32 × (Nat → Int64) × (Nat → Int64) × (Nat → Int64) × (Nat → Int64) × (Nat → Int64)) := (f_X9_closed v_points v_faces l1 (l3 + (1 : Int32)) v_rises v_marks v_closedJ).bind (fun R1 => (f_X9_closed v_points v_faces l2 (l4 + (1 : Int32)) R1.2.1 R1.2.2.1 v_closedL).bind (fun R2 => if R1.1 = 0 then some ((0 : Int32), v_base, R2.2.1, R2.2.2.1, R1.2.2.2, R2.2.2.2) else if R2.1 = 0 then some ((0 : Int32), v_base, R2.2.1, R2.2.2.1, R1.2.2.2, R2.2.2.2) else (f_X9_clear v_base).bind (fun R3 => f_X9_rankOf_48 v_points v_faces  FU l1 l2 l3 l4 R1.1 R2.1 (0 : Int32) R3 R2.2.1 R2.2.2.1 R1.2.2.2 R2.2.2.2)))
set_option maxHeartbeats 4000000 in
set_option maxRecDepth 100000 in
theorem k_X9_rankOf_0 {p : Program} {l : Launch} {e : Env} {s : State} {m : MethodId} {args : Array Value} {below : List Frame} {meth : Method} {c : Code} {A : Nat → Prop} {D : va_G} {cI cJ : ClassId} {h h_base h_rises h_marks h_closedJ h_closedL : Nat} {g2 g3 g4 g10 g11 g12 g13 g14 g15 g16 g17 g18 g19 g20 g21 g22 g23 g24 g25 g26 : Value} {v_points : Int32} {v_faces : Int64} (C0 : Cx p s m args meth c cX9_rankOf wsX9_rankOf RX9 10 (some .int)) (hK : va_K D vwCl (tyL cI cJ) s) (hA : ∀ q, s.heap.size ≤ q → A q) (hX : XT none A s s.heap) {Rr : Int32 × (Nat → Int64) × (Nat → Int64) × (Nat → Int64) × (Nat → Int64) × (Nat → Int64)} : ∀ (l1 : Int32) (l2 : Int32) (l3 : Int32) (l4 : Int32) (v_base : Nat → Int64) (v_rises : Nat → Int64) (v_marks : Nat → Int64) (v_closedJ : Nat → Int64) (v_closedL : Nat → Int64) (H : Heap) (locs : List Loc) (ls : Array Slot), St D A s (w_X9_rankOf cI cJ h h_base h_rises h_marks h_closedJ h_closedL g2 g3 g4 g10 g11 g12 g13 g14 g15 g16 g17 g18 g19 g20 g21 g22 g23 g24 g25 g26 v_points v_faces v_base v_rises v_marks v_closedJ v_closedL) H locs → lv_has ls 10 [(0, .ref h), (1, .int l1), (2, .int l2), (3, .int l3), (4, .int l4)] → f_X9_rankOf_0 v_points v_faces l1 l2 l3 l4 v_base v_rises v_marks v_closedJ v_closedL = some Rr → W p l e rm_X9_rankOf s m args below meth c H locs 0 0 (MQ below (QI D cI cJ A (w_X9_rankOf cI cJ h h_base h_rises h_marks h_closedJ h_closedL g2 g3 g4 g10 g11 g12 g13 g14 g15 g16 g17 g18 g19 g20 g21 g22 g23 g24 g25 g26 v_points v_faces Rr.2.1 Rr.2.2.1 Rr.2.2.2.1 Rr.2.2.2.2.1 Rr.2.2.2.2.2) Rr.1) args s 0 0 A) (F0 m 0 ls []) := by
  have hx := C0.1.1
  have hb := C0.1.2.1
  intro l1 l2 l3 l4 v_base v_rises v_marks v_closedJ v_closedL H locs ls hSt hl hf
  unfold f_X9_rankOf_0 at hf
  refine lv_aload_n hx hb dX9_rankOf_0 rfl (lv_at hl 0 rfl) ?_
  refine lv_iload_n hx hb dX9_rankOf_1 rfl (lv_at hl 1 rfl) ?_
  refine lv_iload_n hx hb dX9_rankOf_2 rfl (lv_at hl 3 rfl) ?_
  refine lv_iconst (v := 1) hx hb dX9_rankOf_3 (by decide) ?_
  refine lv_iadd hx hb dX9_rankOf_4 ?_
  refine lv_aload_n hx hb dX9_rankOf_5 rfl (lv_at hl 0 rfl) ?_
  refine hb_get C0 hK hSt 0 8 8 rfl rfl iu_X9_rankOf_X9 (by decide) fl_X9_rankOf_34 rfl dX9_rankOf_6 ?_
  obtain ⟨R1, hR1, hf⟩ := Option.bind_eq_some_iff.mp hf
  have sp : Sp (w_X9_rankOf cI cJ h h_base h_rises h_marks h_closedJ h_closedL g2 g3 g4 g10 g11 g12 g13 g14 g15 g16 g17 g18 g19 g20 g21 g22 g23 g24 g25 g26 v_points v_faces v_base v_rises v_marks v_closedJ v_closedL) (w_X9_closed cI cJ h h_rises h_marks h_closedJ g2 g3 g4 (.ref h_base) (.ref h_closedJ) (.ref h_closedL) g10 g11 g12 g13 g14 g15 g16 g17 g18 g19 g20 g21 g22 g23 g24 g25 g26 v_points v_faces v_rises v_marks v_closedJ) (w_X9_closed cI cJ h h_rises h_marks h_closedJ g2 g3 g4 (.ref h_base) (.ref h_closedJ) (.ref h_closedL) g10 g11 g12 g13 g14 g15 g16 g17 g18 g19 g20 g21 g22 g23 g24 g25 g26 v_points v_faces R1.2.1 R1.2.2.1 R1.2.2.2) (w_X9_rankOf cI cJ h h_base h_rises h_marks h_closedJ h_closedL g2 g3 g4 g10 g11 g12 g13 g14 g15 g16 g17 g18 g19 g20 g21 g22 g23 g24 g25 g26 v_points v_faces v_base R1.2.1 R1.2.2.1 R1.2.2.2 v_closedL) [0, 2, 3, 4] [1, 5] [2, 0, 3, 4, 5, 1] := ⟨rfl, rfl, rfl, by decide, by decide, by decide, by decide⟩
  refine hb_ci (hb_rV (As := [.int l1, .int (l3 + (1 : Int32)), .ref h_closedJ]) (rest := []) C0 hK hA XT.nn hSt sp (c_X9_closed l D cI cJ h h_rises h_marks h_closedJ g2 g3 g4 (.ref h_base) (.ref h_closedJ) (.ref h_closedL) g10 g11 g12 g13 g14 g15 g16 g17 g18 g19 g20 g21 g22 g23 g24 g25 g26  l1 (l3 + (1 : Int32)) v_points v_faces v_rises v_marks v_closedJ R1 hR1) gX9_rankOf_X9_closed rfl ⟨rfl, rfl⟩ hd_X9_closed ⟨Nat.le_of_ble_eq_true rfl, Nat.le_of_ble_eq_true rfl⟩ 0 8 rfl rfl rfl hl rfl (Nat.le_of_ble_eq_true rfl) dX9_rankOf_9 ⟨Nat.zero_le _, Nat.zero_le _⟩) hA hSt sp (fun H locs hSt => ?_)
  refine lv_istore (lv' := [(5, .int R1.1), (0, .ref h), (1, .int l1), (2, .int l2), (3, .int l3), (4, .int l4)]) hx hb dX9_rankOf_12 hl (by decide) rfl (fun ls hl => ?_)
  refine lv_aload_n hx hb dX9_rankOf_14 rfl (lv_at hl 1 rfl) ?_
  refine lv_iload_n hx hb dX9_rankOf_15 rfl (lv_at hl 3 rfl) ?_
  refine lv_iload hx hb dX9_rankOf_16 (lv_at hl 5 rfl) ?_
  refine lv_iconst (v := 1) hx hb dX9_rankOf_18 (by decide) ?_
  refine lv_iadd hx hb dX9_rankOf_19 ?_
  refine lv_aload_n hx hb dX9_rankOf_20 rfl (lv_at hl 1 rfl) ?_
  refine hb_get C0 hK hSt 0 8 9 rfl rfl iu_X9_rankOf_X9 (by decide) fl_X9_rankOf_37 rfl dX9_rankOf_21 ?_
  obtain ⟨R2, hR2, hf⟩ := Option.bind_eq_some_iff.mp hf
  have sp : Sp (w_X9_rankOf cI cJ h h_base h_rises h_marks h_closedJ h_closedL g2 g3 g4 g10 g11 g12 g13 g14 g15 g16 g17 g18 g19 g20 g21 g22 g23 g24 g25 g26 v_points v_faces v_base R1.2.1 R1.2.2.1 R1.2.2.2 v_closedL) (w_X9_closed cI cJ h h_rises h_marks h_closedL g2 g3 g4 (.ref h_base) (.ref h_closedJ) (.ref h_closedL) g10 g11 g12 g13 g14 g15 g16 g17 g18 g19 g20 g21 g22 g23 g24 g25 g26 v_points v_faces R1.2.1 R1.2.2.1 v_closedL) (w_X9_closed cI cJ h h_rises h_marks h_closedL g2 g3 g4 (.ref h_base) (.ref h_closedJ) (.ref h_closedL) g10 g11 g12 g13 g14 g15 g16 g17 g18 g19 g20 g21 g22 g23 g24 g25 g26 v_points v_faces R2.2.1 R2.2.2.1 R2.2.2.2) (w_X9_rankOf cI cJ h h_base h_rises h_marks h_closedJ h_closedL g2 g3 g4 g10 g11 g12 g13 g14 g15 g16 g17 g18 g19 g20 g21 g22 g23 g24 g25 g26 v_points v_faces v_base R2.2.1 R2.2.2.1 R1.2.2.2 R2.2.2.2) [0, 2, 3, 5] [1, 4] [2, 0, 3, 4, 1, 5] := ⟨rfl, rfl, rfl, by decide, by decide, by decide, by decide⟩
  refine hb_ci (hb_rV (As := [.int l2, .int (l4 + (1 : Int32)), .ref h_closedL]) (rest := []) C0 hK hA XT.nn hSt sp (c_X9_closed l D cI cJ h h_rises h_marks h_closedL g2 g3 g4 (.ref h_base) (.ref h_closedJ) (.ref h_closedL) g10 g11 g12 g13 g14 g15 g16 g17 g18 g19 g20 g21 g22 g23 g24 g25 g26  l2 (l4 + (1 : Int32)) v_points v_faces R1.2.1 R1.2.2.1 v_closedL R2 hR2) gX9_rankOf_X9_closed rfl ⟨rfl, rfl⟩ hd_X9_closed ⟨Nat.le_of_ble_eq_true rfl, Nat.le_of_ble_eq_true rfl⟩ 0 8 rfl rfl rfl hl rfl (Nat.le_of_ble_eq_true rfl) dX9_rankOf_24 ⟨Nat.zero_le _, Nat.zero_le _⟩) hA hSt sp (fun H locs hSt => ?_)
  refine lv_istore (lv' := [(6, .int R2.1), (5, .int R1.1), (0, .ref h), (1, .int l1), (2, .int l2), (3, .int l3), (4, .int l4)]) hx hb dX9_rankOf_27 hl (by decide) rfl (fun ls hl => ?_)
  refine lv_iload hx hb dX9_rankOf_29 (lv_at hl 1 rfl) ?_
  refine lv_if_eq (tgt := 39) hx hb dX9_rankOf_31 (by decide) (fun cc => ?_) (fun cc => ?_)
  · have hf := ite_t hf cc
    refine lv_iconst (v := 0) hx hb dX9_rankOf_39 (by decide) ?_
    cases hf
    exact hb_iret C0 hK hSt dX9_rankOf_40
  · have hf := ite_f hf cc
    refine lv_iload hx hb dX9_rankOf_34 (lv_at hl 0 rfl) ?_
    refine lv_if_ne (tgt := 41) hx hb dX9_rankOf_36 (by decide) (fun cc => ?_) (fun cc => ?_)
    · have hf := ite_f hf cc
      refine lv_aload_n hx hb dX9_rankOf_41 rfl (lv_at hl 2 rfl) ?_
      obtain ⟨R3, hR3, hf⟩ := Option.bind_eq_some_iff.mp hf
      have sp : Sp (w_X9_rankOf cI cJ h h_base h_rises h_marks h_closedJ h_closedL g2 g3 g4 g10 g11 g12 g13 g14 g15 g16 g17 g18 g19 g20 g21 g22 g23 g24 g25 g26 v_points v_faces v_base R2.2.1 R2.2.2.1 R1.2.2.2 R2.2.2.2) (w_X9_clear cI cJ h h_base (.int v_points) (.long v_faces) g2 g3 g4 (.ref h_rises) (.ref h_marks) (.ref h_closedJ) (.ref h_closedL) g10 g11 g12 g13 g14 g15 g16 g17 g18 g19 g20 g21 g22 g23 g24 g25 g26 v_base) (w_X9_clear cI cJ h h_base (.int v_points) (.long v_faces) g2 g3 g4 (.ref h_rises) (.ref h_marks) (.ref h_closedJ) (.ref h_closedL) g10 g11 g12 g13 g14 g15 g16 g17 g18 g19 g20 g21 g22 g23 g24 g25 g26 R3) (w_X9_rankOf cI cJ h h_base h_rises h_marks h_closedJ h_closedL g2 g3 g4 g10 g11 g12 g13 g14 g15 g16 g17 g18 g19 g20 g21 g22 g23 g24 g25 g26 v_points v_faces R3 R2.2.1 R2.2.2.1 R1.2.2.2 R2.2.2.2) [0, 1] [2, 3, 4, 5] [4, 5, 0, 1, 2, 3] := ⟨rfl, rfl, rfl, by decide, by decide, by decide, by decide⟩
      refine hb_cv (hb_rV (As := []) (rest := []) C0 hK hA XT.nn hSt sp (c_X9_clear l D cI cJ h h_base (.int v_points) (.long v_faces) g2 g3 g4 (.ref h_rises) (.ref h_marks) (.ref h_closedJ) (.ref h_closedL) g10 g11 g12 g13 g14 g15 g16 g17 g18 g19 g20 g21 g22 g23 g24 g25 g26   v_base R3 hR3) gX9_rankOf_X9_clear rfl ⟨rfl, rfl⟩ hd_X9_clear ⟨Nat.le_of_ble_eq_true rfl, Nat.le_of_ble_eq_true rfl⟩ 0 8 rfl rfl rfl hl rfl (Nat.le_of_ble_eq_true rfl) dX9_rankOf_42 ⟨Nat.zero_le _, Nat.zero_le _⟩) hA hSt sp (fun H locs hSt => ?_)
      refine lv_iconst (v := 0) hx hb dX9_rankOf_45 (by decide) ?_
      refine lv_istore (lv' := [(7, .int (0 : Int32)), (6, .int R2.1), (5, .int R1.1), (0, .ref h), (1, .int l1), (2, .int l2), (3, .int l3), (4, .int l4)]) hx hb dX9_rankOf_46 hl (by decide) rfl (fun ls hl => ?_)
      exact k_X9_rankOf_48 C0 hK hA hX  FU l1 l2 l3 l4 R1.1 R2.1 (0 : Int32) R3 R2.2.1 R2.2.2.1 R1.2.2.2 R2.2.2.2 _ _ _ hSt (lv_sub hl [3, 4, 5, 6, 7, 2, 1, 0] rfl) hf
    · have hf := ite_t hf cc
      refine lv_iconst (v := 0) hx hb dX9_rankOf_39 (by decide) ?_
      cases hf
      exact hb_iret C0 hK hSt dX9_rankOf_40
def f_X9_rankOf (v_points : Int32) (v_faces : Int64) (l1 : Int32) (l2 : Int32) (l3 : Int32) (l4 : Int32) (v_base : Nat → Int64) (v_rises : Nat → Int64) (v_marks : Nat → Int64) (v_closedJ : Nat → Int64) (v_closedL : Nat → Int64) : Option (Int32 × (Nat → Int64) × (Nat → Int64) × (Nat → Int64) × (Nat → Int64) × (Nat → Int64)) := f_X9_rankOf_0 v_points v_faces l1 l2 l3 l4 v_base v_rises v_marks v_closedJ v_closedL
set_option maxRecDepth 100000 in
theorem c_X9_rankOf (l : Launch) (D : va_G) (cI cJ : ClassId) (h h_base h_rises h_marks h_closedJ h_closedL : Nat) (g2 g3 g4 g10 g11 g12 g13 g14 g15 g16 g17 g18 g19 g20 g21 g22 g23 g24 g25 g26 : Value) (l1 : Int32) (l2 : Int32) (l3 : Int32) (l4 : Int32) (v_points : Int32) (v_faces : Int64) (v_base : Nat → Int64) (v_rises : Nat → Int64) (v_marks : Nat → Int64) (v_closedJ : Nat → Int64) (v_closedL : Nat → Int64) (Rr : Int32 × (Nat → Int64) × (Nat → Int64) × (Nat → Int64) × (Nat → Int64) × (Nat → Int64)) (hf : f_X9_rankOf v_points v_faces l1 l2 l3 l4 v_base v_rises v_marks v_closedJ v_closedL = some Rr) : CtI l yX9_rankOf wsX9_rankOf rm_X9_rankOf D cI cJ none [.ref h, .int l1, .int l2, .int l3, .int l4] (w_X9_rankOf cI cJ h h_base h_rises h_marks h_closedJ h_closedL g2 g3 g4 g10 g11 g12 g13 g14 g15 g16 g17 g18 g19 g20 g21 g22 g23 g24 g25 g26 v_points v_faces v_base v_rises v_marks v_closedJ v_closedL) Rr.1 (w_X9_rankOf cI cJ h h_base h_rises h_marks h_closedJ h_closedL g2 g3 g4 g10 g11 g12 g13 g14 g15 g16 g17 g18 g19 g20 g21 g22 g23 g24 g25 g26 v_points v_faces Rr.2.1 Rr.2.2.1 Rr.2.2.2.1 Rr.2.2.2.2.1 Rr.2.2.2.2.2) :=
  fun sz => BodyW.met (av := [.ref h, .int l1, .int l2, .int l3, .int l4]) (Qc := fun A => QI D cI cJ A (w_X9_rankOf cI cJ h h_base h_rises h_marks h_closedJ h_closedL g2 g3 g4 g10 g11 g12 g13 g14 g15 g16 g17 g18 g19 g20 g21 g22 g23 g24 g25 g26 v_points v_faces Rr.2.1 Rr.2.2.1 Rr.2.2.2.1 Rr.2.2.2.2.1 Rr.2.2.2.2.2) Rr.1) (by decide) rfl rfl (Nat.le_of_ble_eq_true rfl) (fun C0 hK hA hX ls hSt hl => k_X9_rankOf_0 C0 hK hA hX l1 l2 l3 l4 v_base v_rises v_marks v_closedJ v_closedL _ _ ls hSt hl hf) sz
/-! X9 rank -/
abbrev rm_X9_rank : Room := { frames := 4, cells := 0, slots := 0, locals := 113 }
abbrev w_X9_rank (cI cJ : ClassId) (h : Nat) (h_base : Nat) (h_rises : Nat) (h_marks : Nat) (h_closedJ : Nat) (h_closedL : Nat) (g2 : Value) (g3 : Value) (g4 : Value) (g10 : Value) (g11 : Value) (g12 : Value) (g13 : Value) (g14 : Value) (g15 : Value) (g16 : Value) (g17 : Value) (g18 : Value) (g19 : Value) (g20 : Value) (g21 : Value) (g22 : Value) (g23 : Value) (g24 : Value) (g25 : Value) (g26 : Value) (v_points : Int32) (v_faces : Int64) (v_base : Nat → Int64) (v_rises : Nat → Int64) (v_marks : Nat → Int64) (v_closedJ : Nat → Int64) (v_closedL : Nat → Int64) : va_W := [(h, .inr (8, [.int v_points, .long v_faces, g2, g3, g4, .ref h_base, .ref h_rises, .ref h_marks, .ref h_closedJ, .ref h_closedL, g10, g11, g12, g13, g14, g15, g16, g17, g18, g19, g20, g21, g22, g23, g24, g25, g26])), (h_base, .inl (cJ, 64, .inr (.inl v_base))), (h_rises, .inl (cJ, 20, .inr (.inl v_rises))), (h_marks, .inl (cJ, 20, .inr (.inl v_marks))), (h_closedJ, .inl (cJ, 20, .inr (.inl v_closedJ))), (h_closedL, .inl (cJ, 20, .inr (.inl v_closedL)))]
theorem hd_X9_rank : yX9_rank.cls = RX9 ∧ yX9_rank.cls ≠ "java/lang/invoke/MethodHandle" ∧ yX9_rank.cls ≠ "java/lang/invoke/VarHandle" ∧ (parseMethodDescriptor yX9_rank.desc).map (fun d => d.parameters.length) = some 4 := by decide +kernel
def f_X9_rank_0 (v_points : Int32) (v_faces : Int64)  (l1 : Int32) (l2 : Int32) (l3 : Int32) (l4 : Int32) (v_base : Nat → Int64) (v_rises : Nat → Int64) (v_marks : Nat → Int64) (v_closedJ : Nat → Int64) (v_closedL : Nat → Int64) : Option (Int32 × (Nat → Int64) × (Nat → Int64) × (Nat → Int64) × (Nat → Int64) × (Nat → Int64)) := (f_X9_isSet v_points l1).bind (fun R1 => if R1 = 0 then some ((-1 : Int32), v_base, v_rises, v_marks, v_closedJ, v_closedL) else (f_X9_isSet v_points l2).bind (fun R2 => if R2 = 0 then some ((-1 : Int32), v_base, v_rises, v_marks, v_closedJ, v_closedL) else if l1 = 0 then some ((-1 : Int32), v_base, v_rises, v_marks, v_closedJ, v_closedL) else if l2 = 0 then some ((-1 : Int32), v_base, v_rises, v_marks, v_closedJ, v_closedL) else if (l1 &&& l2) = 0 then (f_X9_isIn l3 (0 : Int32) (5 : Int32)).bind (fun R3 => if R3 = 0 then some ((-1 : Int32), v_base, v_rises, v_marks, v_closedJ, v_closedL) else (f_X9_isIn l4 (0 : Int32) (5 : Int32)).bind (fun R4 => if R4 = 0 then some ((-1 : Int32), v_base, v_rises, v_marks, v_closedJ, v_closedL) else (f_X9_rankOf v_points v_faces l1 l2 l3 l4 v_base v_rises v_marks v_closedJ v_closedL).bind (fun R5 => some (R5.1, R5.2.1, R5.2.2.1, R5.2.2.2.1, R5.2.2.2.2.1, R5.2.2.2.2.2)))) else some ((-1 : Int32), v_base, v_rises, v_marks, v_closedJ, v_closedL)))
set_option maxHeartbeats 4000000 in
set_option maxRecDepth 100000 in
theorem k_X9_rank_0 {p : Program} {l : Launch} {e : Env} {s : State} {m : MethodId} {args : Array Value} {below : List Frame} {meth : Method} {c : Code} {A : Nat → Prop} {D : va_G} {cI cJ : ClassId} {h h_base h_rises h_marks h_closedJ h_closedL : Nat} {g2 g3 g4 g10 g11 g12 g13 g14 g15 g16 g17 g18 g19 g20 g21 g22 g23 g24 g25 g26 : Value} {v_points : Int32} {v_faces : Int64} (C0 : Cx p s m args meth c cX9_rank wsX9_rank RX9 5 (some .int)) (hK : va_K D vwCl (tyL cI cJ) s) (hA : ∀ q, s.heap.size ≤ q → A q) (hX : XT none A s s.heap) {Rr : Int32 × (Nat → Int64) × (Nat → Int64) × (Nat → Int64) × (Nat → Int64) × (Nat → Int64)} : ∀ (l1 : Int32) (l2 : Int32) (l3 : Int32) (l4 : Int32) (v_base : Nat → Int64) (v_rises : Nat → Int64) (v_marks : Nat → Int64) (v_closedJ : Nat → Int64) (v_closedL : Nat → Int64) (H : Heap) (locs : List Loc) (ls : Array Slot), St D A s (w_X9_rank cI cJ h h_base h_rises h_marks h_closedJ h_closedL g2 g3 g4 g10 g11 g12 g13 g14 g15 g16 g17 g18 g19 g20 g21 g22 g23 g24 g25 g26 v_points v_faces v_base v_rises v_marks v_closedJ v_closedL) H locs → lv_has ls 5 [(0, .ref h), (1, .int l1), (2, .int l2), (3, .int l3), (4, .int l4)] → f_X9_rank_0 v_points v_faces l1 l2 l3 l4 v_base v_rises v_marks v_closedJ v_closedL = some Rr → W p l e rm_X9_rank s m args below meth c H locs 0 0 (MQ below (QI D cI cJ A (w_X9_rank cI cJ h h_base h_rises h_marks h_closedJ h_closedL g2 g3 g4 g10 g11 g12 g13 g14 g15 g16 g17 g18 g19 g20 g21 g22 g23 g24 g25 g26 v_points v_faces Rr.2.1 Rr.2.2.1 Rr.2.2.2.1 Rr.2.2.2.2.1 Rr.2.2.2.2.2) Rr.1) args s 0 0 A) (F0 m 0 ls []) := by
  have hx := C0.1.1
  have hb := C0.1.2.1
  intro l1 l2 l3 l4 v_base v_rises v_marks v_closedJ v_closedL H locs ls hSt hl hf
  unfold f_X9_rank_0 at hf
  refine lv_aload_n hx hb dX9_rank_0 rfl (lv_at hl 0 rfl) ?_
  refine lv_iload_n hx hb dX9_rank_1 rfl (lv_at hl 1 rfl) ?_
  obtain ⟨R1, hR1, hf⟩ := Option.bind_eq_some_iff.mp hf
  have sp : Sp (w_X9_rank cI cJ h h_base h_rises h_marks h_closedJ h_closedL g2 g3 g4 g10 g11 g12 g13 g14 g15 g16 g17 g18 g19 g20 g21 g22 g23 g24 g25 g26 v_points v_faces v_base v_rises v_marks v_closedJ v_closedL) (w_X9_isSet cI cJ h (.long v_faces) g2 g3 g4 (.ref h_base) (.ref h_rises) (.ref h_marks) (.ref h_closedJ) (.ref h_closedL) g10 g11 g12 g13 g14 g15 g16 g17 g18 g19 g20 g21 g22 g23 g24 g25 g26 v_points) (w_X9_isSet cI cJ h (.long v_faces) g2 g3 g4 (.ref h_base) (.ref h_rises) (.ref h_marks) (.ref h_closedJ) (.ref h_closedL) g10 g11 g12 g13 g14 g15 g16 g17 g18 g19 g20 g21 g22 g23 g24 g25 g26 v_points) (w_X9_rank cI cJ h h_base h_rises h_marks h_closedJ h_closedL g2 g3 g4 g10 g11 g12 g13 g14 g15 g16 g17 g18 g19 g20 g21 g22 g23 g24 g25 g26 v_points v_faces v_base v_rises v_marks v_closedJ v_closedL) [0] [1, 2, 3, 4, 5] [5, 0, 1, 2, 3, 4] := ⟨rfl, rfl, rfl, by decide, by decide, by decide, by decide⟩
  refine hb_ci (hb_rV (As := [.int l1]) (rest := []) C0 hK hA XT.nn hSt sp (c_X9_isSet l D cI cJ h (.long v_faces) g2 g3 g4 (.ref h_base) (.ref h_rises) (.ref h_marks) (.ref h_closedJ) (.ref h_closedL) g10 g11 g12 g13 g14 g15 g16 g17 g18 g19 g20 g21 g22 g23 g24 g25 g26  l1 v_points R1 hR1) gX9_rank_X9_isSet rfl ⟨rfl, rfl⟩ hd_X9_isSet ⟨Nat.le_of_ble_eq_true rfl, Nat.le_of_ble_eq_true rfl⟩ 0 8 rfl rfl rfl hl rfl (Nat.le_of_ble_eq_true rfl) dX9_rank_2 ⟨Nat.zero_le _, Nat.zero_le _⟩) hA hSt sp (fun H locs hSt => ?_)
  refine lv_if_eq (tgt := 61) hx hb dX9_rank_5 (by decide) (fun cc => ?_) (fun cc => ?_)
  · have hf := ite_t hf cc
    refine lv_iconst (v := -1) hx hb dX9_rank_61 (by decide) ?_
    cases hf
    exact hb_iret C0 hK hSt dX9_rank_62
  · have hf := ite_f hf cc
    refine lv_aload_n hx hb dX9_rank_8 rfl (lv_at hl 0 rfl) ?_
    refine lv_iload_n hx hb dX9_rank_9 rfl (lv_at hl 2 rfl) ?_
    obtain ⟨R2, hR2, hf⟩ := Option.bind_eq_some_iff.mp hf
    have sp : Sp (w_X9_rank cI cJ h h_base h_rises h_marks h_closedJ h_closedL g2 g3 g4 g10 g11 g12 g13 g14 g15 g16 g17 g18 g19 g20 g21 g22 g23 g24 g25 g26 v_points v_faces v_base v_rises v_marks v_closedJ v_closedL) (w_X9_isSet cI cJ h (.long v_faces) g2 g3 g4 (.ref h_base) (.ref h_rises) (.ref h_marks) (.ref h_closedJ) (.ref h_closedL) g10 g11 g12 g13 g14 g15 g16 g17 g18 g19 g20 g21 g22 g23 g24 g25 g26 v_points) (w_X9_isSet cI cJ h (.long v_faces) g2 g3 g4 (.ref h_base) (.ref h_rises) (.ref h_marks) (.ref h_closedJ) (.ref h_closedL) g10 g11 g12 g13 g14 g15 g16 g17 g18 g19 g20 g21 g22 g23 g24 g25 g26 v_points) (w_X9_rank cI cJ h h_base h_rises h_marks h_closedJ h_closedL g2 g3 g4 g10 g11 g12 g13 g14 g15 g16 g17 g18 g19 g20 g21 g22 g23 g24 g25 g26 v_points v_faces v_base v_rises v_marks v_closedJ v_closedL) [0] [1, 2, 3, 4, 5] [5, 0, 1, 2, 3, 4] := ⟨rfl, rfl, rfl, by decide, by decide, by decide, by decide⟩
    refine hb_ci (hb_rV (As := [.int l2]) (rest := []) C0 hK hA XT.nn hSt sp (c_X9_isSet l D cI cJ h (.long v_faces) g2 g3 g4 (.ref h_base) (.ref h_rises) (.ref h_marks) (.ref h_closedJ) (.ref h_closedL) g10 g11 g12 g13 g14 g15 g16 g17 g18 g19 g20 g21 g22 g23 g24 g25 g26  l2 v_points R2 hR2) gX9_rank_X9_isSet rfl ⟨rfl, rfl⟩ hd_X9_isSet ⟨Nat.le_of_ble_eq_true rfl, Nat.le_of_ble_eq_true rfl⟩ 0 8 rfl rfl rfl hl rfl (Nat.le_of_ble_eq_true rfl) dX9_rank_10 ⟨Nat.zero_le _, Nat.zero_le _⟩) hA hSt sp (fun H locs hSt => ?_)
    refine lv_if_eq (tgt := 61) hx hb dX9_rank_13 (by decide) (fun cc => ?_) (fun cc => ?_)
    · have hf := ite_t hf cc
      refine lv_iconst (v := -1) hx hb dX9_rank_61 (by decide) ?_
      cases hf
      exact hb_iret C0 hK hSt dX9_rank_62
    · have hf := ite_f hf cc
      refine lv_iload_n hx hb dX9_rank_16 rfl (lv_at hl 1 rfl) ?_
      refine lv_if_eq (tgt := 61) hx hb dX9_rank_17 (by decide) (fun cc => ?_) (fun cc => ?_)
      · have hf := ite_t hf cc
        refine lv_iconst (v := -1) hx hb dX9_rank_61 (by decide) ?_
        cases hf
        exact hb_iret C0 hK hSt dX9_rank_62
      · have hf := ite_f hf cc
        refine lv_iload_n hx hb dX9_rank_20 rfl (lv_at hl 2 rfl) ?_
        refine lv_if_eq (tgt := 61) hx hb dX9_rank_21 (by decide) (fun cc => ?_) (fun cc => ?_)
        · have hf := ite_t hf cc
          refine lv_iconst (v := -1) hx hb dX9_rank_61 (by decide) ?_
          cases hf
          exact hb_iret C0 hK hSt dX9_rank_62
        · have hf := ite_f hf cc
          refine lv_iload_n hx hb dX9_rank_24 rfl (lv_at hl 1 rfl) ?_
          refine lv_iload_n hx hb dX9_rank_25 rfl (lv_at hl 2 rfl) ?_
          refine lv_iand hx hb dX9_rank_26 ?_
          refine lv_if_ne (tgt := 61) hx hb dX9_rank_27 (by decide) (fun cc => ?_) (fun cc => ?_)
          · have hf := ite_f hf cc
            refine lv_iconst (v := -1) hx hb dX9_rank_61 (by decide) ?_
            cases hf
            exact hb_iret C0 hK hSt dX9_rank_62
          · have hf := ite_t hf cc
            refine lv_iload_n hx hb dX9_rank_30 rfl (lv_at hl 3 rfl) ?_
            refine lv_iconst (v := 0) hx hb dX9_rank_31 (by decide) ?_
            refine lv_iconst (v := 5) hx hb dX9_rank_32 (by decide) ?_
            obtain ⟨R3, hR3, hf⟩ := Option.bind_eq_some_iff.mp hf
            have sp : Sp (w_X9_rank cI cJ h h_base h_rises h_marks h_closedJ h_closedL g2 g3 g4 g10 g11 g12 g13 g14 g15 g16 g17 g18 g19 g20 g21 g22 g23 g24 g25 g26 v_points v_faces v_base v_rises v_marks v_closedJ v_closedL) (w_X9_isIn cI cJ) (w_X9_isIn cI cJ) (w_X9_rank cI cJ h h_base h_rises h_marks h_closedJ h_closedL g2 g3 g4 g10 g11 g12 g13 g14 g15 g16 g17 g18 g19 g20 g21 g22 g23 g24 g25 g26 v_points v_faces v_base v_rises v_marks v_closedJ v_closedL) [] [0, 1, 2, 3, 4, 5] [0, 1, 2, 3, 4, 5] := ⟨rfl, rfl, rfl, by decide, by decide, by decide, by decide⟩
            refine hb_ci (hb_rS (As := [.int l3, .int (0 : Int32), .int (5 : Int32)]) (rest := []) C0 hK hA XT.nn hSt sp (c_X9_isIn l D cI cJ   l3 (0 : Int32) (5 : Int32)  R3 hR3) gX9_rank_X9_isIn rfl ⟨rfl, rfl⟩ hd_X9_isIn ⟨Nat.le_of_ble_eq_true rfl, Nat.le_of_ble_eq_true rfl⟩ rfl hl rfl (Nat.le_of_ble_eq_true rfl) dX9_rank_33 ⟨Nat.zero_le _, Nat.zero_le _⟩) hA hSt sp (fun H locs hSt => ?_)
            refine lv_if_eq (tgt := 61) hx hb dX9_rank_36 (by decide) (fun cc => ?_) (fun cc => ?_)
            · have hf := ite_t hf cc
              refine lv_iconst (v := -1) hx hb dX9_rank_61 (by decide) ?_
              cases hf
              exact hb_iret C0 hK hSt dX9_rank_62
            · have hf := ite_f hf cc
              refine lv_iload hx hb dX9_rank_39 (lv_at hl 4 rfl) ?_
              refine lv_iconst (v := 0) hx hb dX9_rank_41 (by decide) ?_
              refine lv_iconst (v := 5) hx hb dX9_rank_42 (by decide) ?_
              obtain ⟨R4, hR4, hf⟩ := Option.bind_eq_some_iff.mp hf
              have sp : Sp (w_X9_rank cI cJ h h_base h_rises h_marks h_closedJ h_closedL g2 g3 g4 g10 g11 g12 g13 g14 g15 g16 g17 g18 g19 g20 g21 g22 g23 g24 g25 g26 v_points v_faces v_base v_rises v_marks v_closedJ v_closedL) (w_X9_isIn cI cJ) (w_X9_isIn cI cJ) (w_X9_rank cI cJ h h_base h_rises h_marks h_closedJ h_closedL g2 g3 g4 g10 g11 g12 g13 g14 g15 g16 g17 g18 g19 g20 g21 g22 g23 g24 g25 g26 v_points v_faces v_base v_rises v_marks v_closedJ v_closedL) [] [0, 1, 2, 3, 4, 5] [0, 1, 2, 3, 4, 5] := ⟨rfl, rfl, rfl, by decide, by decide, by decide, by decide⟩
              refine hb_ci (hb_rS (As := [.int l4, .int (0 : Int32), .int (5 : Int32)]) (rest := []) C0 hK hA XT.nn hSt sp (c_X9_isIn l D cI cJ   l4 (0 : Int32) (5 : Int32)  R4 hR4) gX9_rank_X9_isIn rfl ⟨rfl, rfl⟩ hd_X9_isIn ⟨Nat.le_of_ble_eq_true rfl, Nat.le_of_ble_eq_true rfl⟩ rfl hl rfl (Nat.le_of_ble_eq_true rfl) dX9_rank_43 ⟨Nat.zero_le _, Nat.zero_le _⟩) hA hSt sp (fun H locs hSt => ?_)
              refine lv_if_eq (tgt := 61) hx hb dX9_rank_46 (by decide) (fun cc => ?_) (fun cc => ?_)
              · have hf := ite_t hf cc
                refine lv_iconst (v := -1) hx hb dX9_rank_61 (by decide) ?_
                cases hf
                exact hb_iret C0 hK hSt dX9_rank_62
              · have hf := ite_f hf cc
                refine lv_aload_n hx hb dX9_rank_49 rfl (lv_at hl 0 rfl) ?_
                refine lv_iload_n hx hb dX9_rank_50 rfl (lv_at hl 1 rfl) ?_
                refine lv_iload_n hx hb dX9_rank_51 rfl (lv_at hl 2 rfl) ?_
                refine lv_iload_n hx hb dX9_rank_52 rfl (lv_at hl 3 rfl) ?_
                refine lv_iload hx hb dX9_rank_53 (lv_at hl 4 rfl) ?_
                obtain ⟨R5, hR5, hf⟩ := Option.bind_eq_some_iff.mp hf
                have sp : Sp (w_X9_rank cI cJ h h_base h_rises h_marks h_closedJ h_closedL g2 g3 g4 g10 g11 g12 g13 g14 g15 g16 g17 g18 g19 g20 g21 g22 g23 g24 g25 g26 v_points v_faces v_base v_rises v_marks v_closedJ v_closedL) (w_X9_rankOf cI cJ h h_base h_rises h_marks h_closedJ h_closedL g2 g3 g4 g10 g11 g12 g13 g14 g15 g16 g17 g18 g19 g20 g21 g22 g23 g24 g25 g26 v_points v_faces v_base v_rises v_marks v_closedJ v_closedL) (w_X9_rankOf cI cJ h h_base h_rises h_marks h_closedJ h_closedL g2 g3 g4 g10 g11 g12 g13 g14 g15 g16 g17 g18 g19 g20 g21 g22 g23 g24 g25 g26 v_points v_faces R5.2.1 R5.2.2.1 R5.2.2.2.1 R5.2.2.2.2.1 R5.2.2.2.2.2) (w_X9_rank cI cJ h h_base h_rises h_marks h_closedJ h_closedL g2 g3 g4 g10 g11 g12 g13 g14 g15 g16 g17 g18 g19 g20 g21 g22 g23 g24 g25 g26 v_points v_faces R5.2.1 R5.2.2.1 R5.2.2.2.1 R5.2.2.2.2.1 R5.2.2.2.2.2) [0, 1, 2, 3, 4, 5] [] [0, 1, 2, 3, 4, 5] := ⟨rfl, rfl, rfl, by decide, by decide, by decide, by decide⟩
                refine hb_ci (hb_rV (As := [.int l1, .int l2, .int l3, .int l4]) (rest := []) C0 hK hA XT.nn hSt sp (c_X9_rankOf l D cI cJ h h_base h_rises h_marks h_closedJ h_closedL g2 g3 g4 g10 g11 g12 g13 g14 g15 g16 g17 g18 g19 g20 g21 g22 g23 g24 g25 g26  l1 l2 l3 l4 v_points v_faces v_base v_rises v_marks v_closedJ v_closedL R5 hR5) gX9_rank_X9_rankOf rfl ⟨rfl, rfl⟩ hd_X9_rankOf ⟨Nat.le_of_ble_eq_true rfl, Nat.le_of_ble_eq_true rfl⟩ 0 8 rfl rfl rfl hl rfl (Nat.le_of_ble_eq_true rfl) dX9_rank_55 ⟨Nat.zero_le _, Nat.zero_le _⟩) hA hSt sp (fun H locs hSt => ?_)
                refine lv_goto (tgt := 62) hx hb dX9_rank_58 (by decide) ?_
                cases hf
                exact hb_iret C0 hK hSt dX9_rank_62
def f_X9_rank (v_points : Int32) (v_faces : Int64) (l1 : Int32) (l2 : Int32) (l3 : Int32) (l4 : Int32) (v_base : Nat → Int64) (v_rises : Nat → Int64) (v_marks : Nat → Int64) (v_closedJ : Nat → Int64) (v_closedL : Nat → Int64) : Option (Int32 × (Nat → Int64) × (Nat → Int64) × (Nat → Int64) × (Nat → Int64) × (Nat → Int64)) := f_X9_rank_0 v_points v_faces l1 l2 l3 l4 v_base v_rises v_marks v_closedJ v_closedL
set_option maxRecDepth 100000 in
theorem c_X9_rank (l : Launch) (D : va_G) (cI cJ : ClassId) (h h_base h_rises h_marks h_closedJ h_closedL : Nat) (g2 g3 g4 g10 g11 g12 g13 g14 g15 g16 g17 g18 g19 g20 g21 g22 g23 g24 g25 g26 : Value) (l1 : Int32) (l2 : Int32) (l3 : Int32) (l4 : Int32) (v_points : Int32) (v_faces : Int64) (v_base : Nat → Int64) (v_rises : Nat → Int64) (v_marks : Nat → Int64) (v_closedJ : Nat → Int64) (v_closedL : Nat → Int64) (Rr : Int32 × (Nat → Int64) × (Nat → Int64) × (Nat → Int64) × (Nat → Int64) × (Nat → Int64)) (hf : f_X9_rank v_points v_faces l1 l2 l3 l4 v_base v_rises v_marks v_closedJ v_closedL = some Rr) : CtI l yX9_rank wsX9_rank rm_X9_rank D cI cJ none [.ref h, .int l1, .int l2, .int l3, .int l4] (w_X9_rank cI cJ h h_base h_rises h_marks h_closedJ h_closedL g2 g3 g4 g10 g11 g12 g13 g14 g15 g16 g17 g18 g19 g20 g21 g22 g23 g24 g25 g26 v_points v_faces v_base v_rises v_marks v_closedJ v_closedL) Rr.1 (w_X9_rank cI cJ h h_base h_rises h_marks h_closedJ h_closedL g2 g3 g4 g10 g11 g12 g13 g14 g15 g16 g17 g18 g19 g20 g21 g22 g23 g24 g25 g26 v_points v_faces Rr.2.1 Rr.2.2.1 Rr.2.2.2.1 Rr.2.2.2.2.1 Rr.2.2.2.2.2) :=
  fun sz => BodyW.met (av := [.ref h, .int l1, .int l2, .int l3, .int l4]) (Qc := fun A => QI D cI cJ A (w_X9_rank cI cJ h h_base h_rises h_marks h_closedJ h_closedL g2 g3 g4 g10 g11 g12 g13 g14 g15 g16 g17 g18 g19 g20 g21 g22 g23 g24 g25 g26 v_points v_faces Rr.2.1 Rr.2.2.1 Rr.2.2.2.1 Rr.2.2.2.2.1 Rr.2.2.2.2.2) Rr.1) (by decide) rfl rfl (Nat.le_of_ble_eq_true rfl) (fun C0 hK hA hX ls hSt hl => k_X9_rank_0 C0 hK hA hX l1 l2 l3 l4 v_base v_rises v_marks v_closedJ v_closedL _ _ ls hSt hl hf) sz
/-! X9 seeks -/
abbrev rm_X9_seeks : Room := { frames := 4, cells := 0, slots := 0, locals := 113 }
abbrev w_X9_seeks (cI cJ : ClassId) (h : Nat) (h_base : Nat) (h_rises : Nat) (h_marks : Nat) (h_closedJ : Nat) (h_closedL : Nat) (h_table : Nat) (g2 : Value) (g3 : Value) (g4 : Value) (g16 : Value) (g17 : Value) (g18 : Value) (g19 : Value) (g20 : Value) (g21 : Value) (g22 : Value) (g23 : Value) (g24 : Value) (g25 : Value) (g26 : Value) (v_points : Int32) (v_faces : Int64) (v_table : Nat → Int32) (v_base : Nat → Int64) (v_rises : Nat → Int64) (v_marks : Nat → Int64) (v_closedJ : Nat → Int64) (v_closedL : Nat → Int64) (v_firstJ : Int32) (v_firstL : Int32) (v_firstA : Int32) (v_firstB : Int32) (v_firstRank : Int32) : va_W := [(h, .inr (8, [.int v_points, .long v_faces, g2, g3, g4, .ref h_base, .ref h_rises, .ref h_marks, .ref h_closedJ, .ref h_closedL, .int v_firstJ, .int v_firstL, .int v_firstA, .int v_firstB, .int v_firstRank, .ref h_table, g16, g17, g18, g19, g20, g21, g22, g23, g24, g25, g26])), (h_base, .inl (cJ, 64, .inr (.inl v_base))), (h_rises, .inl (cJ, 20, .inr (.inl v_rises))), (h_marks, .inl (cJ, 20, .inr (.inl v_marks))), (h_closedJ, .inl (cJ, 20, .inr (.inl v_closedJ))), (h_closedL, .inl (cJ, 20, .inr (.inl v_closedL))), (h_table, .inl (cI, 384, .inl v_table))]
theorem iu_X9_seeks_X9 : ∀ w ∈ wsX90, w ∈ wsX9_seeks := by decide +kernel
theorem fl_X9_seeks_40 : Cond.fieldLink RX9 40 (TX9 15).1 (TX9 15).2.1 (TX9 15).2.2.1 ∈ wsX9_seeks := by decide +kernel
theorem fl_X9_seeks_159 : Cond.fieldLink RX9 159 (TX9 10).1 (TX9 10).2.1 (TX9 10).2.2.1 ∈ wsX9_seeks := by decide +kernel
theorem fl_X9_seeks_162 : Cond.fieldLink RX9 162 (TX9 11).1 (TX9 11).2.1 (TX9 11).2.2.1 ∈ wsX9_seeks := by decide +kernel
theorem fl_X9_seeks_165 : Cond.fieldLink RX9 165 (TX9 12).1 (TX9 12).2.1 (TX9 12).2.2.1 ∈ wsX9_seeks := by decide +kernel
theorem fl_X9_seeks_168 : Cond.fieldLink RX9 168 (TX9 13).1 (TX9 13).2.1 (TX9 13).2.2.1 ∈ wsX9_seeks := by decide +kernel
theorem fl_X9_seeks_171 : Cond.fieldLink RX9 171 (TX9 14).1 (TX9 14).2.1 (TX9 14).2.2.1 ∈ wsX9_seeks := by decide +kernel
theorem hd_X9_seeks : yX9_seeks.cls = RX9 ∧ yX9_seeks.cls ≠ "java/lang/invoke/MethodHandle" ∧ yX9_seeks.cls ≠ "java/lang/invoke/VarHandle" ∧ (parseMethodDescriptor yX9_seeks.desc).map (fun d => d.parameters.length) = some 0 := by decide +kernel
def f_X9_seeks_166 (v_points : Int32) (v_faces : Int64) (v_table : Nat → Int32) (k_5 : (Nat → Int64) → (Nat → Int64) → (Nat → Int64) → (Nat → Int64) → (Nat → Int64) → (Int32) → (Int32) → (Int32) → (Int32) → (Int32) → Option (Int32 × (Nat → Int64) × (Nat → Int64) × (Nat → Int64) × (Nat → Int64) × (Nat → Int64) × Int32 × Int32 × Int32 × Int32 × Int32)) (k_26 : (Nat → Int64) → (Nat → Int64) → (Nat → Int64) → (Nat → Int64) → (Nat → Int64) → (Int32) → (Int32) → (Int32) → (Int32) → (Int32) → Option (Int32 × (Nat → Int64) × (Nat → Int64) × (Nat → Int64) × (Nat → Int64) × (Nat → Int64) × Int32 × Int32 × Int32 × Int32 × Int32)) (k_57 : (Nat → Int64) → (Nat → Int64) → (Nat → Int64) → (Nat → Int64) → (Nat → Int64) → (Int32) → (Int32) → (Int32) → (Int32) → (Int32) → Option (Int32 × (Nat → Int64) × (Nat → Int64) × (Nat → Int64) × (Nat → Int64) × (Nat → Int64) × Int32 × Int32 × Int32 × Int32 × Int32)) (k_76 : (Nat → Int64) → (Nat → Int64) → (Nat → Int64) → (Nat → Int64) → (Nat → Int64) → (Int32) → (Int32) → (Int32) → (Int32) → (Int32) → Option (Int32 × (Nat → Int64) × (Nat → Int64) × (Nat → Int64) × (Nat → Int64) × (Nat → Int64) × Int32 × Int32 × Int32 × Int32 × Int32))  (v_base : Nat → Int64) (v_rises : Nat → Int64) (v_marks : Nat → Int64) (v_closedJ : Nat → Int64) (v_closedL : Nat → Int64) (v_firstJ : Int32) (v_firstL : Int32) (v_firstA : Int32) (v_firstB : Int32) (v_firstRank : Int32) : Option (Int32 × (Nat → Int64) × (Nat → Int64) × (Nat → Int64) × (Nat → Int64) × (Nat → Int64) × Int32 × Int32 × Int32 × Int32 × Int32) := k_76 v_base v_rises v_marks v_closedJ v_closedL v_firstJ v_firstL v_firstA (v_firstB + (1 : Int32)) v_firstRank
set_option maxHeartbeats 4000000 in
set_option maxRecDepth 100000 in
theorem k_X9_seeks_166 {p : Program} {l : Launch} {e : Env} {s : State} {m : MethodId} {args : Array Value} {below : List Frame} {meth : Method} {c : Code} {A : Nat → Prop} {D : va_G} {cI cJ : ClassId} {h h_base h_rises h_marks h_closedJ h_closedL h_table : Nat} {g2 g3 g4 g16 g17 g18 g19 g20 g21 g22 g23 g24 g25 g26 : Value} {v_points : Int32} {v_faces : Int64} {v_table : Nat → Int32} (C0 : Cx p s m args meth c cX9_seeks wsX9_seeks RX9 1 (some .boolean)) (hK : va_K D vwCl (tyL cI cJ) s) (hA : ∀ q, s.heap.size ≤ q → A q) (hX : XT none A s s.heap) {Rr : Int32 × (Nat → Int64) × (Nat → Int64) × (Nat → Int64) × (Nat → Int64) × (Nat → Int64) × Int32 × Int32 × Int32 × Int32 × Int32} {k_5 : (Nat → Int64) → (Nat → Int64) → (Nat → Int64) → (Nat → Int64) → (Nat → Int64) → (Int32) → (Int32) → (Int32) → (Int32) → (Int32) → Option (Int32 × (Nat → Int64) × (Nat → Int64) × (Nat → Int64) × (Nat → Int64) × (Nat → Int64) × Int32 × Int32 × Int32 × Int32 × Int32)} (hk_5 : ∀  (v_base : Nat → Int64) (v_rises : Nat → Int64) (v_marks : Nat → Int64) (v_closedJ : Nat → Int64) (v_closedL : Nat → Int64) (v_firstJ : Int32) (v_firstL : Int32) (v_firstA : Int32) (v_firstB : Int32) (v_firstRank : Int32) (H : Heap) (locs : List Loc) (ls : Array Slot), St D A s (w_X9_seeks cI cJ h h_base h_rises h_marks h_closedJ h_closedL h_table g2 g3 g4 g16 g17 g18 g19 g20 g21 g22 g23 g24 g25 g26 v_points v_faces v_table v_base v_rises v_marks v_closedJ v_closedL v_firstJ v_firstL v_firstA v_firstB v_firstRank) H locs → lv_has ls 1 [(0, .ref h)] → k_5 v_base v_rises v_marks v_closedJ v_closedL v_firstJ v_firstL v_firstA v_firstB v_firstRank = some Rr → W p l e rm_X9_seeks s m args below meth c H locs 0 0 (MQ below (QI D cI cJ A (w_X9_seeks cI cJ h h_base h_rises h_marks h_closedJ h_closedL h_table g2 g3 g4 g16 g17 g18 g19 g20 g21 g22 g23 g24 g25 g26 v_points v_faces v_table Rr.2.1 Rr.2.2.1 Rr.2.2.2.1 Rr.2.2.2.2.1 Rr.2.2.2.2.2.1 Rr.2.2.2.2.2.2.1 Rr.2.2.2.2.2.2.2.1 Rr.2.2.2.2.2.2.2.2.1 Rr.2.2.2.2.2.2.2.2.2.1 Rr.2.2.2.2.2.2.2.2.2.2) Rr.1) args s 0 0 A) (F0 m 5 ls [])) {k_26 : (Nat → Int64) → (Nat → Int64) → (Nat → Int64) → (Nat → Int64) → (Nat → Int64) → (Int32) → (Int32) → (Int32) → (Int32) → (Int32) → Option (Int32 × (Nat → Int64) × (Nat → Int64) × (Nat → Int64) × (Nat → Int64) × (Nat → Int64) × Int32 × Int32 × Int32 × Int32 × Int32)} (hk_26 : ∀  (v_base : Nat → Int64) (v_rises : Nat → Int64) (v_marks : Nat → Int64) (v_closedJ : Nat → Int64) (v_closedL : Nat → Int64) (v_firstJ : Int32) (v_firstL : Int32) (v_firstA : Int32) (v_firstB : Int32) (v_firstRank : Int32) (H : Heap) (locs : List Loc) (ls : Array Slot), St D A s (w_X9_seeks cI cJ h h_base h_rises h_marks h_closedJ h_closedL h_table g2 g3 g4 g16 g17 g18 g19 g20 g21 g22 g23 g24 g25 g26 v_points v_faces v_table v_base v_rises v_marks v_closedJ v_closedL v_firstJ v_firstL v_firstA v_firstB v_firstRank) H locs → lv_has ls 1 [(0, .ref h)] → k_26 v_base v_rises v_marks v_closedJ v_closedL v_firstJ v_firstL v_firstA v_firstB v_firstRank = some Rr → W p l e rm_X9_seeks s m args below meth c H locs 0 0 (MQ below (QI D cI cJ A (w_X9_seeks cI cJ h h_base h_rises h_marks h_closedJ h_closedL h_table g2 g3 g4 g16 g17 g18 g19 g20 g21 g22 g23 g24 g25 g26 v_points v_faces v_table Rr.2.1 Rr.2.2.1 Rr.2.2.2.1 Rr.2.2.2.2.1 Rr.2.2.2.2.2.1 Rr.2.2.2.2.2.2.1 Rr.2.2.2.2.2.2.2.1 Rr.2.2.2.2.2.2.2.2.1 Rr.2.2.2.2.2.2.2.2.2.1 Rr.2.2.2.2.2.2.2.2.2.2) Rr.1) args s 0 0 A) (F0 m 26 ls [])) {k_57 : (Nat → Int64) → (Nat → Int64) → (Nat → Int64) → (Nat → Int64) → (Nat → Int64) → (Int32) → (Int32) → (Int32) → (Int32) → (Int32) → Option (Int32 × (Nat → Int64) × (Nat → Int64) × (Nat → Int64) × (Nat → Int64) × (Nat → Int64) × Int32 × Int32 × Int32 × Int32 × Int32)} (hk_57 : ∀  (v_base : Nat → Int64) (v_rises : Nat → Int64) (v_marks : Nat → Int64) (v_closedJ : Nat → Int64) (v_closedL : Nat → Int64) (v_firstJ : Int32) (v_firstL : Int32) (v_firstA : Int32) (v_firstB : Int32) (v_firstRank : Int32) (H : Heap) (locs : List Loc) (ls : Array Slot), St D A s (w_X9_seeks cI cJ h h_base h_rises h_marks h_closedJ h_closedL h_table g2 g3 g4 g16 g17 g18 g19 g20 g21 g22 g23 g24 g25 g26 v_points v_faces v_table v_base v_rises v_marks v_closedJ v_closedL v_firstJ v_firstL v_firstA v_firstB v_firstRank) H locs → lv_has ls 1 [(0, .ref h)] → k_57 v_base v_rises v_marks v_closedJ v_closedL v_firstJ v_firstL v_firstA v_firstB v_firstRank = some Rr → W p l e rm_X9_seeks s m args below meth c H locs 0 0 (MQ below (QI D cI cJ A (w_X9_seeks cI cJ h h_base h_rises h_marks h_closedJ h_closedL h_table g2 g3 g4 g16 g17 g18 g19 g20 g21 g22 g23 g24 g25 g26 v_points v_faces v_table Rr.2.1 Rr.2.2.1 Rr.2.2.2.1 Rr.2.2.2.2.1 Rr.2.2.2.2.2.1 Rr.2.2.2.2.2.2.1 Rr.2.2.2.2.2.2.2.1 Rr.2.2.2.2.2.2.2.2.1 Rr.2.2.2.2.2.2.2.2.2.1 Rr.2.2.2.2.2.2.2.2.2.2) Rr.1) args s 0 0 A) (F0 m 57 ls [])) {k_76 : (Nat → Int64) → (Nat → Int64) → (Nat → Int64) → (Nat → Int64) → (Nat → Int64) → (Int32) → (Int32) → (Int32) → (Int32) → (Int32) → Option (Int32 × (Nat → Int64) × (Nat → Int64) × (Nat → Int64) × (Nat → Int64) × (Nat → Int64) × Int32 × Int32 × Int32 × Int32 × Int32)} (hk_76 : ∀  (v_base : Nat → Int64) (v_rises : Nat → Int64) (v_marks : Nat → Int64) (v_closedJ : Nat → Int64) (v_closedL : Nat → Int64) (v_firstJ : Int32) (v_firstL : Int32) (v_firstA : Int32) (v_firstB : Int32) (v_firstRank : Int32) (H : Heap) (locs : List Loc) (ls : Array Slot), St D A s (w_X9_seeks cI cJ h h_base h_rises h_marks h_closedJ h_closedL h_table g2 g3 g4 g16 g17 g18 g19 g20 g21 g22 g23 g24 g25 g26 v_points v_faces v_table v_base v_rises v_marks v_closedJ v_closedL v_firstJ v_firstL v_firstA v_firstB v_firstRank) H locs → lv_has ls 1 [(0, .ref h)] → k_76 v_base v_rises v_marks v_closedJ v_closedL v_firstJ v_firstL v_firstA v_firstB v_firstRank = some Rr → W p l e rm_X9_seeks s m args below meth c H locs 0 0 (MQ below (QI D cI cJ A (w_X9_seeks cI cJ h h_base h_rises h_marks h_closedJ h_closedL h_table g2 g3 g4 g16 g17 g18 g19 g20 g21 g22 g23 g24 g25 g26 v_points v_faces v_table Rr.2.1 Rr.2.2.1 Rr.2.2.2.1 Rr.2.2.2.2.1 Rr.2.2.2.2.2.1 Rr.2.2.2.2.2.2.1 Rr.2.2.2.2.2.2.2.1 Rr.2.2.2.2.2.2.2.2.1 Rr.2.2.2.2.2.2.2.2.2.1 Rr.2.2.2.2.2.2.2.2.2.2) Rr.1) args s 0 0 A) (F0 m 76 ls [])) : ∀  (v_base : Nat → Int64) (v_rises : Nat → Int64) (v_marks : Nat → Int64) (v_closedJ : Nat → Int64) (v_closedL : Nat → Int64) (v_firstJ : Int32) (v_firstL : Int32) (v_firstA : Int32) (v_firstB : Int32) (v_firstRank : Int32) (H : Heap) (locs : List Loc) (ls : Array Slot), St D A s (w_X9_seeks cI cJ h h_base h_rises h_marks h_closedJ h_closedL h_table g2 g3 g4 g16 g17 g18 g19 g20 g21 g22 g23 g24 g25 g26 v_points v_faces v_table v_base v_rises v_marks v_closedJ v_closedL v_firstJ v_firstL v_firstA v_firstB v_firstRank) H locs → lv_has ls 1 [(0, .ref h)] → f_X9_seeks_166 v_points v_faces v_table k_5 k_26 k_57 k_76 v_base v_rises v_marks v_closedJ v_closedL v_firstJ v_firstL v_firstA v_firstB v_firstRank = some Rr → W p l e rm_X9_seeks s m args below meth c H locs 0 0 (MQ below (QI D cI cJ A (w_X9_seeks cI cJ h h_base h_rises h_marks h_closedJ h_closedL h_table g2 g3 g4 g16 g17 g18 g19 g20 g21 g22 g23 g24 g25 g26 v_points v_faces v_table Rr.2.1 Rr.2.2.1 Rr.2.2.2.1 Rr.2.2.2.2.1 Rr.2.2.2.2.2.1 Rr.2.2.2.2.2.2.1 Rr.2.2.2.2.2.2.2.1 Rr.2.2.2.2.2.2.2.2.1 Rr.2.2.2.2.2.2.2.2.2.1 Rr.2.2.2.2.2.2.2.2.2.2) Rr.1) args s 0 0 A) (F0 m 166 ls []) := by
  have hx := C0.1.1
  have hb := C0.1.2.1
  intro v_base v_rises v_marks v_closedJ v_closedL v_firstJ v_firstL v_firstA v_firstB v_firstRank H locs ls hSt hl hf
  unfold f_X9_seeks_166 at hf
  refine lv_aload_n hx hb dX9_seeks_166 rfl (lv_at hl 0 rfl) ?_
  refine lv_dup hx hb dX9_seeks_167 rfl ?_
  refine hb_get C0 hK hSt 0 8 13 rfl rfl iu_X9_seeks_X9 (by decide) fl_X9_seeks_168 rfl dX9_seeks_168 ?_
  refine lv_iconst (v := 1) hx hb dX9_seeks_171 (by decide) ?_
  refine lv_iadd hx hb dX9_seeks_172 ?_
  refine hb_put C0 hK hSt 0 8 13 rfl rfl iu_X9_seeks_X9 tyX9 tyX9_ok nmX9 (by decide) fl_X9_seeks_168 rfl rfl rfl (Nat.le_of_ble_eq_true rfl) (w' := w_X9_seeks cI cJ h h_base h_rises h_marks h_closedJ h_closedL h_table g2 g3 g4 g16 g17 g18 g19 g20 g21 g22 g23 g24 g25 g26 v_points v_faces v_table v_base v_rises v_marks v_closedJ v_closedL v_firstJ v_firstL v_firstA (v_firstB + (1 : Int32)) v_firstRank) rfl dX9_seeks_173 (fun H locs hSt => ?_)
  refine lv_goto (tgt := 76) hx hb dX9_seeks_176 (by decide) ?_
  exact hk_76 v_base v_rises v_marks v_closedJ v_closedL v_firstJ v_firstL v_firstA (v_firstB + (1 : Int32)) v_firstRank _ _ _ hSt (lv_sub hl [0] rfl) hf
def f_X9_seeks_76 (v_points : Int32) (v_faces : Int64) (v_table : Nat → Int32) (k_5 : (Nat → Int64) → (Nat → Int64) → (Nat → Int64) → (Nat → Int64) → (Nat → Int64) → (Int32) → (Int32) → (Int32) → (Int32) → (Int32) → Option (Int32 × (Nat → Int64) × (Nat → Int64) × (Nat → Int64) × (Nat → Int64) × (Nat → Int64) × Int32 × Int32 × Int32 × Int32 × Int32)) (k_26 : (Nat → Int64) → (Nat → Int64) → (Nat → Int64) → (Nat → Int64) → (Nat → Int64) → (Int32) → (Int32) → (Int32) → (Int32) → (Int32) → Option (Int32 × (Nat → Int64) × (Nat → Int64) × (Nat → Int64) × (Nat → Int64) × (Nat → Int64) × Int32 × Int32 × Int32 × Int32 × Int32)) (k_57 : (Nat → Int64) → (Nat → Int64) → (Nat → Int64) → (Nat → Int64) → (Nat → Int64) → (Int32) → (Int32) → (Int32) → (Int32) → (Int32) → Option (Int32 × (Nat → Int64) × (Nat → Int64) × (Nat → Int64) × (Nat → Int64) × (Nat → Int64) × Int32 × Int32 × Int32 × Int32 × Int32)) : Nat → (Nat → Int64) → (Nat → Int64) → (Nat → Int64) → (Nat → Int64) → (Nat → Int64) → (Int32) → (Int32) → (Int32) → (Int32) → (Int32) → Option (Int32 × (Nat → Int64) × (Nat → Int64) × (Nat → Int64) × (Nat → Int64) × (Nat → Int64) × Int32 × Int32 × Int32 × Int32 × Int32)
  | 0, _, _, _, _, _, _, _, _, _, _ => none
  | n + 1, v_base, v_rises, v_marks, v_closedJ, v_closedL, v_firstJ, v_firstL, v_firstA, v_firstB, v_firstRank => (f_X9_size v_firstL).bind (fun R1 => if R1 ≤ v_firstB then k_57 v_base v_rises v_marks v_closedJ v_closedL v_firstJ v_firstL (v_firstA + (1 : Int32)) v_firstB v_firstRank else gd (ix (((6 : Int32) * v_firstJ) + v_firstA) 384) (if (v_table (((6 : Int32) * v_firstJ) + v_firstA).toNatClampNeg) = 0 then f_X9_seeks_166 v_points v_faces v_table k_5 k_26 k_57 (f_X9_seeks_76 v_points v_faces v_table k_5 k_26 k_57 n) v_base v_rises v_marks v_closedJ v_closedL v_firstJ v_firstL v_firstA v_firstB v_firstRank else gd (ix (((6 : Int32) * v_firstL) + v_firstB) 384) (if (v_table (((6 : Int32) * v_firstL) + v_firstB).toNatClampNeg) = 0 then f_X9_seeks_166 v_points v_faces v_table k_5 k_26 k_57 (f_X9_seeks_76 v_points v_faces v_table k_5 k_26 k_57 n) v_base v_rises v_marks v_closedJ v_closedL v_firstJ v_firstL v_firstA v_firstB v_firstRank else (f_X9_rankOf v_points v_faces v_firstJ v_firstL v_firstA v_firstB v_base v_rises v_marks v_closedJ v_closedL).bind (fun R2 => if R2.1 ≤ 0 then f_X9_seeks_166 v_points v_faces v_table k_5 k_26 k_57 (f_X9_seeks_76 v_points v_faces v_table k_5 k_26 k_57 n) R2.2.1 R2.2.2.1 R2.2.2.2.1 R2.2.2.2.2.1 R2.2.2.2.2.2 v_firstJ v_firstL v_firstA v_firstB R2.1 else some ((1 : Int32), R2.2.1, R2.2.2.1, R2.2.2.2.1, R2.2.2.2.2.1, R2.2.2.2.2.2, v_firstJ, v_firstL, v_firstA, v_firstB, R2.1)))))
set_option maxHeartbeats 4000000 in
set_option maxRecDepth 100000 in
theorem k_X9_seeks_76 {p : Program} {l : Launch} {e : Env} {s : State} {m : MethodId} {args : Array Value} {below : List Frame} {meth : Method} {c : Code} {A : Nat → Prop} {D : va_G} {cI cJ : ClassId} {h h_base h_rises h_marks h_closedJ h_closedL h_table : Nat} {g2 g3 g4 g16 g17 g18 g19 g20 g21 g22 g23 g24 g25 g26 : Value} {v_points : Int32} {v_faces : Int64} {v_table : Nat → Int32} (C0 : Cx p s m args meth c cX9_seeks wsX9_seeks RX9 1 (some .boolean)) (hK : va_K D vwCl (tyL cI cJ) s) (hA : ∀ q, s.heap.size ≤ q → A q) (hX : XT none A s s.heap) {Rr : Int32 × (Nat → Int64) × (Nat → Int64) × (Nat → Int64) × (Nat → Int64) × (Nat → Int64) × Int32 × Int32 × Int32 × Int32 × Int32} {k_5 : (Nat → Int64) → (Nat → Int64) → (Nat → Int64) → (Nat → Int64) → (Nat → Int64) → (Int32) → (Int32) → (Int32) → (Int32) → (Int32) → Option (Int32 × (Nat → Int64) × (Nat → Int64) × (Nat → Int64) × (Nat → Int64) × (Nat → Int64) × Int32 × Int32 × Int32 × Int32 × Int32)} (hk_5 : ∀  (v_base : Nat → Int64) (v_rises : Nat → Int64) (v_marks : Nat → Int64) (v_closedJ : Nat → Int64) (v_closedL : Nat → Int64) (v_firstJ : Int32) (v_firstL : Int32) (v_firstA : Int32) (v_firstB : Int32) (v_firstRank : Int32) (H : Heap) (locs : List Loc) (ls : Array Slot), St D A s (w_X9_seeks cI cJ h h_base h_rises h_marks h_closedJ h_closedL h_table g2 g3 g4 g16 g17 g18 g19 g20 g21 g22 g23 g24 g25 g26 v_points v_faces v_table v_base v_rises v_marks v_closedJ v_closedL v_firstJ v_firstL v_firstA v_firstB v_firstRank) H locs → lv_has ls 1 [(0, .ref h)] → k_5 v_base v_rises v_marks v_closedJ v_closedL v_firstJ v_firstL v_firstA v_firstB v_firstRank = some Rr → W p l e rm_X9_seeks s m args below meth c H locs 0 0 (MQ below (QI D cI cJ A (w_X9_seeks cI cJ h h_base h_rises h_marks h_closedJ h_closedL h_table g2 g3 g4 g16 g17 g18 g19 g20 g21 g22 g23 g24 g25 g26 v_points v_faces v_table Rr.2.1 Rr.2.2.1 Rr.2.2.2.1 Rr.2.2.2.2.1 Rr.2.2.2.2.2.1 Rr.2.2.2.2.2.2.1 Rr.2.2.2.2.2.2.2.1 Rr.2.2.2.2.2.2.2.2.1 Rr.2.2.2.2.2.2.2.2.2.1 Rr.2.2.2.2.2.2.2.2.2.2) Rr.1) args s 0 0 A) (F0 m 5 ls [])) {k_26 : (Nat → Int64) → (Nat → Int64) → (Nat → Int64) → (Nat → Int64) → (Nat → Int64) → (Int32) → (Int32) → (Int32) → (Int32) → (Int32) → Option (Int32 × (Nat → Int64) × (Nat → Int64) × (Nat → Int64) × (Nat → Int64) × (Nat → Int64) × Int32 × Int32 × Int32 × Int32 × Int32)} (hk_26 : ∀  (v_base : Nat → Int64) (v_rises : Nat → Int64) (v_marks : Nat → Int64) (v_closedJ : Nat → Int64) (v_closedL : Nat → Int64) (v_firstJ : Int32) (v_firstL : Int32) (v_firstA : Int32) (v_firstB : Int32) (v_firstRank : Int32) (H : Heap) (locs : List Loc) (ls : Array Slot), St D A s (w_X9_seeks cI cJ h h_base h_rises h_marks h_closedJ h_closedL h_table g2 g3 g4 g16 g17 g18 g19 g20 g21 g22 g23 g24 g25 g26 v_points v_faces v_table v_base v_rises v_marks v_closedJ v_closedL v_firstJ v_firstL v_firstA v_firstB v_firstRank) H locs → lv_has ls 1 [(0, .ref h)] → k_26 v_base v_rises v_marks v_closedJ v_closedL v_firstJ v_firstL v_firstA v_firstB v_firstRank = some Rr → W p l e rm_X9_seeks s m args below meth c H locs 0 0 (MQ below (QI D cI cJ A (w_X9_seeks cI cJ h h_base h_rises h_marks h_closedJ h_closedL h_table g2 g3 g4 g16 g17 g18 g19 g20 g21 g22 g23 g24 g25 g26 v_points v_faces v_table Rr.2.1 Rr.2.2.1 Rr.2.2.2.1 Rr.2.2.2.2.1 Rr.2.2.2.2.2.1 Rr.2.2.2.2.2.2.1 Rr.2.2.2.2.2.2.2.1 Rr.2.2.2.2.2.2.2.2.1 Rr.2.2.2.2.2.2.2.2.2.1 Rr.2.2.2.2.2.2.2.2.2.2) Rr.1) args s 0 0 A) (F0 m 26 ls [])) {k_57 : (Nat → Int64) → (Nat → Int64) → (Nat → Int64) → (Nat → Int64) → (Nat → Int64) → (Int32) → (Int32) → (Int32) → (Int32) → (Int32) → Option (Int32 × (Nat → Int64) × (Nat → Int64) × (Nat → Int64) × (Nat → Int64) × (Nat → Int64) × Int32 × Int32 × Int32 × Int32 × Int32)} (hk_57 : ∀  (v_base : Nat → Int64) (v_rises : Nat → Int64) (v_marks : Nat → Int64) (v_closedJ : Nat → Int64) (v_closedL : Nat → Int64) (v_firstJ : Int32) (v_firstL : Int32) (v_firstA : Int32) (v_firstB : Int32) (v_firstRank : Int32) (H : Heap) (locs : List Loc) (ls : Array Slot), St D A s (w_X9_seeks cI cJ h h_base h_rises h_marks h_closedJ h_closedL h_table g2 g3 g4 g16 g17 g18 g19 g20 g21 g22 g23 g24 g25 g26 v_points v_faces v_table v_base v_rises v_marks v_closedJ v_closedL v_firstJ v_firstL v_firstA v_firstB v_firstRank) H locs → lv_has ls 1 [(0, .ref h)] → k_57 v_base v_rises v_marks v_closedJ v_closedL v_firstJ v_firstL v_firstA v_firstB v_firstRank = some Rr → W p l e rm_X9_seeks s m args below meth c H locs 0 0 (MQ below (QI D cI cJ A (w_X9_seeks cI cJ h h_base h_rises h_marks h_closedJ h_closedL h_table g2 g3 g4 g16 g17 g18 g19 g20 g21 g22 g23 g24 g25 g26 v_points v_faces v_table Rr.2.1 Rr.2.2.1 Rr.2.2.2.1 Rr.2.2.2.2.1 Rr.2.2.2.2.2.1 Rr.2.2.2.2.2.2.1 Rr.2.2.2.2.2.2.2.1 Rr.2.2.2.2.2.2.2.2.1 Rr.2.2.2.2.2.2.2.2.2.1 Rr.2.2.2.2.2.2.2.2.2.2) Rr.1) args s 0 0 A) (F0 m 57 ls [])) (n : Nat) : ∀  (v_base : Nat → Int64) (v_rises : Nat → Int64) (v_marks : Nat → Int64) (v_closedJ : Nat → Int64) (v_closedL : Nat → Int64) (v_firstJ : Int32) (v_firstL : Int32) (v_firstA : Int32) (v_firstB : Int32) (v_firstRank : Int32) (H : Heap) (locs : List Loc) (ls : Array Slot), St D A s (w_X9_seeks cI cJ h h_base h_rises h_marks h_closedJ h_closedL h_table g2 g3 g4 g16 g17 g18 g19 g20 g21 g22 g23 g24 g25 g26 v_points v_faces v_table v_base v_rises v_marks v_closedJ v_closedL v_firstJ v_firstL v_firstA v_firstB v_firstRank) H locs → lv_has ls 1 [(0, .ref h)] → f_X9_seeks_76 v_points v_faces v_table k_5 k_26 k_57 n v_base v_rises v_marks v_closedJ v_closedL v_firstJ v_firstL v_firstA v_firstB v_firstRank = some Rr → W p l e rm_X9_seeks s m args below meth c H locs 0 0 (MQ below (QI D cI cJ A (w_X9_seeks cI cJ h h_base h_rises h_marks h_closedJ h_closedL h_table g2 g3 g4 g16 g17 g18 g19 g20 g21 g22 g23 g24 g25 g26 v_points v_faces v_table Rr.2.1 Rr.2.2.1 Rr.2.2.2.1 Rr.2.2.2.2.1 Rr.2.2.2.2.2.1 Rr.2.2.2.2.2.2.1 Rr.2.2.2.2.2.2.2.1 Rr.2.2.2.2.2.2.2.2.1 Rr.2.2.2.2.2.2.2.2.2.1 Rr.2.2.2.2.2.2.2.2.2.2) Rr.1) args s 0 0 A) (F0 m 76 ls []) := by
  have hx := C0.1.1
  have hb := C0.1.2.1
  induction n with
  | zero => intro v_base v_rises v_marks v_closedJ v_closedL v_firstJ v_firstL v_firstA v_firstB v_firstRank H locs ls hSt hl hf; exact nomatch (show (none : Option _) = some Rr from hf)
  | succ n ih =>
    intro v_base v_rises v_marks v_closedJ v_closedL v_firstJ v_firstL v_firstA v_firstB v_firstRank H locs ls hSt hl hf
    unfold f_X9_seeks_76 at hf
    refine lv_aload_n hx hb dX9_seeks_76 rfl (lv_at hl 0 rfl) ?_
    refine hb_get C0 hK hSt 0 8 13 rfl rfl iu_X9_seeks_X9 (by decide) fl_X9_seeks_168 rfl dX9_seeks_77 ?_
    refine lv_aload_n hx hb dX9_seeks_80 rfl (lv_at hl 0 rfl) ?_
    refine hb_get C0 hK hSt 0 8 11 rfl rfl iu_X9_seeks_X9 (by decide) fl_X9_seeks_162 rfl dX9_seeks_81 ?_
    obtain ⟨R1, hR1, hf⟩ := Option.bind_eq_some_iff.mp hf
    have sp : Sp (w_X9_seeks cI cJ h h_base h_rises h_marks h_closedJ h_closedL h_table g2 g3 g4 g16 g17 g18 g19 g20 g21 g22 g23 g24 g25 g26 v_points v_faces v_table v_base v_rises v_marks v_closedJ v_closedL v_firstJ v_firstL v_firstA v_firstB v_firstRank) (w_X9_size cI cJ) (w_X9_size cI cJ) (w_X9_seeks cI cJ h h_base h_rises h_marks h_closedJ h_closedL h_table g2 g3 g4 g16 g17 g18 g19 g20 g21 g22 g23 g24 g25 g26 v_points v_faces v_table v_base v_rises v_marks v_closedJ v_closedL v_firstJ v_firstL v_firstA v_firstB v_firstRank) [] [0, 1, 2, 3, 4, 5, 6] [0, 1, 2, 3, 4, 5, 6] := ⟨rfl, rfl, rfl, by decide, by decide, by decide, by decide⟩
    refine hb_ci (hb_rS (As := [.int v_firstL]) (rest := [.int v_firstB]) C0 hK hA XT.nn hSt sp (c_X9_size l D cI cJ   v_firstL  R1 hR1) gX9_seeks_X9_size rfl ⟨rfl, rfl⟩ hd_X9_size ⟨Nat.le_of_ble_eq_true rfl, Nat.le_of_ble_eq_true rfl⟩ rfl hl rfl (Nat.le_of_ble_eq_true rfl) dX9_seeks_84 ⟨Nat.zero_le _, Nat.zero_le _⟩) hA hSt sp (fun H locs hSt => ?_)
    refine lv_icmp_ge (tgt := 179) hx hb dX9_seeks_87 (by decide) (fun cc => ?_) (fun cc => ?_)
    · have hf := ite_t hf cc
      refine lv_aload_n hx hb dX9_seeks_179 rfl (lv_at hl 0 rfl) ?_
      refine lv_dup hx hb dX9_seeks_180 rfl ?_
      refine hb_get C0 hK hSt 0 8 12 rfl rfl iu_X9_seeks_X9 (by decide) fl_X9_seeks_165 rfl dX9_seeks_181 ?_
      refine lv_iconst (v := 1) hx hb dX9_seeks_184 (by decide) ?_
      refine lv_iadd hx hb dX9_seeks_185 ?_
      refine hb_put C0 hK hSt 0 8 12 rfl rfl iu_X9_seeks_X9 tyX9 tyX9_ok nmX9 (by decide) fl_X9_seeks_165 rfl rfl rfl (Nat.le_of_ble_eq_true rfl) (w' := w_X9_seeks cI cJ h h_base h_rises h_marks h_closedJ h_closedL h_table g2 g3 g4 g16 g17 g18 g19 g20 g21 g22 g23 g24 g25 g26 v_points v_faces v_table v_base v_rises v_marks v_closedJ v_closedL v_firstJ v_firstL (v_firstA + (1 : Int32)) v_firstB v_firstRank) rfl dX9_seeks_186 (fun H locs hSt => ?_)
      refine lv_goto (tgt := 57) hx hb dX9_seeks_189 (by decide) ?_
      exact hk_57 v_base v_rises v_marks v_closedJ v_closedL v_firstJ v_firstL (v_firstA + (1 : Int32)) v_firstB v_firstRank _ _ _ hSt (lv_sub hl [0] rfl) hf
    · have hf := ite_f hf cc
      refine lv_aload_n hx hb dX9_seeks_90 rfl (lv_at hl 0 rfl) ?_
      refine hb_get C0 hK hSt 0 8 15 rfl rfl iu_X9_seeks_X9 (by decide) fl_X9_seeks_40 rfl dX9_seeks_91 ?_
      refine lv_bipush (v := 6) hx hb dX9_seeks_94 (by decide) ?_
      refine lv_aload_n hx hb dX9_seeks_96 rfl (lv_at hl 0 rfl) ?_
      refine hb_get C0 hK hSt 0 8 10 rfl rfl iu_X9_seeks_X9 (by decide) fl_X9_seeks_159 rfl dX9_seeks_97 ?_
      refine lv_imul hx hb dX9_seeks_100 ?_
      refine lv_aload_n hx hb dX9_seeks_101 rfl (lv_at hl 0 rfl) ?_
      refine hb_get C0 hK hSt 0 8 12 rfl rfl iu_X9_seeks_X9 (by decide) fl_X9_seeks_165 rfl dX9_seeks_102 ?_
      refine lv_iadd hx hb dX9_seeks_105 ?_
      obtain ⟨hi, hf⟩ := gd_t hf
      refine hb_iald C0 hK hSt 6 rfl hi dX9_seeks_106 ?_
      refine lv_if_eq (tgt := 166) hx hb dX9_seeks_107 (by decide) (fun cc => ?_) (fun cc => ?_)
      · have hf := ite_t hf cc
        exact k_X9_seeks_166 C0 hK hA hX hk_5 hk_26 hk_57 ih v_base v_rises v_marks v_closedJ v_closedL v_firstJ v_firstL v_firstA v_firstB v_firstRank _ _ _ hSt (lv_sub hl [0] rfl) hf
      · have hf := ite_f hf cc
        refine lv_aload_n hx hb dX9_seeks_110 rfl (lv_at hl 0 rfl) ?_
        refine hb_get C0 hK hSt 0 8 15 rfl rfl iu_X9_seeks_X9 (by decide) fl_X9_seeks_40 rfl dX9_seeks_111 ?_
        refine lv_bipush (v := 6) hx hb dX9_seeks_114 (by decide) ?_
        refine lv_aload_n hx hb dX9_seeks_116 rfl (lv_at hl 0 rfl) ?_
        refine hb_get C0 hK hSt 0 8 11 rfl rfl iu_X9_seeks_X9 (by decide) fl_X9_seeks_162 rfl dX9_seeks_117 ?_
        refine lv_imul hx hb dX9_seeks_120 ?_
        refine lv_aload_n hx hb dX9_seeks_121 rfl (lv_at hl 0 rfl) ?_
        refine hb_get C0 hK hSt 0 8 13 rfl rfl iu_X9_seeks_X9 (by decide) fl_X9_seeks_168 rfl dX9_seeks_122 ?_
        refine lv_iadd hx hb dX9_seeks_125 ?_
        obtain ⟨hi, hf⟩ := gd_t hf
        refine hb_iald C0 hK hSt 6 rfl hi dX9_seeks_126 ?_
        refine lv_if_ne (tgt := 133) hx hb dX9_seeks_127 (by decide) (fun cc => ?_) (fun cc => ?_)
        · have hf := ite_f hf cc
          refine lv_aload_n hx hb dX9_seeks_133 rfl (lv_at hl 0 rfl) ?_
          refine lv_aload_n hx hb dX9_seeks_134 rfl (lv_at hl 0 rfl) ?_
          refine lv_aload_n hx hb dX9_seeks_135 rfl (lv_at hl 0 rfl) ?_
          refine hb_get C0 hK hSt 0 8 10 rfl rfl iu_X9_seeks_X9 (by decide) fl_X9_seeks_159 rfl dX9_seeks_136 ?_
          refine lv_aload_n hx hb dX9_seeks_139 rfl (lv_at hl 0 rfl) ?_
          refine hb_get C0 hK hSt 0 8 11 rfl rfl iu_X9_seeks_X9 (by decide) fl_X9_seeks_162 rfl dX9_seeks_140 ?_
          refine lv_aload_n hx hb dX9_seeks_143 rfl (lv_at hl 0 rfl) ?_
          refine hb_get C0 hK hSt 0 8 12 rfl rfl iu_X9_seeks_X9 (by decide) fl_X9_seeks_165 rfl dX9_seeks_144 ?_
          refine lv_aload_n hx hb dX9_seeks_147 rfl (lv_at hl 0 rfl) ?_
          refine hb_get C0 hK hSt 0 8 13 rfl rfl iu_X9_seeks_X9 (by decide) fl_X9_seeks_168 rfl dX9_seeks_148 ?_
          obtain ⟨R2, hR2, hf⟩ := Option.bind_eq_some_iff.mp hf
          have sp : Sp (w_X9_seeks cI cJ h h_base h_rises h_marks h_closedJ h_closedL h_table g2 g3 g4 g16 g17 g18 g19 g20 g21 g22 g23 g24 g25 g26 v_points v_faces v_table v_base v_rises v_marks v_closedJ v_closedL v_firstJ v_firstL v_firstA v_firstB v_firstRank) (w_X9_rankOf cI cJ h h_base h_rises h_marks h_closedJ h_closedL g2 g3 g4 (.int v_firstJ) (.int v_firstL) (.int v_firstA) (.int v_firstB) (.int v_firstRank) (.ref h_table) g16 g17 g18 g19 g20 g21 g22 g23 g24 g25 g26 v_points v_faces v_base v_rises v_marks v_closedJ v_closedL) (w_X9_rankOf cI cJ h h_base h_rises h_marks h_closedJ h_closedL g2 g3 g4 (.int v_firstJ) (.int v_firstL) (.int v_firstA) (.int v_firstB) (.int v_firstRank) (.ref h_table) g16 g17 g18 g19 g20 g21 g22 g23 g24 g25 g26 v_points v_faces R2.2.1 R2.2.2.1 R2.2.2.2.1 R2.2.2.2.2.1 R2.2.2.2.2.2) (w_X9_seeks cI cJ h h_base h_rises h_marks h_closedJ h_closedL h_table g2 g3 g4 g16 g17 g18 g19 g20 g21 g22 g23 g24 g25 g26 v_points v_faces v_table R2.2.1 R2.2.2.1 R2.2.2.2.1 R2.2.2.2.2.1 R2.2.2.2.2.2 v_firstJ v_firstL v_firstA v_firstB v_firstRank) [0, 1, 2, 3, 4, 5] [6] [1, 2, 3, 4, 5, 6, 0] := ⟨rfl, rfl, rfl, by decide, by decide, by decide, by decide⟩
          refine hb_ci (hb_rV (As := [.int v_firstJ, .int v_firstL, .int v_firstA, .int v_firstB]) (rest := [.ref h]) C0 hK hA XT.nn hSt sp (c_X9_rankOf l D cI cJ h h_base h_rises h_marks h_closedJ h_closedL g2 g3 g4 (.int v_firstJ) (.int v_firstL) (.int v_firstA) (.int v_firstB) (.int v_firstRank) (.ref h_table) g16 g17 g18 g19 g20 g21 g22 g23 g24 g25 g26  v_firstJ v_firstL v_firstA v_firstB v_points v_faces v_base v_rises v_marks v_closedJ v_closedL R2 hR2) gX9_seeks_X9_rankOf rfl ⟨rfl, rfl⟩ hd_X9_rankOf ⟨Nat.le_of_ble_eq_true rfl, Nat.le_of_ble_eq_true rfl⟩ 0 8 rfl rfl rfl hl rfl (Nat.le_of_ble_eq_true rfl) dX9_seeks_151 ⟨Nat.zero_le _, Nat.zero_le _⟩) hA hSt sp (fun H locs hSt => ?_)
          refine hb_put C0 hK hSt 0 8 14 rfl rfl iu_X9_seeks_X9 tyX9 tyX9_ok nmX9 (by decide) fl_X9_seeks_171 rfl rfl rfl (Nat.le_of_ble_eq_true rfl) (w' := w_X9_seeks cI cJ h h_base h_rises h_marks h_closedJ h_closedL h_table g2 g3 g4 g16 g17 g18 g19 g20 g21 g22 g23 g24 g25 g26 v_points v_faces v_table R2.2.1 R2.2.2.1 R2.2.2.2.1 R2.2.2.2.2.1 R2.2.2.2.2.2 v_firstJ v_firstL v_firstA v_firstB R2.1) rfl dX9_seeks_154 (fun H locs hSt => ?_)
          refine lv_aload_n hx hb dX9_seeks_157 rfl (lv_at hl 0 rfl) ?_
          refine hb_get C0 hK hSt 0 8 14 rfl rfl iu_X9_seeks_X9 (by decide) fl_X9_seeks_171 rfl dX9_seeks_158 ?_
          refine lv_if_le (tgt := 166) hx hb dX9_seeks_161 (by decide) (fun cc => ?_) (fun cc => ?_)
          · have hf := ite_t hf cc
            exact k_X9_seeks_166 C0 hK hA hX hk_5 hk_26 hk_57 ih R2.2.1 R2.2.2.1 R2.2.2.2.1 R2.2.2.2.2.1 R2.2.2.2.2.2 v_firstJ v_firstL v_firstA v_firstB R2.1 _ _ _ hSt (lv_sub hl [0] rfl) hf
          · have hf := ite_f hf cc
            refine lv_iconst (v := 1) hx hb dX9_seeks_164 (by decide) ?_
            cases hf
            exact hb_zret C0 hK hSt nb1.1 dX9_seeks_165
        · have hf := ite_t hf cc
          refine lv_goto (tgt := 166) hx hb dX9_seeks_130 (by decide) ?_
          exact k_X9_seeks_166 C0 hK hA hX hk_5 hk_26 hk_57 ih v_base v_rises v_marks v_closedJ v_closedL v_firstJ v_firstL v_firstA v_firstB v_firstRank _ _ _ hSt (lv_sub hl [0] rfl) hf
def f_X9_seeks_192 (v_points : Int32) (v_faces : Int64) (v_table : Nat → Int32) (k_5 : (Nat → Int64) → (Nat → Int64) → (Nat → Int64) → (Nat → Int64) → (Nat → Int64) → (Int32) → (Int32) → (Int32) → (Int32) → (Int32) → Option (Int32 × (Nat → Int64) × (Nat → Int64) × (Nat → Int64) × (Nat → Int64) × (Nat → Int64) × Int32 × Int32 × Int32 × Int32 × Int32)) (k_26 : (Nat → Int64) → (Nat → Int64) → (Nat → Int64) → (Nat → Int64) → (Nat → Int64) → (Int32) → (Int32) → (Int32) → (Int32) → (Int32) → Option (Int32 × (Nat → Int64) × (Nat → Int64) × (Nat → Int64) × (Nat → Int64) × (Nat → Int64) × Int32 × Int32 × Int32 × Int32 × Int32))  (v_base : Nat → Int64) (v_rises : Nat → Int64) (v_marks : Nat → Int64) (v_closedJ : Nat → Int64) (v_closedL : Nat → Int64) (v_firstJ : Int32) (v_firstL : Int32) (v_firstA : Int32) (v_firstB : Int32) (v_firstRank : Int32) : Option (Int32 × (Nat → Int64) × (Nat → Int64) × (Nat → Int64) × (Nat → Int64) × (Nat → Int64) × Int32 × Int32 × Int32 × Int32 × Int32) := k_26 v_base v_rises v_marks v_closedJ v_closedL v_firstJ (v_firstL + (1 : Int32)) v_firstA v_firstB v_firstRank
set_option maxHeartbeats 4000000 in
set_option maxRecDepth 100000 in
theorem k_X9_seeks_192 {p : Program} {l : Launch} {e : Env} {s : State} {m : MethodId} {args : Array Value} {below : List Frame} {meth : Method} {c : Code} {A : Nat → Prop} {D : va_G} {cI cJ : ClassId} {h h_base h_rises h_marks h_closedJ h_closedL h_table : Nat} {g2 g3 g4 g16 g17 g18 g19 g20 g21 g22 g23 g24 g25 g26 : Value} {v_points : Int32} {v_faces : Int64} {v_table : Nat → Int32} (C0 : Cx p s m args meth c cX9_seeks wsX9_seeks RX9 1 (some .boolean)) (hK : va_K D vwCl (tyL cI cJ) s) (hA : ∀ q, s.heap.size ≤ q → A q) (hX : XT none A s s.heap) {Rr : Int32 × (Nat → Int64) × (Nat → Int64) × (Nat → Int64) × (Nat → Int64) × (Nat → Int64) × Int32 × Int32 × Int32 × Int32 × Int32} {k_5 : (Nat → Int64) → (Nat → Int64) → (Nat → Int64) → (Nat → Int64) → (Nat → Int64) → (Int32) → (Int32) → (Int32) → (Int32) → (Int32) → Option (Int32 × (Nat → Int64) × (Nat → Int64) × (Nat → Int64) × (Nat → Int64) × (Nat → Int64) × Int32 × Int32 × Int32 × Int32 × Int32)} (hk_5 : ∀  (v_base : Nat → Int64) (v_rises : Nat → Int64) (v_marks : Nat → Int64) (v_closedJ : Nat → Int64) (v_closedL : Nat → Int64) (v_firstJ : Int32) (v_firstL : Int32) (v_firstA : Int32) (v_firstB : Int32) (v_firstRank : Int32) (H : Heap) (locs : List Loc) (ls : Array Slot), St D A s (w_X9_seeks cI cJ h h_base h_rises h_marks h_closedJ h_closedL h_table g2 g3 g4 g16 g17 g18 g19 g20 g21 g22 g23 g24 g25 g26 v_points v_faces v_table v_base v_rises v_marks v_closedJ v_closedL v_firstJ v_firstL v_firstA v_firstB v_firstRank) H locs → lv_has ls 1 [(0, .ref h)] → k_5 v_base v_rises v_marks v_closedJ v_closedL v_firstJ v_firstL v_firstA v_firstB v_firstRank = some Rr → W p l e rm_X9_seeks s m args below meth c H locs 0 0 (MQ below (QI D cI cJ A (w_X9_seeks cI cJ h h_base h_rises h_marks h_closedJ h_closedL h_table g2 g3 g4 g16 g17 g18 g19 g20 g21 g22 g23 g24 g25 g26 v_points v_faces v_table Rr.2.1 Rr.2.2.1 Rr.2.2.2.1 Rr.2.2.2.2.1 Rr.2.2.2.2.2.1 Rr.2.2.2.2.2.2.1 Rr.2.2.2.2.2.2.2.1 Rr.2.2.2.2.2.2.2.2.1 Rr.2.2.2.2.2.2.2.2.2.1 Rr.2.2.2.2.2.2.2.2.2.2) Rr.1) args s 0 0 A) (F0 m 5 ls [])) {k_26 : (Nat → Int64) → (Nat → Int64) → (Nat → Int64) → (Nat → Int64) → (Nat → Int64) → (Int32) → (Int32) → (Int32) → (Int32) → (Int32) → Option (Int32 × (Nat → Int64) × (Nat → Int64) × (Nat → Int64) × (Nat → Int64) × (Nat → Int64) × Int32 × Int32 × Int32 × Int32 × Int32)} (hk_26 : ∀  (v_base : Nat → Int64) (v_rises : Nat → Int64) (v_marks : Nat → Int64) (v_closedJ : Nat → Int64) (v_closedL : Nat → Int64) (v_firstJ : Int32) (v_firstL : Int32) (v_firstA : Int32) (v_firstB : Int32) (v_firstRank : Int32) (H : Heap) (locs : List Loc) (ls : Array Slot), St D A s (w_X9_seeks cI cJ h h_base h_rises h_marks h_closedJ h_closedL h_table g2 g3 g4 g16 g17 g18 g19 g20 g21 g22 g23 g24 g25 g26 v_points v_faces v_table v_base v_rises v_marks v_closedJ v_closedL v_firstJ v_firstL v_firstA v_firstB v_firstRank) H locs → lv_has ls 1 [(0, .ref h)] → k_26 v_base v_rises v_marks v_closedJ v_closedL v_firstJ v_firstL v_firstA v_firstB v_firstRank = some Rr → W p l e rm_X9_seeks s m args below meth c H locs 0 0 (MQ below (QI D cI cJ A (w_X9_seeks cI cJ h h_base h_rises h_marks h_closedJ h_closedL h_table g2 g3 g4 g16 g17 g18 g19 g20 g21 g22 g23 g24 g25 g26 v_points v_faces v_table Rr.2.1 Rr.2.2.1 Rr.2.2.2.1 Rr.2.2.2.2.1 Rr.2.2.2.2.2.1 Rr.2.2.2.2.2.2.1 Rr.2.2.2.2.2.2.2.1 Rr.2.2.2.2.2.2.2.2.1 Rr.2.2.2.2.2.2.2.2.2.1 Rr.2.2.2.2.2.2.2.2.2.2) Rr.1) args s 0 0 A) (F0 m 26 ls [])) : ∀  (v_base : Nat → Int64) (v_rises : Nat → Int64) (v_marks : Nat → Int64) (v_closedJ : Nat → Int64) (v_closedL : Nat → Int64) (v_firstJ : Int32) (v_firstL : Int32) (v_firstA : Int32) (v_firstB : Int32) (v_firstRank : Int32) (H : Heap) (locs : List Loc) (ls : Array Slot), St D A s (w_X9_seeks cI cJ h h_base h_rises h_marks h_closedJ h_closedL h_table g2 g3 g4 g16 g17 g18 g19 g20 g21 g22 g23 g24 g25 g26 v_points v_faces v_table v_base v_rises v_marks v_closedJ v_closedL v_firstJ v_firstL v_firstA v_firstB v_firstRank) H locs → lv_has ls 1 [(0, .ref h)] → f_X9_seeks_192 v_points v_faces v_table k_5 k_26 v_base v_rises v_marks v_closedJ v_closedL v_firstJ v_firstL v_firstA v_firstB v_firstRank = some Rr → W p l e rm_X9_seeks s m args below meth c H locs 0 0 (MQ below (QI D cI cJ A (w_X9_seeks cI cJ h h_base h_rises h_marks h_closedJ h_closedL h_table g2 g3 g4 g16 g17 g18 g19 g20 g21 g22 g23 g24 g25 g26 v_points v_faces v_table Rr.2.1 Rr.2.2.1 Rr.2.2.2.1 Rr.2.2.2.2.1 Rr.2.2.2.2.2.1 Rr.2.2.2.2.2.2.1 Rr.2.2.2.2.2.2.2.1 Rr.2.2.2.2.2.2.2.2.1 Rr.2.2.2.2.2.2.2.2.2.1 Rr.2.2.2.2.2.2.2.2.2.2) Rr.1) args s 0 0 A) (F0 m 192 ls []) := by
  have hx := C0.1.1
  have hb := C0.1.2.1
  intro v_base v_rises v_marks v_closedJ v_closedL v_firstJ v_firstL v_firstA v_firstB v_firstRank H locs ls hSt hl hf
  unfold f_X9_seeks_192 at hf
  refine lv_aload_n hx hb dX9_seeks_192 rfl (lv_at hl 0 rfl) ?_
  refine lv_dup hx hb dX9_seeks_193 rfl ?_
  refine hb_get C0 hK hSt 0 8 11 rfl rfl iu_X9_seeks_X9 (by decide) fl_X9_seeks_162 rfl dX9_seeks_194 ?_
  refine lv_iconst (v := 1) hx hb dX9_seeks_197 (by decide) ?_
  refine lv_iadd hx hb dX9_seeks_198 ?_
  refine hb_put C0 hK hSt 0 8 11 rfl rfl iu_X9_seeks_X9 tyX9 tyX9_ok nmX9 (by decide) fl_X9_seeks_162 rfl rfl rfl (Nat.le_of_ble_eq_true rfl) (w' := w_X9_seeks cI cJ h h_base h_rises h_marks h_closedJ h_closedL h_table g2 g3 g4 g16 g17 g18 g19 g20 g21 g22 g23 g24 g25 g26 v_points v_faces v_table v_base v_rises v_marks v_closedJ v_closedL v_firstJ (v_firstL + (1 : Int32)) v_firstA v_firstB v_firstRank) rfl dX9_seeks_199 (fun H locs hSt => ?_)
  refine lv_goto (tgt := 26) hx hb dX9_seeks_202 (by decide) ?_
  exact hk_26 v_base v_rises v_marks v_closedJ v_closedL v_firstJ (v_firstL + (1 : Int32)) v_firstA v_firstB v_firstRank _ _ _ hSt (lv_sub hl [0] rfl) hf
def f_X9_seeks_57 (v_points : Int32) (v_faces : Int64) (v_table : Nat → Int32) (k_5 : (Nat → Int64) → (Nat → Int64) → (Nat → Int64) → (Nat → Int64) → (Nat → Int64) → (Int32) → (Int32) → (Int32) → (Int32) → (Int32) → Option (Int32 × (Nat → Int64) × (Nat → Int64) × (Nat → Int64) × (Nat → Int64) × (Nat → Int64) × Int32 × Int32 × Int32 × Int32 × Int32)) (k_26 : (Nat → Int64) → (Nat → Int64) → (Nat → Int64) → (Nat → Int64) → (Nat → Int64) → (Int32) → (Int32) → (Int32) → (Int32) → (Int32) → Option (Int32 × (Nat → Int64) × (Nat → Int64) × (Nat → Int64) × (Nat → Int64) × (Nat → Int64) × Int32 × Int32 × Int32 × Int32 × Int32)) : Nat → (Nat → Int64) → (Nat → Int64) → (Nat → Int64) → (Nat → Int64) → (Nat → Int64) → (Int32) → (Int32) → (Int32) → (Int32) → (Int32) → Option (Int32 × (Nat → Int64) × (Nat → Int64) × (Nat → Int64) × (Nat → Int64) × (Nat → Int64) × Int32 × Int32 × Int32 × Int32 × Int32)
  | 0, _, _, _, _, _, _, _, _, _, _ => none
  | n + 1, v_base, v_rises, v_marks, v_closedJ, v_closedL, v_firstJ, v_firstL, v_firstA, v_firstB, v_firstRank => (f_X9_size v_firstJ).bind (fun R1 => if R1 ≤ v_firstA then f_X9_seeks_192 v_points v_faces v_table k_5 k_26 v_base v_rises v_marks v_closedJ v_closedL v_firstJ v_firstL v_firstA v_firstB v_firstRank else f_X9_seeks_76 v_points v_faces v_table k_5 k_26 (f_X9_seeks_57 v_points v_faces v_table k_5 k_26 n) FU v_base v_rises v_marks v_closedJ v_closedL v_firstJ v_firstL v_firstA (0 : Int32) v_firstRank)
set_option maxHeartbeats 4000000 in
set_option maxRecDepth 100000 in
theorem k_X9_seeks_57 {p : Program} {l : Launch} {e : Env} {s : State} {m : MethodId} {args : Array Value} {below : List Frame} {meth : Method} {c : Code} {A : Nat → Prop} {D : va_G} {cI cJ : ClassId} {h h_base h_rises h_marks h_closedJ h_closedL h_table : Nat} {g2 g3 g4 g16 g17 g18 g19 g20 g21 g22 g23 g24 g25 g26 : Value} {v_points : Int32} {v_faces : Int64} {v_table : Nat → Int32} (C0 : Cx p s m args meth c cX9_seeks wsX9_seeks RX9 1 (some .boolean)) (hK : va_K D vwCl (tyL cI cJ) s) (hA : ∀ q, s.heap.size ≤ q → A q) (hX : XT none A s s.heap) {Rr : Int32 × (Nat → Int64) × (Nat → Int64) × (Nat → Int64) × (Nat → Int64) × (Nat → Int64) × Int32 × Int32 × Int32 × Int32 × Int32} {k_5 : (Nat → Int64) → (Nat → Int64) → (Nat → Int64) → (Nat → Int64) → (Nat → Int64) → (Int32) → (Int32) → (Int32) → (Int32) → (Int32) → Option (Int32 × (Nat → Int64) × (Nat → Int64) × (Nat → Int64) × (Nat → Int64) × (Nat → Int64) × Int32 × Int32 × Int32 × Int32 × Int32)} (hk_5 : ∀  (v_base : Nat → Int64) (v_rises : Nat → Int64) (v_marks : Nat → Int64) (v_closedJ : Nat → Int64) (v_closedL : Nat → Int64) (v_firstJ : Int32) (v_firstL : Int32) (v_firstA : Int32) (v_firstB : Int32) (v_firstRank : Int32) (H : Heap) (locs : List Loc) (ls : Array Slot), St D A s (w_X9_seeks cI cJ h h_base h_rises h_marks h_closedJ h_closedL h_table g2 g3 g4 g16 g17 g18 g19 g20 g21 g22 g23 g24 g25 g26 v_points v_faces v_table v_base v_rises v_marks v_closedJ v_closedL v_firstJ v_firstL v_firstA v_firstB v_firstRank) H locs → lv_has ls 1 [(0, .ref h)] → k_5 v_base v_rises v_marks v_closedJ v_closedL v_firstJ v_firstL v_firstA v_firstB v_firstRank = some Rr → W p l e rm_X9_seeks s m args below meth c H locs 0 0 (MQ below (QI D cI cJ A (w_X9_seeks cI cJ h h_base h_rises h_marks h_closedJ h_closedL h_table g2 g3 g4 g16 g17 g18 g19 g20 g21 g22 g23 g24 g25 g26 v_points v_faces v_table Rr.2.1 Rr.2.2.1 Rr.2.2.2.1 Rr.2.2.2.2.1 Rr.2.2.2.2.2.1 Rr.2.2.2.2.2.2.1 Rr.2.2.2.2.2.2.2.1 Rr.2.2.2.2.2.2.2.2.1 Rr.2.2.2.2.2.2.2.2.2.1 Rr.2.2.2.2.2.2.2.2.2.2) Rr.1) args s 0 0 A) (F0 m 5 ls [])) {k_26 : (Nat → Int64) → (Nat → Int64) → (Nat → Int64) → (Nat → Int64) → (Nat → Int64) → (Int32) → (Int32) → (Int32) → (Int32) → (Int32) → Option (Int32 × (Nat → Int64) × (Nat → Int64) × (Nat → Int64) × (Nat → Int64) × (Nat → Int64) × Int32 × Int32 × Int32 × Int32 × Int32)} (hk_26 : ∀  (v_base : Nat → Int64) (v_rises : Nat → Int64) (v_marks : Nat → Int64) (v_closedJ : Nat → Int64) (v_closedL : Nat → Int64) (v_firstJ : Int32) (v_firstL : Int32) (v_firstA : Int32) (v_firstB : Int32) (v_firstRank : Int32) (H : Heap) (locs : List Loc) (ls : Array Slot), St D A s (w_X9_seeks cI cJ h h_base h_rises h_marks h_closedJ h_closedL h_table g2 g3 g4 g16 g17 g18 g19 g20 g21 g22 g23 g24 g25 g26 v_points v_faces v_table v_base v_rises v_marks v_closedJ v_closedL v_firstJ v_firstL v_firstA v_firstB v_firstRank) H locs → lv_has ls 1 [(0, .ref h)] → k_26 v_base v_rises v_marks v_closedJ v_closedL v_firstJ v_firstL v_firstA v_firstB v_firstRank = some Rr → W p l e rm_X9_seeks s m args below meth c H locs 0 0 (MQ below (QI D cI cJ A (w_X9_seeks cI cJ h h_base h_rises h_marks h_closedJ h_closedL h_table g2 g3 g4 g16 g17 g18 g19 g20 g21 g22 g23 g24 g25 g26 v_points v_faces v_table Rr.2.1 Rr.2.2.1 Rr.2.2.2.1 Rr.2.2.2.2.1 Rr.2.2.2.2.2.1 Rr.2.2.2.2.2.2.1 Rr.2.2.2.2.2.2.2.1 Rr.2.2.2.2.2.2.2.2.1 Rr.2.2.2.2.2.2.2.2.2.1 Rr.2.2.2.2.2.2.2.2.2.2) Rr.1) args s 0 0 A) (F0 m 26 ls [])) (n : Nat) : ∀  (v_base : Nat → Int64) (v_rises : Nat → Int64) (v_marks : Nat → Int64) (v_closedJ : Nat → Int64) (v_closedL : Nat → Int64) (v_firstJ : Int32) (v_firstL : Int32) (v_firstA : Int32) (v_firstB : Int32) (v_firstRank : Int32) (H : Heap) (locs : List Loc) (ls : Array Slot), St D A s (w_X9_seeks cI cJ h h_base h_rises h_marks h_closedJ h_closedL h_table g2 g3 g4 g16 g17 g18 g19 g20 g21 g22 g23 g24 g25 g26 v_points v_faces v_table v_base v_rises v_marks v_closedJ v_closedL v_firstJ v_firstL v_firstA v_firstB v_firstRank) H locs → lv_has ls 1 [(0, .ref h)] → f_X9_seeks_57 v_points v_faces v_table k_5 k_26 n v_base v_rises v_marks v_closedJ v_closedL v_firstJ v_firstL v_firstA v_firstB v_firstRank = some Rr → W p l e rm_X9_seeks s m args below meth c H locs 0 0 (MQ below (QI D cI cJ A (w_X9_seeks cI cJ h h_base h_rises h_marks h_closedJ h_closedL h_table g2 g3 g4 g16 g17 g18 g19 g20 g21 g22 g23 g24 g25 g26 v_points v_faces v_table Rr.2.1 Rr.2.2.1 Rr.2.2.2.1 Rr.2.2.2.2.1 Rr.2.2.2.2.2.1 Rr.2.2.2.2.2.2.1 Rr.2.2.2.2.2.2.2.1 Rr.2.2.2.2.2.2.2.2.1 Rr.2.2.2.2.2.2.2.2.2.1 Rr.2.2.2.2.2.2.2.2.2.2) Rr.1) args s 0 0 A) (F0 m 57 ls []) := by
  have hx := C0.1.1
  have hb := C0.1.2.1
  induction n with
  | zero => intro v_base v_rises v_marks v_closedJ v_closedL v_firstJ v_firstL v_firstA v_firstB v_firstRank H locs ls hSt hl hf; exact nomatch (show (none : Option _) = some Rr from hf)
  | succ n ih =>
    intro v_base v_rises v_marks v_closedJ v_closedL v_firstJ v_firstL v_firstA v_firstB v_firstRank H locs ls hSt hl hf
    unfold f_X9_seeks_57 at hf
    refine lv_aload_n hx hb dX9_seeks_57 rfl (lv_at hl 0 rfl) ?_
    refine hb_get C0 hK hSt 0 8 12 rfl rfl iu_X9_seeks_X9 (by decide) fl_X9_seeks_165 rfl dX9_seeks_58 ?_
    refine lv_aload_n hx hb dX9_seeks_61 rfl (lv_at hl 0 rfl) ?_
    refine hb_get C0 hK hSt 0 8 10 rfl rfl iu_X9_seeks_X9 (by decide) fl_X9_seeks_159 rfl dX9_seeks_62 ?_
    obtain ⟨R1, hR1, hf⟩ := Option.bind_eq_some_iff.mp hf
    have sp : Sp (w_X9_seeks cI cJ h h_base h_rises h_marks h_closedJ h_closedL h_table g2 g3 g4 g16 g17 g18 g19 g20 g21 g22 g23 g24 g25 g26 v_points v_faces v_table v_base v_rises v_marks v_closedJ v_closedL v_firstJ v_firstL v_firstA v_firstB v_firstRank) (w_X9_size cI cJ) (w_X9_size cI cJ) (w_X9_seeks cI cJ h h_base h_rises h_marks h_closedJ h_closedL h_table g2 g3 g4 g16 g17 g18 g19 g20 g21 g22 g23 g24 g25 g26 v_points v_faces v_table v_base v_rises v_marks v_closedJ v_closedL v_firstJ v_firstL v_firstA v_firstB v_firstRank) [] [0, 1, 2, 3, 4, 5, 6] [0, 1, 2, 3, 4, 5, 6] := ⟨rfl, rfl, rfl, by decide, by decide, by decide, by decide⟩
    refine hb_ci (hb_rS (As := [.int v_firstJ]) (rest := [.int v_firstA]) C0 hK hA XT.nn hSt sp (c_X9_size l D cI cJ   v_firstJ  R1 hR1) gX9_seeks_X9_size rfl ⟨rfl, rfl⟩ hd_X9_size ⟨Nat.le_of_ble_eq_true rfl, Nat.le_of_ble_eq_true rfl⟩ rfl hl rfl (Nat.le_of_ble_eq_true rfl) dX9_seeks_65 ⟨Nat.zero_le _, Nat.zero_le _⟩) hA hSt sp (fun H locs hSt => ?_)
    refine lv_icmp_ge (tgt := 192) hx hb dX9_seeks_68 (by decide) (fun cc => ?_) (fun cc => ?_)
    · have hf := ite_t hf cc
      exact k_X9_seeks_192 C0 hK hA hX hk_5 hk_26 v_base v_rises v_marks v_closedJ v_closedL v_firstJ v_firstL v_firstA v_firstB v_firstRank _ _ _ hSt (lv_sub hl [0] rfl) hf
    · have hf := ite_f hf cc
      refine lv_aload_n hx hb dX9_seeks_71 rfl (lv_at hl 0 rfl) ?_
      refine lv_iconst (v := 0) hx hb dX9_seeks_72 (by decide) ?_
      refine hb_put C0 hK hSt 0 8 13 rfl rfl iu_X9_seeks_X9 tyX9 tyX9_ok nmX9 (by decide) fl_X9_seeks_168 rfl rfl rfl (Nat.le_of_ble_eq_true rfl) (w' := w_X9_seeks cI cJ h h_base h_rises h_marks h_closedJ h_closedL h_table g2 g3 g4 g16 g17 g18 g19 g20 g21 g22 g23 g24 g25 g26 v_points v_faces v_table v_base v_rises v_marks v_closedJ v_closedL v_firstJ v_firstL v_firstA (0 : Int32) v_firstRank) rfl dX9_seeks_73 (fun H locs hSt => ?_)
      exact k_X9_seeks_76 C0 hK hA hX hk_5 hk_26 ih FU v_base v_rises v_marks v_closedJ v_closedL v_firstJ v_firstL v_firstA (0 : Int32) v_firstRank _ _ _ hSt (lv_sub hl [0] rfl) hf
def f_X9_seeks_26 (v_points : Int32) (v_faces : Int64) (v_table : Nat → Int32) (k_5 : (Nat → Int64) → (Nat → Int64) → (Nat → Int64) → (Nat → Int64) → (Nat → Int64) → (Int32) → (Int32) → (Int32) → (Int32) → (Int32) → Option (Int32 × (Nat → Int64) × (Nat → Int64) × (Nat → Int64) × (Nat → Int64) × (Nat → Int64) × Int32 × Int32 × Int32 × Int32 × Int32)) : Nat → (Nat → Int64) → (Nat → Int64) → (Nat → Int64) → (Nat → Int64) → (Nat → Int64) → (Int32) → (Int32) → (Int32) → (Int32) → (Int32) → Option (Int32 × (Nat → Int64) × (Nat → Int64) × (Nat → Int64) × (Nat → Int64) × (Nat → Int64) × Int32 × Int32 × Int32 × Int32 × Int32)
  | 0, _, _, _, _, _, _, _, _, _, _ => none
  | n + 1, v_base, v_rises, v_marks, v_closedJ, v_closedL, v_firstJ, v_firstL, v_firstA, v_firstB, v_firstRank => (f_X9_all v_points).bind (fun R1 => if R1 < v_firstL then k_5 v_base v_rises v_marks v_closedJ v_closedL (v_firstJ + (1 : Int32)) v_firstL v_firstA v_firstB v_firstRank else if (v_firstJ &&& v_firstL) = 0 then f_X9_seeks_57 v_points v_faces v_table k_5 (f_X9_seeks_26 v_points v_faces v_table k_5 n) FU v_base v_rises v_marks v_closedJ v_closedL v_firstJ v_firstL (0 : Int32) v_firstB v_firstRank else f_X9_seeks_192 v_points v_faces v_table k_5 (f_X9_seeks_26 v_points v_faces v_table k_5 n) v_base v_rises v_marks v_closedJ v_closedL v_firstJ v_firstL v_firstA v_firstB v_firstRank)
set_option maxHeartbeats 4000000 in
set_option maxRecDepth 100000 in
theorem k_X9_seeks_26 {p : Program} {l : Launch} {e : Env} {s : State} {m : MethodId} {args : Array Value} {below : List Frame} {meth : Method} {c : Code} {A : Nat → Prop} {D : va_G} {cI cJ : ClassId} {h h_base h_rises h_marks h_closedJ h_closedL h_table : Nat} {g2 g3 g4 g16 g17 g18 g19 g20 g21 g22 g23 g24 g25 g26 : Value} {v_points : Int32} {v_faces : Int64} {v_table : Nat → Int32} (C0 : Cx p s m args meth c cX9_seeks wsX9_seeks RX9 1 (some .boolean)) (hK : va_K D vwCl (tyL cI cJ) s) (hA : ∀ q, s.heap.size ≤ q → A q) (hX : XT none A s s.heap) {Rr : Int32 × (Nat → Int64) × (Nat → Int64) × (Nat → Int64) × (Nat → Int64) × (Nat → Int64) × Int32 × Int32 × Int32 × Int32 × Int32} {k_5 : (Nat → Int64) → (Nat → Int64) → (Nat → Int64) → (Nat → Int64) → (Nat → Int64) → (Int32) → (Int32) → (Int32) → (Int32) → (Int32) → Option (Int32 × (Nat → Int64) × (Nat → Int64) × (Nat → Int64) × (Nat → Int64) × (Nat → Int64) × Int32 × Int32 × Int32 × Int32 × Int32)} (hk_5 : ∀  (v_base : Nat → Int64) (v_rises : Nat → Int64) (v_marks : Nat → Int64) (v_closedJ : Nat → Int64) (v_closedL : Nat → Int64) (v_firstJ : Int32) (v_firstL : Int32) (v_firstA : Int32) (v_firstB : Int32) (v_firstRank : Int32) (H : Heap) (locs : List Loc) (ls : Array Slot), St D A s (w_X9_seeks cI cJ h h_base h_rises h_marks h_closedJ h_closedL h_table g2 g3 g4 g16 g17 g18 g19 g20 g21 g22 g23 g24 g25 g26 v_points v_faces v_table v_base v_rises v_marks v_closedJ v_closedL v_firstJ v_firstL v_firstA v_firstB v_firstRank) H locs → lv_has ls 1 [(0, .ref h)] → k_5 v_base v_rises v_marks v_closedJ v_closedL v_firstJ v_firstL v_firstA v_firstB v_firstRank = some Rr → W p l e rm_X9_seeks s m args below meth c H locs 0 0 (MQ below (QI D cI cJ A (w_X9_seeks cI cJ h h_base h_rises h_marks h_closedJ h_closedL h_table g2 g3 g4 g16 g17 g18 g19 g20 g21 g22 g23 g24 g25 g26 v_points v_faces v_table Rr.2.1 Rr.2.2.1 Rr.2.2.2.1 Rr.2.2.2.2.1 Rr.2.2.2.2.2.1 Rr.2.2.2.2.2.2.1 Rr.2.2.2.2.2.2.2.1 Rr.2.2.2.2.2.2.2.2.1 Rr.2.2.2.2.2.2.2.2.2.1 Rr.2.2.2.2.2.2.2.2.2.2) Rr.1) args s 0 0 A) (F0 m 5 ls [])) (n : Nat) : ∀  (v_base : Nat → Int64) (v_rises : Nat → Int64) (v_marks : Nat → Int64) (v_closedJ : Nat → Int64) (v_closedL : Nat → Int64) (v_firstJ : Int32) (v_firstL : Int32) (v_firstA : Int32) (v_firstB : Int32) (v_firstRank : Int32) (H : Heap) (locs : List Loc) (ls : Array Slot), St D A s (w_X9_seeks cI cJ h h_base h_rises h_marks h_closedJ h_closedL h_table g2 g3 g4 g16 g17 g18 g19 g20 g21 g22 g23 g24 g25 g26 v_points v_faces v_table v_base v_rises v_marks v_closedJ v_closedL v_firstJ v_firstL v_firstA v_firstB v_firstRank) H locs → lv_has ls 1 [(0, .ref h)] → f_X9_seeks_26 v_points v_faces v_table k_5 n v_base v_rises v_marks v_closedJ v_closedL v_firstJ v_firstL v_firstA v_firstB v_firstRank = some Rr → W p l e rm_X9_seeks s m args below meth c H locs 0 0 (MQ below (QI D cI cJ A (w_X9_seeks cI cJ h h_base h_rises h_marks h_closedJ h_closedL h_table g2 g3 g4 g16 g17 g18 g19 g20 g21 g22 g23 g24 g25 g26 v_points v_faces v_table Rr.2.1 Rr.2.2.1 Rr.2.2.2.1 Rr.2.2.2.2.1 Rr.2.2.2.2.2.1 Rr.2.2.2.2.2.2.1 Rr.2.2.2.2.2.2.2.1 Rr.2.2.2.2.2.2.2.2.1 Rr.2.2.2.2.2.2.2.2.2.1 Rr.2.2.2.2.2.2.2.2.2.2) Rr.1) args s 0 0 A) (F0 m 26 ls []) := by
  have hx := C0.1.1
  have hb := C0.1.2.1
  induction n with
  | zero => intro v_base v_rises v_marks v_closedJ v_closedL v_firstJ v_firstL v_firstA v_firstB v_firstRank H locs ls hSt hl hf; exact nomatch (show (none : Option _) = some Rr from hf)
  | succ n ih =>
    intro v_base v_rises v_marks v_closedJ v_closedL v_firstJ v_firstL v_firstA v_firstB v_firstRank H locs ls hSt hl hf
    unfold f_X9_seeks_26 at hf
    refine lv_aload_n hx hb dX9_seeks_26 rfl (lv_at hl 0 rfl) ?_
    refine hb_get C0 hK hSt 0 8 11 rfl rfl iu_X9_seeks_X9 (by decide) fl_X9_seeks_162 rfl dX9_seeks_27 ?_
    refine lv_aload_n hx hb dX9_seeks_30 rfl (lv_at hl 0 rfl) ?_
    obtain ⟨R1, hR1, hf⟩ := Option.bind_eq_some_iff.mp hf
    have sp : Sp (w_X9_seeks cI cJ h h_base h_rises h_marks h_closedJ h_closedL h_table g2 g3 g4 g16 g17 g18 g19 g20 g21 g22 g23 g24 g25 g26 v_points v_faces v_table v_base v_rises v_marks v_closedJ v_closedL v_firstJ v_firstL v_firstA v_firstB v_firstRank) (w_X9_all cI cJ h (.long v_faces) g2 g3 g4 (.ref h_base) (.ref h_rises) (.ref h_marks) (.ref h_closedJ) (.ref h_closedL) (.int v_firstJ) (.int v_firstL) (.int v_firstA) (.int v_firstB) (.int v_firstRank) (.ref h_table) g16 g17 g18 g19 g20 g21 g22 g23 g24 g25 g26 v_points) (w_X9_all cI cJ h (.long v_faces) g2 g3 g4 (.ref h_base) (.ref h_rises) (.ref h_marks) (.ref h_closedJ) (.ref h_closedL) (.int v_firstJ) (.int v_firstL) (.int v_firstA) (.int v_firstB) (.int v_firstRank) (.ref h_table) g16 g17 g18 g19 g20 g21 g22 g23 g24 g25 g26 v_points) (w_X9_seeks cI cJ h h_base h_rises h_marks h_closedJ h_closedL h_table g2 g3 g4 g16 g17 g18 g19 g20 g21 g22 g23 g24 g25 g26 v_points v_faces v_table v_base v_rises v_marks v_closedJ v_closedL v_firstJ v_firstL v_firstA v_firstB v_firstRank) [0] [1, 2, 3, 4, 5, 6] [6, 0, 1, 2, 3, 4, 5] := ⟨rfl, rfl, rfl, by decide, by decide, by decide, by decide⟩
    refine hb_ci (hb_rV (As := []) (rest := [.int v_firstL]) C0 hK hA XT.nn hSt sp (c_X9_all l D cI cJ h (.long v_faces) g2 g3 g4 (.ref h_base) (.ref h_rises) (.ref h_marks) (.ref h_closedJ) (.ref h_closedL) (.int v_firstJ) (.int v_firstL) (.int v_firstA) (.int v_firstB) (.int v_firstRank) (.ref h_table) g16 g17 g18 g19 g20 g21 g22 g23 g24 g25 g26   v_points R1 hR1) gX9_seeks_X9_all rfl ⟨rfl, rfl⟩ hd_X9_all ⟨Nat.le_of_ble_eq_true rfl, Nat.le_of_ble_eq_true rfl⟩ 0 8 rfl rfl rfl hl rfl (Nat.le_of_ble_eq_true rfl) dX9_seeks_31 ⟨Nat.zero_le _, Nat.zero_le _⟩) hA hSt sp (fun H locs hSt => ?_)
    refine lv_icmp_gt (tgt := 205) hx hb dX9_seeks_34 (by decide) (fun cc => ?_) (fun cc => ?_)
    · have hf := ite_t hf cc
      refine lv_aload_n hx hb dX9_seeks_205 rfl (lv_at hl 0 rfl) ?_
      refine lv_dup hx hb dX9_seeks_206 rfl ?_
      refine hb_get C0 hK hSt 0 8 10 rfl rfl iu_X9_seeks_X9 (by decide) fl_X9_seeks_159 rfl dX9_seeks_207 ?_
      refine lv_iconst (v := 1) hx hb dX9_seeks_210 (by decide) ?_
      refine lv_iadd hx hb dX9_seeks_211 ?_
      refine hb_put C0 hK hSt 0 8 10 rfl rfl iu_X9_seeks_X9 tyX9 tyX9_ok nmX9 (by decide) fl_X9_seeks_159 rfl rfl rfl (Nat.le_of_ble_eq_true rfl) (w' := w_X9_seeks cI cJ h h_base h_rises h_marks h_closedJ h_closedL h_table g2 g3 g4 g16 g17 g18 g19 g20 g21 g22 g23 g24 g25 g26 v_points v_faces v_table v_base v_rises v_marks v_closedJ v_closedL (v_firstJ + (1 : Int32)) v_firstL v_firstA v_firstB v_firstRank) rfl dX9_seeks_212 (fun H locs hSt => ?_)
      refine lv_goto (tgt := 5) hx hb dX9_seeks_215 (by decide) ?_
      exact hk_5 v_base v_rises v_marks v_closedJ v_closedL (v_firstJ + (1 : Int32)) v_firstL v_firstA v_firstB v_firstRank _ _ _ hSt (lv_sub hl [0] rfl) hf
    · have hf := ite_f hf cc
      refine lv_aload_n hx hb dX9_seeks_37 rfl (lv_at hl 0 rfl) ?_
      refine hb_get C0 hK hSt 0 8 10 rfl rfl iu_X9_seeks_X9 (by decide) fl_X9_seeks_159 rfl dX9_seeks_38 ?_
      refine lv_aload_n hx hb dX9_seeks_41 rfl (lv_at hl 0 rfl) ?_
      refine hb_get C0 hK hSt 0 8 11 rfl rfl iu_X9_seeks_X9 (by decide) fl_X9_seeks_162 rfl dX9_seeks_42 ?_
      refine lv_iand hx hb dX9_seeks_45 ?_
      refine lv_if_eq (tgt := 52) hx hb dX9_seeks_46 (by decide) (fun cc => ?_) (fun cc => ?_)
      · have hf := ite_t hf cc
        refine lv_aload_n hx hb dX9_seeks_52 rfl (lv_at hl 0 rfl) ?_
        refine lv_iconst (v := 0) hx hb dX9_seeks_53 (by decide) ?_
        refine hb_put C0 hK hSt 0 8 12 rfl rfl iu_X9_seeks_X9 tyX9 tyX9_ok nmX9 (by decide) fl_X9_seeks_165 rfl rfl rfl (Nat.le_of_ble_eq_true rfl) (w' := w_X9_seeks cI cJ h h_base h_rises h_marks h_closedJ h_closedL h_table g2 g3 g4 g16 g17 g18 g19 g20 g21 g22 g23 g24 g25 g26 v_points v_faces v_table v_base v_rises v_marks v_closedJ v_closedL v_firstJ v_firstL (0 : Int32) v_firstB v_firstRank) rfl dX9_seeks_54 (fun H locs hSt => ?_)
        exact k_X9_seeks_57 C0 hK hA hX hk_5 ih FU v_base v_rises v_marks v_closedJ v_closedL v_firstJ v_firstL (0 : Int32) v_firstB v_firstRank _ _ _ hSt (lv_sub hl [0] rfl) hf
      · have hf := ite_f hf cc
        refine lv_goto (tgt := 192) hx hb dX9_seeks_49 (by decide) ?_
        exact k_X9_seeks_192 C0 hK hA hX hk_5 ih v_base v_rises v_marks v_closedJ v_closedL v_firstJ v_firstL v_firstA v_firstB v_firstRank _ _ _ hSt (lv_sub hl [0] rfl) hf
def f_X9_seeks_5 (v_points : Int32) (v_faces : Int64) (v_table : Nat → Int32)  : Nat → (Nat → Int64) → (Nat → Int64) → (Nat → Int64) → (Nat → Int64) → (Nat → Int64) → (Int32) → (Int32) → (Int32) → (Int32) → (Int32) → Option (Int32 × (Nat → Int64) × (Nat → Int64) × (Nat → Int64) × (Nat → Int64) × (Nat → Int64) × Int32 × Int32 × Int32 × Int32 × Int32)
  | 0, _, _, _, _, _, _, _, _, _, _ => none
  | n + 1, v_base, v_rises, v_marks, v_closedJ, v_closedL, v_firstJ, v_firstL, v_firstA, v_firstB, v_firstRank => (f_X9_all v_points).bind (fun R1 => if R1 < v_firstJ then some ((0 : Int32), v_base, v_rises, v_marks, v_closedJ, v_closedL, v_firstJ, v_firstL, v_firstA, v_firstB, v_firstRank) else f_X9_seeks_26 v_points v_faces v_table (f_X9_seeks_5 v_points v_faces v_table n) FU v_base v_rises v_marks v_closedJ v_closedL v_firstJ (v_firstJ + (1 : Int32)) v_firstA v_firstB v_firstRank)
set_option maxHeartbeats 4000000 in
set_option maxRecDepth 100000 in
theorem k_X9_seeks_5 {p : Program} {l : Launch} {e : Env} {s : State} {m : MethodId} {args : Array Value} {below : List Frame} {meth : Method} {c : Code} {A : Nat → Prop} {D : va_G} {cI cJ : ClassId} {h h_base h_rises h_marks h_closedJ h_closedL h_table : Nat} {g2 g3 g4 g16 g17 g18 g19 g20 g21 g22 g23 g24 g25 g26 : Value} {v_points : Int32} {v_faces : Int64} {v_table : Nat → Int32} (C0 : Cx p s m args meth c cX9_seeks wsX9_seeks RX9 1 (some .boolean)) (hK : va_K D vwCl (tyL cI cJ) s) (hA : ∀ q, s.heap.size ≤ q → A q) (hX : XT none A s s.heap) {Rr : Int32 × (Nat → Int64) × (Nat → Int64) × (Nat → Int64) × (Nat → Int64) × (Nat → Int64) × Int32 × Int32 × Int32 × Int32 × Int32} (n : Nat) : ∀  (v_base : Nat → Int64) (v_rises : Nat → Int64) (v_marks : Nat → Int64) (v_closedJ : Nat → Int64) (v_closedL : Nat → Int64) (v_firstJ : Int32) (v_firstL : Int32) (v_firstA : Int32) (v_firstB : Int32) (v_firstRank : Int32) (H : Heap) (locs : List Loc) (ls : Array Slot), St D A s (w_X9_seeks cI cJ h h_base h_rises h_marks h_closedJ h_closedL h_table g2 g3 g4 g16 g17 g18 g19 g20 g21 g22 g23 g24 g25 g26 v_points v_faces v_table v_base v_rises v_marks v_closedJ v_closedL v_firstJ v_firstL v_firstA v_firstB v_firstRank) H locs → lv_has ls 1 [(0, .ref h)] → f_X9_seeks_5 v_points v_faces v_table n v_base v_rises v_marks v_closedJ v_closedL v_firstJ v_firstL v_firstA v_firstB v_firstRank = some Rr → W p l e rm_X9_seeks s m args below meth c H locs 0 0 (MQ below (QI D cI cJ A (w_X9_seeks cI cJ h h_base h_rises h_marks h_closedJ h_closedL h_table g2 g3 g4 g16 g17 g18 g19 g20 g21 g22 g23 g24 g25 g26 v_points v_faces v_table Rr.2.1 Rr.2.2.1 Rr.2.2.2.1 Rr.2.2.2.2.1 Rr.2.2.2.2.2.1 Rr.2.2.2.2.2.2.1 Rr.2.2.2.2.2.2.2.1 Rr.2.2.2.2.2.2.2.2.1 Rr.2.2.2.2.2.2.2.2.2.1 Rr.2.2.2.2.2.2.2.2.2.2) Rr.1) args s 0 0 A) (F0 m 5 ls []) := by
  have hx := C0.1.1
  have hb := C0.1.2.1
  induction n with
  | zero => intro v_base v_rises v_marks v_closedJ v_closedL v_firstJ v_firstL v_firstA v_firstB v_firstRank H locs ls hSt hl hf; exact nomatch (show (none : Option _) = some Rr from hf)
  | succ n ih =>
    intro v_base v_rises v_marks v_closedJ v_closedL v_firstJ v_firstL v_firstA v_firstB v_firstRank H locs ls hSt hl hf
    unfold f_X9_seeks_5 at hf
    refine lv_aload_n hx hb dX9_seeks_5 rfl (lv_at hl 0 rfl) ?_
    refine hb_get C0 hK hSt 0 8 10 rfl rfl iu_X9_seeks_X9 (by decide) fl_X9_seeks_159 rfl dX9_seeks_6 ?_
    refine lv_aload_n hx hb dX9_seeks_9 rfl (lv_at hl 0 rfl) ?_
    obtain ⟨R1, hR1, hf⟩ := Option.bind_eq_some_iff.mp hf
    have sp : Sp (w_X9_seeks cI cJ h h_base h_rises h_marks h_closedJ h_closedL h_table g2 g3 g4 g16 g17 g18 g19 g20 g21 g22 g23 g24 g25 g26 v_points v_faces v_table v_base v_rises v_marks v_closedJ v_closedL v_firstJ v_firstL v_firstA v_firstB v_firstRank) (w_X9_all cI cJ h (.long v_faces) g2 g3 g4 (.ref h_base) (.ref h_rises) (.ref h_marks) (.ref h_closedJ) (.ref h_closedL) (.int v_firstJ) (.int v_firstL) (.int v_firstA) (.int v_firstB) (.int v_firstRank) (.ref h_table) g16 g17 g18 g19 g20 g21 g22 g23 g24 g25 g26 v_points) (w_X9_all cI cJ h (.long v_faces) g2 g3 g4 (.ref h_base) (.ref h_rises) (.ref h_marks) (.ref h_closedJ) (.ref h_closedL) (.int v_firstJ) (.int v_firstL) (.int v_firstA) (.int v_firstB) (.int v_firstRank) (.ref h_table) g16 g17 g18 g19 g20 g21 g22 g23 g24 g25 g26 v_points) (w_X9_seeks cI cJ h h_base h_rises h_marks h_closedJ h_closedL h_table g2 g3 g4 g16 g17 g18 g19 g20 g21 g22 g23 g24 g25 g26 v_points v_faces v_table v_base v_rises v_marks v_closedJ v_closedL v_firstJ v_firstL v_firstA v_firstB v_firstRank) [0] [1, 2, 3, 4, 5, 6] [6, 0, 1, 2, 3, 4, 5] := ⟨rfl, rfl, rfl, by decide, by decide, by decide, by decide⟩
    refine hb_ci (hb_rV (As := []) (rest := [.int v_firstJ]) C0 hK hA XT.nn hSt sp (c_X9_all l D cI cJ h (.long v_faces) g2 g3 g4 (.ref h_base) (.ref h_rises) (.ref h_marks) (.ref h_closedJ) (.ref h_closedL) (.int v_firstJ) (.int v_firstL) (.int v_firstA) (.int v_firstB) (.int v_firstRank) (.ref h_table) g16 g17 g18 g19 g20 g21 g22 g23 g24 g25 g26   v_points R1 hR1) gX9_seeks_X9_all rfl ⟨rfl, rfl⟩ hd_X9_all ⟨Nat.le_of_ble_eq_true rfl, Nat.le_of_ble_eq_true rfl⟩ 0 8 rfl rfl rfl hl rfl (Nat.le_of_ble_eq_true rfl) dX9_seeks_10 ⟨Nat.zero_le _, Nat.zero_le _⟩) hA hSt sp (fun H locs hSt => ?_)
    refine lv_icmp_gt (tgt := 218) hx hb dX9_seeks_13 (by decide) (fun cc => ?_) (fun cc => ?_)
    · have hf := ite_t hf cc
      refine lv_iconst (v := 0) hx hb dX9_seeks_218 (by decide) ?_
      cases hf
      exact hb_zret C0 hK hSt nb0.1 dX9_seeks_219
    · have hf := ite_f hf cc
      refine lv_aload_n hx hb dX9_seeks_16 rfl (lv_at hl 0 rfl) ?_
      refine lv_aload_n hx hb dX9_seeks_17 rfl (lv_at hl 0 rfl) ?_
      refine hb_get C0 hK hSt 0 8 10 rfl rfl iu_X9_seeks_X9 (by decide) fl_X9_seeks_159 rfl dX9_seeks_18 ?_
      refine lv_iconst (v := 1) hx hb dX9_seeks_21 (by decide) ?_
      refine lv_iadd hx hb dX9_seeks_22 ?_
      refine hb_put C0 hK hSt 0 8 11 rfl rfl iu_X9_seeks_X9 tyX9 tyX9_ok nmX9 (by decide) fl_X9_seeks_162 rfl rfl rfl (Nat.le_of_ble_eq_true rfl) (w' := w_X9_seeks cI cJ h h_base h_rises h_marks h_closedJ h_closedL h_table g2 g3 g4 g16 g17 g18 g19 g20 g21 g22 g23 g24 g25 g26 v_points v_faces v_table v_base v_rises v_marks v_closedJ v_closedL v_firstJ (v_firstJ + (1 : Int32)) v_firstA v_firstB v_firstRank) rfl dX9_seeks_23 (fun H locs hSt => ?_)
      exact k_X9_seeks_26 C0 hK hA hX ih FU v_base v_rises v_marks v_closedJ v_closedL v_firstJ (v_firstJ + (1 : Int32)) v_firstA v_firstB v_firstRank _ _ _ hSt (lv_sub hl [0] rfl) hf
def f_X9_seeks_0 (v_points : Int32) (v_faces : Int64) (v_table : Nat → Int32)   (v_base : Nat → Int64) (v_rises : Nat → Int64) (v_marks : Nat → Int64) (v_closedJ : Nat → Int64) (v_closedL : Nat → Int64) (v_firstJ : Int32) (v_firstL : Int32) (v_firstA : Int32) (v_firstB : Int32) (v_firstRank : Int32) : Option (Int32 × (Nat → Int64) × (Nat → Int64) × (Nat → Int64) × (Nat → Int64) × (Nat → Int64) × Int32 × Int32 × Int32 × Int32 × Int32) := f_X9_seeks_5 v_points v_faces v_table  FU v_base v_rises v_marks v_closedJ v_closedL (1 : Int32) v_firstL v_firstA v_firstB v_firstRank
set_option maxHeartbeats 4000000 in
set_option maxRecDepth 100000 in
theorem k_X9_seeks_0 {p : Program} {l : Launch} {e : Env} {s : State} {m : MethodId} {args : Array Value} {below : List Frame} {meth : Method} {c : Code} {A : Nat → Prop} {D : va_G} {cI cJ : ClassId} {h h_base h_rises h_marks h_closedJ h_closedL h_table : Nat} {g2 g3 g4 g16 g17 g18 g19 g20 g21 g22 g23 g24 g25 g26 : Value} {v_points : Int32} {v_faces : Int64} {v_table : Nat → Int32} (C0 : Cx p s m args meth c cX9_seeks wsX9_seeks RX9 1 (some .boolean)) (hK : va_K D vwCl (tyL cI cJ) s) (hA : ∀ q, s.heap.size ≤ q → A q) (hX : XT none A s s.heap) {Rr : Int32 × (Nat → Int64) × (Nat → Int64) × (Nat → Int64) × (Nat → Int64) × (Nat → Int64) × Int32 × Int32 × Int32 × Int32 × Int32} : ∀  (v_base : Nat → Int64) (v_rises : Nat → Int64) (v_marks : Nat → Int64) (v_closedJ : Nat → Int64) (v_closedL : Nat → Int64) (v_firstJ : Int32) (v_firstL : Int32) (v_firstA : Int32) (v_firstB : Int32) (v_firstRank : Int32) (H : Heap) (locs : List Loc) (ls : Array Slot), St D A s (w_X9_seeks cI cJ h h_base h_rises h_marks h_closedJ h_closedL h_table g2 g3 g4 g16 g17 g18 g19 g20 g21 g22 g23 g24 g25 g26 v_points v_faces v_table v_base v_rises v_marks v_closedJ v_closedL v_firstJ v_firstL v_firstA v_firstB v_firstRank) H locs → lv_has ls 1 [(0, .ref h)] → f_X9_seeks_0 v_points v_faces v_table v_base v_rises v_marks v_closedJ v_closedL v_firstJ v_firstL v_firstA v_firstB v_firstRank = some Rr → W p l e rm_X9_seeks s m args below meth c H locs 0 0 (MQ below (QI D cI cJ A (w_X9_seeks cI cJ h h_base h_rises h_marks h_closedJ h_closedL h_table g2 g3 g4 g16 g17 g18 g19 g20 g21 g22 g23 g24 g25 g26 v_points v_faces v_table Rr.2.1 Rr.2.2.1 Rr.2.2.2.1 Rr.2.2.2.2.1 Rr.2.2.2.2.2.1 Rr.2.2.2.2.2.2.1 Rr.2.2.2.2.2.2.2.1 Rr.2.2.2.2.2.2.2.2.1 Rr.2.2.2.2.2.2.2.2.2.1 Rr.2.2.2.2.2.2.2.2.2.2) Rr.1) args s 0 0 A) (F0 m 0 ls []) := by
  have hx := C0.1.1
  have hb := C0.1.2.1
  intro v_base v_rises v_marks v_closedJ v_closedL v_firstJ v_firstL v_firstA v_firstB v_firstRank H locs ls hSt hl hf
  unfold f_X9_seeks_0 at hf
  refine lv_aload_n hx hb dX9_seeks_0 rfl (lv_at hl 0 rfl) ?_
  refine lv_iconst (v := 1) hx hb dX9_seeks_1 (by decide) ?_
  refine hb_put C0 hK hSt 0 8 10 rfl rfl iu_X9_seeks_X9 tyX9 tyX9_ok nmX9 (by decide) fl_X9_seeks_159 rfl rfl rfl (Nat.le_of_ble_eq_true rfl) (w' := w_X9_seeks cI cJ h h_base h_rises h_marks h_closedJ h_closedL h_table g2 g3 g4 g16 g17 g18 g19 g20 g21 g22 g23 g24 g25 g26 v_points v_faces v_table v_base v_rises v_marks v_closedJ v_closedL (1 : Int32) v_firstL v_firstA v_firstB v_firstRank) rfl dX9_seeks_2 (fun H locs hSt => ?_)
  exact k_X9_seeks_5 C0 hK hA hX  FU v_base v_rises v_marks v_closedJ v_closedL (1 : Int32) v_firstL v_firstA v_firstB v_firstRank _ _ _ hSt (lv_sub hl [0] rfl) hf
def f_X9_seeks (v_points : Int32) (v_faces : Int64) (v_table : Nat → Int32)  (v_base : Nat → Int64) (v_rises : Nat → Int64) (v_marks : Nat → Int64) (v_closedJ : Nat → Int64) (v_closedL : Nat → Int64) (v_firstJ : Int32) (v_firstL : Int32) (v_firstA : Int32) (v_firstB : Int32) (v_firstRank : Int32) : Option (Int32 × (Nat → Int64) × (Nat → Int64) × (Nat → Int64) × (Nat → Int64) × (Nat → Int64) × Int32 × Int32 × Int32 × Int32 × Int32) := f_X9_seeks_0 v_points v_faces v_table v_base v_rises v_marks v_closedJ v_closedL v_firstJ v_firstL v_firstA v_firstB v_firstRank
set_option maxRecDepth 100000 in
theorem c_X9_seeks (l : Launch) (D : va_G) (cI cJ : ClassId) (h h_base h_rises h_marks h_closedJ h_closedL h_table : Nat) (g2 g3 g4 g16 g17 g18 g19 g20 g21 g22 g23 g24 g25 g26 : Value)  (v_points : Int32) (v_faces : Int64) (v_table : Nat → Int32) (v_base : Nat → Int64) (v_rises : Nat → Int64) (v_marks : Nat → Int64) (v_closedJ : Nat → Int64) (v_closedL : Nat → Int64) (v_firstJ : Int32) (v_firstL : Int32) (v_firstA : Int32) (v_firstB : Int32) (v_firstRank : Int32) (Rr : Int32 × (Nat → Int64) × (Nat → Int64) × (Nat → Int64) × (Nat → Int64) × (Nat → Int64) × Int32 × Int32 × Int32 × Int32 × Int32) (hf : f_X9_seeks v_points v_faces v_table v_base v_rises v_marks v_closedJ v_closedL v_firstJ v_firstL v_firstA v_firstB v_firstRank = some Rr) : CtI l yX9_seeks wsX9_seeks rm_X9_seeks D cI cJ none [.ref h] (w_X9_seeks cI cJ h h_base h_rises h_marks h_closedJ h_closedL h_table g2 g3 g4 g16 g17 g18 g19 g20 g21 g22 g23 g24 g25 g26 v_points v_faces v_table v_base v_rises v_marks v_closedJ v_closedL v_firstJ v_firstL v_firstA v_firstB v_firstRank) Rr.1 (w_X9_seeks cI cJ h h_base h_rises h_marks h_closedJ h_closedL h_table g2 g3 g4 g16 g17 g18 g19 g20 g21 g22 g23 g24 g25 g26 v_points v_faces v_table Rr.2.1 Rr.2.2.1 Rr.2.2.2.1 Rr.2.2.2.2.1 Rr.2.2.2.2.2.1 Rr.2.2.2.2.2.2.1 Rr.2.2.2.2.2.2.2.1 Rr.2.2.2.2.2.2.2.2.1 Rr.2.2.2.2.2.2.2.2.2.1 Rr.2.2.2.2.2.2.2.2.2.2) :=
  fun sz => BodyW.met (av := [.ref h]) (Qc := fun A => QI D cI cJ A (w_X9_seeks cI cJ h h_base h_rises h_marks h_closedJ h_closedL h_table g2 g3 g4 g16 g17 g18 g19 g20 g21 g22 g23 g24 g25 g26 v_points v_faces v_table Rr.2.1 Rr.2.2.1 Rr.2.2.2.1 Rr.2.2.2.2.1 Rr.2.2.2.2.2.1 Rr.2.2.2.2.2.2.1 Rr.2.2.2.2.2.2.2.1 Rr.2.2.2.2.2.2.2.2.1 Rr.2.2.2.2.2.2.2.2.2.1 Rr.2.2.2.2.2.2.2.2.2.2) Rr.1) (by decide) rfl rfl (Nat.le_of_ble_eq_true rfl) (fun C0 hK hA hX ls hSt hl => k_X9_seeks_0 C0 hK hA hX  v_base v_rises v_marks v_closedJ v_closedL v_firstJ v_firstL v_firstA v_firstB v_firstRank _ _ ls hSt hl hf) sz
/-! X9 finds -/
abbrev rm_X9_finds : Room := { frames := 5, cells := 0, slots := 0, locals := 133 }
abbrev w_X9_finds (cI cJ : ClassId) (h : Nat) (h_base : Nat) (h_rises : Nat) (h_marks : Nat) (h_closedJ : Nat) (h_closedL : Nat) (h_table : Nat) (g2 : Value) (g3 : Value) (g4 : Value) (g19 : Value) (g20 : Value) (g21 : Value) (g22 : Value) (g23 : Value) (g24 : Value) (g25 : Value) (g26 : Value) (v_points : Int32) (v_faces : Int64) (v_base : Nat → Int64) (v_rises : Nat → Int64) (v_marks : Nat → Int64) (v_closedJ : Nat → Int64) (v_closedL : Nat → Int64) (v_firstJ : Int32) (v_firstL : Int32) (v_firstA : Int32) (v_firstB : Int32) (v_firstRank : Int32) (v_table : Nat → Int32) (v_askedFaces : Int64) (v_askedPoints : Int32) (v_hasFirst : Int32) : va_W := [(h, .inr (8, [.int v_points, .long v_faces, g2, g3, g4, .ref h_base, .ref h_rises, .ref h_marks, .ref h_closedJ, .ref h_closedL, .int v_firstJ, .int v_firstL, .int v_firstA, .int v_firstB, .int v_firstRank, .ref h_table, .long v_askedFaces, .int v_askedPoints, .int v_hasFirst, g19, g20, g21, g22, g23, g24, g25, g26])), (h_base, .inl (cJ, 64, .inr (.inl v_base))), (h_rises, .inl (cJ, 20, .inr (.inl v_rises))), (h_marks, .inl (cJ, 20, .inr (.inl v_marks))), (h_closedJ, .inl (cJ, 20, .inr (.inl v_closedJ))), (h_closedL, .inl (cJ, 20, .inr (.inl v_closedL))), (h_table, .inl (cI, 384, .inl v_table))]
theorem iu_X9_finds_X9 : ∀ w ∈ wsX90, w ∈ wsX9_finds := by decide +kernel
theorem fl_X9_finds_7 : Cond.fieldLink RX9 7 (TX9 0).1 (TX9 0).2.1 (TX9 0).2.2.1 ∈ wsX9_finds := by decide +kernel
theorem fl_X9_finds_13 : Cond.fieldLink RX9 13 (TX9 1).1 (TX9 1).2.1 (TX9 1).2.2.1 ∈ wsX9_finds := by decide +kernel
theorem fl_X9_finds_40 : Cond.fieldLink RX9 40 (TX9 15).1 (TX9 15).2.1 (TX9 15).2.2.1 ∈ wsX9_finds := by decide +kernel
theorem fl_X9_finds_145 : Cond.fieldLink RX9 145 (TX9 17).1 (TX9 17).2.1 (TX9 17).2.2.1 ∈ wsX9_finds := by decide +kernel
theorem fl_X9_finds_148 : Cond.fieldLink RX9 148 (TX9 16).1 (TX9 16).2.1 (TX9 16).2.2.1 ∈ wsX9_finds := by decide +kernel
theorem fl_X9_finds_151 : Cond.fieldLink RX9 151 (TX9 18).1 (TX9 18).2.1 (TX9 18).2.2.1 ∈ wsX9_finds := by decide +kernel
theorem hd_X9_finds : yX9_finds.cls = RX9 ∧ yX9_finds.cls ≠ "java/lang/invoke/MethodHandle" ∧ yX9_finds.cls ≠ "java/lang/invoke/VarHandle" ∧ (parseMethodDescriptor yX9_finds.desc).map (fun d => d.parameters.length) = some 0 := by decide +kernel
def f_X9_finds_56 (v_points : Int32) (v_faces : Int64) (k_46 : Int32 → (Nat → Int64) → (Nat → Int64) → (Nat → Int64) → (Nat → Int64) → (Nat → Int64) → (Int32) → (Int32) → (Int32) → (Int32) → (Int32) → (Nat → Int32) → (Int64) → (Int32) → (Int32) → Option (Int32 × (Nat → Int64) × (Nat → Int64) × (Nat → Int64) × (Nat → Int64) × (Nat → Int64) × Int32 × Int32 × Int32 × Int32 × Int32 × (Nat → Int32) × Int64 × Int32 × Int32)) : Nat → Int32 → Int32 → (Nat → Int64) → (Nat → Int64) → (Nat → Int64) → (Nat → Int64) → (Nat → Int64) → (Int32) → (Int32) → (Int32) → (Int32) → (Int32) → (Nat → Int32) → (Int64) → (Int32) → (Int32) → Option (Int32 × (Nat → Int64) × (Nat → Int64) × (Nat → Int64) × (Nat → Int64) × (Nat → Int64) × Int32 × Int32 × Int32 × Int32 × Int32 × (Nat → Int32) × Int64 × Int32 × Int32)
  | 0, _, _, _, _, _, _, _, _, _, _, _, _, _, _, _, _ => none
  | n + 1, l1, l2, v_base, v_rises, v_marks, v_closedJ, v_closedL, v_firstJ, v_firstL, v_firstA, v_firstB, v_firstRank, v_table, v_askedFaces, v_askedPoints, v_hasFirst => if (6 : Int32) ≤ l2 then k_46 (l1 + 1) v_base v_rises v_marks v_closedJ v_closedL v_firstJ v_firstL v_firstA v_firstB v_firstRank v_table v_askedFaces v_askedPoints v_hasFirst else (f_X9_holesOf v_points v_faces l1 l2 v_base).bind (fun R1 => gd (ix (((6 : Int32) * l1) + l2) 384) ((f_X9_finds_56 v_points v_faces k_46 n) l1 (l2 + 1) R1.2 v_rises v_marks v_closedJ v_closedL v_firstJ v_firstL v_firstA v_firstB v_firstRank (upd v_table (((6 : Int32) * l1) + l2).toNatClampNeg R1.1) v_askedFaces v_askedPoints v_hasFirst))
set_option maxHeartbeats 4000000 in
set_option maxRecDepth 100000 in
theorem k_X9_finds_56 {p : Program} {l : Launch} {e : Env} {s : State} {m : MethodId} {args : Array Value} {below : List Frame} {meth : Method} {c : Code} {A : Nat → Prop} {D : va_G} {cI cJ : ClassId} {h h_base h_rises h_marks h_closedJ h_closedL h_table : Nat} {g2 g3 g4 g19 g20 g21 g22 g23 g24 g25 g26 : Value} {v_points : Int32} {v_faces : Int64} (C0 : Cx p s m args meth c cX9_finds wsX9_finds RX9 3 (some .boolean)) (hK : va_K D vwCl (tyL cI cJ) s) (hA : ∀ q, s.heap.size ≤ q → A q) (hX : XT none A s s.heap) {Rr : Int32 × (Nat → Int64) × (Nat → Int64) × (Nat → Int64) × (Nat → Int64) × (Nat → Int64) × Int32 × Int32 × Int32 × Int32 × Int32 × (Nat → Int32) × Int64 × Int32 × Int32} {k_46 : Int32 → (Nat → Int64) → (Nat → Int64) → (Nat → Int64) → (Nat → Int64) → (Nat → Int64) → (Int32) → (Int32) → (Int32) → (Int32) → (Int32) → (Nat → Int32) → (Int64) → (Int32) → (Int32) → Option (Int32 × (Nat → Int64) × (Nat → Int64) × (Nat → Int64) × (Nat → Int64) × (Nat → Int64) × Int32 × Int32 × Int32 × Int32 × Int32 × (Nat → Int32) × Int64 × Int32 × Int32)} (hk_46 : ∀ (l1 : Int32) (v_base : Nat → Int64) (v_rises : Nat → Int64) (v_marks : Nat → Int64) (v_closedJ : Nat → Int64) (v_closedL : Nat → Int64) (v_firstJ : Int32) (v_firstL : Int32) (v_firstA : Int32) (v_firstB : Int32) (v_firstRank : Int32) (v_table : Nat → Int32) (v_askedFaces : Int64) (v_askedPoints : Int32) (v_hasFirst : Int32) (H : Heap) (locs : List Loc) (ls : Array Slot), St D A s (w_X9_finds cI cJ h h_base h_rises h_marks h_closedJ h_closedL h_table g2 g3 g4 g19 g20 g21 g22 g23 g24 g25 g26 v_points v_faces v_base v_rises v_marks v_closedJ v_closedL v_firstJ v_firstL v_firstA v_firstB v_firstRank v_table v_askedFaces v_askedPoints v_hasFirst) H locs → lv_has ls 3 [(0, .ref h), (1, .int l1)] → k_46 l1 v_base v_rises v_marks v_closedJ v_closedL v_firstJ v_firstL v_firstA v_firstB v_firstRank v_table v_askedFaces v_askedPoints v_hasFirst = some Rr → W p l e rm_X9_finds s m args below meth c H locs 0 0 (MQ below (QI D cI cJ A (w_X9_finds cI cJ h h_base h_rises h_marks h_closedJ h_closedL h_table g2 g3 g4 g19 g20 g21 g22 g23 g24 g25 g26 v_points v_faces Rr.2.1 Rr.2.2.1 Rr.2.2.2.1 Rr.2.2.2.2.1 Rr.2.2.2.2.2.1 Rr.2.2.2.2.2.2.1 Rr.2.2.2.2.2.2.2.1 Rr.2.2.2.2.2.2.2.2.1 Rr.2.2.2.2.2.2.2.2.2.1 Rr.2.2.2.2.2.2.2.2.2.2.1 Rr.2.2.2.2.2.2.2.2.2.2.2.1 Rr.2.2.2.2.2.2.2.2.2.2.2.2.1 Rr.2.2.2.2.2.2.2.2.2.2.2.2.2.1 Rr.2.2.2.2.2.2.2.2.2.2.2.2.2.2) Rr.1) args s 0 0 A) (F0 m 46 ls [])) (n : Nat) : ∀ (l1 : Int32) (l2 : Int32) (v_base : Nat → Int64) (v_rises : Nat → Int64) (v_marks : Nat → Int64) (v_closedJ : Nat → Int64) (v_closedL : Nat → Int64) (v_firstJ : Int32) (v_firstL : Int32) (v_firstA : Int32) (v_firstB : Int32) (v_firstRank : Int32) (v_table : Nat → Int32) (v_askedFaces : Int64) (v_askedPoints : Int32) (v_hasFirst : Int32) (H : Heap) (locs : List Loc) (ls : Array Slot), St D A s (w_X9_finds cI cJ h h_base h_rises h_marks h_closedJ h_closedL h_table g2 g3 g4 g19 g20 g21 g22 g23 g24 g25 g26 v_points v_faces v_base v_rises v_marks v_closedJ v_closedL v_firstJ v_firstL v_firstA v_firstB v_firstRank v_table v_askedFaces v_askedPoints v_hasFirst) H locs → lv_has ls 3 [(0, .ref h), (1, .int l1), (2, .int l2)] → f_X9_finds_56 v_points v_faces k_46 n l1 l2 v_base v_rises v_marks v_closedJ v_closedL v_firstJ v_firstL v_firstA v_firstB v_firstRank v_table v_askedFaces v_askedPoints v_hasFirst = some Rr → W p l e rm_X9_finds s m args below meth c H locs 0 0 (MQ below (QI D cI cJ A (w_X9_finds cI cJ h h_base h_rises h_marks h_closedJ h_closedL h_table g2 g3 g4 g19 g20 g21 g22 g23 g24 g25 g26 v_points v_faces Rr.2.1 Rr.2.2.1 Rr.2.2.2.1 Rr.2.2.2.2.1 Rr.2.2.2.2.2.1 Rr.2.2.2.2.2.2.1 Rr.2.2.2.2.2.2.2.1 Rr.2.2.2.2.2.2.2.2.1 Rr.2.2.2.2.2.2.2.2.2.1 Rr.2.2.2.2.2.2.2.2.2.2.1 Rr.2.2.2.2.2.2.2.2.2.2.2.1 Rr.2.2.2.2.2.2.2.2.2.2.2.2.1 Rr.2.2.2.2.2.2.2.2.2.2.2.2.2.1 Rr.2.2.2.2.2.2.2.2.2.2.2.2.2.2) Rr.1) args s 0 0 A) (F0 m 56 ls []) := by
  have hx := C0.1.1
  have hb := C0.1.2.1
  induction n with
  | zero => intro l1 l2 v_base v_rises v_marks v_closedJ v_closedL v_firstJ v_firstL v_firstA v_firstB v_firstRank v_table v_askedFaces v_askedPoints v_hasFirst H locs ls hSt hl hf; exact nomatch (show (none : Option _) = some Rr from hf)
  | succ n ih =>
    intro l1 l2 v_base v_rises v_marks v_closedJ v_closedL v_firstJ v_firstL v_firstA v_firstB v_firstRank v_table v_askedFaces v_askedPoints v_hasFirst H locs ls hSt hl hf
    unfold f_X9_finds_56 at hf
    refine lv_iload_n hx hb dX9_finds_56 rfl (lv_at hl 2 rfl) ?_
    refine lv_bipush (v := 6) hx hb dX9_finds_57 (by decide) ?_
    refine lv_icmp_ge (tgt := 85) hx hb dX9_finds_59 (by decide) (fun cc => ?_) (fun cc => ?_)
    · have hf := ite_t hf cc
      refine lv_iinc (v := l1 + 1) (lv' := [(1, .int (l1 + 1)), (0, .ref h), (2, .int l2)]) hx hb dX9_finds_85 hl (k := 1) rfl rfl (by decide) rfl (fun ls hl => ?_)
      refine lv_goto (tgt := 46) hx hb dX9_finds_88 (by decide) ?_
      exact hk_46 (l1 + 1) v_base v_rises v_marks v_closedJ v_closedL v_firstJ v_firstL v_firstA v_firstB v_firstRank v_table v_askedFaces v_askedPoints v_hasFirst _ _ _ hSt (lv_sub hl [1, 0] rfl) hf
    · have hf := ite_f hf cc
      refine lv_aload_n hx hb dX9_finds_62 rfl (lv_at hl 0 rfl) ?_
      refine hb_get C0 hK hSt 0 8 15 rfl rfl iu_X9_finds_X9 (by decide) fl_X9_finds_40 rfl dX9_finds_63 ?_
      refine lv_bipush (v := 6) hx hb dX9_finds_66 (by decide) ?_
      refine lv_iload_n hx hb dX9_finds_68 rfl (lv_at hl 1 rfl) ?_
      refine lv_imul hx hb dX9_finds_69 ?_
      refine lv_iload_n hx hb dX9_finds_70 rfl (lv_at hl 2 rfl) ?_
      refine lv_iadd hx hb dX9_finds_71 ?_
      refine lv_aload_n hx hb dX9_finds_72 rfl (lv_at hl 0 rfl) ?_
      refine lv_iload_n hx hb dX9_finds_73 rfl (lv_at hl 1 rfl) ?_
      refine lv_iload_n hx hb dX9_finds_74 rfl (lv_at hl 2 rfl) ?_
      obtain ⟨R1, hR1, hf⟩ := Option.bind_eq_some_iff.mp hf
      have sp : Sp (w_X9_finds cI cJ h h_base h_rises h_marks h_closedJ h_closedL h_table g2 g3 g4 g19 g20 g21 g22 g23 g24 g25 g26 v_points v_faces v_base v_rises v_marks v_closedJ v_closedL v_firstJ v_firstL v_firstA v_firstB v_firstRank v_table v_askedFaces v_askedPoints v_hasFirst) (w_X9_holesOf cI cJ h h_base g2 g3 g4 (.ref h_rises) (.ref h_marks) (.ref h_closedJ) (.ref h_closedL) (.int v_firstJ) (.int v_firstL) (.int v_firstA) (.int v_firstB) (.int v_firstRank) (.ref h_table) (.long v_askedFaces) (.int v_askedPoints) (.int v_hasFirst) g19 g20 g21 g22 g23 g24 g25 g26 v_points v_faces v_base) (w_X9_holesOf cI cJ h h_base g2 g3 g4 (.ref h_rises) (.ref h_marks) (.ref h_closedJ) (.ref h_closedL) (.int v_firstJ) (.int v_firstL) (.int v_firstA) (.int v_firstB) (.int v_firstRank) (.ref h_table) (.long v_askedFaces) (.int v_askedPoints) (.int v_hasFirst) g19 g20 g21 g22 g23 g24 g25 g26 v_points v_faces R1.2) (w_X9_finds cI cJ h h_base h_rises h_marks h_closedJ h_closedL h_table g2 g3 g4 g19 g20 g21 g22 g23 g24 g25 g26 v_points v_faces R1.2 v_rises v_marks v_closedJ v_closedL v_firstJ v_firstL v_firstA v_firstB v_firstRank v_table v_askedFaces v_askedPoints v_hasFirst) [0, 1] [2, 3, 4, 5, 6] [5, 6, 0, 1, 2, 3, 4] := ⟨rfl, rfl, rfl, by decide, by decide, by decide, by decide⟩
      refine hb_ci (hb_rV (As := [.int l1, .int l2]) (rest := [.int (((6 : Int32) * l1) + l2), .ref h_table]) C0 hK hA XT.nn hSt sp (c_X9_holesOf l D cI cJ h h_base g2 g3 g4 (.ref h_rises) (.ref h_marks) (.ref h_closedJ) (.ref h_closedL) (.int v_firstJ) (.int v_firstL) (.int v_firstA) (.int v_firstB) (.int v_firstRank) (.ref h_table) (.long v_askedFaces) (.int v_askedPoints) (.int v_hasFirst) g19 g20 g21 g22 g23 g24 g25 g26  l1 l2 v_points v_faces v_base R1 hR1) gX9_finds_X9_holesOf rfl ⟨rfl, rfl⟩ hd_X9_holesOf ⟨Nat.le_of_ble_eq_true rfl, Nat.le_of_ble_eq_true rfl⟩ 0 8 rfl rfl rfl hl rfl (Nat.le_of_ble_eq_true rfl) dX9_finds_75 ⟨Nat.zero_le _, Nat.zero_le _⟩) hA hSt sp (fun H locs hSt => ?_)
      obtain ⟨hi, hf⟩ := gd_t hf
      refine hb_iast C0 hK hSt 6 rfl hi (w' := w_X9_finds cI cJ h h_base h_rises h_marks h_closedJ h_closedL h_table g2 g3 g4 g19 g20 g21 g22 g23 g24 g25 g26 v_points v_faces R1.2 v_rises v_marks v_closedJ v_closedL v_firstJ v_firstL v_firstA v_firstB v_firstRank (upd v_table (((6 : Int32) * l1) + l2).toNatClampNeg R1.1) v_askedFaces v_askedPoints v_hasFirst) rfl dX9_finds_78 (fun H locs hSt => ?_)
      refine lv_iinc (v := l2 + 1) (lv' := [(2, .int (l2 + 1)), (0, .ref h), (1, .int l1)]) hx hb dX9_finds_79 hl (k := 2) rfl rfl (by decide) rfl (fun ls hl => ?_)
      refine lv_goto (tgt := 56) hx hb dX9_finds_82 (by decide) ?_
      exact ih l1 (l2 + 1) R1.2 v_rises v_marks v_closedJ v_closedL v_firstJ v_firstL v_firstA v_firstB v_firstRank (upd v_table (((6 : Int32) * l1) + l2).toNatClampNeg R1.1) v_askedFaces v_askedPoints v_hasFirst _ _ _ hSt (lv_sub hl [1, 2, 0] rfl) hf
def f_X9_finds_46 (v_points : Int32) (v_faces : Int64)  : Nat → Int32 → (Nat → Int64) → (Nat → Int64) → (Nat → Int64) → (Nat → Int64) → (Nat → Int64) → (Int32) → (Int32) → (Int32) → (Int32) → (Int32) → (Nat → Int32) → (Int64) → (Int32) → (Int32) → Option (Int32 × (Nat → Int64) × (Nat → Int64) × (Nat → Int64) × (Nat → Int64) × (Nat → Int64) × Int32 × Int32 × Int32 × Int32 × Int32 × (Nat → Int32) × Int64 × Int32 × Int32)
  | 0, _, _, _, _, _, _, _, _, _, _, _, _, _, _, _ => none
  | n + 1, l1, v_base, v_rises, v_marks, v_closedJ, v_closedL, v_firstJ, v_firstL, v_firstA, v_firstB, v_firstRank, v_table, v_askedFaces, v_askedPoints, v_hasFirst => (f_X9_all v_points).bind (fun R1 => if R1 < l1 then (f_X9_seeks v_points v_faces v_table v_base v_rises v_marks v_closedJ v_closedL v_firstJ v_firstL v_firstA v_firstB v_firstRank).bind (fun R2 => gd (isb R2.1) (gd (isb R2.1) (some (R2.1, R2.2.1, R2.2.2.1, R2.2.2.2.1, R2.2.2.2.2.1, R2.2.2.2.2.2.1, R2.2.2.2.2.2.2.1, R2.2.2.2.2.2.2.2.1, R2.2.2.2.2.2.2.2.2.1, R2.2.2.2.2.2.2.2.2.2.1, R2.2.2.2.2.2.2.2.2.2.2, v_table, v_askedFaces, v_askedPoints, R2.1)))) else f_X9_finds_56 v_points v_faces (f_X9_finds_46 v_points v_faces n) FU l1 (0 : Int32) v_base v_rises v_marks v_closedJ v_closedL v_firstJ v_firstL v_firstA v_firstB v_firstRank v_table v_askedFaces v_askedPoints v_hasFirst)
set_option maxHeartbeats 4000000 in
set_option maxRecDepth 100000 in
theorem k_X9_finds_46 {p : Program} {l : Launch} {e : Env} {s : State} {m : MethodId} {args : Array Value} {below : List Frame} {meth : Method} {c : Code} {A : Nat → Prop} {D : va_G} {cI cJ : ClassId} {h h_base h_rises h_marks h_closedJ h_closedL h_table : Nat} {g2 g3 g4 g19 g20 g21 g22 g23 g24 g25 g26 : Value} {v_points : Int32} {v_faces : Int64} (C0 : Cx p s m args meth c cX9_finds wsX9_finds RX9 3 (some .boolean)) (hK : va_K D vwCl (tyL cI cJ) s) (hA : ∀ q, s.heap.size ≤ q → A q) (hX : XT none A s s.heap) {Rr : Int32 × (Nat → Int64) × (Nat → Int64) × (Nat → Int64) × (Nat → Int64) × (Nat → Int64) × Int32 × Int32 × Int32 × Int32 × Int32 × (Nat → Int32) × Int64 × Int32 × Int32} (n : Nat) : ∀ (l1 : Int32) (v_base : Nat → Int64) (v_rises : Nat → Int64) (v_marks : Nat → Int64) (v_closedJ : Nat → Int64) (v_closedL : Nat → Int64) (v_firstJ : Int32) (v_firstL : Int32) (v_firstA : Int32) (v_firstB : Int32) (v_firstRank : Int32) (v_table : Nat → Int32) (v_askedFaces : Int64) (v_askedPoints : Int32) (v_hasFirst : Int32) (H : Heap) (locs : List Loc) (ls : Array Slot), St D A s (w_X9_finds cI cJ h h_base h_rises h_marks h_closedJ h_closedL h_table g2 g3 g4 g19 g20 g21 g22 g23 g24 g25 g26 v_points v_faces v_base v_rises v_marks v_closedJ v_closedL v_firstJ v_firstL v_firstA v_firstB v_firstRank v_table v_askedFaces v_askedPoints v_hasFirst) H locs → lv_has ls 3 [(0, .ref h), (1, .int l1)] → f_X9_finds_46 v_points v_faces n l1 v_base v_rises v_marks v_closedJ v_closedL v_firstJ v_firstL v_firstA v_firstB v_firstRank v_table v_askedFaces v_askedPoints v_hasFirst = some Rr → W p l e rm_X9_finds s m args below meth c H locs 0 0 (MQ below (QI D cI cJ A (w_X9_finds cI cJ h h_base h_rises h_marks h_closedJ h_closedL h_table g2 g3 g4 g19 g20 g21 g22 g23 g24 g25 g26 v_points v_faces Rr.2.1 Rr.2.2.1 Rr.2.2.2.1 Rr.2.2.2.2.1 Rr.2.2.2.2.2.1 Rr.2.2.2.2.2.2.1 Rr.2.2.2.2.2.2.2.1 Rr.2.2.2.2.2.2.2.2.1 Rr.2.2.2.2.2.2.2.2.2.1 Rr.2.2.2.2.2.2.2.2.2.2.1 Rr.2.2.2.2.2.2.2.2.2.2.2.1 Rr.2.2.2.2.2.2.2.2.2.2.2.2.1 Rr.2.2.2.2.2.2.2.2.2.2.2.2.2.1 Rr.2.2.2.2.2.2.2.2.2.2.2.2.2.2) Rr.1) args s 0 0 A) (F0 m 46 ls []) := by
  have hx := C0.1.1
  have hb := C0.1.2.1
  induction n with
  | zero => intro l1 v_base v_rises v_marks v_closedJ v_closedL v_firstJ v_firstL v_firstA v_firstB v_firstRank v_table v_askedFaces v_askedPoints v_hasFirst H locs ls hSt hl hf; exact nomatch (show (none : Option _) = some Rr from hf)
  | succ n ih =>
    intro l1 v_base v_rises v_marks v_closedJ v_closedL v_firstJ v_firstL v_firstA v_firstB v_firstRank v_table v_askedFaces v_askedPoints v_hasFirst H locs ls hSt hl hf
    unfold f_X9_finds_46 at hf
    refine lv_iload_n hx hb dX9_finds_46 rfl (lv_at hl 1 rfl) ?_
    refine lv_aload_n hx hb dX9_finds_47 rfl (lv_at hl 0 rfl) ?_
    obtain ⟨R1, hR1, hf⟩ := Option.bind_eq_some_iff.mp hf
    have sp : Sp (w_X9_finds cI cJ h h_base h_rises h_marks h_closedJ h_closedL h_table g2 g3 g4 g19 g20 g21 g22 g23 g24 g25 g26 v_points v_faces v_base v_rises v_marks v_closedJ v_closedL v_firstJ v_firstL v_firstA v_firstB v_firstRank v_table v_askedFaces v_askedPoints v_hasFirst) (w_X9_all cI cJ h (.long v_faces) g2 g3 g4 (.ref h_base) (.ref h_rises) (.ref h_marks) (.ref h_closedJ) (.ref h_closedL) (.int v_firstJ) (.int v_firstL) (.int v_firstA) (.int v_firstB) (.int v_firstRank) (.ref h_table) (.long v_askedFaces) (.int v_askedPoints) (.int v_hasFirst) g19 g20 g21 g22 g23 g24 g25 g26 v_points) (w_X9_all cI cJ h (.long v_faces) g2 g3 g4 (.ref h_base) (.ref h_rises) (.ref h_marks) (.ref h_closedJ) (.ref h_closedL) (.int v_firstJ) (.int v_firstL) (.int v_firstA) (.int v_firstB) (.int v_firstRank) (.ref h_table) (.long v_askedFaces) (.int v_askedPoints) (.int v_hasFirst) g19 g20 g21 g22 g23 g24 g25 g26 v_points) (w_X9_finds cI cJ h h_base h_rises h_marks h_closedJ h_closedL h_table g2 g3 g4 g19 g20 g21 g22 g23 g24 g25 g26 v_points v_faces v_base v_rises v_marks v_closedJ v_closedL v_firstJ v_firstL v_firstA v_firstB v_firstRank v_table v_askedFaces v_askedPoints v_hasFirst) [0] [1, 2, 3, 4, 5, 6] [6, 0, 1, 2, 3, 4, 5] := ⟨rfl, rfl, rfl, by decide, by decide, by decide, by decide⟩
    refine hb_ci (hb_rV (As := []) (rest := [.int l1]) C0 hK hA XT.nn hSt sp (c_X9_all l D cI cJ h (.long v_faces) g2 g3 g4 (.ref h_base) (.ref h_rises) (.ref h_marks) (.ref h_closedJ) (.ref h_closedL) (.int v_firstJ) (.int v_firstL) (.int v_firstA) (.int v_firstB) (.int v_firstRank) (.ref h_table) (.long v_askedFaces) (.int v_askedPoints) (.int v_hasFirst) g19 g20 g21 g22 g23 g24 g25 g26   v_points R1 hR1) gX9_finds_X9_all rfl ⟨rfl, rfl⟩ hd_X9_all ⟨Nat.le_of_ble_eq_true rfl, Nat.le_of_ble_eq_true rfl⟩ 0 8 rfl rfl rfl hl rfl (Nat.le_of_ble_eq_true rfl) dX9_finds_48 ⟨Nat.zero_le _, Nat.zero_le _⟩) hA hSt sp (fun H locs hSt => ?_)
    refine lv_icmp_gt (tgt := 91) hx hb dX9_finds_51 (by decide) (fun cc => ?_) (fun cc => ?_)
    · have hf := ite_t hf cc
      refine lv_aload_n hx hb dX9_finds_91 rfl (lv_at hl 0 rfl) ?_
      refine lv_aload_n hx hb dX9_finds_92 rfl (lv_at hl 0 rfl) ?_
      obtain ⟨R2, hR2, hf⟩ := Option.bind_eq_some_iff.mp hf
      have sp : Sp (w_X9_finds cI cJ h h_base h_rises h_marks h_closedJ h_closedL h_table g2 g3 g4 g19 g20 g21 g22 g23 g24 g25 g26 v_points v_faces v_base v_rises v_marks v_closedJ v_closedL v_firstJ v_firstL v_firstA v_firstB v_firstRank v_table v_askedFaces v_askedPoints v_hasFirst) (w_X9_seeks cI cJ h h_base h_rises h_marks h_closedJ h_closedL h_table g2 g3 g4 (.long v_askedFaces) (.int v_askedPoints) (.int v_hasFirst) g19 g20 g21 g22 g23 g24 g25 g26 v_points v_faces v_table v_base v_rises v_marks v_closedJ v_closedL v_firstJ v_firstL v_firstA v_firstB v_firstRank) (w_X9_seeks cI cJ h h_base h_rises h_marks h_closedJ h_closedL h_table g2 g3 g4 (.long v_askedFaces) (.int v_askedPoints) (.int v_hasFirst) g19 g20 g21 g22 g23 g24 g25 g26 v_points v_faces v_table R2.2.1 R2.2.2.1 R2.2.2.2.1 R2.2.2.2.2.1 R2.2.2.2.2.2.1 R2.2.2.2.2.2.2.1 R2.2.2.2.2.2.2.2.1 R2.2.2.2.2.2.2.2.2.1 R2.2.2.2.2.2.2.2.2.2.1 R2.2.2.2.2.2.2.2.2.2.2) (w_X9_finds cI cJ h h_base h_rises h_marks h_closedJ h_closedL h_table g2 g3 g4 g19 g20 g21 g22 g23 g24 g25 g26 v_points v_faces R2.2.1 R2.2.2.1 R2.2.2.2.1 R2.2.2.2.2.1 R2.2.2.2.2.2.1 R2.2.2.2.2.2.2.1 R2.2.2.2.2.2.2.2.1 R2.2.2.2.2.2.2.2.2.1 R2.2.2.2.2.2.2.2.2.2.1 R2.2.2.2.2.2.2.2.2.2.2 v_table v_askedFaces v_askedPoints v_hasFirst) [0, 1, 2, 3, 4, 5, 6] [] [0, 1, 2, 3, 4, 5, 6] := ⟨rfl, rfl, rfl, by decide, by decide, by decide, by decide⟩
      refine hb_ci (hb_rV (As := []) (rest := [.ref h]) C0 hK hA XT.nn hSt sp (c_X9_seeks l D cI cJ h h_base h_rises h_marks h_closedJ h_closedL h_table g2 g3 g4 (.long v_askedFaces) (.int v_askedPoints) (.int v_hasFirst) g19 g20 g21 g22 g23 g24 g25 g26   v_points v_faces v_table v_base v_rises v_marks v_closedJ v_closedL v_firstJ v_firstL v_firstA v_firstB v_firstRank R2 hR2) gX9_finds_X9_seeks rfl ⟨rfl, rfl⟩ hd_X9_seeks ⟨Nat.le_of_ble_eq_true rfl, Nat.le_of_ble_eq_true rfl⟩ 0 8 rfl rfl rfl hl rfl (Nat.le_of_ble_eq_true rfl) dX9_finds_93 ⟨Nat.zero_le _, Nat.zero_le _⟩) hA hSt sp (fun H locs hSt => ?_)
      obtain ⟨hz, hf⟩ := gd_t hf
      refine hb_put C0 hK hSt 0 8 18 rfl rfl iu_X9_finds_X9 tyX9 tyX9_ok nmX9 (by decide) fl_X9_finds_151 rfl (isb_n hz).1 (isb_n hz).2 (Nat.le_of_ble_eq_true rfl) (w' := w_X9_finds cI cJ h h_base h_rises h_marks h_closedJ h_closedL h_table g2 g3 g4 g19 g20 g21 g22 g23 g24 g25 g26 v_points v_faces R2.2.1 R2.2.2.1 R2.2.2.2.1 R2.2.2.2.2.1 R2.2.2.2.2.2.1 R2.2.2.2.2.2.2.1 R2.2.2.2.2.2.2.2.1 R2.2.2.2.2.2.2.2.2.1 R2.2.2.2.2.2.2.2.2.2.1 R2.2.2.2.2.2.2.2.2.2.2 v_table v_askedFaces v_askedPoints R2.1) rfl dX9_finds_96 (fun H locs hSt => ?_)
      refine lv_aload_n hx hb dX9_finds_99 rfl (lv_at hl 0 rfl) ?_
      refine hb_get C0 hK hSt 0 8 18 rfl rfl iu_X9_finds_X9 (by decide) fl_X9_finds_151 rfl dX9_finds_100 ?_
      obtain ⟨hz, hf⟩ := gd_t hf
      cases hf
      exact hb_zret C0 hK hSt (isb_n hz).1 dX9_finds_103
    · have hf := ite_f hf cc
      refine lv_iconst (v := 0) hx hb dX9_finds_54 (by decide) ?_
      refine lv_istore_n (lv' := [(2, .int (0 : Int32)), (0, .ref h), (1, .int l1)]) hx hb dX9_finds_55 rfl hl (by decide) rfl (fun ls hl => ?_)
      exact k_X9_finds_56 C0 hK hA hX ih FU l1 (0 : Int32) v_base v_rises v_marks v_closedJ v_closedL v_firstJ v_firstL v_firstA v_firstB v_firstRank v_table v_askedFaces v_askedPoints v_hasFirst _ _ _ hSt (lv_sub hl [1, 2, 0] rfl) hf
def f_X9_finds_28 (v_points : Int32) (v_faces : Int64)   (v_base : Nat → Int64) (v_rises : Nat → Int64) (v_marks : Nat → Int64) (v_closedJ : Nat → Int64) (v_closedL : Nat → Int64) (v_firstJ : Int32) (v_firstL : Int32) (v_firstA : Int32) (v_firstB : Int32) (v_firstRank : Int32) (v_table : Nat → Int32) (v_askedFaces : Int64) (v_askedPoints : Int32) (v_hasFirst : Int32) : Option (Int32 × (Nat → Int64) × (Nat → Int64) × (Nat → Int64) × (Nat → Int64) × (Nat → Int64) × Int32 × Int32 × Int32 × Int32 × Int32 × (Nat → Int32) × Int64 × Int32 × Int32) := f_X9_finds_46 v_points v_faces  FU (0 : Int32) v_base v_rises v_marks v_closedJ v_closedL v_firstJ v_firstL v_firstA v_firstB v_firstRank v_table v_faces v_points v_hasFirst
set_option maxHeartbeats 4000000 in
set_option maxRecDepth 100000 in
theorem k_X9_finds_28 {p : Program} {l : Launch} {e : Env} {s : State} {m : MethodId} {args : Array Value} {below : List Frame} {meth : Method} {c : Code} {A : Nat → Prop} {D : va_G} {cI cJ : ClassId} {h h_base h_rises h_marks h_closedJ h_closedL h_table : Nat} {g2 g3 g4 g19 g20 g21 g22 g23 g24 g25 g26 : Value} {v_points : Int32} {v_faces : Int64} (C0 : Cx p s m args meth c cX9_finds wsX9_finds RX9 3 (some .boolean)) (hK : va_K D vwCl (tyL cI cJ) s) (hA : ∀ q, s.heap.size ≤ q → A q) (hX : XT none A s s.heap) {Rr : Int32 × (Nat → Int64) × (Nat → Int64) × (Nat → Int64) × (Nat → Int64) × (Nat → Int64) × Int32 × Int32 × Int32 × Int32 × Int32 × (Nat → Int32) × Int64 × Int32 × Int32} : ∀  (v_base : Nat → Int64) (v_rises : Nat → Int64) (v_marks : Nat → Int64) (v_closedJ : Nat → Int64) (v_closedL : Nat → Int64) (v_firstJ : Int32) (v_firstL : Int32) (v_firstA : Int32) (v_firstB : Int32) (v_firstRank : Int32) (v_table : Nat → Int32) (v_askedFaces : Int64) (v_askedPoints : Int32) (v_hasFirst : Int32) (H : Heap) (locs : List Loc) (ls : Array Slot), St D A s (w_X9_finds cI cJ h h_base h_rises h_marks h_closedJ h_closedL h_table g2 g3 g4 g19 g20 g21 g22 g23 g24 g25 g26 v_points v_faces v_base v_rises v_marks v_closedJ v_closedL v_firstJ v_firstL v_firstA v_firstB v_firstRank v_table v_askedFaces v_askedPoints v_hasFirst) H locs → lv_has ls 3 [(0, .ref h)] → f_X9_finds_28 v_points v_faces v_base v_rises v_marks v_closedJ v_closedL v_firstJ v_firstL v_firstA v_firstB v_firstRank v_table v_askedFaces v_askedPoints v_hasFirst = some Rr → W p l e rm_X9_finds s m args below meth c H locs 0 0 (MQ below (QI D cI cJ A (w_X9_finds cI cJ h h_base h_rises h_marks h_closedJ h_closedL h_table g2 g3 g4 g19 g20 g21 g22 g23 g24 g25 g26 v_points v_faces Rr.2.1 Rr.2.2.1 Rr.2.2.2.1 Rr.2.2.2.2.1 Rr.2.2.2.2.2.1 Rr.2.2.2.2.2.2.1 Rr.2.2.2.2.2.2.2.1 Rr.2.2.2.2.2.2.2.2.1 Rr.2.2.2.2.2.2.2.2.2.1 Rr.2.2.2.2.2.2.2.2.2.2.1 Rr.2.2.2.2.2.2.2.2.2.2.2.1 Rr.2.2.2.2.2.2.2.2.2.2.2.2.1 Rr.2.2.2.2.2.2.2.2.2.2.2.2.2.1 Rr.2.2.2.2.2.2.2.2.2.2.2.2.2.2) Rr.1) args s 0 0 A) (F0 m 28 ls []) := by
  have hx := C0.1.1
  have hb := C0.1.2.1
  intro v_base v_rises v_marks v_closedJ v_closedL v_firstJ v_firstL v_firstA v_firstB v_firstRank v_table v_askedFaces v_askedPoints v_hasFirst H locs ls hSt hl hf
  unfold f_X9_finds_28 at hf
  refine lv_aload_n hx hb dX9_finds_28 rfl (lv_at hl 0 rfl) ?_
  refine lv_aload_n hx hb dX9_finds_29 rfl (lv_at hl 0 rfl) ?_
  refine hb_get C0 hK hSt 0 8 0 rfl rfl iu_X9_finds_X9 (by decide) fl_X9_finds_7 rfl dX9_finds_30 ?_
  refine hb_put C0 hK hSt 0 8 17 rfl rfl iu_X9_finds_X9 tyX9 tyX9_ok nmX9 (by decide) fl_X9_finds_145 rfl rfl rfl (Nat.le_of_ble_eq_true rfl) (w' := w_X9_finds cI cJ h h_base h_rises h_marks h_closedJ h_closedL h_table g2 g3 g4 g19 g20 g21 g22 g23 g24 g25 g26 v_points v_faces v_base v_rises v_marks v_closedJ v_closedL v_firstJ v_firstL v_firstA v_firstB v_firstRank v_table v_askedFaces v_points v_hasFirst) rfl dX9_finds_33 (fun H locs hSt => ?_)
  refine lv_aload_n hx hb dX9_finds_36 rfl (lv_at hl 0 rfl) ?_
  refine lv_aload_n hx hb dX9_finds_37 rfl (lv_at hl 0 rfl) ?_
  refine hb_get C0 hK hSt 0 8 1 rfl rfl iu_X9_finds_X9 (by decide) fl_X9_finds_13 rfl dX9_finds_38 ?_
  refine hb_put C0 hK hSt 0 8 16 rfl rfl iu_X9_finds_X9 tyX9 tyX9_ok nmX9 (by decide) fl_X9_finds_148 rfl rfl rfl (Nat.le_of_ble_eq_true rfl) (w' := w_X9_finds cI cJ h h_base h_rises h_marks h_closedJ h_closedL h_table g2 g3 g4 g19 g20 g21 g22 g23 g24 g25 g26 v_points v_faces v_base v_rises v_marks v_closedJ v_closedL v_firstJ v_firstL v_firstA v_firstB v_firstRank v_table v_faces v_points v_hasFirst) rfl dX9_finds_41 (fun H locs hSt => ?_)
  refine lv_iconst (v := 0) hx hb dX9_finds_44 (by decide) ?_
  refine lv_istore_n (lv' := [(1, .int (0 : Int32)), (0, .ref h)]) hx hb dX9_finds_45 rfl hl (by decide) rfl (fun ls hl => ?_)
  exact k_X9_finds_46 C0 hK hA hX  FU (0 : Int32) v_base v_rises v_marks v_closedJ v_closedL v_firstJ v_firstL v_firstA v_firstB v_firstRank v_table v_faces v_points v_hasFirst _ _ _ hSt (lv_sub hl [1, 0] rfl) hf
def f_X9_finds_0 (v_points : Int32) (v_faces : Int64)   (v_base : Nat → Int64) (v_rises : Nat → Int64) (v_marks : Nat → Int64) (v_closedJ : Nat → Int64) (v_closedL : Nat → Int64) (v_firstJ : Int32) (v_firstL : Int32) (v_firstA : Int32) (v_firstB : Int32) (v_firstRank : Int32) (v_table : Nat → Int32) (v_askedFaces : Int64) (v_askedPoints : Int32) (v_hasFirst : Int32) : Option (Int32 × (Nat → Int64) × (Nat → Int64) × (Nat → Int64) × (Nat → Int64) × (Nat → Int64) × Int32 × Int32 × Int32 × Int32 × Int32 × (Nat → Int32) × Int64 × Int32 × Int32) := if v_askedPoints = v_points then if v_askedFaces = v_faces then gd (isb v_hasFirst) (some (v_hasFirst, v_base, v_rises, v_marks, v_closedJ, v_closedL, v_firstJ, v_firstL, v_firstA, v_firstB, v_firstRank, v_table, v_askedFaces, v_askedPoints, v_hasFirst)) else f_X9_finds_28 v_points v_faces  v_base v_rises v_marks v_closedJ v_closedL v_firstJ v_firstL v_firstA v_firstB v_firstRank v_table v_askedFaces v_askedPoints v_hasFirst else f_X9_finds_28 v_points v_faces  v_base v_rises v_marks v_closedJ v_closedL v_firstJ v_firstL v_firstA v_firstB v_firstRank v_table v_askedFaces v_askedPoints v_hasFirst
set_option maxHeartbeats 4000000 in
set_option maxRecDepth 100000 in
theorem k_X9_finds_0 {p : Program} {l : Launch} {e : Env} {s : State} {m : MethodId} {args : Array Value} {below : List Frame} {meth : Method} {c : Code} {A : Nat → Prop} {D : va_G} {cI cJ : ClassId} {h h_base h_rises h_marks h_closedJ h_closedL h_table : Nat} {g2 g3 g4 g19 g20 g21 g22 g23 g24 g25 g26 : Value} {v_points : Int32} {v_faces : Int64} (C0 : Cx p s m args meth c cX9_finds wsX9_finds RX9 3 (some .boolean)) (hK : va_K D vwCl (tyL cI cJ) s) (hA : ∀ q, s.heap.size ≤ q → A q) (hX : XT none A s s.heap) {Rr : Int32 × (Nat → Int64) × (Nat → Int64) × (Nat → Int64) × (Nat → Int64) × (Nat → Int64) × Int32 × Int32 × Int32 × Int32 × Int32 × (Nat → Int32) × Int64 × Int32 × Int32} : ∀  (v_base : Nat → Int64) (v_rises : Nat → Int64) (v_marks : Nat → Int64) (v_closedJ : Nat → Int64) (v_closedL : Nat → Int64) (v_firstJ : Int32) (v_firstL : Int32) (v_firstA : Int32) (v_firstB : Int32) (v_firstRank : Int32) (v_table : Nat → Int32) (v_askedFaces : Int64) (v_askedPoints : Int32) (v_hasFirst : Int32) (H : Heap) (locs : List Loc) (ls : Array Slot), St D A s (w_X9_finds cI cJ h h_base h_rises h_marks h_closedJ h_closedL h_table g2 g3 g4 g19 g20 g21 g22 g23 g24 g25 g26 v_points v_faces v_base v_rises v_marks v_closedJ v_closedL v_firstJ v_firstL v_firstA v_firstB v_firstRank v_table v_askedFaces v_askedPoints v_hasFirst) H locs → lv_has ls 3 [(0, .ref h)] → f_X9_finds_0 v_points v_faces v_base v_rises v_marks v_closedJ v_closedL v_firstJ v_firstL v_firstA v_firstB v_firstRank v_table v_askedFaces v_askedPoints v_hasFirst = some Rr → W p l e rm_X9_finds s m args below meth c H locs 0 0 (MQ below (QI D cI cJ A (w_X9_finds cI cJ h h_base h_rises h_marks h_closedJ h_closedL h_table g2 g3 g4 g19 g20 g21 g22 g23 g24 g25 g26 v_points v_faces Rr.2.1 Rr.2.2.1 Rr.2.2.2.1 Rr.2.2.2.2.1 Rr.2.2.2.2.2.1 Rr.2.2.2.2.2.2.1 Rr.2.2.2.2.2.2.2.1 Rr.2.2.2.2.2.2.2.2.1 Rr.2.2.2.2.2.2.2.2.2.1 Rr.2.2.2.2.2.2.2.2.2.2.1 Rr.2.2.2.2.2.2.2.2.2.2.2.1 Rr.2.2.2.2.2.2.2.2.2.2.2.2.1 Rr.2.2.2.2.2.2.2.2.2.2.2.2.2.1 Rr.2.2.2.2.2.2.2.2.2.2.2.2.2.2) Rr.1) args s 0 0 A) (F0 m 0 ls []) := by
  have hx := C0.1.1
  have hb := C0.1.2.1
  intro v_base v_rises v_marks v_closedJ v_closedL v_firstJ v_firstL v_firstA v_firstB v_firstRank v_table v_askedFaces v_askedPoints v_hasFirst H locs ls hSt hl hf
  unfold f_X9_finds_0 at hf
  refine lv_aload_n hx hb dX9_finds_0 rfl (lv_at hl 0 rfl) ?_
  refine hb_get C0 hK hSt 0 8 17 rfl rfl iu_X9_finds_X9 (by decide) fl_X9_finds_145 rfl dX9_finds_1 ?_
  refine lv_aload_n hx hb dX9_finds_4 rfl (lv_at hl 0 rfl) ?_
  refine hb_get C0 hK hSt 0 8 0 rfl rfl iu_X9_finds_X9 (by decide) fl_X9_finds_7 rfl dX9_finds_5 ?_
  refine lv_icmp_ne (tgt := 28) hx hb dX9_finds_8 (by decide) (fun cc => ?_) (fun cc => ?_)
  · have hf := ite_f hf cc
    exact k_X9_finds_28 C0 hK hA hX  v_base v_rises v_marks v_closedJ v_closedL v_firstJ v_firstL v_firstA v_firstB v_firstRank v_table v_askedFaces v_askedPoints v_hasFirst _ _ _ hSt (lv_sub hl [0] rfl) hf
  · have hf := ite_t hf cc
    refine lv_aload_n hx hb dX9_finds_11 rfl (lv_at hl 0 rfl) ?_
    refine hb_get C0 hK hSt 0 8 16 rfl rfl iu_X9_finds_X9 (by decide) fl_X9_finds_148 rfl dX9_finds_12 ?_
    refine lv_aload_n hx hb dX9_finds_15 rfl (lv_at hl 0 rfl) ?_
    refine hb_get C0 hK hSt 0 8 1 rfl rfl iu_X9_finds_X9 (by decide) fl_X9_finds_13 rfl dX9_finds_16 ?_
    refine W.lcmp hx hb dX9_finds_19 ?_
    refine lv_if_ne (tgt := 28) hx hb dX9_finds_20 (by decide) (fun cc => ?_) (fun cc => ?_)
    · have hf := ite_f hf (lc_f cc)
      exact k_X9_finds_28 C0 hK hA hX  v_base v_rises v_marks v_closedJ v_closedL v_firstJ v_firstL v_firstA v_firstB v_firstRank v_table v_askedFaces v_askedPoints v_hasFirst _ _ _ hSt (lv_sub hl [0] rfl) hf
    · have hf := ite_t hf (lc_t cc)
      refine lv_aload_n hx hb dX9_finds_23 rfl (lv_at hl 0 rfl) ?_
      refine hb_get C0 hK hSt 0 8 18 rfl rfl iu_X9_finds_X9 (by decide) fl_X9_finds_151 rfl dX9_finds_24 ?_
      obtain ⟨hz, hf⟩ := gd_t hf
      cases hf
      exact hb_zret C0 hK hSt (isb_n hz).1 dX9_finds_27
def f_X9_finds (v_points : Int32) (v_faces : Int64)  (v_base : Nat → Int64) (v_rises : Nat → Int64) (v_marks : Nat → Int64) (v_closedJ : Nat → Int64) (v_closedL : Nat → Int64) (v_firstJ : Int32) (v_firstL : Int32) (v_firstA : Int32) (v_firstB : Int32) (v_firstRank : Int32) (v_table : Nat → Int32) (v_askedFaces : Int64) (v_askedPoints : Int32) (v_hasFirst : Int32) : Option (Int32 × (Nat → Int64) × (Nat → Int64) × (Nat → Int64) × (Nat → Int64) × (Nat → Int64) × Int32 × Int32 × Int32 × Int32 × Int32 × (Nat → Int32) × Int64 × Int32 × Int32) := f_X9_finds_0 v_points v_faces v_base v_rises v_marks v_closedJ v_closedL v_firstJ v_firstL v_firstA v_firstB v_firstRank v_table v_askedFaces v_askedPoints v_hasFirst
set_option maxRecDepth 100000 in
theorem c_X9_finds (l : Launch) (D : va_G) (cI cJ : ClassId) (h h_base h_rises h_marks h_closedJ h_closedL h_table : Nat) (g2 g3 g4 g19 g20 g21 g22 g23 g24 g25 g26 : Value)  (v_points : Int32) (v_faces : Int64) (v_base : Nat → Int64) (v_rises : Nat → Int64) (v_marks : Nat → Int64) (v_closedJ : Nat → Int64) (v_closedL : Nat → Int64) (v_firstJ : Int32) (v_firstL : Int32) (v_firstA : Int32) (v_firstB : Int32) (v_firstRank : Int32) (v_table : Nat → Int32) (v_askedFaces : Int64) (v_askedPoints : Int32) (v_hasFirst : Int32) (Rr : Int32 × (Nat → Int64) × (Nat → Int64) × (Nat → Int64) × (Nat → Int64) × (Nat → Int64) × Int32 × Int32 × Int32 × Int32 × Int32 × (Nat → Int32) × Int64 × Int32 × Int32) (hf : f_X9_finds v_points v_faces v_base v_rises v_marks v_closedJ v_closedL v_firstJ v_firstL v_firstA v_firstB v_firstRank v_table v_askedFaces v_askedPoints v_hasFirst = some Rr) : CtI l yX9_finds wsX9_finds rm_X9_finds D cI cJ none [.ref h] (w_X9_finds cI cJ h h_base h_rises h_marks h_closedJ h_closedL h_table g2 g3 g4 g19 g20 g21 g22 g23 g24 g25 g26 v_points v_faces v_base v_rises v_marks v_closedJ v_closedL v_firstJ v_firstL v_firstA v_firstB v_firstRank v_table v_askedFaces v_askedPoints v_hasFirst) Rr.1 (w_X9_finds cI cJ h h_base h_rises h_marks h_closedJ h_closedL h_table g2 g3 g4 g19 g20 g21 g22 g23 g24 g25 g26 v_points v_faces Rr.2.1 Rr.2.2.1 Rr.2.2.2.1 Rr.2.2.2.2.1 Rr.2.2.2.2.2.1 Rr.2.2.2.2.2.2.1 Rr.2.2.2.2.2.2.2.1 Rr.2.2.2.2.2.2.2.2.1 Rr.2.2.2.2.2.2.2.2.2.1 Rr.2.2.2.2.2.2.2.2.2.2.1 Rr.2.2.2.2.2.2.2.2.2.2.2.1 Rr.2.2.2.2.2.2.2.2.2.2.2.2.1 Rr.2.2.2.2.2.2.2.2.2.2.2.2.2.1 Rr.2.2.2.2.2.2.2.2.2.2.2.2.2.2) :=
  fun sz => BodyW.met (av := [.ref h]) (Qc := fun A => QI D cI cJ A (w_X9_finds cI cJ h h_base h_rises h_marks h_closedJ h_closedL h_table g2 g3 g4 g19 g20 g21 g22 g23 g24 g25 g26 v_points v_faces Rr.2.1 Rr.2.2.1 Rr.2.2.2.1 Rr.2.2.2.2.1 Rr.2.2.2.2.2.1 Rr.2.2.2.2.2.2.1 Rr.2.2.2.2.2.2.2.1 Rr.2.2.2.2.2.2.2.2.1 Rr.2.2.2.2.2.2.2.2.2.1 Rr.2.2.2.2.2.2.2.2.2.2.1 Rr.2.2.2.2.2.2.2.2.2.2.2.1 Rr.2.2.2.2.2.2.2.2.2.2.2.2.1 Rr.2.2.2.2.2.2.2.2.2.2.2.2.2.1 Rr.2.2.2.2.2.2.2.2.2.2.2.2.2.2) Rr.1) (by decide) rfl rfl (Nat.le_of_ble_eq_true rfl) (fun C0 hK hA hX ls hSt hl => k_X9_finds_0 C0 hK hA hX  v_base v_rises v_marks v_closedJ v_closedL v_firstJ v_firstL v_firstA v_firstB v_firstRank v_table v_askedFaces v_askedPoints v_hasFirst _ _ ls hSt hl hf) sz
