/-! X9 first -/
abbrev rm_X9_first : Room := { frames := 6, cells := 0, slots := 0, locals := 155 }
abbrev w_X9_first (cI cJ : ClassId) (h : Nat) (h_base : Nat) (h_rises : Nat) (h_marks : Nat) (h_closedJ : Nat) (h_closedL : Nat) (h_table : Nat) (g2 : Value) (g3 : Value) (g4 : Value) (g19 : Value) (g20 : Value) (g21 : Value) (g22 : Value) (g23 : Value) (g24 : Value) (g25 : Value) (g26 : Value) (v_points : Int32) (v_faces : Int64) (v_base : Nat → Int64) (v_rises : Nat → Int64) (v_marks : Nat → Int64) (v_closedJ : Nat → Int64) (v_closedL : Nat → Int64) (v_firstJ : Int32) (v_firstL : Int32) (v_firstA : Int32) (v_firstB : Int32) (v_firstRank : Int32) (v_table : Nat → Int32) (v_askedFaces : Int64) (v_askedPoints : Int32) (v_hasFirst : Int32) : va_W := [(h, .inr (8, [.int v_points, .long v_faces, g2, g3, g4, .ref h_base, .ref h_rises, .ref h_marks, .ref h_closedJ, .ref h_closedL, .int v_firstJ, .int v_firstL, .int v_firstA, .int v_firstB, .int v_firstRank, .ref h_table, .long v_askedFaces, .int v_askedPoints, .int v_hasFirst, g19, g20, g21, g22, g23, g24, g25, g26])), (h_base, .inl (cJ, 64, .inr (.inl v_base))), (h_rises, .inl (cJ, 20, .inr (.inl v_rises))), (h_marks, .inl (cJ, 20, .inr (.inl v_marks))), (h_closedJ, .inl (cJ, 20, .inr (.inl v_closedJ))), (h_closedL, .inl (cJ, 20, .inr (.inl v_closedL))), (h_table, .inl (cI, 384, .inl v_table))]
theorem iu_X9_first_X9 : ∀ w ∈ wsX90, w ∈ wsX9_first := by decide +kernel
theorem fl_X9_first_159 : Cond.fieldLink RX9 159 (TX9 10).1 (TX9 10).2.1 (TX9 10).2.2.1 ∈ wsX9_first := by decide +kernel
theorem fl_X9_first_162 : Cond.fieldLink RX9 162 (TX9 11).1 (TX9 11).2.1 (TX9 11).2.2.1 ∈ wsX9_first := by decide +kernel
theorem fl_X9_first_165 : Cond.fieldLink RX9 165 (TX9 12).1 (TX9 12).2.1 (TX9 12).2.2.1 ∈ wsX9_first := by decide +kernel
theorem fl_X9_first_168 : Cond.fieldLink RX9 168 (TX9 13).1 (TX9 13).2.1 (TX9 13).2.2.1 ∈ wsX9_first := by decide +kernel
theorem fl_X9_first_171 : Cond.fieldLink RX9 171 (TX9 14).1 (TX9 14).2.1 (TX9 14).2.2.1 ∈ wsX9_first := by decide +kernel
theorem hd_X9_first : yX9_first.cls = RX9 ∧ yX9_first.cls ≠ "java/lang/invoke/MethodHandle" ∧ yX9_first.cls ≠ "java/lang/invoke/VarHandle" ∧ (parseMethodDescriptor yX9_first.desc).map (fun d => d.parameters.length) = some 1 := by decide +kernel
def f_X9_first_0 (v_points : Int32) (v_faces : Int64)  (l1 : Int32) (v_base : Nat → Int64) (v_rises : Nat → Int64) (v_marks : Nat → Int64) (v_closedJ : Nat → Int64) (v_closedL : Nat → Int64) (v_firstJ : Int32) (v_firstL : Int32) (v_firstA : Int32) (v_firstB : Int32) (v_firstRank : Int32) (v_table : Nat → Int32) (v_askedFaces : Int64) (v_askedPoints : Int32) (v_hasFirst : Int32) : Option (Int32 × (Nat → Int64) × (Nat → Int64) × (Nat → Int64) × (Nat → Int64) × (Nat → Int64) × Int32 × Int32 × Int32 × Int32 × Int32 × (Nat → Int32) × Int64 × Int32 × Int32) := (f_X9_isIn l1 (0 : Int32) (4 : Int32)).bind (fun R1 => if R1 = 0 then some ((-1 : Int32), v_base, v_rises, v_marks, v_closedJ, v_closedL, v_firstJ, v_firstL, v_firstA, v_firstB, v_firstRank, v_table, v_askedFaces, v_askedPoints, v_hasFirst) else (f_X9_finds v_points v_faces v_base v_rises v_marks v_closedJ v_closedL v_firstJ v_firstL v_firstA v_firstB v_firstRank v_table v_askedFaces v_askedPoints v_hasFirst).bind (fun R2 => if R2.1 = 0 then some ((-1 : Int32), R2.2.1, R2.2.2.1, R2.2.2.2.1, R2.2.2.2.2.1, R2.2.2.2.2.2.1, R2.2.2.2.2.2.2.1, R2.2.2.2.2.2.2.2.1, R2.2.2.2.2.2.2.2.2.1, R2.2.2.2.2.2.2.2.2.2.1, R2.2.2.2.2.2.2.2.2.2.2.1, R2.2.2.2.2.2.2.2.2.2.2.2.1, R2.2.2.2.2.2.2.2.2.2.2.2.2.1, R2.2.2.2.2.2.2.2.2.2.2.2.2.2.1, R2.2.2.2.2.2.2.2.2.2.2.2.2.2.2) else if l1 = 0 then some (R2.2.2.2.2.2.2.1, R2.2.1, R2.2.2.1, R2.2.2.2.1, R2.2.2.2.2.1, R2.2.2.2.2.2.1, R2.2.2.2.2.2.2.1, R2.2.2.2.2.2.2.2.1, R2.2.2.2.2.2.2.2.2.1, R2.2.2.2.2.2.2.2.2.2.1, R2.2.2.2.2.2.2.2.2.2.2.1, R2.2.2.2.2.2.2.2.2.2.2.2.1, R2.2.2.2.2.2.2.2.2.2.2.2.2.1, R2.2.2.2.2.2.2.2.2.2.2.2.2.2.1, R2.2.2.2.2.2.2.2.2.2.2.2.2.2.2) else if l1 = (1 : Int32) then some (R2.2.2.2.2.2.2.2.1, R2.2.1, R2.2.2.1, R2.2.2.2.1, R2.2.2.2.2.1, R2.2.2.2.2.2.1, R2.2.2.2.2.2.2.1, R2.2.2.2.2.2.2.2.1, R2.2.2.2.2.2.2.2.2.1, R2.2.2.2.2.2.2.2.2.2.1, R2.2.2.2.2.2.2.2.2.2.2.1, R2.2.2.2.2.2.2.2.2.2.2.2.1, R2.2.2.2.2.2.2.2.2.2.2.2.2.1, R2.2.2.2.2.2.2.2.2.2.2.2.2.2.1, R2.2.2.2.2.2.2.2.2.2.2.2.2.2.2) else if l1 = (2 : Int32) then some (R2.2.2.2.2.2.2.2.2.1, R2.2.1, R2.2.2.1, R2.2.2.2.1, R2.2.2.2.2.1, R2.2.2.2.2.2.1, R2.2.2.2.2.2.2.1, R2.2.2.2.2.2.2.2.1, R2.2.2.2.2.2.2.2.2.1, R2.2.2.2.2.2.2.2.2.2.1, R2.2.2.2.2.2.2.2.2.2.2.1, R2.2.2.2.2.2.2.2.2.2.2.2.1, R2.2.2.2.2.2.2.2.2.2.2.2.2.1, R2.2.2.2.2.2.2.2.2.2.2.2.2.2.1, R2.2.2.2.2.2.2.2.2.2.2.2.2.2.2) else if l1 = (3 : Int32) then some (R2.2.2.2.2.2.2.2.2.2.1, R2.2.1, R2.2.2.1, R2.2.2.2.1, R2.2.2.2.2.1, R2.2.2.2.2.2.1, R2.2.2.2.2.2.2.1, R2.2.2.2.2.2.2.2.1, R2.2.2.2.2.2.2.2.2.1, R2.2.2.2.2.2.2.2.2.2.1, R2.2.2.2.2.2.2.2.2.2.2.1, R2.2.2.2.2.2.2.2.2.2.2.2.1, R2.2.2.2.2.2.2.2.2.2.2.2.2.1, R2.2.2.2.2.2.2.2.2.2.2.2.2.2.1, R2.2.2.2.2.2.2.2.2.2.2.2.2.2.2) else some (R2.2.2.2.2.2.2.2.2.2.2.1, R2.2.1, R2.2.2.1, R2.2.2.2.1, R2.2.2.2.2.1, R2.2.2.2.2.2.1, R2.2.2.2.2.2.2.1, R2.2.2.2.2.2.2.2.1, R2.2.2.2.2.2.2.2.2.1, R2.2.2.2.2.2.2.2.2.2.1, R2.2.2.2.2.2.2.2.2.2.2.1, R2.2.2.2.2.2.2.2.2.2.2.2.1, R2.2.2.2.2.2.2.2.2.2.2.2.2.1, R2.2.2.2.2.2.2.2.2.2.2.2.2.2.1, R2.2.2.2.2.2.2.2.2.2.2.2.2.2.2)))
set_option maxHeartbeats 4000000 in
set_option maxRecDepth 100000 in
theorem k_X9_first_0 {p : Program} {l : Launch} {e : Env} {s : State} {m : MethodId} {args : Array Value} {below : List Frame} {meth : Method} {c : Code} {A : Nat → Prop} {D : va_G} {cI cJ : ClassId} {h h_base h_rises h_marks h_closedJ h_closedL h_table : Nat} {g2 g3 g4 g19 g20 g21 g22 g23 g24 g25 g26 : Value} {v_points : Int32} {v_faces : Int64} (C0 : Cx p s m args meth c cX9_first wsX9_first RX9 2 (some .int)) (hK : va_K D vwCl (tyL cI cJ) s) (hA : ∀ q, s.heap.size ≤ q → A q) (hX : XT none A s s.heap) {Rr : Int32 × (Nat → Int64) × (Nat → Int64) × (Nat → Int64) × (Nat → Int64) × (Nat → Int64) × Int32 × Int32 × Int32 × Int32 × Int32 × (Nat → Int32) × Int64 × Int32 × Int32} : ∀ (l1 : Int32) (v_base : Nat → Int64) (v_rises : Nat → Int64) (v_marks : Nat → Int64) (v_closedJ : Nat → Int64) (v_closedL : Nat → Int64) (v_firstJ : Int32) (v_firstL : Int32) (v_firstA : Int32) (v_firstB : Int32) (v_firstRank : Int32) (v_table : Nat → Int32) (v_askedFaces : Int64) (v_askedPoints : Int32) (v_hasFirst : Int32) (H : Heap) (locs : List Loc) (ls : Array Slot), St D A s (w_X9_first cI cJ h h_base h_rises h_marks h_closedJ h_closedL h_table g2 g3 g4 g19 g20 g21 g22 g23 g24 g25 g26 v_points v_faces v_base v_rises v_marks v_closedJ v_closedL v_firstJ v_firstL v_firstA v_firstB v_firstRank v_table v_askedFaces v_askedPoints v_hasFirst) H locs → lv_has ls 2 [(0, .ref h), (1, .int l1)] → f_X9_first_0 v_points v_faces l1 v_base v_rises v_marks v_closedJ v_closedL v_firstJ v_firstL v_firstA v_firstB v_firstRank v_table v_askedFaces v_askedPoints v_hasFirst = some Rr → W p l e rm_X9_first s m args below meth c H locs 0 0 (MQ below (QI D cI cJ A (w_X9_first cI cJ h h_base h_rises h_marks h_closedJ h_closedL h_table g2 g3 g4 g19 g20 g21 g22 g23 g24 g25 g26 v_points v_faces Rr.2.1 Rr.2.2.1 Rr.2.2.2.1 Rr.2.2.2.2.1 Rr.2.2.2.2.2.1 Rr.2.2.2.2.2.2.1 Rr.2.2.2.2.2.2.2.1 Rr.2.2.2.2.2.2.2.2.1 Rr.2.2.2.2.2.2.2.2.2.1 Rr.2.2.2.2.2.2.2.2.2.2.1 Rr.2.2.2.2.2.2.2.2.2.2.2.1 Rr.2.2.2.2.2.2.2.2.2.2.2.2.1 Rr.2.2.2.2.2.2.2.2.2.2.2.2.2.1 Rr.2.2.2.2.2.2.2.2.2.2.2.2.2.2) Rr.1) args s 0 0 A) (F0 m 0 ls []) := by
  have hx := C0.1.1
  have hb := C0.1.2.1
  intro l1 v_base v_rises v_marks v_closedJ v_closedL v_firstJ v_firstL v_firstA v_firstB v_firstRank v_table v_askedFaces v_askedPoints v_hasFirst H locs ls hSt hl hf
  unfold f_X9_first_0 at hf
  refine lv_iload_n hx hb dX9_first_0 rfl (lv_at hl 1 rfl) ?_
  refine lv_iconst (v := 0) hx hb dX9_first_1 (by decide) ?_
  refine lv_iconst (v := 4) hx hb dX9_first_2 (by decide) ?_
  obtain ⟨R1, hR1, hf⟩ := Option.bind_eq_some_iff.mp hf
  have sp : Sp (w_X9_first cI cJ h h_base h_rises h_marks h_closedJ h_closedL h_table g2 g3 g4 g19 g20 g21 g22 g23 g24 g25 g26 v_points v_faces v_base v_rises v_marks v_closedJ v_closedL v_firstJ v_firstL v_firstA v_firstB v_firstRank v_table v_askedFaces v_askedPoints v_hasFirst) (w_X9_isIn cI cJ) (w_X9_isIn cI cJ) (w_X9_first cI cJ h h_base h_rises h_marks h_closedJ h_closedL h_table g2 g3 g4 g19 g20 g21 g22 g23 g24 g25 g26 v_points v_faces v_base v_rises v_marks v_closedJ v_closedL v_firstJ v_firstL v_firstA v_firstB v_firstRank v_table v_askedFaces v_askedPoints v_hasFirst) [] [0, 1, 2, 3, 4, 5, 6] [0, 1, 2, 3, 4, 5, 6] := ⟨rfl, rfl, rfl, by decide, by decide, by decide, by decide⟩
  refine hb_ci (hb_rS (As := [.int l1, .int (0 : Int32), .int (4 : Int32)]) (rest := []) C0 hK hA XT.nn hSt sp (c_X9_isIn l D cI cJ   l1 (0 : Int32) (4 : Int32)  R1 hR1) gX9_first_X9_isIn rfl ⟨rfl, rfl⟩ hd_X9_isIn ⟨Nat.le_of_ble_eq_true rfl, Nat.le_of_ble_eq_true rfl⟩ rfl hl rfl (Nat.le_of_ble_eq_true rfl) dX9_first_3 ⟨Nat.zero_le _, Nat.zero_le _⟩) hA hSt sp (fun H locs hSt => ?_)
  refine lv_if_eq (tgt := 16) hx hb dX9_first_6 (by decide) (fun cc => ?_) (fun cc => ?_)
  · have hf := ite_t hf cc
    refine lv_iconst (v := -1) hx hb dX9_first_16 (by decide) ?_
    cases hf
    exact hb_iret C0 hK hSt dX9_first_17
  · have hf := ite_f hf cc
    refine lv_aload_n hx hb dX9_first_9 rfl (lv_at hl 0 rfl) ?_
    obtain ⟨R2, hR2, hf⟩ := Option.bind_eq_some_iff.mp hf
    have sp : Sp (w_X9_first cI cJ h h_base h_rises h_marks h_closedJ h_closedL h_table g2 g3 g4 g19 g20 g21 g22 g23 g24 g25 g26 v_points v_faces v_base v_rises v_marks v_closedJ v_closedL v_firstJ v_firstL v_firstA v_firstB v_firstRank v_table v_askedFaces v_askedPoints v_hasFirst) (w_X9_finds cI cJ h h_base h_rises h_marks h_closedJ h_closedL h_table g2 g3 g4 g19 g20 g21 g22 g23 g24 g25 g26 v_points v_faces v_base v_rises v_marks v_closedJ v_closedL v_firstJ v_firstL v_firstA v_firstB v_firstRank v_table v_askedFaces v_askedPoints v_hasFirst) (w_X9_finds cI cJ h h_base h_rises h_marks h_closedJ h_closedL h_table g2 g3 g4 g19 g20 g21 g22 g23 g24 g25 g26 v_points v_faces R2.2.1 R2.2.2.1 R2.2.2.2.1 R2.2.2.2.2.1 R2.2.2.2.2.2.1 R2.2.2.2.2.2.2.1 R2.2.2.2.2.2.2.2.1 R2.2.2.2.2.2.2.2.2.1 R2.2.2.2.2.2.2.2.2.2.1 R2.2.2.2.2.2.2.2.2.2.2.1 R2.2.2.2.2.2.2.2.2.2.2.2.1 R2.2.2.2.2.2.2.2.2.2.2.2.2.1 R2.2.2.2.2.2.2.2.2.2.2.2.2.2.1 R2.2.2.2.2.2.2.2.2.2.2.2.2.2.2) (w_X9_first cI cJ h h_base h_rises h_marks h_closedJ h_closedL h_table g2 g3 g4 g19 g20 g21 g22 g23 g24 g25 g26 v_points v_faces R2.2.1 R2.2.2.1 R2.2.2.2.1 R2.2.2.2.2.1 R2.2.2.2.2.2.1 R2.2.2.2.2.2.2.1 R2.2.2.2.2.2.2.2.1 R2.2.2.2.2.2.2.2.2.1 R2.2.2.2.2.2.2.2.2.2.1 R2.2.2.2.2.2.2.2.2.2.2.1 R2.2.2.2.2.2.2.2.2.2.2.2.1 R2.2.2.2.2.2.2.2.2.2.2.2.2.1 R2.2.2.2.2.2.2.2.2.2.2.2.2.2.1 R2.2.2.2.2.2.2.2.2.2.2.2.2.2.2) [0, 1, 2, 3, 4, 5, 6] [] [0, 1, 2, 3, 4, 5, 6] := ⟨rfl, rfl, rfl, by decide, by decide, by decide, by decide⟩
    refine hb_ci (hb_rV (As := []) (rest := []) C0 hK hA XT.nn hSt sp (c_X9_finds l D cI cJ h h_base h_rises h_marks h_closedJ h_closedL h_table g2 g3 g4 g19 g20 g21 g22 g23 g24 g25 g26   v_points v_faces v_base v_rises v_marks v_closedJ v_closedL v_firstJ v_firstL v_firstA v_firstB v_firstRank v_table v_askedFaces v_askedPoints v_hasFirst R2 hR2) gX9_first_X9_finds rfl ⟨rfl, rfl⟩ hd_X9_finds ⟨Nat.le_of_ble_eq_true rfl, Nat.le_of_ble_eq_true rfl⟩ 0 8 rfl rfl rfl hl rfl (Nat.le_of_ble_eq_true rfl) dX9_first_10 ⟨Nat.zero_le _, Nat.zero_le _⟩) hA hSt sp (fun H locs hSt => ?_)
    refine lv_if_ne (tgt := 18) hx hb dX9_first_13 (by decide) (fun cc => ?_) (fun cc => ?_)
    · have hf := ite_f hf cc
      refine lv_iload_n hx hb dX9_first_18 rfl (lv_at hl 1 rfl) ?_
      refine lv_if_ne (tgt := 29) hx hb dX9_first_19 (by decide) (fun cc => ?_) (fun cc => ?_)
      · have hf := ite_f hf cc
        refine lv_iload_n hx hb dX9_first_29 rfl (lv_at hl 1 rfl) ?_
        refine lv_iconst (v := 1) hx hb dX9_first_30 (by decide) ?_
        refine lv_icmp_ne (tgt := 41) hx hb dX9_first_31 (by decide) (fun cc => ?_) (fun cc => ?_)
        · have hf := ite_f hf cc
          refine lv_iload_n hx hb dX9_first_41 rfl (lv_at hl 1 rfl) ?_
          refine lv_iconst (v := 2) hx hb dX9_first_42 (by decide) ?_
          refine lv_icmp_ne (tgt := 53) hx hb dX9_first_43 (by decide) (fun cc => ?_) (fun cc => ?_)
          · have hf := ite_f hf cc
            refine lv_iload_n hx hb dX9_first_53 rfl (lv_at hl 1 rfl) ?_
            refine lv_iconst (v := 3) hx hb dX9_first_54 (by decide) ?_
            refine lv_icmp_ne (tgt := 65) hx hb dX9_first_55 (by decide) (fun cc => ?_) (fun cc => ?_)
            · have hf := ite_f hf cc
              refine lv_aload_n hx hb dX9_first_65 rfl (lv_at hl 0 rfl) ?_
              refine hb_get C0 hK hSt 0 8 14 rfl rfl iu_X9_first_X9 (by decide) fl_X9_first_171 rfl dX9_first_66 ?_
              cases hf
              exact hb_iret C0 hK hSt dX9_first_69
            · have hf := ite_t hf cc
              refine lv_aload_n hx hb dX9_first_58 rfl (lv_at hl 0 rfl) ?_
              refine hb_get C0 hK hSt 0 8 13 rfl rfl iu_X9_first_X9 (by decide) fl_X9_first_168 rfl dX9_first_59 ?_
              refine lv_goto (tgt := 69) hx hb dX9_first_62 (by decide) ?_
              cases hf
              exact hb_iret C0 hK hSt dX9_first_69
          · have hf := ite_t hf cc
            refine lv_aload_n hx hb dX9_first_46 rfl (lv_at hl 0 rfl) ?_
            refine hb_get C0 hK hSt 0 8 12 rfl rfl iu_X9_first_X9 (by decide) fl_X9_first_165 rfl dX9_first_47 ?_
            refine lv_goto (tgt := 69) hx hb dX9_first_50 (by decide) ?_
            cases hf
            exact hb_iret C0 hK hSt dX9_first_69
        · have hf := ite_t hf cc
          refine lv_aload_n hx hb dX9_first_34 rfl (lv_at hl 0 rfl) ?_
          refine hb_get C0 hK hSt 0 8 11 rfl rfl iu_X9_first_X9 (by decide) fl_X9_first_162 rfl dX9_first_35 ?_
          refine lv_goto (tgt := 69) hx hb dX9_first_38 (by decide) ?_
          cases hf
          exact hb_iret C0 hK hSt dX9_first_69
      · have hf := ite_t hf cc
        refine lv_aload_n hx hb dX9_first_22 rfl (lv_at hl 0 rfl) ?_
        refine hb_get C0 hK hSt 0 8 10 rfl rfl iu_X9_first_X9 (by decide) fl_X9_first_159 rfl dX9_first_23 ?_
        refine lv_goto (tgt := 69) hx hb dX9_first_26 (by decide) ?_
        cases hf
        exact hb_iret C0 hK hSt dX9_first_69
    · have hf := ite_t hf cc
      refine lv_iconst (v := -1) hx hb dX9_first_16 (by decide) ?_
      cases hf
      exact hb_iret C0 hK hSt dX9_first_17
def f_X9_first (v_points : Int32) (v_faces : Int64) (l1 : Int32) (v_base : Nat → Int64) (v_rises : Nat → Int64) (v_marks : Nat → Int64) (v_closedJ : Nat → Int64) (v_closedL : Nat → Int64) (v_firstJ : Int32) (v_firstL : Int32) (v_firstA : Int32) (v_firstB : Int32) (v_firstRank : Int32) (v_table : Nat → Int32) (v_askedFaces : Int64) (v_askedPoints : Int32) (v_hasFirst : Int32) : Option (Int32 × (Nat → Int64) × (Nat → Int64) × (Nat → Int64) × (Nat → Int64) × (Nat → Int64) × Int32 × Int32 × Int32 × Int32 × Int32 × (Nat → Int32) × Int64 × Int32 × Int32) := f_X9_first_0 v_points v_faces l1 v_base v_rises v_marks v_closedJ v_closedL v_firstJ v_firstL v_firstA v_firstB v_firstRank v_table v_askedFaces v_askedPoints v_hasFirst
set_option maxRecDepth 100000 in
theorem c_X9_first (l : Launch) (D : va_G) (cI cJ : ClassId) (h h_base h_rises h_marks h_closedJ h_closedL h_table : Nat) (g2 g3 g4 g19 g20 g21 g22 g23 g24 g25 g26 : Value) (l1 : Int32) (v_points : Int32) (v_faces : Int64) (v_base : Nat → Int64) (v_rises : Nat → Int64) (v_marks : Nat → Int64) (v_closedJ : Nat → Int64) (v_closedL : Nat → Int64) (v_firstJ : Int32) (v_firstL : Int32) (v_firstA : Int32) (v_firstB : Int32) (v_firstRank : Int32) (v_table : Nat → Int32) (v_askedFaces : Int64) (v_askedPoints : Int32) (v_hasFirst : Int32) (Rr : Int32 × (Nat → Int64) × (Nat → Int64) × (Nat → Int64) × (Nat → Int64) × (Nat → Int64) × Int32 × Int32 × Int32 × Int32 × Int32 × (Nat → Int32) × Int64 × Int32 × Int32) (hf : f_X9_first v_points v_faces l1 v_base v_rises v_marks v_closedJ v_closedL v_firstJ v_firstL v_firstA v_firstB v_firstRank v_table v_askedFaces v_askedPoints v_hasFirst = some Rr) : CtI l yX9_first wsX9_first rm_X9_first D cI cJ none [.ref h, .int l1] (w_X9_first cI cJ h h_base h_rises h_marks h_closedJ h_closedL h_table g2 g3 g4 g19 g20 g21 g22 g23 g24 g25 g26 v_points v_faces v_base v_rises v_marks v_closedJ v_closedL v_firstJ v_firstL v_firstA v_firstB v_firstRank v_table v_askedFaces v_askedPoints v_hasFirst) Rr.1 (w_X9_first cI cJ h h_base h_rises h_marks h_closedJ h_closedL h_table g2 g3 g4 g19 g20 g21 g22 g23 g24 g25 g26 v_points v_faces Rr.2.1 Rr.2.2.1 Rr.2.2.2.1 Rr.2.2.2.2.1 Rr.2.2.2.2.2.1 Rr.2.2.2.2.2.2.1 Rr.2.2.2.2.2.2.2.1 Rr.2.2.2.2.2.2.2.2.1 Rr.2.2.2.2.2.2.2.2.2.1 Rr.2.2.2.2.2.2.2.2.2.2.1 Rr.2.2.2.2.2.2.2.2.2.2.2.1 Rr.2.2.2.2.2.2.2.2.2.2.2.2.1 Rr.2.2.2.2.2.2.2.2.2.2.2.2.2.1 Rr.2.2.2.2.2.2.2.2.2.2.2.2.2.2) :=
  fun sz => BodyW.met (av := [.ref h, .int l1]) (Qc := fun A => QI D cI cJ A (w_X9_first cI cJ h h_base h_rises h_marks h_closedJ h_closedL h_table g2 g3 g4 g19 g20 g21 g22 g23 g24 g25 g26 v_points v_faces Rr.2.1 Rr.2.2.1 Rr.2.2.2.1 Rr.2.2.2.2.1 Rr.2.2.2.2.2.1 Rr.2.2.2.2.2.2.1 Rr.2.2.2.2.2.2.2.1 Rr.2.2.2.2.2.2.2.2.1 Rr.2.2.2.2.2.2.2.2.2.1 Rr.2.2.2.2.2.2.2.2.2.2.1 Rr.2.2.2.2.2.2.2.2.2.2.2.1 Rr.2.2.2.2.2.2.2.2.2.2.2.2.1 Rr.2.2.2.2.2.2.2.2.2.2.2.2.2.1 Rr.2.2.2.2.2.2.2.2.2.2.2.2.2.2) Rr.1) (by decide) rfl rfl (Nat.le_of_ble_eq_true rfl) (fun C0 hK hA hX ls hSt hl => k_X9_first_0 C0 hK hA hX l1 v_base v_rises v_marks v_closedJ v_closedL v_firstJ v_firstL v_firstA v_firstB v_firstRank v_table v_askedFaces v_askedPoints v_hasFirst _ _ ls hSt hl hf) sz
/-! X9 keeps -/
abbrev rm_X9_keeps : Room := { frames := 1, cells := 0, slots := 0, locals := 21 }
abbrev w_X9_keeps (cI cJ : ClassId) (h : Nat) (h_order : Nat) (g2 : Value) (g3 : Value) (g4 : Value) (g5 : Value) (g6 : Value) (g7 : Value) (g8 : Value) (g9 : Value) (g10 : Value) (g11 : Value) (g12 : Value) (g13 : Value) (g14 : Value) (g15 : Value) (g16 : Value) (g17 : Value) (g18 : Value) (g20 : Value) (g21 : Value) (g22 : Value) (g23 : Value) (g24 : Value) (g25 : Value) (g26 : Value) (v_points : Int32) (v_faces : Int64) (v_order : Nat → Int32) : va_W := [(h, .inr (8, [.int v_points, .long v_faces, g2, g3, g4, g5, g6, g7, g8, g9, g10, g11, g12, g13, g14, g15, g16, g17, g18, .ref h_order, g20, g21, g22, g23, g24, g25, g26])), (h_order, .inl (cI, 6, .inl v_order))]
theorem iu_X9_keeps_X9 : ∀ w ∈ wsX90, w ∈ wsX9_keeps := by decide +kernel
theorem fl_X9_keeps_7 : Cond.fieldLink RX9 7 (TX9 0).1 (TX9 0).2.1 (TX9 0).2.2.1 ∈ wsX9_keeps := by decide +kernel
theorem fl_X9_keeps_43 : Cond.fieldLink RX9 43 (TX9 19).1 (TX9 19).2.1 (TX9 19).2.2.1 ∈ wsX9_keeps := by decide +kernel
theorem hd_X9_keeps : yX9_keeps.cls = RX9 ∧ yX9_keeps.cls ≠ "java/lang/invoke/MethodHandle" ∧ yX9_keeps.cls ≠ "java/lang/invoke/VarHandle" ∧ (parseMethodDescriptor yX9_keeps.desc).map (fun d => d.parameters.length) = some 0 := by decide +kernel
def f_X9_keeps_74 (v_points : Int32) (v_faces : Int64) (v_order : Nat → Int32) (k_4 : Int32 → Int32 → Option (Int32)) (l2 : Int32) (s0 : Int32)  : Option (Int32) := k_4 s0 (l2 + 1)
set_option maxHeartbeats 4000000 in
set_option maxRecDepth 100000 in
theorem k_X9_keeps_74 {p : Program} {l : Launch} {e : Env} {s : State} {m : MethodId} {args : Array Value} {below : List Frame} {meth : Method} {c : Code} {A : Nat → Prop} {D : va_G} {cI cJ : ClassId} {h h_order : Nat} {g2 g3 g4 g5 g6 g7 g8 g9 g10 g11 g12 g13 g14 g15 g16 g17 g18 g20 g21 g22 g23 g24 g25 g26 : Value} {v_points : Int32} {v_faces : Int64} {v_order : Nat → Int32} (C0 : Cx p s m args meth c cX9_keeps wsX9_keeps RX9 5 (some .boolean)) (hK : va_K D vwCl (tyL cI cJ) s) (hA : ∀ q, s.heap.size ≤ q → A q) (hX : XT none A s s.heap) {Rr : Int32} {k_4 : Int32 → Int32 → Option (Int32)} (hk_4 : ∀ (l1 : Int32) (l2 : Int32)  (H : Heap) (locs : List Loc) (ls : Array Slot), St D A s (w_X9_keeps cI cJ h h_order g2 g3 g4 g5 g6 g7 g8 g9 g10 g11 g12 g13 g14 g15 g16 g17 g18 g20 g21 g22 g23 g24 g25 g26 v_points v_faces v_order) H locs → lv_has ls 5 [(0, .ref h), (1, .int l1), (2, .int l2)] → k_4 l1 l2 = some Rr → W p l e rm_X9_keeps s m args below meth c H locs 0 0 (MQ below (QI D cI cJ A (w_X9_keeps cI cJ h h_order g2 g3 g4 g5 g6 g7 g8 g9 g10 g11 g12 g13 g14 g15 g16 g17 g18 g20 g21 g22 g23 g24 g25 g26 v_points v_faces v_order) Rr) args s 0 0 A) (F0 m 4 ls [])) : ∀ (l2 : Int32) (s0 : Int32)  (H : Heap) (locs : List Loc) (ls : Array Slot), St D A s (w_X9_keeps cI cJ h h_order g2 g3 g4 g5 g6 g7 g8 g9 g10 g11 g12 g13 g14 g15 g16 g17 g18 g20 g21 g22 g23 g24 g25 g26 v_points v_faces v_order) H locs → lv_has ls 5 [(0, .ref h), (2, .int l2)] → f_X9_keeps_74 v_points v_faces v_order k_4 l2 s0 = some Rr → W p l e rm_X9_keeps s m args below meth c H locs 0 0 (MQ below (QI D cI cJ A (w_X9_keeps cI cJ h h_order g2 g3 g4 g5 g6 g7 g8 g9 g10 g11 g12 g13 g14 g15 g16 g17 g18 g20 g21 g22 g23 g24 g25 g26 v_points v_faces v_order) Rr) args s 0 0 A) (F0 m 74 ls [.int s0]) := by
  have hx := C0.1.1
  have hb := C0.1.2.1
  intro l2 s0 H locs ls hSt hl hf
  unfold f_X9_keeps_74 at hf
  refine lv_istore_n (lv' := [(1, .int s0), (0, .ref h), (2, .int l2)]) hx hb dX9_keeps_74 rfl hl (by decide) rfl (fun ls hl => ?_)
  refine lv_iinc (v := l2 + 1) (lv' := [(2, .int (l2 + 1)), (1, .int s0), (0, .ref h)]) hx hb dX9_keeps_75 hl (k := 2) rfl rfl (by decide) rfl (fun ls hl => ?_)
  refine lv_goto (tgt := 4) hx hb dX9_keeps_78 (by decide) ?_
  exact hk_4 s0 (l2 + 1) _ _ _ hSt (lv_sub hl [2, 1, 0] rfl) hf
def f_X9_keeps_69 (v_points : Int32) (v_faces : Int64) (v_order : Nat → Int32) (k_4 : Int32 → Int32 → Option (Int32)) (l2 : Int32)  : Option (Int32) := f_X9_keeps_74 v_points v_faces v_order k_4 l2 (1 : Int32)
set_option maxHeartbeats 4000000 in
set_option maxRecDepth 100000 in
theorem k_X9_keeps_69 {p : Program} {l : Launch} {e : Env} {s : State} {m : MethodId} {args : Array Value} {below : List Frame} {meth : Method} {c : Code} {A : Nat → Prop} {D : va_G} {cI cJ : ClassId} {h h_order : Nat} {g2 g3 g4 g5 g6 g7 g8 g9 g10 g11 g12 g13 g14 g15 g16 g17 g18 g20 g21 g22 g23 g24 g25 g26 : Value} {v_points : Int32} {v_faces : Int64} {v_order : Nat → Int32} (C0 : Cx p s m args meth c cX9_keeps wsX9_keeps RX9 5 (some .boolean)) (hK : va_K D vwCl (tyL cI cJ) s) (hA : ∀ q, s.heap.size ≤ q → A q) (hX : XT none A s s.heap) {Rr : Int32} {k_4 : Int32 → Int32 → Option (Int32)} (hk_4 : ∀ (l1 : Int32) (l2 : Int32)  (H : Heap) (locs : List Loc) (ls : Array Slot), St D A s (w_X9_keeps cI cJ h h_order g2 g3 g4 g5 g6 g7 g8 g9 g10 g11 g12 g13 g14 g15 g16 g17 g18 g20 g21 g22 g23 g24 g25 g26 v_points v_faces v_order) H locs → lv_has ls 5 [(0, .ref h), (1, .int l1), (2, .int l2)] → k_4 l1 l2 = some Rr → W p l e rm_X9_keeps s m args below meth c H locs 0 0 (MQ below (QI D cI cJ A (w_X9_keeps cI cJ h h_order g2 g3 g4 g5 g6 g7 g8 g9 g10 g11 g12 g13 g14 g15 g16 g17 g18 g20 g21 g22 g23 g24 g25 g26 v_points v_faces v_order) Rr) args s 0 0 A) (F0 m 4 ls [])) : ∀ (l2 : Int32)  (H : Heap) (locs : List Loc) (ls : Array Slot), St D A s (w_X9_keeps cI cJ h h_order g2 g3 g4 g5 g6 g7 g8 g9 g10 g11 g12 g13 g14 g15 g16 g17 g18 g20 g21 g22 g23 g24 g25 g26 v_points v_faces v_order) H locs → lv_has ls 5 [(0, .ref h), (2, .int l2)] → f_X9_keeps_69 v_points v_faces v_order k_4 l2 = some Rr → W p l e rm_X9_keeps s m args below meth c H locs 0 0 (MQ below (QI D cI cJ A (w_X9_keeps cI cJ h h_order g2 g3 g4 g5 g6 g7 g8 g9 g10 g11 g12 g13 g14 g15 g16 g17 g18 g20 g21 g22 g23 g24 g25 g26 v_points v_faces v_order) Rr) args s 0 0 A) (F0 m 69 ls []) := by
  have hx := C0.1.1
  have hb := C0.1.2.1
  intro l2 H locs ls hSt hl hf
  unfold f_X9_keeps_69 at hf
  refine lv_iconst (v := 1) hx hb dX9_keeps_69 (by decide) ?_
  refine lv_goto (tgt := 74) hx hb dX9_keeps_70 (by decide) ?_
  exact k_X9_keeps_74 C0 hK hA hX hk_4 l2 (1 : Int32) _ _ _ hSt (lv_sub hl [0, 1] rfl) hf
def f_X9_keeps_21 (v_points : Int32) (v_faces : Int64) (v_order : Nat → Int32) (k_4 : Int32 → Int32 → Option (Int32)) : Nat → Int32 → Int32 → Int32 → Option (Int32)
  | 0, _, _, _ => none
  | n + 1, l2, l3, l4 => if v_points ≤ l4 then (f_X9_isFace v_faces l2).bind (fun R1 => if R1 = 0 then f_X9_keeps_69 v_points v_faces v_order k_4 l2 else (f_X9_isFace v_faces l3).bind (fun R2 => if R2 = 0 then f_X9_keeps_74 v_points v_faces v_order k_4 l2 (0 : Int32) else f_X9_keeps_69 v_points v_faces v_order k_4 l2)) else gd (ix l4 6) (bnd (l3 ||| (((l2 >>> (l4 &&& 31)) &&& (1 : Int32)) <<< ((v_order l4.toNatClampNeg) &&& 31))) (fun l3_3 => (f_X9_keeps_21 v_points v_faces v_order k_4 n) l2 l3_3 (l4 + 1)))
set_option maxHeartbeats 4000000 in
set_option maxRecDepth 100000 in
theorem k_X9_keeps_21 {p : Program} {l : Launch} {e : Env} {s : State} {m : MethodId} {args : Array Value} {below : List Frame} {meth : Method} {c : Code} {A : Nat → Prop} {D : va_G} {cI cJ : ClassId} {h h_order : Nat} {g2 g3 g4 g5 g6 g7 g8 g9 g10 g11 g12 g13 g14 g15 g16 g17 g18 g20 g21 g22 g23 g24 g25 g26 : Value} {v_points : Int32} {v_faces : Int64} {v_order : Nat → Int32} (C0 : Cx p s m args meth c cX9_keeps wsX9_keeps RX9 5 (some .boolean)) (hK : va_K D vwCl (tyL cI cJ) s) (hA : ∀ q, s.heap.size ≤ q → A q) (hX : XT none A s s.heap) {Rr : Int32} {k_4 : Int32 → Int32 → Option (Int32)} (hk_4 : ∀ (l1 : Int32) (l2 : Int32)  (H : Heap) (locs : List Loc) (ls : Array Slot), St D A s (w_X9_keeps cI cJ h h_order g2 g3 g4 g5 g6 g7 g8 g9 g10 g11 g12 g13 g14 g15 g16 g17 g18 g20 g21 g22 g23 g24 g25 g26 v_points v_faces v_order) H locs → lv_has ls 5 [(0, .ref h), (1, .int l1), (2, .int l2)] → k_4 l1 l2 = some Rr → W p l e rm_X9_keeps s m args below meth c H locs 0 0 (MQ below (QI D cI cJ A (w_X9_keeps cI cJ h h_order g2 g3 g4 g5 g6 g7 g8 g9 g10 g11 g12 g13 g14 g15 g16 g17 g18 g20 g21 g22 g23 g24 g25 g26 v_points v_faces v_order) Rr) args s 0 0 A) (F0 m 4 ls [])) (n : Nat) : ∀ (l2 : Int32) (l3 : Int32) (l4 : Int32)  (H : Heap) (locs : List Loc) (ls : Array Slot), St D A s (w_X9_keeps cI cJ h h_order g2 g3 g4 g5 g6 g7 g8 g9 g10 g11 g12 g13 g14 g15 g16 g17 g18 g20 g21 g22 g23 g24 g25 g26 v_points v_faces v_order) H locs → lv_has ls 5 [(0, .ref h), (2, .int l2), (3, .int l3), (4, .int l4)] → f_X9_keeps_21 v_points v_faces v_order k_4 n l2 l3 l4 = some Rr → W p l e rm_X9_keeps s m args below meth c H locs 0 0 (MQ below (QI D cI cJ A (w_X9_keeps cI cJ h h_order g2 g3 g4 g5 g6 g7 g8 g9 g10 g11 g12 g13 g14 g15 g16 g17 g18 g20 g21 g22 g23 g24 g25 g26 v_points v_faces v_order) Rr) args s 0 0 A) (F0 m 21 ls []) := by
  have hx := C0.1.1
  have hb := C0.1.2.1
  induction n with
  | zero => intro l2 l3 l4 H locs ls hSt hl hf; exact nomatch (show (none : Option _) = some Rr from hf)
  | succ n ih =>
    intro l2 l3 l4 H locs ls hSt hl hf
    unfold f_X9_keeps_21 at hf
    refine lv_iload hx hb dX9_keeps_21 (lv_at hl 3 rfl) ?_
    refine lv_aload_n hx hb dX9_keeps_23 rfl (lv_at hl 0 rfl) ?_
    refine hb_get C0 hK hSt 0 8 0 rfl rfl iu_X9_keeps_X9 (by decide) fl_X9_keeps_7 rfl dX9_keeps_24 ?_
    refine lv_icmp_ge (tgt := 53) hx hb dX9_keeps_27 (by decide) (fun cc => ?_) (fun cc => ?_)
    · have hf := ite_t hf cc
      refine lv_aload_n hx hb dX9_keeps_53 rfl (lv_at hl 0 rfl) ?_
      refine lv_iload_n hx hb dX9_keeps_54 rfl (lv_at hl 1 rfl) ?_
      obtain ⟨R1, hR1, hf⟩ := Option.bind_eq_some_iff.mp hf
      have sp : Sp (w_X9_keeps cI cJ h h_order g2 g3 g4 g5 g6 g7 g8 g9 g10 g11 g12 g13 g14 g15 g16 g17 g18 g20 g21 g22 g23 g24 g25 g26 v_points v_faces v_order) (w_X9_isFace cI cJ h (.int v_points) g2 g3 g4 g5 g6 g7 g8 g9 g10 g11 g12 g13 g14 g15 g16 g17 g18 (.ref h_order) g20 g21 g22 g23 g24 g25 g26 v_faces) (w_X9_isFace cI cJ h (.int v_points) g2 g3 g4 g5 g6 g7 g8 g9 g10 g11 g12 g13 g14 g15 g16 g17 g18 (.ref h_order) g20 g21 g22 g23 g24 g25 g26 v_faces) (w_X9_keeps cI cJ h h_order g2 g3 g4 g5 g6 g7 g8 g9 g10 g11 g12 g13 g14 g15 g16 g17 g18 g20 g21 g22 g23 g24 g25 g26 v_points v_faces v_order) [0] [1] [1, 0] := ⟨rfl, rfl, rfl, by decide, by decide, by decide, by decide⟩
      refine hb_ci (hb_rV (As := [.int l2]) (rest := []) C0 hK hA XT.nn hSt sp (c_X9_isFace l D cI cJ h (.int v_points) g2 g3 g4 g5 g6 g7 g8 g9 g10 g11 g12 g13 g14 g15 g16 g17 g18 (.ref h_order) g20 g21 g22 g23 g24 g25 g26  l2 v_faces R1 hR1) gX9_keeps_X9_isFace rfl ⟨rfl, rfl⟩ hd_X9_isFace ⟨Nat.le_of_ble_eq_true rfl, Nat.le_of_ble_eq_true rfl⟩ 0 8 rfl rfl rfl hl rfl (Nat.le_of_ble_eq_true rfl) dX9_keeps_55 ⟨Nat.zero_le _, Nat.zero_le _⟩) hA hSt sp (fun H locs hSt => ?_)
      refine lv_if_eq (tgt := 69) hx hb dX9_keeps_58 (by decide) (fun cc => ?_) (fun cc => ?_)
      · have hf := ite_t hf cc
        exact k_X9_keeps_69 C0 hK hA hX hk_4 l2 _ _ _ hSt (lv_sub hl [0, 1] rfl) hf
      · have hf := ite_f hf cc
        refine lv_aload_n hx hb dX9_keeps_61 rfl (lv_at hl 0 rfl) ?_
        refine lv_iload_n hx hb dX9_keeps_62 rfl (lv_at hl 2 rfl) ?_
        obtain ⟨R2, hR2, hf⟩ := Option.bind_eq_some_iff.mp hf
        have sp : Sp (w_X9_keeps cI cJ h h_order g2 g3 g4 g5 g6 g7 g8 g9 g10 g11 g12 g13 g14 g15 g16 g17 g18 g20 g21 g22 g23 g24 g25 g26 v_points v_faces v_order) (w_X9_isFace cI cJ h (.int v_points) g2 g3 g4 g5 g6 g7 g8 g9 g10 g11 g12 g13 g14 g15 g16 g17 g18 (.ref h_order) g20 g21 g22 g23 g24 g25 g26 v_faces) (w_X9_isFace cI cJ h (.int v_points) g2 g3 g4 g5 g6 g7 g8 g9 g10 g11 g12 g13 g14 g15 g16 g17 g18 (.ref h_order) g20 g21 g22 g23 g24 g25 g26 v_faces) (w_X9_keeps cI cJ h h_order g2 g3 g4 g5 g6 g7 g8 g9 g10 g11 g12 g13 g14 g15 g16 g17 g18 g20 g21 g22 g23 g24 g25 g26 v_points v_faces v_order) [0] [1] [1, 0] := ⟨rfl, rfl, rfl, by decide, by decide, by decide, by decide⟩
        refine hb_ci (hb_rV (As := [.int l3]) (rest := []) C0 hK hA XT.nn hSt sp (c_X9_isFace l D cI cJ h (.int v_points) g2 g3 g4 g5 g6 g7 g8 g9 g10 g11 g12 g13 g14 g15 g16 g17 g18 (.ref h_order) g20 g21 g22 g23 g24 g25 g26  l3 v_faces R2 hR2) gX9_keeps_X9_isFace rfl ⟨rfl, rfl⟩ hd_X9_isFace ⟨Nat.le_of_ble_eq_true rfl, Nat.le_of_ble_eq_true rfl⟩ 0 8 rfl rfl rfl hl rfl (Nat.le_of_ble_eq_true rfl) dX9_keeps_63 ⟨Nat.zero_le _, Nat.zero_le _⟩) hA hSt sp (fun H locs hSt => ?_)
        refine lv_if_eq (tgt := 73) hx hb dX9_keeps_66 (by decide) (fun cc => ?_) (fun cc => ?_)
        · have hf := ite_t hf cc
          refine lv_iconst (v := 0) hx hb dX9_keeps_73 (by decide) ?_
          exact k_X9_keeps_74 C0 hK hA hX hk_4 l2 (0 : Int32) _ _ _ hSt (lv_sub hl [0, 1] rfl) hf
        · have hf := ite_f hf cc
          exact k_X9_keeps_69 C0 hK hA hX hk_4 l2 _ _ _ hSt (lv_sub hl [0, 1] rfl) hf
    · have hf := ite_f hf cc
      refine lv_iload_n hx hb dX9_keeps_30 rfl (lv_at hl 2 rfl) ?_
      refine lv_iload_n hx hb dX9_keeps_31 rfl (lv_at hl 1 rfl) ?_
      refine lv_iload hx hb dX9_keeps_32 (lv_at hl 3 rfl) ?_
      refine lv_ishr hx hb dX9_keeps_34 ?_
      refine lv_iconst (v := 1) hx hb dX9_keeps_35 (by decide) ?_
      refine lv_iand hx hb dX9_keeps_36 ?_
      refine lv_aload_n hx hb dX9_keeps_37 rfl (lv_at hl 0 rfl) ?_
      refine hb_get C0 hK hSt 0 8 19 rfl rfl iu_X9_keeps_X9 (by decide) fl_X9_keeps_43 rfl dX9_keeps_38 ?_
      refine lv_iload hx hb dX9_keeps_41 (lv_at hl 3 rfl) ?_
      obtain ⟨hi, hf⟩ := gd_t hf
      refine hb_iald C0 hK hSt 1 rfl hi dX9_keeps_43 ?_
      refine lv_ishl hx hb dX9_keeps_44 ?_
      refine lv_ior hx hb dX9_keeps_45 ?_
      refine tp_i hf (fun l3_3 hf => ?_)
      refine lv_istore_n (lv' := [(3, .int l3_3), (0, .ref h), (2, .int l2), (4, .int l4)]) hx hb dX9_keeps_46 rfl hl (by decide) rfl (fun ls hl => ?_)
      refine lv_iinc (v := l4 + 1) (lv' := [(4, .int (l4 + 1)), (3, .int l3_3), (0, .ref h), (2, .int l2)]) hx hb dX9_keeps_47 hl (k := 3) rfl rfl (by decide) rfl (fun ls hl => ?_)
      refine lv_goto (tgt := 21) hx hb dX9_keeps_50 (by decide) ?_
      exact ih l2 l3_3 (l4 + 1) _ _ _ hSt (lv_sub hl [2, 3, 1, 0] rfl) hf
def f_X9_keeps_4 (v_points : Int32) (v_faces : Int64) (v_order : Nat → Int32)  : Nat → Int32 → Int32 → Option (Int32)
  | 0, _, _ => none
  | n + 1, l1, l2 => (f_X9_all v_points).bind (fun R1 => if R1 < l2 then gd (isb l1) (some l1) else if l1 = 0 then gd (isb l1) (some l1) else f_X9_keeps_21 v_points v_faces v_order (f_X9_keeps_4 v_points v_faces v_order n) FU l2 (0 : Int32) (0 : Int32))
set_option maxHeartbeats 4000000 in
set_option maxRecDepth 100000 in
theorem k_X9_keeps_4 {p : Program} {l : Launch} {e : Env} {s : State} {m : MethodId} {args : Array Value} {below : List Frame} {meth : Method} {c : Code} {A : Nat → Prop} {D : va_G} {cI cJ : ClassId} {h h_order : Nat} {g2 g3 g4 g5 g6 g7 g8 g9 g10 g11 g12 g13 g14 g15 g16 g17 g18 g20 g21 g22 g23 g24 g25 g26 : Value} {v_points : Int32} {v_faces : Int64} {v_order : Nat → Int32} (C0 : Cx p s m args meth c cX9_keeps wsX9_keeps RX9 5 (some .boolean)) (hK : va_K D vwCl (tyL cI cJ) s) (hA : ∀ q, s.heap.size ≤ q → A q) (hX : XT none A s s.heap) {Rr : Int32} (n : Nat) : ∀ (l1 : Int32) (l2 : Int32)  (H : Heap) (locs : List Loc) (ls : Array Slot), St D A s (w_X9_keeps cI cJ h h_order g2 g3 g4 g5 g6 g7 g8 g9 g10 g11 g12 g13 g14 g15 g16 g17 g18 g20 g21 g22 g23 g24 g25 g26 v_points v_faces v_order) H locs → lv_has ls 5 [(0, .ref h), (1, .int l1), (2, .int l2)] → f_X9_keeps_4 v_points v_faces v_order n l1 l2 = some Rr → W p l e rm_X9_keeps s m args below meth c H locs 0 0 (MQ below (QI D cI cJ A (w_X9_keeps cI cJ h h_order g2 g3 g4 g5 g6 g7 g8 g9 g10 g11 g12 g13 g14 g15 g16 g17 g18 g20 g21 g22 g23 g24 g25 g26 v_points v_faces v_order) Rr) args s 0 0 A) (F0 m 4 ls []) := by
  have hx := C0.1.1
  have hb := C0.1.2.1
  induction n with
  | zero => intro l1 l2 H locs ls hSt hl hf; exact nomatch (show (none : Option _) = some Rr from hf)
  | succ n ih =>
    intro l1 l2 H locs ls hSt hl hf
    unfold f_X9_keeps_4 at hf
    refine lv_iload_n hx hb dX9_keeps_4 rfl (lv_at hl 2 rfl) ?_
    refine lv_aload_n hx hb dX9_keeps_5 rfl (lv_at hl 0 rfl) ?_
    obtain ⟨R1, hR1, hf⟩ := Option.bind_eq_some_iff.mp hf
    have sp : Sp (w_X9_keeps cI cJ h h_order g2 g3 g4 g5 g6 g7 g8 g9 g10 g11 g12 g13 g14 g15 g16 g17 g18 g20 g21 g22 g23 g24 g25 g26 v_points v_faces v_order) (w_X9_all cI cJ h (.long v_faces) g2 g3 g4 g5 g6 g7 g8 g9 g10 g11 g12 g13 g14 g15 g16 g17 g18 (.ref h_order) g20 g21 g22 g23 g24 g25 g26 v_points) (w_X9_all cI cJ h (.long v_faces) g2 g3 g4 g5 g6 g7 g8 g9 g10 g11 g12 g13 g14 g15 g16 g17 g18 (.ref h_order) g20 g21 g22 g23 g24 g25 g26 v_points) (w_X9_keeps cI cJ h h_order g2 g3 g4 g5 g6 g7 g8 g9 g10 g11 g12 g13 g14 g15 g16 g17 g18 g20 g21 g22 g23 g24 g25 g26 v_points v_faces v_order) [0] [1] [1, 0] := ⟨rfl, rfl, rfl, by decide, by decide, by decide, by decide⟩
    refine hb_ci (hb_rV (As := []) (rest := [.int l2]) C0 hK hA XT.nn hSt sp (c_X9_all l D cI cJ h (.long v_faces) g2 g3 g4 g5 g6 g7 g8 g9 g10 g11 g12 g13 g14 g15 g16 g17 g18 (.ref h_order) g20 g21 g22 g23 g24 g25 g26   v_points R1 hR1) gX9_keeps_X9_all rfl ⟨rfl, rfl⟩ hd_X9_all ⟨Nat.le_of_ble_eq_true rfl, Nat.le_of_ble_eq_true rfl⟩ 0 8 rfl rfl rfl hl rfl (Nat.le_of_ble_eq_true rfl) dX9_keeps_6 ⟨Nat.zero_le _, Nat.zero_le _⟩) hA hSt sp (fun H locs hSt => ?_)
    refine lv_icmp_gt (tgt := 81) hx hb dX9_keeps_9 (by decide) (fun cc => ?_) (fun cc => ?_)
    · have hf := ite_t hf cc
      refine lv_iload_n hx hb dX9_keeps_81 rfl (lv_at hl 1 rfl) ?_
      obtain ⟨hz, hf⟩ := gd_t hf
      cases hf
      exact hb_zret C0 hK hSt (isb_n hz).1 dX9_keeps_82
    · have hf := ite_f hf cc
      refine lv_iload_n hx hb dX9_keeps_12 rfl (lv_at hl 1 rfl) ?_
      refine lv_if_eq (tgt := 81) hx hb dX9_keeps_13 (by decide) (fun cc => ?_) (fun cc => ?_)
      · have hf := ite_t hf cc
        refine lv_iload_n hx hb dX9_keeps_81 rfl (lv_at hl 1 rfl) ?_
        obtain ⟨hz, hf⟩ := gd_t hf
        cases hf
        exact hb_zret C0 hK hSt (isb_n hz).1 dX9_keeps_82
      · have hf := ite_f hf cc
        refine lv_iconst (v := 0) hx hb dX9_keeps_16 (by decide) ?_
        refine lv_istore_n (lv' := [(3, .int (0 : Int32)), (0, .ref h), (1, .int l1), (2, .int l2)]) hx hb dX9_keeps_17 rfl hl (by decide) rfl (fun ls hl => ?_)
        refine lv_iconst (v := 0) hx hb dX9_keeps_18 (by decide) ?_
        refine lv_istore (lv' := [(4, .int (0 : Int32)), (3, .int (0 : Int32)), (0, .ref h), (1, .int l1), (2, .int l2)]) hx hb dX9_keeps_19 hl (by decide) rfl (fun ls hl => ?_)
        exact k_X9_keeps_21 C0 hK hA hX ih FU l2 (0 : Int32) (0 : Int32) _ _ _ hSt (lv_sub hl [2, 4, 1, 0] rfl) hf
def f_X9_keeps_0 (v_points : Int32) (v_faces : Int64) (v_order : Nat → Int32)    : Option (Int32) := f_X9_keeps_4 v_points v_faces v_order  FU (1 : Int32) (0 : Int32)
set_option maxHeartbeats 4000000 in
set_option maxRecDepth 100000 in
theorem k_X9_keeps_0 {p : Program} {l : Launch} {e : Env} {s : State} {m : MethodId} {args : Array Value} {below : List Frame} {meth : Method} {c : Code} {A : Nat → Prop} {D : va_G} {cI cJ : ClassId} {h h_order : Nat} {g2 g3 g4 g5 g6 g7 g8 g9 g10 g11 g12 g13 g14 g15 g16 g17 g18 g20 g21 g22 g23 g24 g25 g26 : Value} {v_points : Int32} {v_faces : Int64} {v_order : Nat → Int32} (C0 : Cx p s m args meth c cX9_keeps wsX9_keeps RX9 5 (some .boolean)) (hK : va_K D vwCl (tyL cI cJ) s) (hA : ∀ q, s.heap.size ≤ q → A q) (hX : XT none A s s.heap) {Rr : Int32} : ∀   (H : Heap) (locs : List Loc) (ls : Array Slot), St D A s (w_X9_keeps cI cJ h h_order g2 g3 g4 g5 g6 g7 g8 g9 g10 g11 g12 g13 g14 g15 g16 g17 g18 g20 g21 g22 g23 g24 g25 g26 v_points v_faces v_order) H locs → lv_has ls 5 [(0, .ref h)] → f_X9_keeps_0 v_points v_faces v_order = some Rr → W p l e rm_X9_keeps s m args below meth c H locs 0 0 (MQ below (QI D cI cJ A (w_X9_keeps cI cJ h h_order g2 g3 g4 g5 g6 g7 g8 g9 g10 g11 g12 g13 g14 g15 g16 g17 g18 g20 g21 g22 g23 g24 g25 g26 v_points v_faces v_order) Rr) args s 0 0 A) (F0 m 0 ls []) := by
  have hx := C0.1.1
  have hb := C0.1.2.1
  intro H locs ls hSt hl hf
  unfold f_X9_keeps_0 at hf
  refine lv_iconst (v := 1) hx hb dX9_keeps_0 (by decide) ?_
  refine lv_istore_n (lv' := [(1, .int (1 : Int32)), (0, .ref h)]) hx hb dX9_keeps_1 rfl hl (by decide) rfl (fun ls hl => ?_)
  refine lv_iconst (v := 0) hx hb dX9_keeps_2 (by decide) ?_
  refine lv_istore_n (lv' := [(2, .int (0 : Int32)), (1, .int (1 : Int32)), (0, .ref h)]) hx hb dX9_keeps_3 rfl hl (by decide) rfl (fun ls hl => ?_)
  exact k_X9_keeps_4 C0 hK hA hX  FU (1 : Int32) (0 : Int32) _ _ _ hSt (lv_sub hl [2, 1, 0] rfl) hf
def f_X9_keeps (v_points : Int32) (v_faces : Int64) (v_order : Nat → Int32)   : Option (Int32) := f_X9_keeps_0 v_points v_faces v_order
set_option maxRecDepth 100000 in
theorem c_X9_keeps (l : Launch) (D : va_G) (cI cJ : ClassId) (h h_order : Nat) (g2 g3 g4 g5 g6 g7 g8 g9 g10 g11 g12 g13 g14 g15 g16 g17 g18 g20 g21 g22 g23 g24 g25 g26 : Value)  (v_points : Int32) (v_faces : Int64) (v_order : Nat → Int32) (Rr : Int32) (hf : f_X9_keeps v_points v_faces v_order = some Rr) : CtI l yX9_keeps wsX9_keeps rm_X9_keeps D cI cJ none [.ref h] (w_X9_keeps cI cJ h h_order g2 g3 g4 g5 g6 g7 g8 g9 g10 g11 g12 g13 g14 g15 g16 g17 g18 g20 g21 g22 g23 g24 g25 g26 v_points v_faces v_order) Rr (w_X9_keeps cI cJ h h_order g2 g3 g4 g5 g6 g7 g8 g9 g10 g11 g12 g13 g14 g15 g16 g17 g18 g20 g21 g22 g23 g24 g25 g26 v_points v_faces v_order) :=
  fun sz => BodyW.met (av := [.ref h]) (Qc := fun A => QI D cI cJ A (w_X9_keeps cI cJ h h_order g2 g3 g4 g5 g6 g7 g8 g9 g10 g11 g12 g13 g14 g15 g16 g17 g18 g20 g21 g22 g23 g24 g25 g26 v_points v_faces v_order) Rr) (by decide) rfl rfl (Nat.le_of_ble_eq_true rfl) (fun C0 hK hA hX ls hSt hl => k_X9_keeps_0 C0 hK hA hX   _ _ ls hSt hl hf) sz
/-! X9 nextOrder -/
abbrev rm_X9_nextOrder : Room := { frames := 0, cells := 0, slots := 0, locals := 0 }
abbrev w_X9_nextOrder (cI cJ : ClassId) (h : Nat) (h_order : Nat) (g1 : Value) (g2 : Value) (g3 : Value) (g4 : Value) (g5 : Value) (g6 : Value) (g7 : Value) (g8 : Value) (g9 : Value) (g10 : Value) (g11 : Value) (g12 : Value) (g13 : Value) (g14 : Value) (g15 : Value) (g16 : Value) (g17 : Value) (g18 : Value) (g20 : Value) (g21 : Value) (g22 : Value) (g23 : Value) (g24 : Value) (g25 : Value) (g26 : Value) (v_points : Int32) (v_order : Nat → Int32) : va_W := [(h, .inr (8, [.int v_points, g1, g2, g3, g4, g5, g6, g7, g8, g9, g10, g11, g12, g13, g14, g15, g16, g17, g18, .ref h_order, g20, g21, g22, g23, g24, g25, g26])), (h_order, .inl (cI, 6, .inl v_order))]
theorem iu_X9_nextOrder_X9 : ∀ w ∈ wsX90, w ∈ wsX9_nextOrder := by decide +kernel
theorem fl_X9_nextOrder_7 : Cond.fieldLink RX9 7 (TX9 0).1 (TX9 0).2.1 (TX9 0).2.2.1 ∈ wsX9_nextOrder := by decide +kernel
theorem fl_X9_nextOrder_43 : Cond.fieldLink RX9 43 (TX9 19).1 (TX9 19).2.1 (TX9 19).2.2.1 ∈ wsX9_nextOrder := by decide +kernel
theorem hd_X9_nextOrder : yX9_nextOrder.cls = RX9 ∧ yX9_nextOrder.cls ≠ "java/lang/invoke/MethodHandle" ∧ yX9_nextOrder.cls ≠ "java/lang/invoke/VarHandle" ∧ (parseMethodDescriptor yX9_nextOrder.desc).map (fun d => d.parameters.length) = some 0 := by decide +kernel
def f_X9_nextOrder_107 (v_points : Int32)  : Nat → Int32 → Int32 → (Nat → Int32) → Option (Int32 × (Nat → Int32))
  | 0, _, _, _ => none
  | n + 1, l4, l5, v_order => if l5 ≤ l4 then some ((1 : Int32), v_order) else gd (ix l4 6) (gd (ix l5 6) (gd (ix l4 6) (gd (ix l5 6) ((f_X9_nextOrder_107 v_points n) (l4 + 1) (l5 + (-1)) (upd (upd v_order l4.toNatClampNeg (v_order l5.toNatClampNeg)) l5.toNatClampNeg (v_order l4.toNatClampNeg))))))
set_option maxHeartbeats 4000000 in
set_option maxRecDepth 100000 in
theorem k_X9_nextOrder_107 {p : Program} {l : Launch} {e : Env} {s : State} {m : MethodId} {args : Array Value} {below : List Frame} {meth : Method} {c : Code} {A : Nat → Prop} {D : va_G} {cI cJ : ClassId} {h h_order : Nat} {g1 g2 g3 g4 g5 g6 g7 g8 g9 g10 g11 g12 g13 g14 g15 g16 g17 g18 g20 g21 g22 g23 g24 g25 g26 : Value} {v_points : Int32} (C0 : Cx p s m args meth c cX9_nextOrder wsX9_nextOrder RX9 6 (some .boolean)) (hK : va_K D vwCl (tyL cI cJ) s) (hA : ∀ q, s.heap.size ≤ q → A q) (hX : XT none A s s.heap) {Rr : Int32 × (Nat → Int32)} (n : Nat) : ∀ (l4 : Int32) (l5 : Int32) (v_order : Nat → Int32) (H : Heap) (locs : List Loc) (ls : Array Slot), St D A s (w_X9_nextOrder cI cJ h h_order g1 g2 g3 g4 g5 g6 g7 g8 g9 g10 g11 g12 g13 g14 g15 g16 g17 g18 g20 g21 g22 g23 g24 g25 g26 v_points v_order) H locs → lv_has ls 6 [(0, .ref h), (4, .int l4), (5, .int l5)] → f_X9_nextOrder_107 v_points n l4 l5 v_order = some Rr → W p l e rm_X9_nextOrder s m args below meth c H locs 0 0 (MQ below (QI D cI cJ A (w_X9_nextOrder cI cJ h h_order g1 g2 g3 g4 g5 g6 g7 g8 g9 g10 g11 g12 g13 g14 g15 g16 g17 g18 g20 g21 g22 g23 g24 g25 g26 v_points Rr.2) Rr.1) args s 0 0 A) (F0 m 107 ls []) := by
  have hx := C0.1.1
  have hb := C0.1.2.1
  induction n with
  | zero => intro l4 l5 v_order H locs ls hSt hl hf; exact nomatch (show (none : Option _) = some Rr from hf)
  | succ n ih =>
    intro l4 l5 v_order H locs ls hSt hl hf
    unfold f_X9_nextOrder_107 at hf
    refine lv_iload hx hb dX9_nextOrder_107 (lv_at hl 1 rfl) ?_
    refine lv_iload hx hb dX9_nextOrder_109 (lv_at hl 2 rfl) ?_
    refine lv_icmp_ge (tgt := 153) hx hb dX9_nextOrder_111 (by decide) (fun cc => ?_) (fun cc => ?_)
    · have hf := ite_t hf cc
      refine lv_iconst (v := 1) hx hb dX9_nextOrder_153 (by decide) ?_
      cases hf
      exact hb_zret C0 hK hSt nb1.1 dX9_nextOrder_154
    · have hf := ite_f hf cc
      refine lv_aload_n hx hb dX9_nextOrder_114 rfl (lv_at hl 0 rfl) ?_
      refine hb_get C0 hK hSt 0 8 19 rfl rfl iu_X9_nextOrder_X9 (by decide) fl_X9_nextOrder_43 rfl dX9_nextOrder_115 ?_
      refine lv_iload hx hb dX9_nextOrder_118 (lv_at hl 1 rfl) ?_
      obtain ⟨hi, hf⟩ := gd_t hf
      refine hb_iald C0 hK hSt 1 rfl hi dX9_nextOrder_120 ?_
      refine lv_istore_n (lv' := [(3, .int (v_order l4.toNatClampNeg)), (0, .ref h), (4, .int l4), (5, .int l5)]) hx hb dX9_nextOrder_121 rfl hl (by decide) rfl (fun ls hl => ?_)
      refine lv_aload_n hx hb dX9_nextOrder_122 rfl (lv_at hl 1 rfl) ?_
      refine hb_get C0 hK hSt 0 8 19 rfl rfl iu_X9_nextOrder_X9 (by decide) fl_X9_nextOrder_43 rfl dX9_nextOrder_123 ?_
      refine lv_iload hx hb dX9_nextOrder_126 (lv_at hl 2 rfl) ?_
      refine lv_aload_n hx hb dX9_nextOrder_128 rfl (lv_at hl 1 rfl) ?_
      refine hb_get C0 hK hSt 0 8 19 rfl rfl iu_X9_nextOrder_X9 (by decide) fl_X9_nextOrder_43 rfl dX9_nextOrder_129 ?_
      refine lv_iload hx hb dX9_nextOrder_132 (lv_at hl 3 rfl) ?_
      obtain ⟨hi, hf⟩ := gd_t hf
      refine hb_iald C0 hK hSt 1 rfl hi dX9_nextOrder_134 ?_
      obtain ⟨hi, hf⟩ := gd_t hf
      refine hb_iast C0 hK hSt 1 rfl hi (w' := w_X9_nextOrder cI cJ h h_order g1 g2 g3 g4 g5 g6 g7 g8 g9 g10 g11 g12 g13 g14 g15 g16 g17 g18 g20 g21 g22 g23 g24 g25 g26 v_points (upd v_order l4.toNatClampNeg (v_order l5.toNatClampNeg))) rfl dX9_nextOrder_135 (fun H locs hSt => ?_)
      refine lv_aload_n hx hb dX9_nextOrder_136 rfl (lv_at hl 1 rfl) ?_
      refine hb_get C0 hK hSt 0 8 19 rfl rfl iu_X9_nextOrder_X9 (by decide) fl_X9_nextOrder_43 rfl dX9_nextOrder_137 ?_
      refine lv_iload hx hb dX9_nextOrder_140 (lv_at hl 3 rfl) ?_
      refine lv_iload_n hx hb dX9_nextOrder_142 rfl (lv_at hl 0 rfl) ?_
      obtain ⟨hi, hf⟩ := gd_t hf
      refine hb_iast C0 hK hSt 1 rfl hi (w' := w_X9_nextOrder cI cJ h h_order g1 g2 g3 g4 g5 g6 g7 g8 g9 g10 g11 g12 g13 g14 g15 g16 g17 g18 g20 g21 g22 g23 g24 g25 g26 v_points (upd (upd v_order l4.toNatClampNeg (v_order l5.toNatClampNeg)) l5.toNatClampNeg (v_order l4.toNatClampNeg))) rfl dX9_nextOrder_143 (fun H locs hSt => ?_)
      refine lv_iinc (v := l4 + 1) (lv' := [(4, .int (l4 + 1)), (3, .int (v_order l4.toNatClampNeg)), (0, .ref h), (5, .int l5)]) hx hb dX9_nextOrder_144 hl (k := 2) rfl rfl (by decide) rfl (fun ls hl => ?_)
      refine lv_iinc (v := l5 + (-1)) (lv' := [(5, .int (l5 + (-1))), (4, .int (l4 + 1)), (3, .int (v_order l4.toNatClampNeg)), (0, .ref h)]) hx hb dX9_nextOrder_147 hl (k := 3) rfl rfl (by decide) rfl (fun ls hl => ?_)
      refine lv_goto (tgt := 107) hx hb dX9_nextOrder_150 (by decide) ?_
      exact ih (l4 + 1) (l5 + (-1)) (upd (upd v_order l4.toNatClampNeg (v_order l5.toNatClampNeg)) l5.toNatClampNeg (v_order l4.toNatClampNeg)) _ _ _ hSt (lv_sub hl [3, 1, 0] rfl) hf
def f_X9_nextOrder_47 (v_points : Int32)  : Nat → Int32 → Int32 → (Nat → Int32) → Option (Int32 × (Nat → Int32))
  | 0, _, _, _ => none
  | n + 1, l1, l2, v_order => gd (ix l2 6) (gd (ix l1 6) (if (v_order l1.toNatClampNeg) ≤ (v_order l2.toNatClampNeg) then gd (ix l1 6) (gd (ix l2 6) (gd (ix l1 6) (gd (ix l2 6) (f_X9_nextOrder_107 v_points  FU (l1 + (1 : Int32)) (v_points - (1 : Int32)) (upd (upd v_order l1.toNatClampNeg (v_order l2.toNatClampNeg)) l2.toNatClampNeg (v_order l1.toNatClampNeg)))))) else (f_X9_nextOrder_47 v_points n) l1 (l2 + (-1)) v_order))
set_option maxHeartbeats 4000000 in
set_option maxRecDepth 100000 in
theorem k_X9_nextOrder_47 {p : Program} {l : Launch} {e : Env} {s : State} {m : MethodId} {args : Array Value} {below : List Frame} {meth : Method} {c : Code} {A : Nat → Prop} {D : va_G} {cI cJ : ClassId} {h h_order : Nat} {g1 g2 g3 g4 g5 g6 g7 g8 g9 g10 g11 g12 g13 g14 g15 g16 g17 g18 g20 g21 g22 g23 g24 g25 g26 : Value} {v_points : Int32} (C0 : Cx p s m args meth c cX9_nextOrder wsX9_nextOrder RX9 6 (some .boolean)) (hK : va_K D vwCl (tyL cI cJ) s) (hA : ∀ q, s.heap.size ≤ q → A q) (hX : XT none A s s.heap) {Rr : Int32 × (Nat → Int32)} (n : Nat) : ∀ (l1 : Int32) (l2 : Int32) (v_order : Nat → Int32) (H : Heap) (locs : List Loc) (ls : Array Slot), St D A s (w_X9_nextOrder cI cJ h h_order g1 g2 g3 g4 g5 g6 g7 g8 g9 g10 g11 g12 g13 g14 g15 g16 g17 g18 g20 g21 g22 g23 g24 g25 g26 v_points v_order) H locs → lv_has ls 6 [(0, .ref h), (1, .int l1), (2, .int l2)] → f_X9_nextOrder_47 v_points n l1 l2 v_order = some Rr → W p l e rm_X9_nextOrder s m args below meth c H locs 0 0 (MQ below (QI D cI cJ A (w_X9_nextOrder cI cJ h h_order g1 g2 g3 g4 g5 g6 g7 g8 g9 g10 g11 g12 g13 g14 g15 g16 g17 g18 g20 g21 g22 g23 g24 g25 g26 v_points Rr.2) Rr.1) args s 0 0 A) (F0 m 47 ls []) := by
  have hx := C0.1.1
  have hb := C0.1.2.1
  induction n with
  | zero => intro l1 l2 v_order H locs ls hSt hl hf; exact nomatch (show (none : Option _) = some Rr from hf)
  | succ n ih =>
    intro l1 l2 v_order H locs ls hSt hl hf
    unfold f_X9_nextOrder_47 at hf
    refine lv_aload_n hx hb dX9_nextOrder_47 rfl (lv_at hl 0 rfl) ?_
    refine hb_get C0 hK hSt 0 8 19 rfl rfl iu_X9_nextOrder_X9 (by decide) fl_X9_nextOrder_43 rfl dX9_nextOrder_48 ?_
    refine lv_iload_n hx hb dX9_nextOrder_51 rfl (lv_at hl 2 rfl) ?_
    obtain ⟨hi, hf⟩ := gd_t hf
    refine hb_iald C0 hK hSt 1 rfl hi dX9_nextOrder_52 ?_
    refine lv_aload_n hx hb dX9_nextOrder_53 rfl (lv_at hl 0 rfl) ?_
    refine hb_get C0 hK hSt 0 8 19 rfl rfl iu_X9_nextOrder_X9 (by decide) fl_X9_nextOrder_43 rfl dX9_nextOrder_54 ?_
    refine lv_iload_n hx hb dX9_nextOrder_57 rfl (lv_at hl 1 rfl) ?_
    obtain ⟨hi, hf⟩ := gd_t hf
    refine hb_iald C0 hK hSt 1 rfl hi dX9_nextOrder_58 ?_
    refine lv_icmp_ge (tgt := 68) hx hb dX9_nextOrder_59 (by decide) (fun cc => ?_) (fun cc => ?_)
    · have hf := ite_t hf cc
      refine lv_aload_n hx hb dX9_nextOrder_68 rfl (lv_at hl 0 rfl) ?_
      refine hb_get C0 hK hSt 0 8 19 rfl rfl iu_X9_nextOrder_X9 (by decide) fl_X9_nextOrder_43 rfl dX9_nextOrder_69 ?_
      refine lv_iload_n hx hb dX9_nextOrder_72 rfl (lv_at hl 1 rfl) ?_
      obtain ⟨hi, hf⟩ := gd_t hf
      refine hb_iald C0 hK hSt 1 rfl hi dX9_nextOrder_73 ?_
      refine lv_istore_n (lv' := [(3, .int (v_order l1.toNatClampNeg)), (0, .ref h), (1, .int l1), (2, .int l2)]) hx hb dX9_nextOrder_74 rfl hl (by decide) rfl (fun ls hl => ?_)
      refine lv_aload_n hx hb dX9_nextOrder_75 rfl (lv_at hl 1 rfl) ?_
      refine hb_get C0 hK hSt 0 8 19 rfl rfl iu_X9_nextOrder_X9 (by decide) fl_X9_nextOrder_43 rfl dX9_nextOrder_76 ?_
      refine lv_iload_n hx hb dX9_nextOrder_79 rfl (lv_at hl 2 rfl) ?_
      refine lv_aload_n hx hb dX9_nextOrder_80 rfl (lv_at hl 1 rfl) ?_
      refine hb_get C0 hK hSt 0 8 19 rfl rfl iu_X9_nextOrder_X9 (by decide) fl_X9_nextOrder_43 rfl dX9_nextOrder_81 ?_
      refine lv_iload_n hx hb dX9_nextOrder_84 rfl (lv_at hl 3 rfl) ?_
      obtain ⟨hi, hf⟩ := gd_t hf
      refine hb_iald C0 hK hSt 1 rfl hi dX9_nextOrder_85 ?_
      obtain ⟨hi, hf⟩ := gd_t hf
      refine hb_iast C0 hK hSt 1 rfl hi (w' := w_X9_nextOrder cI cJ h h_order g1 g2 g3 g4 g5 g6 g7 g8 g9 g10 g11 g12 g13 g14 g15 g16 g17 g18 g20 g21 g22 g23 g24 g25 g26 v_points (upd v_order l1.toNatClampNeg (v_order l2.toNatClampNeg))) rfl dX9_nextOrder_86 (fun H locs hSt => ?_)
      refine lv_aload_n hx hb dX9_nextOrder_87 rfl (lv_at hl 1 rfl) ?_
      refine hb_get C0 hK hSt 0 8 19 rfl rfl iu_X9_nextOrder_X9 (by decide) fl_X9_nextOrder_43 rfl dX9_nextOrder_88 ?_
      refine lv_iload_n hx hb dX9_nextOrder_91 rfl (lv_at hl 3 rfl) ?_
      refine lv_iload_n hx hb dX9_nextOrder_92 rfl (lv_at hl 0 rfl) ?_
      obtain ⟨hi, hf⟩ := gd_t hf
      refine hb_iast C0 hK hSt 1 rfl hi (w' := w_X9_nextOrder cI cJ h h_order g1 g2 g3 g4 g5 g6 g7 g8 g9 g10 g11 g12 g13 g14 g15 g16 g17 g18 g20 g21 g22 g23 g24 g25 g26 v_points (upd (upd v_order l1.toNatClampNeg (v_order l2.toNatClampNeg)) l2.toNatClampNeg (v_order l1.toNatClampNeg))) rfl dX9_nextOrder_93 (fun H locs hSt => ?_)
      refine lv_iload_n hx hb dX9_nextOrder_94 rfl (lv_at hl 2 rfl) ?_
      refine lv_iconst (v := 1) hx hb dX9_nextOrder_95 (by decide) ?_
      refine lv_iadd hx hb dX9_nextOrder_96 ?_
      refine lv_istore (lv' := [(4, .int (l1 + (1 : Int32))), (3, .int (v_order l1.toNatClampNeg)), (0, .ref h), (1, .int l1), (2, .int l2)]) hx hb dX9_nextOrder_97 hl (by decide) rfl (fun ls hl => ?_)
      refine lv_aload_n hx hb dX9_nextOrder_99 rfl (lv_at hl 2 rfl) ?_
      refine hb_get C0 hK hSt 0 8 0 rfl rfl iu_X9_nextOrder_X9 (by decide) fl_X9_nextOrder_7 rfl dX9_nextOrder_100 ?_
      refine lv_iconst (v := 1) hx hb dX9_nextOrder_103 (by decide) ?_
      refine lv_isub hx hb dX9_nextOrder_104 ?_
      refine lv_istore (lv' := [(5, .int (v_points - (1 : Int32))), (4, .int (l1 + (1 : Int32))), (3, .int (v_order l1.toNatClampNeg)), (0, .ref h), (1, .int l1), (2, .int l2)]) hx hb dX9_nextOrder_105 hl (by decide) rfl (fun ls hl => ?_)
      exact k_X9_nextOrder_107 C0 hK hA hX  FU (l1 + (1 : Int32)) (v_points - (1 : Int32)) (upd (upd v_order l1.toNatClampNeg (v_order l2.toNatClampNeg)) l2.toNatClampNeg (v_order l1.toNatClampNeg)) _ _ _ hSt (lv_sub hl [3, 1, 0] rfl) hf
    · have hf := ite_f hf cc
      refine lv_iinc (v := l2 + (-1)) (lv' := [(2, .int (l2 + (-1))), (0, .ref h), (1, .int l1)]) hx hb dX9_nextOrder_62 hl (k := 2) rfl rfl (by decide) rfl (fun ls hl => ?_)
      refine lv_goto (tgt := 47) hx hb dX9_nextOrder_65 (by decide) ?_
      exact ih l1 (l2 + (-1)) v_order _ _ _ hSt (lv_sub hl [1, 2, 0] rfl) hf
def f_X9_nextOrder_34 (v_points : Int32)  (l1 : Int32) (v_order : Nat → Int32) : Option (Int32 × (Nat → Int32)) := if 0 ≤ l1 then f_X9_nextOrder_47 v_points  FU l1 (v_points - (1 : Int32)) v_order else some ((0 : Int32), v_order)
set_option maxHeartbeats 4000000 in
set_option maxRecDepth 100000 in
theorem k_X9_nextOrder_34 {p : Program} {l : Launch} {e : Env} {s : State} {m : MethodId} {args : Array Value} {below : List Frame} {meth : Method} {c : Code} {A : Nat → Prop} {D : va_G} {cI cJ : ClassId} {h h_order : Nat} {g1 g2 g3 g4 g5 g6 g7 g8 g9 g10 g11 g12 g13 g14 g15 g16 g17 g18 g20 g21 g22 g23 g24 g25 g26 : Value} {v_points : Int32} (C0 : Cx p s m args meth c cX9_nextOrder wsX9_nextOrder RX9 6 (some .boolean)) (hK : va_K D vwCl (tyL cI cJ) s) (hA : ∀ q, s.heap.size ≤ q → A q) (hX : XT none A s s.heap) {Rr : Int32 × (Nat → Int32)} : ∀ (l1 : Int32) (v_order : Nat → Int32) (H : Heap) (locs : List Loc) (ls : Array Slot), St D A s (w_X9_nextOrder cI cJ h h_order g1 g2 g3 g4 g5 g6 g7 g8 g9 g10 g11 g12 g13 g14 g15 g16 g17 g18 g20 g21 g22 g23 g24 g25 g26 v_points v_order) H locs → lv_has ls 6 [(0, .ref h), (1, .int l1)] → f_X9_nextOrder_34 v_points l1 v_order = some Rr → W p l e rm_X9_nextOrder s m args below meth c H locs 0 0 (MQ below (QI D cI cJ A (w_X9_nextOrder cI cJ h h_order g1 g2 g3 g4 g5 g6 g7 g8 g9 g10 g11 g12 g13 g14 g15 g16 g17 g18 g20 g21 g22 g23 g24 g25 g26 v_points Rr.2) Rr.1) args s 0 0 A) (F0 m 34 ls []) := by
  have hx := C0.1.1
  have hb := C0.1.2.1
  intro l1 v_order H locs ls hSt hl hf
  unfold f_X9_nextOrder_34 at hf
  refine lv_iload_n hx hb dX9_nextOrder_34 rfl (lv_at hl 1 rfl) ?_
  refine lv_if_ge (tgt := 40) hx hb dX9_nextOrder_35 (by decide) (fun cc => ?_) (fun cc => ?_)
  · have hf := ite_t hf cc
    refine lv_aload_n hx hb dX9_nextOrder_40 rfl (lv_at hl 0 rfl) ?_
    refine hb_get C0 hK hSt 0 8 0 rfl rfl iu_X9_nextOrder_X9 (by decide) fl_X9_nextOrder_7 rfl dX9_nextOrder_41 ?_
    refine lv_iconst (v := 1) hx hb dX9_nextOrder_44 (by decide) ?_
    refine lv_isub hx hb dX9_nextOrder_45 ?_
    refine lv_istore_n (lv' := [(2, .int (v_points - (1 : Int32))), (0, .ref h), (1, .int l1)]) hx hb dX9_nextOrder_46 rfl hl (by decide) rfl (fun ls hl => ?_)
    exact k_X9_nextOrder_47 C0 hK hA hX  FU l1 (v_points - (1 : Int32)) v_order _ _ _ hSt (lv_sub hl [1, 2, 0] rfl) hf
  · have hf := ite_f hf cc
    refine lv_iconst (v := 0) hx hb dX9_nextOrder_38 (by decide) ?_
    cases hf
    exact hb_zret C0 hK hSt nb0.1 dX9_nextOrder_39
def f_X9_nextOrder_7 (v_points : Int32)  : Nat → Int32 → (Nat → Int32) → Option (Int32 × (Nat → Int32))
  | 0, _, _ => none
  | n + 1, l1, v_order => if l1 < 0 then f_X9_nextOrder_34 v_points  l1 v_order else gd (ix l1 6) (gd (ix (l1 + (1 : Int32)) 6) (if (v_order l1.toNatClampNeg) ≤ (v_order (l1 + (1 : Int32)).toNatClampNeg) then f_X9_nextOrder_34 v_points  l1 v_order else (f_X9_nextOrder_7 v_points n) (l1 + (-1)) v_order))
set_option maxHeartbeats 4000000 in
set_option maxRecDepth 100000 in
theorem k_X9_nextOrder_7 {p : Program} {l : Launch} {e : Env} {s : State} {m : MethodId} {args : Array Value} {below : List Frame} {meth : Method} {c : Code} {A : Nat → Prop} {D : va_G} {cI cJ : ClassId} {h h_order : Nat} {g1 g2 g3 g4 g5 g6 g7 g8 g9 g10 g11 g12 g13 g14 g15 g16 g17 g18 g20 g21 g22 g23 g24 g25 g26 : Value} {v_points : Int32} (C0 : Cx p s m args meth c cX9_nextOrder wsX9_nextOrder RX9 6 (some .boolean)) (hK : va_K D vwCl (tyL cI cJ) s) (hA : ∀ q, s.heap.size ≤ q → A q) (hX : XT none A s s.heap) {Rr : Int32 × (Nat → Int32)} (n : Nat) : ∀ (l1 : Int32) (v_order : Nat → Int32) (H : Heap) (locs : List Loc) (ls : Array Slot), St D A s (w_X9_nextOrder cI cJ h h_order g1 g2 g3 g4 g5 g6 g7 g8 g9 g10 g11 g12 g13 g14 g15 g16 g17 g18 g20 g21 g22 g23 g24 g25 g26 v_points v_order) H locs → lv_has ls 6 [(0, .ref h), (1, .int l1)] → f_X9_nextOrder_7 v_points n l1 v_order = some Rr → W p l e rm_X9_nextOrder s m args below meth c H locs 0 0 (MQ below (QI D cI cJ A (w_X9_nextOrder cI cJ h h_order g1 g2 g3 g4 g5 g6 g7 g8 g9 g10 g11 g12 g13 g14 g15 g16 g17 g18 g20 g21 g22 g23 g24 g25 g26 v_points Rr.2) Rr.1) args s 0 0 A) (F0 m 7 ls []) := by
  have hx := C0.1.1
  have hb := C0.1.2.1
  induction n with
  | zero => intro l1 v_order H locs ls hSt hl hf; exact nomatch (show (none : Option _) = some Rr from hf)
  | succ n ih =>
    intro l1 v_order H locs ls hSt hl hf
    unfold f_X9_nextOrder_7 at hf
    refine lv_iload_n hx hb dX9_nextOrder_7 rfl (lv_at hl 1 rfl) ?_
    refine lv_if_lt (tgt := 34) hx hb dX9_nextOrder_8 (by decide) (fun cc => ?_) (fun cc => ?_)
    · have hf := ite_t hf cc
      exact k_X9_nextOrder_34 C0 hK hA hX  l1 v_order _ _ _ hSt (lv_sub hl [0, 1] rfl) hf
    · have hf := ite_f hf cc
      refine lv_aload_n hx hb dX9_nextOrder_11 rfl (lv_at hl 0 rfl) ?_
      refine hb_get C0 hK hSt 0 8 19 rfl rfl iu_X9_nextOrder_X9 (by decide) fl_X9_nextOrder_43 rfl dX9_nextOrder_12 ?_
      refine lv_iload_n hx hb dX9_nextOrder_15 rfl (lv_at hl 1 rfl) ?_
      obtain ⟨hi, hf⟩ := gd_t hf
      refine hb_iald C0 hK hSt 1 rfl hi dX9_nextOrder_16 ?_
      refine lv_aload_n hx hb dX9_nextOrder_17 rfl (lv_at hl 0 rfl) ?_
      refine hb_get C0 hK hSt 0 8 19 rfl rfl iu_X9_nextOrder_X9 (by decide) fl_X9_nextOrder_43 rfl dX9_nextOrder_18 ?_
      refine lv_iload_n hx hb dX9_nextOrder_21 rfl (lv_at hl 1 rfl) ?_
      refine lv_iconst (v := 1) hx hb dX9_nextOrder_22 (by decide) ?_
      refine lv_iadd hx hb dX9_nextOrder_23 ?_
      obtain ⟨hi, hf⟩ := gd_t hf
      refine hb_iald C0 hK hSt 1 rfl hi dX9_nextOrder_24 ?_
      refine lv_icmp_le (tgt := 34) hx hb dX9_nextOrder_25 (by decide) (fun cc => ?_) (fun cc => ?_)
      · have hf := ite_t hf cc
        exact k_X9_nextOrder_34 C0 hK hA hX  l1 v_order _ _ _ hSt (lv_sub hl [0, 1] rfl) hf
      · have hf := ite_f hf cc
        refine lv_iinc (v := l1 + (-1)) (lv' := [(1, .int (l1 + (-1))), (0, .ref h)]) hx hb dX9_nextOrder_28 hl (k := 1) rfl rfl (by decide) rfl (fun ls hl => ?_)
        refine lv_goto (tgt := 7) hx hb dX9_nextOrder_31 (by decide) ?_
        exact ih (l1 + (-1)) v_order _ _ _ hSt (lv_sub hl [1, 0] rfl) hf
def f_X9_nextOrder_0 (v_points : Int32)   (v_order : Nat → Int32) : Option (Int32 × (Nat → Int32)) := f_X9_nextOrder_7 v_points  FU (v_points - (2 : Int32)) v_order
set_option maxHeartbeats 4000000 in
set_option maxRecDepth 100000 in
theorem k_X9_nextOrder_0 {p : Program} {l : Launch} {e : Env} {s : State} {m : MethodId} {args : Array Value} {below : List Frame} {meth : Method} {c : Code} {A : Nat → Prop} {D : va_G} {cI cJ : ClassId} {h h_order : Nat} {g1 g2 g3 g4 g5 g6 g7 g8 g9 g10 g11 g12 g13 g14 g15 g16 g17 g18 g20 g21 g22 g23 g24 g25 g26 : Value} {v_points : Int32} (C0 : Cx p s m args meth c cX9_nextOrder wsX9_nextOrder RX9 6 (some .boolean)) (hK : va_K D vwCl (tyL cI cJ) s) (hA : ∀ q, s.heap.size ≤ q → A q) (hX : XT none A s s.heap) {Rr : Int32 × (Nat → Int32)} : ∀  (v_order : Nat → Int32) (H : Heap) (locs : List Loc) (ls : Array Slot), St D A s (w_X9_nextOrder cI cJ h h_order g1 g2 g3 g4 g5 g6 g7 g8 g9 g10 g11 g12 g13 g14 g15 g16 g17 g18 g20 g21 g22 g23 g24 g25 g26 v_points v_order) H locs → lv_has ls 6 [(0, .ref h)] → f_X9_nextOrder_0 v_points v_order = some Rr → W p l e rm_X9_nextOrder s m args below meth c H locs 0 0 (MQ below (QI D cI cJ A (w_X9_nextOrder cI cJ h h_order g1 g2 g3 g4 g5 g6 g7 g8 g9 g10 g11 g12 g13 g14 g15 g16 g17 g18 g20 g21 g22 g23 g24 g25 g26 v_points Rr.2) Rr.1) args s 0 0 A) (F0 m 0 ls []) := by
  have hx := C0.1.1
  have hb := C0.1.2.1
  intro v_order H locs ls hSt hl hf
  unfold f_X9_nextOrder_0 at hf
  refine lv_aload_n hx hb dX9_nextOrder_0 rfl (lv_at hl 0 rfl) ?_
  refine hb_get C0 hK hSt 0 8 0 rfl rfl iu_X9_nextOrder_X9 (by decide) fl_X9_nextOrder_7 rfl dX9_nextOrder_1 ?_
  refine lv_iconst (v := 2) hx hb dX9_nextOrder_4 (by decide) ?_
  refine lv_isub hx hb dX9_nextOrder_5 ?_
  refine lv_istore_n (lv' := [(1, .int (v_points - (2 : Int32))), (0, .ref h)]) hx hb dX9_nextOrder_6 rfl hl (by decide) rfl (fun ls hl => ?_)
  exact k_X9_nextOrder_7 C0 hK hA hX  FU (v_points - (2 : Int32)) v_order _ _ _ hSt (lv_sub hl [1, 0] rfl) hf
def f_X9_nextOrder (v_points : Int32)  (v_order : Nat → Int32) : Option (Int32 × (Nat → Int32)) := f_X9_nextOrder_0 v_points v_order
set_option maxRecDepth 100000 in
theorem c_X9_nextOrder (l : Launch) (D : va_G) (cI cJ : ClassId) (h h_order : Nat) (g1 g2 g3 g4 g5 g6 g7 g8 g9 g10 g11 g12 g13 g14 g15 g16 g17 g18 g20 g21 g22 g23 g24 g25 g26 : Value)  (v_points : Int32) (v_order : Nat → Int32) (Rr : Int32 × (Nat → Int32)) (hf : f_X9_nextOrder v_points v_order = some Rr) : CtI l yX9_nextOrder wsX9_nextOrder rm_X9_nextOrder D cI cJ none [.ref h] (w_X9_nextOrder cI cJ h h_order g1 g2 g3 g4 g5 g6 g7 g8 g9 g10 g11 g12 g13 g14 g15 g16 g17 g18 g20 g21 g22 g23 g24 g25 g26 v_points v_order) Rr.1 (w_X9_nextOrder cI cJ h h_order g1 g2 g3 g4 g5 g6 g7 g8 g9 g10 g11 g12 g13 g14 g15 g16 g17 g18 g20 g21 g22 g23 g24 g25 g26 v_points Rr.2) :=
  fun sz => BodyW.met (av := [.ref h]) (Qc := fun A => QI D cI cJ A (w_X9_nextOrder cI cJ h h_order g1 g2 g3 g4 g5 g6 g7 g8 g9 g10 g11 g12 g13 g14 g15 g16 g17 g18 g20 g21 g22 g23 g24 g25 g26 v_points Rr.2) Rr.1) (by decide) rfl rfl (Nat.le_of_ble_eq_true rfl) (fun C0 hK hA hX ls hSt hl => k_X9_nextOrder_0 C0 hK hA hX  v_order _ _ ls hSt hl hf) sz
/-! X9 turns -/
abbrev rm_X9_turns : Room := { frames := 2, cells := 0, slots := 0, locals := 45 }
abbrev w_X9_turns (cI cJ : ClassId) (h : Nat) (h_order : Nat) (g2 : Value) (g3 : Value) (g4 : Value) (g5 : Value) (g6 : Value) (g7 : Value) (g8 : Value) (g9 : Value) (g10 : Value) (g11 : Value) (g12 : Value) (g13 : Value) (g14 : Value) (g15 : Value) (g16 : Value) (g17 : Value) (g18 : Value) (g20 : Value) (g21 : Value) (g22 : Value) (g23 : Value) (g24 : Value) (g25 : Value) (g26 : Value) (v_points : Int32) (v_faces : Int64) (v_order : Nat → Int32) : va_W := [(h, .inr (8, [.int v_points, .long v_faces, g2, g3, g4, g5, g6, g7, g8, g9, g10, g11, g12, g13, g14, g15, g16, g17, g18, .ref h_order, g20, g21, g22, g23, g24, g25, g26])), (h_order, .inl (cI, 6, .inl v_order))]
theorem iu_X9_turns_X9 : ∀ w ∈ wsX90, w ∈ wsX9_turns := by decide +kernel
theorem fl_X9_turns_7 : Cond.fieldLink RX9 7 (TX9 0).1 (TX9 0).2.1 (TX9 0).2.2.1 ∈ wsX9_turns := by decide +kernel
theorem fl_X9_turns_43 : Cond.fieldLink RX9 43 (TX9 19).1 (TX9 19).2.1 (TX9 19).2.2.1 ∈ wsX9_turns := by decide +kernel
theorem hd_X9_turns : yX9_turns.cls = RX9 ∧ yX9_turns.cls ≠ "java/lang/invoke/MethodHandle" ∧ yX9_turns.cls ≠ "java/lang/invoke/VarHandle" ∧ (parseMethodDescriptor yX9_turns.desc).map (fun d => d.parameters.length) = some 2 := by decide +kernel
def f_X9_turns_61 (v_points : Int32) (v_faces : Int64) (k_28 : Int32 → Int32 → Int32 → Int32 → (Nat → Int32) → Option (Int32 × (Nat → Int32))) (l1 : Int32) (l2 : Int32) (s0 : Int32) (s1 : Int32) (v_order : Nat → Int32) : Option (Int32 × (Nat → Int32)) := (f_X9_nextOrder v_points v_order).bind (fun R1 => k_28 l1 l2 (s1 + s0) R1.1 R1.2)
set_option maxHeartbeats 4000000 in
set_option maxRecDepth 100000 in
theorem k_X9_turns_61 {p : Program} {l : Launch} {e : Env} {s : State} {m : MethodId} {args : Array Value} {below : List Frame} {meth : Method} {c : Code} {A : Nat → Prop} {D : va_G} {cI cJ : ClassId} {h h_order : Nat} {g2 g3 g4 g5 g6 g7 g8 g9 g10 g11 g12 g13 g14 g15 g16 g17 g18 g20 g21 g22 g23 g24 g25 g26 : Value} {v_points : Int32} {v_faces : Int64} (C0 : Cx p s m args meth c cX9_turns wsX9_turns RX9 5 (some .int)) (hK : va_K D vwCl (tyL cI cJ) s) (hA : ∀ q, s.heap.size ≤ q → A q) (hX : XT none A s s.heap) {Rr : Int32 × (Nat → Int32)} {k_28 : Int32 → Int32 → Int32 → Int32 → (Nat → Int32) → Option (Int32 × (Nat → Int32))} (hk_28 : ∀ (l1 : Int32) (l2 : Int32) (l3 : Int32) (l4 : Int32) (v_order : Nat → Int32) (H : Heap) (locs : List Loc) (ls : Array Slot), St D A s (w_X9_turns cI cJ h h_order g2 g3 g4 g5 g6 g7 g8 g9 g10 g11 g12 g13 g14 g15 g16 g17 g18 g20 g21 g22 g23 g24 g25 g26 v_points v_faces v_order) H locs → lv_has ls 5 [(0, .ref h), (1, .int l1), (2, .int l2), (3, .int l3), (4, .int l4)] → k_28 l1 l2 l3 l4 v_order = some Rr → W p l e rm_X9_turns s m args below meth c H locs 0 0 (MQ below (QI D cI cJ A (w_X9_turns cI cJ h h_order g2 g3 g4 g5 g6 g7 g8 g9 g10 g11 g12 g13 g14 g15 g16 g17 g18 g20 g21 g22 g23 g24 g25 g26 v_points v_faces Rr.2) Rr.1) args s 0 0 A) (F0 m 28 ls [])) : ∀ (l1 : Int32) (l2 : Int32) (s0 : Int32) (s1 : Int32) (v_order : Nat → Int32) (H : Heap) (locs : List Loc) (ls : Array Slot), St D A s (w_X9_turns cI cJ h h_order g2 g3 g4 g5 g6 g7 g8 g9 g10 g11 g12 g13 g14 g15 g16 g17 g18 g20 g21 g22 g23 g24 g25 g26 v_points v_faces v_order) H locs → lv_has ls 5 [(0, .ref h), (1, .int l1), (2, .int l2)] → f_X9_turns_61 v_points v_faces k_28 l1 l2 s0 s1 v_order = some Rr → W p l e rm_X9_turns s m args below meth c H locs 0 0 (MQ below (QI D cI cJ A (w_X9_turns cI cJ h h_order g2 g3 g4 g5 g6 g7 g8 g9 g10 g11 g12 g13 g14 g15 g16 g17 g18 g20 g21 g22 g23 g24 g25 g26 v_points v_faces Rr.2) Rr.1) args s 0 0 A) (F0 m 61 ls [.int s0, .int s1]) := by
  have hx := C0.1.1
  have hb := C0.1.2.1
  intro l1 l2 s0 s1 v_order H locs ls hSt hl hf
  unfold f_X9_turns_61 at hf
  refine lv_iadd hx hb dX9_turns_61 ?_
  refine lv_istore_n (lv' := [(3, .int (s1 + s0)), (0, .ref h), (1, .int l1), (2, .int l2)]) hx hb dX9_turns_62 rfl hl (by decide) rfl (fun ls hl => ?_)
  refine lv_aload_n hx hb dX9_turns_63 rfl (lv_at hl 1 rfl) ?_
  obtain ⟨R1, hR1, hf⟩ := Option.bind_eq_some_iff.mp hf
  have sp : Sp (w_X9_turns cI cJ h h_order g2 g3 g4 g5 g6 g7 g8 g9 g10 g11 g12 g13 g14 g15 g16 g17 g18 g20 g21 g22 g23 g24 g25 g26 v_points v_faces v_order) (w_X9_nextOrder cI cJ h h_order (.long v_faces) g2 g3 g4 g5 g6 g7 g8 g9 g10 g11 g12 g13 g14 g15 g16 g17 g18 g20 g21 g22 g23 g24 g25 g26 v_points v_order) (w_X9_nextOrder cI cJ h h_order (.long v_faces) g2 g3 g4 g5 g6 g7 g8 g9 g10 g11 g12 g13 g14 g15 g16 g17 g18 g20 g21 g22 g23 g24 g25 g26 v_points R1.2) (w_X9_turns cI cJ h h_order g2 g3 g4 g5 g6 g7 g8 g9 g10 g11 g12 g13 g14 g15 g16 g17 g18 g20 g21 g22 g23 g24 g25 g26 v_points v_faces R1.2) [0, 1] [] [0, 1] := ⟨rfl, rfl, rfl, by decide, by decide, by decide, by decide⟩
  refine hb_ci (hb_rV (As := []) (rest := []) C0 hK hA XT.nn hSt sp (c_X9_nextOrder l D cI cJ h h_order (.long v_faces) g2 g3 g4 g5 g6 g7 g8 g9 g10 g11 g12 g13 g14 g15 g16 g17 g18 g20 g21 g22 g23 g24 g25 g26   v_points v_order R1 hR1) gX9_turns_X9_nextOrder rfl ⟨rfl, rfl⟩ hd_X9_nextOrder ⟨Nat.le_of_ble_eq_true rfl, Nat.le_of_ble_eq_true rfl⟩ 0 8 rfl rfl rfl hl rfl (Nat.le_of_ble_eq_true rfl) dX9_turns_64 ⟨Nat.zero_le _, Nat.zero_le _⟩) hA hSt sp (fun H locs hSt => ?_)
  refine lv_istore (lv' := [(4, .int R1.1), (3, .int (s1 + s0)), (0, .ref h), (1, .int l1), (2, .int l2)]) hx hb dX9_turns_67 hl (by decide) rfl (fun ls hl => ?_)
  refine lv_goto (tgt := 28) hx hb dX9_turns_69 (by decide) ?_
  exact hk_28 l1 l2 (s1 + s0) R1.1 R1.2 _ _ _ hSt (lv_sub hl [2, 3, 4, 1, 0] rfl) hf
def f_X9_turns_60 (v_points : Int32) (v_faces : Int64) (k_28 : Int32 → Int32 → Int32 → Int32 → (Nat → Int32) → Option (Int32 × (Nat → Int32))) (l1 : Int32) (l2 : Int32) (s0 : Int32) (v_order : Nat → Int32) : Option (Int32 × (Nat → Int32)) := f_X9_turns_61 v_points v_faces k_28 l1 l2 (0 : Int32) s0 v_order
set_option maxHeartbeats 4000000 in
set_option maxRecDepth 100000 in
theorem k_X9_turns_60 {p : Program} {l : Launch} {e : Env} {s : State} {m : MethodId} {args : Array Value} {below : List Frame} {meth : Method} {c : Code} {A : Nat → Prop} {D : va_G} {cI cJ : ClassId} {h h_order : Nat} {g2 g3 g4 g5 g6 g7 g8 g9 g10 g11 g12 g13 g14 g15 g16 g17 g18 g20 g21 g22 g23 g24 g25 g26 : Value} {v_points : Int32} {v_faces : Int64} (C0 : Cx p s m args meth c cX9_turns wsX9_turns RX9 5 (some .int)) (hK : va_K D vwCl (tyL cI cJ) s) (hA : ∀ q, s.heap.size ≤ q → A q) (hX : XT none A s s.heap) {Rr : Int32 × (Nat → Int32)} {k_28 : Int32 → Int32 → Int32 → Int32 → (Nat → Int32) → Option (Int32 × (Nat → Int32))} (hk_28 : ∀ (l1 : Int32) (l2 : Int32) (l3 : Int32) (l4 : Int32) (v_order : Nat → Int32) (H : Heap) (locs : List Loc) (ls : Array Slot), St D A s (w_X9_turns cI cJ h h_order g2 g3 g4 g5 g6 g7 g8 g9 g10 g11 g12 g13 g14 g15 g16 g17 g18 g20 g21 g22 g23 g24 g25 g26 v_points v_faces v_order) H locs → lv_has ls 5 [(0, .ref h), (1, .int l1), (2, .int l2), (3, .int l3), (4, .int l4)] → k_28 l1 l2 l3 l4 v_order = some Rr → W p l e rm_X9_turns s m args below meth c H locs 0 0 (MQ below (QI D cI cJ A (w_X9_turns cI cJ h h_order g2 g3 g4 g5 g6 g7 g8 g9 g10 g11 g12 g13 g14 g15 g16 g17 g18 g20 g21 g22 g23 g24 g25 g26 v_points v_faces Rr.2) Rr.1) args s 0 0 A) (F0 m 28 ls [])) : ∀ (l1 : Int32) (l2 : Int32) (s0 : Int32) (v_order : Nat → Int32) (H : Heap) (locs : List Loc) (ls : Array Slot), St D A s (w_X9_turns cI cJ h h_order g2 g3 g4 g5 g6 g7 g8 g9 g10 g11 g12 g13 g14 g15 g16 g17 g18 g20 g21 g22 g23 g24 g25 g26 v_points v_faces v_order) H locs → lv_has ls 5 [(0, .ref h), (1, .int l1), (2, .int l2)] → f_X9_turns_60 v_points v_faces k_28 l1 l2 s0 v_order = some Rr → W p l e rm_X9_turns s m args below meth c H locs 0 0 (MQ below (QI D cI cJ A (w_X9_turns cI cJ h h_order g2 g3 g4 g5 g6 g7 g8 g9 g10 g11 g12 g13 g14 g15 g16 g17 g18 g20 g21 g22 g23 g24 g25 g26 v_points v_faces Rr.2) Rr.1) args s 0 0 A) (F0 m 60 ls [.int s0]) := by
  have hx := C0.1.1
  have hb := C0.1.2.1
  intro l1 l2 s0 v_order H locs ls hSt hl hf
  unfold f_X9_turns_60 at hf
  refine lv_iconst (v := 0) hx hb dX9_turns_60 (by decide) ?_
  exact k_X9_turns_61 C0 hK hA hX hk_28 l1 l2 (0 : Int32) s0 v_order _ _ _ hSt (lv_sub hl [0, 1, 2] rfl) hf
def f_X9_turns_49 (v_points : Int32) (v_faces : Int64) (k_28 : Int32 → Int32 → Int32 → Int32 → (Nat → Int32) → Option (Int32 × (Nat → Int32))) (l1 : Int32) (l2 : Int32) (s0 : Int32) (v_order : Nat → Int32) : Option (Int32 × (Nat → Int32)) := (f_X9_keeps v_points v_faces v_order).bind (fun R1 => if R1 = 0 then f_X9_turns_60 v_points v_faces k_28 l1 l2 s0 v_order else f_X9_turns_61 v_points v_faces k_28 l1 l2 (1 : Int32) s0 v_order)
set_option maxHeartbeats 4000000 in
set_option maxRecDepth 100000 in
theorem k_X9_turns_49 {p : Program} {l : Launch} {e : Env} {s : State} {m : MethodId} {args : Array Value} {below : List Frame} {meth : Method} {c : Code} {A : Nat → Prop} {D : va_G} {cI cJ : ClassId} {h h_order : Nat} {g2 g3 g4 g5 g6 g7 g8 g9 g10 g11 g12 g13 g14 g15 g16 g17 g18 g20 g21 g22 g23 g24 g25 g26 : Value} {v_points : Int32} {v_faces : Int64} (C0 : Cx p s m args meth c cX9_turns wsX9_turns RX9 5 (some .int)) (hK : va_K D vwCl (tyL cI cJ) s) (hA : ∀ q, s.heap.size ≤ q → A q) (hX : XT none A s s.heap) {Rr : Int32 × (Nat → Int32)} {k_28 : Int32 → Int32 → Int32 → Int32 → (Nat → Int32) → Option (Int32 × (Nat → Int32))} (hk_28 : ∀ (l1 : Int32) (l2 : Int32) (l3 : Int32) (l4 : Int32) (v_order : Nat → Int32) (H : Heap) (locs : List Loc) (ls : Array Slot), St D A s (w_X9_turns cI cJ h h_order g2 g3 g4 g5 g6 g7 g8 g9 g10 g11 g12 g13 g14 g15 g16 g17 g18 g20 g21 g22 g23 g24 g25 g26 v_points v_faces v_order) H locs → lv_has ls 5 [(0, .ref h), (1, .int l1), (2, .int l2), (3, .int l3), (4, .int l4)] → k_28 l1 l2 l3 l4 v_order = some Rr → W p l e rm_X9_turns s m args below meth c H locs 0 0 (MQ below (QI D cI cJ A (w_X9_turns cI cJ h h_order g2 g3 g4 g5 g6 g7 g8 g9 g10 g11 g12 g13 g14 g15 g16 g17 g18 g20 g21 g22 g23 g24 g25 g26 v_points v_faces Rr.2) Rr.1) args s 0 0 A) (F0 m 28 ls [])) : ∀ (l1 : Int32) (l2 : Int32) (s0 : Int32) (v_order : Nat → Int32) (H : Heap) (locs : List Loc) (ls : Array Slot), St D A s (w_X9_turns cI cJ h h_order g2 g3 g4 g5 g6 g7 g8 g9 g10 g11 g12 g13 g14 g15 g16 g17 g18 g20 g21 g22 g23 g24 g25 g26 v_points v_faces v_order) H locs → lv_has ls 5 [(0, .ref h), (1, .int l1), (2, .int l2)] → f_X9_turns_49 v_points v_faces k_28 l1 l2 s0 v_order = some Rr → W p l e rm_X9_turns s m args below meth c H locs 0 0 (MQ below (QI D cI cJ A (w_X9_turns cI cJ h h_order g2 g3 g4 g5 g6 g7 g8 g9 g10 g11 g12 g13 g14 g15 g16 g17 g18 g20 g21 g22 g23 g24 g25 g26 v_points v_faces Rr.2) Rr.1) args s 0 0 A) (F0 m 49 ls [.int s0]) := by
  have hx := C0.1.1
  have hb := C0.1.2.1
  intro l1 l2 s0 v_order H locs ls hSt hl hf
  unfold f_X9_turns_49 at hf
  refine lv_aload_n hx hb dX9_turns_49 rfl (lv_at hl 0 rfl) ?_
  obtain ⟨R1, hR1, hf⟩ := Option.bind_eq_some_iff.mp hf
  have sp : Sp (w_X9_turns cI cJ h h_order g2 g3 g4 g5 g6 g7 g8 g9 g10 g11 g12 g13 g14 g15 g16 g17 g18 g20 g21 g22 g23 g24 g25 g26 v_points v_faces v_order) (w_X9_keeps cI cJ h h_order g2 g3 g4 g5 g6 g7 g8 g9 g10 g11 g12 g13 g14 g15 g16 g17 g18 g20 g21 g22 g23 g24 g25 g26 v_points v_faces v_order) (w_X9_keeps cI cJ h h_order g2 g3 g4 g5 g6 g7 g8 g9 g10 g11 g12 g13 g14 g15 g16 g17 g18 g20 g21 g22 g23 g24 g25 g26 v_points v_faces v_order) (w_X9_turns cI cJ h h_order g2 g3 g4 g5 g6 g7 g8 g9 g10 g11 g12 g13 g14 g15 g16 g17 g18 g20 g21 g22 g23 g24 g25 g26 v_points v_faces v_order) [0, 1] [] [0, 1] := ⟨rfl, rfl, rfl, by decide, by decide, by decide, by decide⟩
  refine hb_ci (hb_rV (As := []) (rest := [.int s0]) C0 hK hA XT.nn hSt sp (c_X9_keeps l D cI cJ h h_order g2 g3 g4 g5 g6 g7 g8 g9 g10 g11 g12 g13 g14 g15 g16 g17 g18 g20 g21 g22 g23 g24 g25 g26   v_points v_faces v_order R1 hR1) gX9_turns_X9_keeps rfl ⟨rfl, rfl⟩ hd_X9_keeps ⟨Nat.le_of_ble_eq_true rfl, Nat.le_of_ble_eq_true rfl⟩ 0 8 rfl rfl rfl hl rfl (Nat.le_of_ble_eq_true rfl) dX9_turns_50 ⟨Nat.zero_le _, Nat.zero_le _⟩) hA hSt sp (fun H locs hSt => ?_)
  refine lv_if_eq (tgt := 60) hx hb dX9_turns_53 (by decide) (fun cc => ?_) (fun cc => ?_)
  · have hf := ite_t hf cc
    exact k_X9_turns_60 C0 hK hA hX hk_28 l1 l2 s0 v_order _ _ _ hSt (lv_sub hl [0, 1, 2] rfl) hf
  · have hf := ite_f hf cc
    refine lv_iconst (v := 1) hx hb dX9_turns_56 (by decide) ?_
    refine lv_goto (tgt := 61) hx hb dX9_turns_57 (by decide) ?_
    exact k_X9_turns_61 C0 hK hA hX hk_28 l1 l2 (1 : Int32) s0 v_order _ _ _ hSt (lv_sub hl [0, 1, 2] rfl) hf
def f_X9_turns_28 (v_points : Int32) (v_faces : Int64)  : Nat → Int32 → Int32 → Int32 → Int32 → (Nat → Int32) → Option (Int32 × (Nat → Int32))
  | 0, _, _, _, _, _ => none
  | n + 1, l1, l2, l3, l4, v_order => if l4 = 0 then some (l3, v_order) else if l1 = (-1 : Int32) then f_X9_turns_49 v_points v_faces (f_X9_turns_28 v_points v_faces n) l1 l2 l3 v_order else gd (ix l1 6) (if (v_order l1.toNatClampNeg) = l2 then f_X9_turns_49 v_points v_faces (f_X9_turns_28 v_points v_faces n) l1 l2 l3 v_order else f_X9_turns_60 v_points v_faces (f_X9_turns_28 v_points v_faces n) l1 l2 l3 v_order)
set_option maxHeartbeats 4000000 in
set_option maxRecDepth 100000 in
theorem k_X9_turns_28 {p : Program} {l : Launch} {e : Env} {s : State} {m : MethodId} {args : Array Value} {below : List Frame} {meth : Method} {c : Code} {A : Nat → Prop} {D : va_G} {cI cJ : ClassId} {h h_order : Nat} {g2 g3 g4 g5 g6 g7 g8 g9 g10 g11 g12 g13 g14 g15 g16 g17 g18 g20 g21 g22 g23 g24 g25 g26 : Value} {v_points : Int32} {v_faces : Int64} (C0 : Cx p s m args meth c cX9_turns wsX9_turns RX9 5 (some .int)) (hK : va_K D vwCl (tyL cI cJ) s) (hA : ∀ q, s.heap.size ≤ q → A q) (hX : XT none A s s.heap) {Rr : Int32 × (Nat → Int32)} (n : Nat) : ∀ (l1 : Int32) (l2 : Int32) (l3 : Int32) (l4 : Int32) (v_order : Nat → Int32) (H : Heap) (locs : List Loc) (ls : Array Slot), St D A s (w_X9_turns cI cJ h h_order g2 g3 g4 g5 g6 g7 g8 g9 g10 g11 g12 g13 g14 g15 g16 g17 g18 g20 g21 g22 g23 g24 g25 g26 v_points v_faces v_order) H locs → lv_has ls 5 [(0, .ref h), (1, .int l1), (2, .int l2), (3, .int l3), (4, .int l4)] → f_X9_turns_28 v_points v_faces n l1 l2 l3 l4 v_order = some Rr → W p l e rm_X9_turns s m args below meth c H locs 0 0 (MQ below (QI D cI cJ A (w_X9_turns cI cJ h h_order g2 g3 g4 g5 g6 g7 g8 g9 g10 g11 g12 g13 g14 g15 g16 g17 g18 g20 g21 g22 g23 g24 g25 g26 v_points v_faces Rr.2) Rr.1) args s 0 0 A) (F0 m 28 ls []) := by
  have hx := C0.1.1
  have hb := C0.1.2.1
  induction n with
  | zero => intro l1 l2 l3 l4 v_order H locs ls hSt hl hf; exact nomatch (show (none : Option _) = some Rr from hf)
  | succ n ih =>
    intro l1 l2 l3 l4 v_order H locs ls hSt hl hf
    unfold f_X9_turns_28 at hf
    refine lv_iload hx hb dX9_turns_28 (lv_at hl 4 rfl) ?_
    refine lv_if_eq (tgt := 72) hx hb dX9_turns_30 (by decide) (fun cc => ?_) (fun cc => ?_)
    · have hf := ite_t hf cc
      refine lv_iload_n hx hb dX9_turns_72 rfl (lv_at hl 3 rfl) ?_
      cases hf
      exact hb_iret C0 hK hSt dX9_turns_73
    · have hf := ite_f hf cc
      refine lv_iload_n hx hb dX9_turns_33 rfl (lv_at hl 3 rfl) ?_
      refine lv_iload_n hx hb dX9_turns_34 rfl (lv_at hl 1 rfl) ?_
      refine lv_iconst (v := -1) hx hb dX9_turns_35 (by decide) ?_
      refine lv_icmp_eq (tgt := 49) hx hb dX9_turns_36 (by decide) (fun cc => ?_) (fun cc => ?_)
      · have hf := ite_t hf cc
        exact k_X9_turns_49 C0 hK hA hX ih l1 l2 l3 v_order _ _ _ hSt (lv_sub hl [0, 1, 2] rfl) hf
      · have hf := ite_f hf cc
        refine lv_aload_n hx hb dX9_turns_39 rfl (lv_at hl 0 rfl) ?_
        refine hb_get C0 hK hSt 0 8 19 rfl rfl iu_X9_turns_X9 (by decide) fl_X9_turns_43 rfl dX9_turns_40 ?_
        refine lv_iload_n hx hb dX9_turns_43 rfl (lv_at hl 1 rfl) ?_
        obtain ⟨hi, hf⟩ := gd_t hf
        refine hb_iald C0 hK hSt 1 rfl hi dX9_turns_44 ?_
        refine lv_iload_n hx hb dX9_turns_45 rfl (lv_at hl 2 rfl) ?_
        refine lv_icmp_ne (tgt := 60) hx hb dX9_turns_46 (by decide) (fun cc => ?_) (fun cc => ?_)
        · have hf := ite_f hf cc
          exact k_X9_turns_60 C0 hK hA hX ih l1 l2 l3 v_order _ _ _ hSt (lv_sub hl [0, 1, 2] rfl) hf
        · have hf := ite_t hf cc
          exact k_X9_turns_49 C0 hK hA hX ih l1 l2 l3 v_order _ _ _ hSt (lv_sub hl [0, 1, 2] rfl) hf
def f_X9_turns_2 (v_points : Int32) (v_faces : Int64)  : Nat → Int32 → Int32 → Int32 → (Nat → Int32) → Option (Int32 × (Nat → Int32))
  | 0, _, _, _, _ => none
  | n + 1, l1, l2, l3, v_order => if v_points ≤ l3 then f_X9_turns_28 v_points v_faces  FU l1 l2 (0 : Int32) (1 : Int32) v_order else gd (ix l3 6) ((f_X9_turns_2 v_points v_faces n) l1 l2 (l3 + 1) (upd v_order l3.toNatClampNeg l3))
set_option maxHeartbeats 4000000 in
set_option maxRecDepth 100000 in
theorem k_X9_turns_2 {p : Program} {l : Launch} {e : Env} {s : State} {m : MethodId} {args : Array Value} {below : List Frame} {meth : Method} {c : Code} {A : Nat → Prop} {D : va_G} {cI cJ : ClassId} {h h_order : Nat} {g2 g3 g4 g5 g6 g7 g8 g9 g10 g11 g12 g13 g14 g15 g16 g17 g18 g20 g21 g22 g23 g24 g25 g26 : Value} {v_points : Int32} {v_faces : Int64} (C0 : Cx p s m args meth c cX9_turns wsX9_turns RX9 5 (some .int)) (hK : va_K D vwCl (tyL cI cJ) s) (hA : ∀ q, s.heap.size ≤ q → A q) (hX : XT none A s s.heap) {Rr : Int32 × (Nat → Int32)} (n : Nat) : ∀ (l1 : Int32) (l2 : Int32) (l3 : Int32) (v_order : Nat → Int32) (H : Heap) (locs : List Loc) (ls : Array Slot), St D A s (w_X9_turns cI cJ h h_order g2 g3 g4 g5 g6 g7 g8 g9 g10 g11 g12 g13 g14 g15 g16 g17 g18 g20 g21 g22 g23 g24 g25 g26 v_points v_faces v_order) H locs → lv_has ls 5 [(0, .ref h), (1, .int l1), (2, .int l2), (3, .int l3)] → f_X9_turns_2 v_points v_faces n l1 l2 l3 v_order = some Rr → W p l e rm_X9_turns s m args below meth c H locs 0 0 (MQ below (QI D cI cJ A (w_X9_turns cI cJ h h_order g2 g3 g4 g5 g6 g7 g8 g9 g10 g11 g12 g13 g14 g15 g16 g17 g18 g20 g21 g22 g23 g24 g25 g26 v_points v_faces Rr.2) Rr.1) args s 0 0 A) (F0 m 2 ls []) := by
  have hx := C0.1.1
  have hb := C0.1.2.1
  induction n with
  | zero => intro l1 l2 l3 v_order H locs ls hSt hl hf; exact nomatch (show (none : Option _) = some Rr from hf)
  | succ n ih =>
    intro l1 l2 l3 v_order H locs ls hSt hl hf
    unfold f_X9_turns_2 at hf
    refine lv_iload_n hx hb dX9_turns_2 rfl (lv_at hl 3 rfl) ?_
    refine lv_aload_n hx hb dX9_turns_3 rfl (lv_at hl 0 rfl) ?_
    refine hb_get C0 hK hSt 0 8 0 rfl rfl iu_X9_turns_X9 (by decide) fl_X9_turns_7 rfl dX9_turns_4 ?_
    refine lv_icmp_ge (tgt := 23) hx hb dX9_turns_7 (by decide) (fun cc => ?_) (fun cc => ?_)
    · have hf := ite_t hf cc
      refine lv_iconst (v := 0) hx hb dX9_turns_23 (by decide) ?_
      refine lv_istore_n (lv' := [(3, .int (0 : Int32)), (0, .ref h), (1, .int l1), (2, .int l2)]) hx hb dX9_turns_24 rfl hl (by decide) rfl (fun ls hl => ?_)
      refine lv_iconst (v := 1) hx hb dX9_turns_25 (by decide) ?_
      refine lv_istore (lv' := [(4, .int (1 : Int32)), (3, .int (0 : Int32)), (0, .ref h), (1, .int l1), (2, .int l2)]) hx hb dX9_turns_26 hl (by decide) rfl (fun ls hl => ?_)
      exact k_X9_turns_28 C0 hK hA hX  FU l1 l2 (0 : Int32) (1 : Int32) v_order _ _ _ hSt (lv_sub hl [2, 3, 4, 1, 0] rfl) hf
    · have hf := ite_f hf cc
      refine lv_aload_n hx hb dX9_turns_10 rfl (lv_at hl 0 rfl) ?_
      refine hb_get C0 hK hSt 0 8 19 rfl rfl iu_X9_turns_X9 (by decide) fl_X9_turns_43 rfl dX9_turns_11 ?_
      refine lv_iload_n hx hb dX9_turns_14 rfl (lv_at hl 3 rfl) ?_
      refine lv_iload_n hx hb dX9_turns_15 rfl (lv_at hl 3 rfl) ?_
      obtain ⟨hi, hf⟩ := gd_t hf
      refine hb_iast C0 hK hSt 1 rfl hi (w' := w_X9_turns cI cJ h h_order g2 g3 g4 g5 g6 g7 g8 g9 g10 g11 g12 g13 g14 g15 g16 g17 g18 g20 g21 g22 g23 g24 g25 g26 v_points v_faces (upd v_order l3.toNatClampNeg l3)) rfl dX9_turns_16 (fun H locs hSt => ?_)
      refine lv_iinc (v := l3 + 1) (lv' := [(3, .int (l3 + 1)), (0, .ref h), (1, .int l1), (2, .int l2)]) hx hb dX9_turns_17 hl (k := 3) rfl rfl (by decide) rfl (fun ls hl => ?_)
      refine lv_goto (tgt := 2) hx hb dX9_turns_20 (by decide) ?_
      exact ih l1 l2 (l3 + 1) (upd v_order l3.toNatClampNeg l3) _ _ _ hSt (lv_sub hl [1, 2, 3, 0] rfl) hf
def f_X9_turns_0 (v_points : Int32) (v_faces : Int64)  (l1 : Int32) (l2 : Int32) (v_order : Nat → Int32) : Option (Int32 × (Nat → Int32)) := f_X9_turns_2 v_points v_faces  FU l1 l2 (0 : Int32) v_order
set_option maxHeartbeats 4000000 in
set_option maxRecDepth 100000 in
theorem k_X9_turns_0 {p : Program} {l : Launch} {e : Env} {s : State} {m : MethodId} {args : Array Value} {below : List Frame} {meth : Method} {c : Code} {A : Nat → Prop} {D : va_G} {cI cJ : ClassId} {h h_order : Nat} {g2 g3 g4 g5 g6 g7 g8 g9 g10 g11 g12 g13 g14 g15 g16 g17 g18 g20 g21 g22 g23 g24 g25 g26 : Value} {v_points : Int32} {v_faces : Int64} (C0 : Cx p s m args meth c cX9_turns wsX9_turns RX9 5 (some .int)) (hK : va_K D vwCl (tyL cI cJ) s) (hA : ∀ q, s.heap.size ≤ q → A q) (hX : XT none A s s.heap) {Rr : Int32 × (Nat → Int32)} : ∀ (l1 : Int32) (l2 : Int32) (v_order : Nat → Int32) (H : Heap) (locs : List Loc) (ls : Array Slot), St D A s (w_X9_turns cI cJ h h_order g2 g3 g4 g5 g6 g7 g8 g9 g10 g11 g12 g13 g14 g15 g16 g17 g18 g20 g21 g22 g23 g24 g25 g26 v_points v_faces v_order) H locs → lv_has ls 5 [(0, .ref h), (1, .int l1), (2, .int l2)] → f_X9_turns_0 v_points v_faces l1 l2 v_order = some Rr → W p l e rm_X9_turns s m args below meth c H locs 0 0 (MQ below (QI D cI cJ A (w_X9_turns cI cJ h h_order g2 g3 g4 g5 g6 g7 g8 g9 g10 g11 g12 g13 g14 g15 g16 g17 g18 g20 g21 g22 g23 g24 g25 g26 v_points v_faces Rr.2) Rr.1) args s 0 0 A) (F0 m 0 ls []) := by
  have hx := C0.1.1
  have hb := C0.1.2.1
  intro l1 l2 v_order H locs ls hSt hl hf
  unfold f_X9_turns_0 at hf
  refine lv_iconst (v := 0) hx hb dX9_turns_0 (by decide) ?_
  refine lv_istore_n (lv' := [(3, .int (0 : Int32)), (0, .ref h), (1, .int l1), (2, .int l2)]) hx hb dX9_turns_1 rfl hl (by decide) rfl (fun ls hl => ?_)
  exact k_X9_turns_2 C0 hK hA hX  FU l1 l2 (0 : Int32) v_order _ _ _ hSt (lv_sub hl [1, 2, 3, 0] rfl) hf
def f_X9_turns (v_points : Int32) (v_faces : Int64) (l1 : Int32) (l2 : Int32) (v_order : Nat → Int32) : Option (Int32 × (Nat → Int32)) := f_X9_turns_0 v_points v_faces l1 l2 v_order
set_option maxRecDepth 100000 in
theorem c_X9_turns (l : Launch) (D : va_G) (cI cJ : ClassId) (h h_order : Nat) (g2 g3 g4 g5 g6 g7 g8 g9 g10 g11 g12 g13 g14 g15 g16 g17 g18 g20 g21 g22 g23 g24 g25 g26 : Value) (l1 : Int32) (l2 : Int32) (v_points : Int32) (v_faces : Int64) (v_order : Nat → Int32) (Rr : Int32 × (Nat → Int32)) (hf : f_X9_turns v_points v_faces l1 l2 v_order = some Rr) : CtI l yX9_turns wsX9_turns rm_X9_turns D cI cJ none [.ref h, .int l1, .int l2] (w_X9_turns cI cJ h h_order g2 g3 g4 g5 g6 g7 g8 g9 g10 g11 g12 g13 g14 g15 g16 g17 g18 g20 g21 g22 g23 g24 g25 g26 v_points v_faces v_order) Rr.1 (w_X9_turns cI cJ h h_order g2 g3 g4 g5 g6 g7 g8 g9 g10 g11 g12 g13 g14 g15 g16 g17 g18 g20 g21 g22 g23 g24 g25 g26 v_points v_faces Rr.2) :=
  fun sz => BodyW.met (av := [.ref h, .int l1, .int l2]) (Qc := fun A => QI D cI cJ A (w_X9_turns cI cJ h h_order g2 g3 g4 g5 g6 g7 g8 g9 g10 g11 g12 g13 g14 g15 g16 g17 g18 g20 g21 g22 g23 g24 g25 g26 v_points v_faces Rr.2) Rr.1) (by decide) rfl rfl (Nat.le_of_ble_eq_true rfl) (fun C0 hK hA hX ls hSt hl => k_X9_turns_0 C0 hK hA hX l1 l2 v_order _ _ ls hSt hl hf) sz
/-! X9 isPoint -/
abbrev rm_X9_isPoint : Room := { frames := 1, cells := 0, slots := 0, locals := 22 }
abbrev w_X9_isPoint (cI cJ : ClassId) (h : Nat) (g1 : Value) (g2 : Value) (g3 : Value) (g4 : Value) (g5 : Value) (g6 : Value) (g7 : Value) (g8 : Value) (g9 : Value) (g10 : Value) (g11 : Value) (g12 : Value) (g13 : Value) (g14 : Value) (g15 : Value) (g16 : Value) (g17 : Value) (g18 : Value) (g19 : Value) (g20 : Value) (g21 : Value) (g22 : Value) (g23 : Value) (g24 : Value) (g25 : Value) (g26 : Value) (v_points : Int32) : va_W := [(h, .inr (8, [.int v_points, g1, g2, g3, g4, g5, g6, g7, g8, g9, g10, g11, g12, g13, g14, g15, g16, g17, g18, g19, g20, g21, g22, g23, g24, g25, g26]))]
theorem iu_X9_isPoint_X9 : ∀ w ∈ wsX90, w ∈ wsX9_isPoint := by decide +kernel
theorem fl_X9_isPoint_7 : Cond.fieldLink RX9 7 (TX9 0).1 (TX9 0).2.1 (TX9 0).2.2.1 ∈ wsX9_isPoint := by decide +kernel
theorem hd_X9_isPoint : yX9_isPoint.cls = RX9 ∧ yX9_isPoint.cls ≠ "java/lang/invoke/MethodHandle" ∧ yX9_isPoint.cls ≠ "java/lang/invoke/VarHandle" ∧ (parseMethodDescriptor yX9_isPoint.desc).map (fun d => d.parameters.length) = some 1 := by decide +kernel
def f_X9_isPoint_0 (v_points : Int32)  (l1 : Int32)  : Option (Int32) := (f_X9_isIn l1 (0 : Int32) (v_points - (1 : Int32))).bind (fun R1 => gd (isb R1) (some R1))
set_option maxHeartbeats 4000000 in
set_option maxRecDepth 100000 in
theorem k_X9_isPoint_0 {p : Program} {l : Launch} {e : Env} {s : State} {m : MethodId} {args : Array Value} {below : List Frame} {meth : Method} {c : Code} {A : Nat → Prop} {D : va_G} {cI cJ : ClassId} {h : Nat} {g1 g2 g3 g4 g5 g6 g7 g8 g9 g10 g11 g12 g13 g14 g15 g16 g17 g18 g19 g20 g21 g22 g23 g24 g25 g26 : Value} {v_points : Int32} (C0 : Cx p s m args meth c cX9_isPoint wsX9_isPoint RX9 2 (some .boolean)) (hK : va_K D vwCl (tyL cI cJ) s) (hA : ∀ q, s.heap.size ≤ q → A q) (hX : XT none A s s.heap) {Rr : Int32} : ∀ (l1 : Int32)  (H : Heap) (locs : List Loc) (ls : Array Slot), St D A s (w_X9_isPoint cI cJ h g1 g2 g3 g4 g5 g6 g7 g8 g9 g10 g11 g12 g13 g14 g15 g16 g17 g18 g19 g20 g21 g22 g23 g24 g25 g26 v_points) H locs → lv_has ls 2 [(0, .ref h), (1, .int l1)] → f_X9_isPoint_0 v_points l1 = some Rr → W p l e rm_X9_isPoint s m args below meth c H locs 0 0 (MQ below (QI D cI cJ A (w_X9_isPoint cI cJ h g1 g2 g3 g4 g5 g6 g7 g8 g9 g10 g11 g12 g13 g14 g15 g16 g17 g18 g19 g20 g21 g22 g23 g24 g25 g26 v_points) Rr) args s 0 0 A) (F0 m 0 ls []) := by
  have hx := C0.1.1
  have hb := C0.1.2.1
  intro l1 H locs ls hSt hl hf
  unfold f_X9_isPoint_0 at hf
  refine lv_iload_n hx hb dX9_isPoint_0 rfl (lv_at hl 1 rfl) ?_
  refine lv_iconst (v := 0) hx hb dX9_isPoint_1 (by decide) ?_
  refine lv_aload_n hx hb dX9_isPoint_2 rfl (lv_at hl 0 rfl) ?_
  refine hb_get C0 hK hSt 0 8 0 rfl rfl iu_X9_isPoint_X9 (by decide) fl_X9_isPoint_7 rfl dX9_isPoint_3 ?_
  refine lv_iconst (v := 1) hx hb dX9_isPoint_6 (by decide) ?_
  refine lv_isub hx hb dX9_isPoint_7 ?_
  obtain ⟨R1, hR1, hf⟩ := Option.bind_eq_some_iff.mp hf
  have sp : Sp (w_X9_isPoint cI cJ h g1 g2 g3 g4 g5 g6 g7 g8 g9 g10 g11 g12 g13 g14 g15 g16 g17 g18 g19 g20 g21 g22 g23 g24 g25 g26 v_points) (w_X9_isIn cI cJ) (w_X9_isIn cI cJ) (w_X9_isPoint cI cJ h g1 g2 g3 g4 g5 g6 g7 g8 g9 g10 g11 g12 g13 g14 g15 g16 g17 g18 g19 g20 g21 g22 g23 g24 g25 g26 v_points) [] [0] [0] := ⟨rfl, rfl, rfl, by decide, by decide, by decide, by decide⟩
  refine hb_ci (hb_rS (As := [.int l1, .int (0 : Int32), .int (v_points - (1 : Int32))]) (rest := []) C0 hK hA XT.nn hSt sp (c_X9_isIn l D cI cJ   l1 (0 : Int32) (v_points - (1 : Int32))  R1 hR1) gX9_isPoint_X9_isIn rfl ⟨rfl, rfl⟩ hd_X9_isIn ⟨Nat.le_of_ble_eq_true rfl, Nat.le_of_ble_eq_true rfl⟩ rfl hl rfl (Nat.le_of_ble_eq_true rfl) dX9_isPoint_8 ⟨Nat.zero_le _, Nat.zero_le _⟩) hA hSt sp (fun H locs hSt => ?_)
  obtain ⟨hz, hf⟩ := gd_t hf
  cases hf
  exact hb_zret C0 hK hSt (isb_n hz).1 dX9_isPoint_11
def f_X9_isPoint (v_points : Int32) (l1 : Int32)  : Option (Int32) := f_X9_isPoint_0 v_points l1
set_option maxRecDepth 100000 in
theorem c_X9_isPoint (l : Launch) (D : va_G) (cI cJ : ClassId) (h : Nat) (g1 g2 g3 g4 g5 g6 g7 g8 g9 g10 g11 g12 g13 g14 g15 g16 g17 g18 g19 g20 g21 g22 g23 g24 g25 g26 : Value) (l1 : Int32) (v_points : Int32) (Rr : Int32) (hf : f_X9_isPoint v_points l1 = some Rr) : CtI l yX9_isPoint wsX9_isPoint rm_X9_isPoint D cI cJ none [.ref h, .int l1] (w_X9_isPoint cI cJ h g1 g2 g3 g4 g5 g6 g7 g8 g9 g10 g11 g12 g13 g14 g15 g16 g17 g18 g19 g20 g21 g22 g23 g24 g25 g26 v_points) Rr (w_X9_isPoint cI cJ h g1 g2 g3 g4 g5 g6 g7 g8 g9 g10 g11 g12 g13 g14 g15 g16 g17 g18 g19 g20 g21 g22 g23 g24 g25 g26 v_points) :=
  fun sz => BodyW.met (av := [.ref h, .int l1]) (Qc := fun A => QI D cI cJ A (w_X9_isPoint cI cJ h g1 g2 g3 g4 g5 g6 g7 g8 g9 g10 g11 g12 g13 g14 g15 g16 g17 g18 g19 g20 g21 g22 g23 g24 g25 g26 v_points) Rr) (by decide) rfl rfl (Nat.le_of_ble_eq_true rfl) (fun C0 hK hA hX ls hSt hl => k_X9_isPoint_0 C0 hK hA hX l1  _ _ ls hSt hl hf) sz
/-! X9 alike -/
abbrev rm_X9_alike : Room := { frames := 3, cells := 0, slots := 0, locals := 69 }
abbrev w_X9_alike (cI cJ : ClassId) (h : Nat) (h_order : Nat) (g2 : Value) (g3 : Value) (g4 : Value) (g5 : Value) (g6 : Value) (g7 : Value) (g8 : Value) (g9 : Value) (g10 : Value) (g11 : Value) (g12 : Value) (g13 : Value) (g14 : Value) (g15 : Value) (g16 : Value) (g17 : Value) (g18 : Value) (g20 : Value) (g21 : Value) (g22 : Value) (g23 : Value) (g24 : Value) (g25 : Value) (g26 : Value) (v_points : Int32) (v_faces : Int64) (v_order : Nat → Int32) : va_W := [(h, .inr (8, [.int v_points, .long v_faces, g2, g3, g4, g5, g6, g7, g8, g9, g10, g11, g12, g13, g14, g15, g16, g17, g18, .ref h_order, g20, g21, g22, g23, g24, g25, g26])), (h_order, .inl (cI, 6, .inl v_order))]
theorem hd_X9_alike : yX9_alike.cls = RX9 ∧ yX9_alike.cls ≠ "java/lang/invoke/MethodHandle" ∧ yX9_alike.cls ≠ "java/lang/invoke/VarHandle" ∧ (parseMethodDescriptor yX9_alike.desc).map (fun d => d.parameters.length) = some 2 := by decide +kernel
def f_X9_alike_16 (v_points : Int32) (v_faces : Int64)   (v_order : Nat → Int32) : Option (Int32 × (Nat → Int32)) := some ((-1 : Int32), v_order)
set_option maxHeartbeats 4000000 in
set_option maxRecDepth 100000 in
theorem k_X9_alike_16 {p : Program} {l : Launch} {e : Env} {s : State} {m : MethodId} {args : Array Value} {below : List Frame} {meth : Method} {c : Code} {A : Nat → Prop} {D : va_G} {cI cJ : ClassId} {h h_order : Nat} {g2 g3 g4 g5 g6 g7 g8 g9 g10 g11 g12 g13 g14 g15 g16 g17 g18 g20 g21 g22 g23 g24 g25 g26 : Value} {v_points : Int32} {v_faces : Int64} (C0 : Cx p s m args meth c cX9_alike wsX9_alike RX9 3 (some .int)) (hK : va_K D vwCl (tyL cI cJ) s) (hA : ∀ q, s.heap.size ≤ q → A q) (hX : XT none A s s.heap) {Rr : Int32 × (Nat → Int32)} : ∀  (v_order : Nat → Int32) (H : Heap) (locs : List Loc) (ls : Array Slot), St D A s (w_X9_alike cI cJ h h_order g2 g3 g4 g5 g6 g7 g8 g9 g10 g11 g12 g13 g14 g15 g16 g17 g18 g20 g21 g22 g23 g24 g25 g26 v_points v_faces v_order) H locs → lv_has ls 3 [] → f_X9_alike_16 v_points v_faces v_order = some Rr → W p l e rm_X9_alike s m args below meth c H locs 0 0 (MQ below (QI D cI cJ A (w_X9_alike cI cJ h h_order g2 g3 g4 g5 g6 g7 g8 g9 g10 g11 g12 g13 g14 g15 g16 g17 g18 g20 g21 g22 g23 g24 g25 g26 v_points v_faces Rr.2) Rr.1) args s 0 0 A) (F0 m 16 ls []) := by
  have hx := C0.1.1
  have hb := C0.1.2.1
  intro v_order H locs ls hSt hl hf
  unfold f_X9_alike_16 at hf
  refine lv_iconst (v := -1) hx hb dX9_alike_16 (by decide) ?_
  refine lv_goto (tgt := 34) hx hb dX9_alike_17 (by decide) ?_
  cases hf
  exact hb_iret C0 hK hSt dX9_alike_34
def f_X9_alike_0 (v_points : Int32) (v_faces : Int64)  (l1 : Int32) (l2 : Int32) (v_order : Nat → Int32) : Option (Int32 × (Nat → Int32)) := (f_X9_isPoint v_points l1).bind (fun R1 => if R1 = 0 then f_X9_alike_16 v_points v_faces  v_order else (f_X9_isPoint v_points l2).bind (fun R2 => if R2 = 0 then f_X9_alike_16 v_points v_faces  v_order else (f_X9_turns v_points v_faces l1 l2 v_order).bind (fun R3 => if R3.1 ≤ 0 then some ((0 : Int32), R3.2) else some ((1 : Int32), R3.2))))
set_option maxHeartbeats 4000000 in
set_option maxRecDepth 100000 in
theorem k_X9_alike_0 {p : Program} {l : Launch} {e : Env} {s : State} {m : MethodId} {args : Array Value} {below : List Frame} {meth : Method} {c : Code} {A : Nat → Prop} {D : va_G} {cI cJ : ClassId} {h h_order : Nat} {g2 g3 g4 g5 g6 g7 g8 g9 g10 g11 g12 g13 g14 g15 g16 g17 g18 g20 g21 g22 g23 g24 g25 g26 : Value} {v_points : Int32} {v_faces : Int64} (C0 : Cx p s m args meth c cX9_alike wsX9_alike RX9 3 (some .int)) (hK : va_K D vwCl (tyL cI cJ) s) (hA : ∀ q, s.heap.size ≤ q → A q) (hX : XT none A s s.heap) {Rr : Int32 × (Nat → Int32)} : ∀ (l1 : Int32) (l2 : Int32) (v_order : Nat → Int32) (H : Heap) (locs : List Loc) (ls : Array Slot), St D A s (w_X9_alike cI cJ h h_order g2 g3 g4 g5 g6 g7 g8 g9 g10 g11 g12 g13 g14 g15 g16 g17 g18 g20 g21 g22 g23 g24 g25 g26 v_points v_faces v_order) H locs → lv_has ls 3 [(0, .ref h), (1, .int l1), (2, .int l2)] → f_X9_alike_0 v_points v_faces l1 l2 v_order = some Rr → W p l e rm_X9_alike s m args below meth c H locs 0 0 (MQ below (QI D cI cJ A (w_X9_alike cI cJ h h_order g2 g3 g4 g5 g6 g7 g8 g9 g10 g11 g12 g13 g14 g15 g16 g17 g18 g20 g21 g22 g23 g24 g25 g26 v_points v_faces Rr.2) Rr.1) args s 0 0 A) (F0 m 0 ls []) := by
  have hx := C0.1.1
  have hb := C0.1.2.1
  intro l1 l2 v_order H locs ls hSt hl hf
  unfold f_X9_alike_0 at hf
  refine lv_aload_n hx hb dX9_alike_0 rfl (lv_at hl 0 rfl) ?_
  refine lv_iload_n hx hb dX9_alike_1 rfl (lv_at hl 1 rfl) ?_
  obtain ⟨R1, hR1, hf⟩ := Option.bind_eq_some_iff.mp hf
  have sp : Sp (w_X9_alike cI cJ h h_order g2 g3 g4 g5 g6 g7 g8 g9 g10 g11 g12 g13 g14 g15 g16 g17 g18 g20 g21 g22 g23 g24 g25 g26 v_points v_faces v_order) (w_X9_isPoint cI cJ h (.long v_faces) g2 g3 g4 g5 g6 g7 g8 g9 g10 g11 g12 g13 g14 g15 g16 g17 g18 (.ref h_order) g20 g21 g22 g23 g24 g25 g26 v_points) (w_X9_isPoint cI cJ h (.long v_faces) g2 g3 g4 g5 g6 g7 g8 g9 g10 g11 g12 g13 g14 g15 g16 g17 g18 (.ref h_order) g20 g21 g22 g23 g24 g25 g26 v_points) (w_X9_alike cI cJ h h_order g2 g3 g4 g5 g6 g7 g8 g9 g10 g11 g12 g13 g14 g15 g16 g17 g18 g20 g21 g22 g23 g24 g25 g26 v_points v_faces v_order) [0] [1] [1, 0] := ⟨rfl, rfl, rfl, by decide, by decide, by decide, by decide⟩
  refine hb_ci (hb_rV (As := [.int l1]) (rest := []) C0 hK hA XT.nn hSt sp (c_X9_isPoint l D cI cJ h (.long v_faces) g2 g3 g4 g5 g6 g7 g8 g9 g10 g11 g12 g13 g14 g15 g16 g17 g18 (.ref h_order) g20 g21 g22 g23 g24 g25 g26  l1 v_points R1 hR1) gX9_alike_X9_isPoint rfl ⟨rfl, rfl⟩ hd_X9_isPoint ⟨Nat.le_of_ble_eq_true rfl, Nat.le_of_ble_eq_true rfl⟩ 0 8 rfl rfl rfl hl rfl (Nat.le_of_ble_eq_true rfl) dX9_alike_2 ⟨Nat.zero_le _, Nat.zero_le _⟩) hA hSt sp (fun H locs hSt => ?_)
  refine lv_if_eq (tgt := 16) hx hb dX9_alike_5 (by decide) (fun cc => ?_) (fun cc => ?_)
  · have hf := ite_t hf cc
    exact k_X9_alike_16 C0 hK hA hX  v_order _ _ _ hSt (lv_sub hl [] rfl) hf
  · have hf := ite_f hf cc
    refine lv_aload_n hx hb dX9_alike_8 rfl (lv_at hl 0 rfl) ?_
    refine lv_iload_n hx hb dX9_alike_9 rfl (lv_at hl 2 rfl) ?_
    obtain ⟨R2, hR2, hf⟩ := Option.bind_eq_some_iff.mp hf
    have sp : Sp (w_X9_alike cI cJ h h_order g2 g3 g4 g5 g6 g7 g8 g9 g10 g11 g12 g13 g14 g15 g16 g17 g18 g20 g21 g22 g23 g24 g25 g26 v_points v_faces v_order) (w_X9_isPoint cI cJ h (.long v_faces) g2 g3 g4 g5 g6 g7 g8 g9 g10 g11 g12 g13 g14 g15 g16 g17 g18 (.ref h_order) g20 g21 g22 g23 g24 g25 g26 v_points) (w_X9_isPoint cI cJ h (.long v_faces) g2 g3 g4 g5 g6 g7 g8 g9 g10 g11 g12 g13 g14 g15 g16 g17 g18 (.ref h_order) g20 g21 g22 g23 g24 g25 g26 v_points) (w_X9_alike cI cJ h h_order g2 g3 g4 g5 g6 g7 g8 g9 g10 g11 g12 g13 g14 g15 g16 g17 g18 g20 g21 g22 g23 g24 g25 g26 v_points v_faces v_order) [0] [1] [1, 0] := ⟨rfl, rfl, rfl, by decide, by decide, by decide, by decide⟩
    refine hb_ci (hb_rV (As := [.int l2]) (rest := []) C0 hK hA XT.nn hSt sp (c_X9_isPoint l D cI cJ h (.long v_faces) g2 g3 g4 g5 g6 g7 g8 g9 g10 g11 g12 g13 g14 g15 g16 g17 g18 (.ref h_order) g20 g21 g22 g23 g24 g25 g26  l2 v_points R2 hR2) gX9_alike_X9_isPoint rfl ⟨rfl, rfl⟩ hd_X9_isPoint ⟨Nat.le_of_ble_eq_true rfl, Nat.le_of_ble_eq_true rfl⟩ 0 8 rfl rfl rfl hl rfl (Nat.le_of_ble_eq_true rfl) dX9_alike_10 ⟨Nat.zero_le _, Nat.zero_le _⟩) hA hSt sp (fun H locs hSt => ?_)
    refine lv_if_ne (tgt := 20) hx hb dX9_alike_13 (by decide) (fun cc => ?_) (fun cc => ?_)
    · have hf := ite_f hf cc
      refine lv_aload_n hx hb dX9_alike_20 rfl (lv_at hl 0 rfl) ?_
      refine lv_iload_n hx hb dX9_alike_21 rfl (lv_at hl 1 rfl) ?_
      refine lv_iload_n hx hb dX9_alike_22 rfl (lv_at hl 2 rfl) ?_
      obtain ⟨R3, hR3, hf⟩ := Option.bind_eq_some_iff.mp hf
      have sp : Sp (w_X9_alike cI cJ h h_order g2 g3 g4 g5 g6 g7 g8 g9 g10 g11 g12 g13 g14 g15 g16 g17 g18 g20 g21 g22 g23 g24 g25 g26 v_points v_faces v_order) (w_X9_turns cI cJ h h_order g2 g3 g4 g5 g6 g7 g8 g9 g10 g11 g12 g13 g14 g15 g16 g17 g18 g20 g21 g22 g23 g24 g25 g26 v_points v_faces v_order) (w_X9_turns cI cJ h h_order g2 g3 g4 g5 g6 g7 g8 g9 g10 g11 g12 g13 g14 g15 g16 g17 g18 g20 g21 g22 g23 g24 g25 g26 v_points v_faces R3.2) (w_X9_alike cI cJ h h_order g2 g3 g4 g5 g6 g7 g8 g9 g10 g11 g12 g13 g14 g15 g16 g17 g18 g20 g21 g22 g23 g24 g25 g26 v_points v_faces R3.2) [0, 1] [] [0, 1] := ⟨rfl, rfl, rfl, by decide, by decide, by decide, by decide⟩
      refine hb_ci (hb_rV (As := [.int l1, .int l2]) (rest := []) C0 hK hA XT.nn hSt sp (c_X9_turns l D cI cJ h h_order g2 g3 g4 g5 g6 g7 g8 g9 g10 g11 g12 g13 g14 g15 g16 g17 g18 g20 g21 g22 g23 g24 g25 g26  l1 l2 v_points v_faces v_order R3 hR3) gX9_alike_X9_turns rfl ⟨rfl, rfl⟩ hd_X9_turns ⟨Nat.le_of_ble_eq_true rfl, Nat.le_of_ble_eq_true rfl⟩ 0 8 rfl rfl rfl hl rfl (Nat.le_of_ble_eq_true rfl) dX9_alike_23 ⟨Nat.zero_le _, Nat.zero_le _⟩) hA hSt sp (fun H locs hSt => ?_)
      refine lv_if_le (tgt := 33) hx hb dX9_alike_26 (by decide) (fun cc => ?_) (fun cc => ?_)
      · have hf := ite_t hf cc
        refine lv_iconst (v := 0) hx hb dX9_alike_33 (by decide) ?_
        cases hf
        exact hb_iret C0 hK hSt dX9_alike_34
      · have hf := ite_f hf cc
        refine lv_iconst (v := 1) hx hb dX9_alike_29 (by decide) ?_
        refine lv_goto (tgt := 34) hx hb dX9_alike_30 (by decide) ?_
        cases hf
        exact hb_iret C0 hK hSt dX9_alike_34
    · have hf := ite_t hf cc
      exact k_X9_alike_16 C0 hK hA hX  v_order _ _ _ hSt (lv_sub hl [] rfl) hf
def f_X9_alike (v_points : Int32) (v_faces : Int64) (l1 : Int32) (l2 : Int32) (v_order : Nat → Int32) : Option (Int32 × (Nat → Int32)) := f_X9_alike_0 v_points v_faces l1 l2 v_order
set_option maxRecDepth 100000 in
theorem c_X9_alike (l : Launch) (D : va_G) (cI cJ : ClassId) (h h_order : Nat) (g2 g3 g4 g5 g6 g7 g8 g9 g10 g11 g12 g13 g14 g15 g16 g17 g18 g20 g21 g22 g23 g24 g25 g26 : Value) (l1 : Int32) (l2 : Int32) (v_points : Int32) (v_faces : Int64) (v_order : Nat → Int32) (Rr : Int32 × (Nat → Int32)) (hf : f_X9_alike v_points v_faces l1 l2 v_order = some Rr) : CtI l yX9_alike wsX9_alike rm_X9_alike D cI cJ none [.ref h, .int l1, .int l2] (w_X9_alike cI cJ h h_order g2 g3 g4 g5 g6 g7 g8 g9 g10 g11 g12 g13 g14 g15 g16 g17 g18 g20 g21 g22 g23 g24 g25 g26 v_points v_faces v_order) Rr.1 (w_X9_alike cI cJ h h_order g2 g3 g4 g5 g6 g7 g8 g9 g10 g11 g12 g13 g14 g15 g16 g17 g18 g20 g21 g22 g23 g24 g25 g26 v_points v_faces Rr.2) :=
  fun sz => BodyW.met (av := [.ref h, .int l1, .int l2]) (Qc := fun A => QI D cI cJ A (w_X9_alike cI cJ h h_order g2 g3 g4 g5 g6 g7 g8 g9 g10 g11 g12 g13 g14 g15 g16 g17 g18 g20 g21 g22 g23 g24 g25 g26 v_points v_faces Rr.2) Rr.1) (by decide) rfl rfl (Nat.le_of_ble_eq_true rfl) (fun C0 hK hA hX ls hSt hl => k_X9_alike_0 C0 hK hA hX l1 l2 v_order _ _ ls hSt hl hf) sz
/-! X9 classes -/
abbrev rm_X9_classes : Room := { frames := 3, cells := 0, slots := 0, locals := 69 }
abbrev w_X9_classes (cI cJ : ClassId) (h : Nat) (h_order : Nat) (g2 : Value) (g3 : Value) (g4 : Value) (g5 : Value) (g6 : Value) (g7 : Value) (g8 : Value) (g9 : Value) (g10 : Value) (g11 : Value) (g12 : Value) (g13 : Value) (g14 : Value) (g15 : Value) (g16 : Value) (g17 : Value) (g18 : Value) (g20 : Value) (g21 : Value) (g22 : Value) (g23 : Value) (g24 : Value) (g25 : Value) (g26 : Value) (v_points : Int32) (v_faces : Int64) (v_order : Nat → Int32) : va_W := [(h, .inr (8, [.int v_points, .long v_faces, g2, g3, g4, g5, g6, g7, g8, g9, g10, g11, g12, g13, g14, g15, g16, g17, g18, .ref h_order, g20, g21, g22, g23, g24, g25, g26])), (h_order, .inl (cI, 6, .inl v_order))]
theorem iu_X9_classes_X9 : ∀ w ∈ wsX90, w ∈ wsX9_classes := by decide +kernel
theorem fl_X9_classes_7 : Cond.fieldLink RX9 7 (TX9 0).1 (TX9 0).2.1 (TX9 0).2.2.1 ∈ wsX9_classes := by decide +kernel
theorem hd_X9_classes : yX9_classes.cls = RX9 ∧ yX9_classes.cls ≠ "java/lang/invoke/MethodHandle" ∧ yX9_classes.cls ≠ "java/lang/invoke/VarHandle" ∧ (parseMethodDescriptor yX9_classes.desc).map (fun d => d.parameters.length) = some 0 := by decide +kernel
def f_X9_classes_42 (v_points : Int32) (v_faces : Int64) (k_4 : Int32 → Int32 → (Nat → Int32) → Option (Int32 × (Nat → Int32))) (k_17 : Int32 → Int32 → Int32 → Int32 → (Nat → Int32) → Option (Int32 × (Nat → Int32))) (l1 : Int32) (l2 : Int32) (l4 : Int32) (s0 : Int32) (v_order : Nat → Int32) : Option (Int32 × (Nat → Int32)) := k_17 l1 l2 s0 (l4 + 1) v_order
set_option maxHeartbeats 4000000 in
set_option maxRecDepth 100000 in
theorem k_X9_classes_42 {p : Program} {l : Launch} {e : Env} {s : State} {m : MethodId} {args : Array Value} {below : List Frame} {meth : Method} {c : Code} {A : Nat → Prop} {D : va_G} {cI cJ : ClassId} {h h_order : Nat} {g2 g3 g4 g5 g6 g7 g8 g9 g10 g11 g12 g13 g14 g15 g16 g17 g18 g20 g21 g22 g23 g24 g25 g26 : Value} {v_points : Int32} {v_faces : Int64} (C0 : Cx p s m args meth c cX9_classes wsX9_classes RX9 5 (some .int)) (hK : va_K D vwCl (tyL cI cJ) s) (hA : ∀ q, s.heap.size ≤ q → A q) (hX : XT none A s s.heap) {Rr : Int32 × (Nat → Int32)} {k_4 : Int32 → Int32 → (Nat → Int32) → Option (Int32 × (Nat → Int32))} (hk_4 : ∀ (l1 : Int32) (l2 : Int32) (v_order : Nat → Int32) (H : Heap) (locs : List Loc) (ls : Array Slot), St D A s (w_X9_classes cI cJ h h_order g2 g3 g4 g5 g6 g7 g8 g9 g10 g11 g12 g13 g14 g15 g16 g17 g18 g20 g21 g22 g23 g24 g25 g26 v_points v_faces v_order) H locs → lv_has ls 5 [(0, .ref h), (1, .int l1), (2, .int l2)] → k_4 l1 l2 v_order = some Rr → W p l e rm_X9_classes s m args below meth c H locs 0 0 (MQ below (QI D cI cJ A (w_X9_classes cI cJ h h_order g2 g3 g4 g5 g6 g7 g8 g9 g10 g11 g12 g13 g14 g15 g16 g17 g18 g20 g21 g22 g23 g24 g25 g26 v_points v_faces Rr.2) Rr.1) args s 0 0 A) (F0 m 4 ls [])) {k_17 : Int32 → Int32 → Int32 → Int32 → (Nat → Int32) → Option (Int32 × (Nat → Int32))} (hk_17 : ∀ (l1 : Int32) (l2 : Int32) (l3 : Int32) (l4 : Int32) (v_order : Nat → Int32) (H : Heap) (locs : List Loc) (ls : Array Slot), St D A s (w_X9_classes cI cJ h h_order g2 g3 g4 g5 g6 g7 g8 g9 g10 g11 g12 g13 g14 g15 g16 g17 g18 g20 g21 g22 g23 g24 g25 g26 v_points v_faces v_order) H locs → lv_has ls 5 [(0, .ref h), (1, .int l1), (2, .int l2), (3, .int l3), (4, .int l4)] → k_17 l1 l2 l3 l4 v_order = some Rr → W p l e rm_X9_classes s m args below meth c H locs 0 0 (MQ below (QI D cI cJ A (w_X9_classes cI cJ h h_order g2 g3 g4 g5 g6 g7 g8 g9 g10 g11 g12 g13 g14 g15 g16 g17 g18 g20 g21 g22 g23 g24 g25 g26 v_points v_faces Rr.2) Rr.1) args s 0 0 A) (F0 m 17 ls [])) : ∀ (l1 : Int32) (l2 : Int32) (l4 : Int32) (s0 : Int32) (v_order : Nat → Int32) (H : Heap) (locs : List Loc) (ls : Array Slot), St D A s (w_X9_classes cI cJ h h_order g2 g3 g4 g5 g6 g7 g8 g9 g10 g11 g12 g13 g14 g15 g16 g17 g18 g20 g21 g22 g23 g24 g25 g26 v_points v_faces v_order) H locs → lv_has ls 5 [(0, .ref h), (1, .int l1), (2, .int l2), (4, .int l4)] → f_X9_classes_42 v_points v_faces k_4 k_17 l1 l2 l4 s0 v_order = some Rr → W p l e rm_X9_classes s m args below meth c H locs 0 0 (MQ below (QI D cI cJ A (w_X9_classes cI cJ h h_order g2 g3 g4 g5 g6 g7 g8 g9 g10 g11 g12 g13 g14 g15 g16 g17 g18 g20 g21 g22 g23 g24 g25 g26 v_points v_faces Rr.2) Rr.1) args s 0 0 A) (F0 m 42 ls [.int s0]) := by
  have hx := C0.1.1
  have hb := C0.1.2.1
  intro l1 l2 l4 s0 v_order H locs ls hSt hl hf
  unfold f_X9_classes_42 at hf
  refine lv_istore_n (lv' := [(3, .int s0), (0, .ref h), (1, .int l1), (2, .int l2), (4, .int l4)]) hx hb dX9_classes_42 rfl hl (by decide) rfl (fun ls hl => ?_)
  refine lv_iinc (v := l4 + 1) (lv' := [(4, .int (l4 + 1)), (3, .int s0), (0, .ref h), (1, .int l1), (2, .int l2)]) hx hb dX9_classes_43 hl (k := 4) rfl rfl (by decide) rfl (fun ls hl => ?_)
  refine lv_goto (tgt := 17) hx hb dX9_classes_46 (by decide) ?_
  exact hk_17 l1 l2 s0 (l4 + 1) v_order _ _ _ hSt (lv_sub hl [2, 3, 4, 1, 0] rfl) hf
def f_X9_classes_59 (v_points : Int32) (v_faces : Int64) (k_4 : Int32 → Int32 → (Nat → Int32) → Option (Int32 × (Nat → Int32))) (l2 : Int32) (s0 : Int32) (s1 : Int32) (v_order : Nat → Int32) : Option (Int32 × (Nat → Int32)) := k_4 (s1 + s0) (l2 + 1) v_order
set_option maxHeartbeats 4000000 in
set_option maxRecDepth 100000 in
theorem k_X9_classes_59 {p : Program} {l : Launch} {e : Env} {s : State} {m : MethodId} {args : Array Value} {below : List Frame} {meth : Method} {c : Code} {A : Nat → Prop} {D : va_G} {cI cJ : ClassId} {h h_order : Nat} {g2 g3 g4 g5 g6 g7 g8 g9 g10 g11 g12 g13 g14 g15 g16 g17 g18 g20 g21 g22 g23 g24 g25 g26 : Value} {v_points : Int32} {v_faces : Int64} (C0 : Cx p s m args meth c cX9_classes wsX9_classes RX9 5 (some .int)) (hK : va_K D vwCl (tyL cI cJ) s) (hA : ∀ q, s.heap.size ≤ q → A q) (hX : XT none A s s.heap) {Rr : Int32 × (Nat → Int32)} {k_4 : Int32 → Int32 → (Nat → Int32) → Option (Int32 × (Nat → Int32))} (hk_4 : ∀ (l1 : Int32) (l2 : Int32) (v_order : Nat → Int32) (H : Heap) (locs : List Loc) (ls : Array Slot), St D A s (w_X9_classes cI cJ h h_order g2 g3 g4 g5 g6 g7 g8 g9 g10 g11 g12 g13 g14 g15 g16 g17 g18 g20 g21 g22 g23 g24 g25 g26 v_points v_faces v_order) H locs → lv_has ls 5 [(0, .ref h), (1, .int l1), (2, .int l2)] → k_4 l1 l2 v_order = some Rr → W p l e rm_X9_classes s m args below meth c H locs 0 0 (MQ below (QI D cI cJ A (w_X9_classes cI cJ h h_order g2 g3 g4 g5 g6 g7 g8 g9 g10 g11 g12 g13 g14 g15 g16 g17 g18 g20 g21 g22 g23 g24 g25 g26 v_points v_faces Rr.2) Rr.1) args s 0 0 A) (F0 m 4 ls [])) : ∀ (l2 : Int32) (s0 : Int32) (s1 : Int32) (v_order : Nat → Int32) (H : Heap) (locs : List Loc) (ls : Array Slot), St D A s (w_X9_classes cI cJ h h_order g2 g3 g4 g5 g6 g7 g8 g9 g10 g11 g12 g13 g14 g15 g16 g17 g18 g20 g21 g22 g23 g24 g25 g26 v_points v_faces v_order) H locs → lv_has ls 5 [(0, .ref h), (2, .int l2)] → f_X9_classes_59 v_points v_faces k_4 l2 s0 s1 v_order = some Rr → W p l e rm_X9_classes s m args below meth c H locs 0 0 (MQ below (QI D cI cJ A (w_X9_classes cI cJ h h_order g2 g3 g4 g5 g6 g7 g8 g9 g10 g11 g12 g13 g14 g15 g16 g17 g18 g20 g21 g22 g23 g24 g25 g26 v_points v_faces Rr.2) Rr.1) args s 0 0 A) (F0 m 59 ls [.int s0, .int s1]) := by
  have hx := C0.1.1
  have hb := C0.1.2.1
  intro l2 s0 s1 v_order H locs ls hSt hl hf
  unfold f_X9_classes_59 at hf
  refine lv_iadd hx hb dX9_classes_59 ?_
  refine lv_istore_n (lv' := [(1, .int (s1 + s0)), (0, .ref h), (2, .int l2)]) hx hb dX9_classes_60 rfl hl (by decide) rfl (fun ls hl => ?_)
  refine lv_iinc (v := l2 + 1) (lv' := [(2, .int (l2 + 1)), (1, .int (s1 + s0)), (0, .ref h)]) hx hb dX9_classes_61 hl (k := 2) rfl rfl (by decide) rfl (fun ls hl => ?_)
  refine lv_goto (tgt := 4) hx hb dX9_classes_64 (by decide) ?_
  exact hk_4 (s1 + s0) (l2 + 1) v_order _ _ _ hSt (lv_sub hl [2, 1, 0] rfl) hf
def f_X9_classes_49 (v_points : Int32) (v_faces : Int64) (k_4 : Int32 → Int32 → (Nat → Int32) → Option (Int32 × (Nat → Int32))) (l1 : Int32) (l2 : Int32) (l3 : Int32) (v_order : Nat → Int32) : Option (Int32 × (Nat → Int32)) := if l3 = 0 then f_X9_classes_59 v_points v_faces k_4 l2 (0 : Int32) l1 v_order else f_X9_classes_59 v_points v_faces k_4 l2 (1 : Int32) l1 v_order
set_option maxHeartbeats 4000000 in
set_option maxRecDepth 100000 in
theorem k_X9_classes_49 {p : Program} {l : Launch} {e : Env} {s : State} {m : MethodId} {args : Array Value} {below : List Frame} {meth : Method} {c : Code} {A : Nat → Prop} {D : va_G} {cI cJ : ClassId} {h h_order : Nat} {g2 g3 g4 g5 g6 g7 g8 g9 g10 g11 g12 g13 g14 g15 g16 g17 g18 g20 g21 g22 g23 g24 g25 g26 : Value} {v_points : Int32} {v_faces : Int64} (C0 : Cx p s m args meth c cX9_classes wsX9_classes RX9 5 (some .int)) (hK : va_K D vwCl (tyL cI cJ) s) (hA : ∀ q, s.heap.size ≤ q → A q) (hX : XT none A s s.heap) {Rr : Int32 × (Nat → Int32)} {k_4 : Int32 → Int32 → (Nat → Int32) → Option (Int32 × (Nat → Int32))} (hk_4 : ∀ (l1 : Int32) (l2 : Int32) (v_order : Nat → Int32) (H : Heap) (locs : List Loc) (ls : Array Slot), St D A s (w_X9_classes cI cJ h h_order g2 g3 g4 g5 g6 g7 g8 g9 g10 g11 g12 g13 g14 g15 g16 g17 g18 g20 g21 g22 g23 g24 g25 g26 v_points v_faces v_order) H locs → lv_has ls 5 [(0, .ref h), (1, .int l1), (2, .int l2)] → k_4 l1 l2 v_order = some Rr → W p l e rm_X9_classes s m args below meth c H locs 0 0 (MQ below (QI D cI cJ A (w_X9_classes cI cJ h h_order g2 g3 g4 g5 g6 g7 g8 g9 g10 g11 g12 g13 g14 g15 g16 g17 g18 g20 g21 g22 g23 g24 g25 g26 v_points v_faces Rr.2) Rr.1) args s 0 0 A) (F0 m 4 ls [])) : ∀ (l1 : Int32) (l2 : Int32) (l3 : Int32) (v_order : Nat → Int32) (H : Heap) (locs : List Loc) (ls : Array Slot), St D A s (w_X9_classes cI cJ h h_order g2 g3 g4 g5 g6 g7 g8 g9 g10 g11 g12 g13 g14 g15 g16 g17 g18 g20 g21 g22 g23 g24 g25 g26 v_points v_faces v_order) H locs → lv_has ls 5 [(0, .ref h), (1, .int l1), (2, .int l2), (3, .int l3)] → f_X9_classes_49 v_points v_faces k_4 l1 l2 l3 v_order = some Rr → W p l e rm_X9_classes s m args below meth c H locs 0 0 (MQ below (QI D cI cJ A (w_X9_classes cI cJ h h_order g2 g3 g4 g5 g6 g7 g8 g9 g10 g11 g12 g13 g14 g15 g16 g17 g18 g20 g21 g22 g23 g24 g25 g26 v_points v_faces Rr.2) Rr.1) args s 0 0 A) (F0 m 49 ls []) := by
  have hx := C0.1.1
  have hb := C0.1.2.1
  intro l1 l2 l3 v_order H locs ls hSt hl hf
  unfold f_X9_classes_49 at hf
  refine lv_iload_n hx hb dX9_classes_49 rfl (lv_at hl 1 rfl) ?_
  refine lv_iload_n hx hb dX9_classes_50 rfl (lv_at hl 3 rfl) ?_
  refine lv_if_eq (tgt := 58) hx hb dX9_classes_51 (by decide) (fun cc => ?_) (fun cc => ?_)
  · have hf := ite_t hf cc
    refine lv_iconst (v := 0) hx hb dX9_classes_58 (by decide) ?_
    exact k_X9_classes_59 C0 hK hA hX hk_4 l2 (0 : Int32) l1 v_order _ _ _ hSt (lv_sub hl [0, 2] rfl) hf
  · have hf := ite_f hf cc
    refine lv_iconst (v := 1) hx hb dX9_classes_54 (by decide) ?_
    refine lv_goto (tgt := 59) hx hb dX9_classes_55 (by decide) ?_
    exact k_X9_classes_59 C0 hK hA hX hk_4 l2 (1 : Int32) l1 v_order _ _ _ hSt (lv_sub hl [0, 2] rfl) hf
def f_X9_classes_17 (v_points : Int32) (v_faces : Int64) (k_4 : Int32 → Int32 → (Nat → Int32) → Option (Int32 × (Nat → Int32))) : Nat → Int32 → Int32 → Int32 → Int32 → (Nat → Int32) → Option (Int32 × (Nat → Int32))
  | 0, _, _, _, _, _ => none
  | n + 1, l1, l2, l3, l4, v_order => if l2 ≤ l4 then f_X9_classes_49 v_points v_faces k_4 l1 l2 l3 v_order else if l3 = 0 then f_X9_classes_49 v_points v_faces k_4 l1 l2 l3 v_order else (f_X9_turns v_points v_faces l4 l2 v_order).bind (fun R1 => if R1.1 = 0 then f_X9_classes_42 v_points v_faces k_4 (f_X9_classes_17 v_points v_faces k_4 n) l1 l2 l4 (1 : Int32) R1.2 else f_X9_classes_42 v_points v_faces k_4 (f_X9_classes_17 v_points v_faces k_4 n) l1 l2 l4 (0 : Int32) R1.2)
set_option maxHeartbeats 4000000 in
set_option maxRecDepth 100000 in
theorem k_X9_classes_17 {p : Program} {l : Launch} {e : Env} {s : State} {m : MethodId} {args : Array Value} {below : List Frame} {meth : Method} {c : Code} {A : Nat → Prop} {D : va_G} {cI cJ : ClassId} {h h_order : Nat} {g2 g3 g4 g5 g6 g7 g8 g9 g10 g11 g12 g13 g14 g15 g16 g17 g18 g20 g21 g22 g23 g24 g25 g26 : Value} {v_points : Int32} {v_faces : Int64} (C0 : Cx p s m args meth c cX9_classes wsX9_classes RX9 5 (some .int)) (hK : va_K D vwCl (tyL cI cJ) s) (hA : ∀ q, s.heap.size ≤ q → A q) (hX : XT none A s s.heap) {Rr : Int32 × (Nat → Int32)} {k_4 : Int32 → Int32 → (Nat → Int32) → Option (Int32 × (Nat → Int32))} (hk_4 : ∀ (l1 : Int32) (l2 : Int32) (v_order : Nat → Int32) (H : Heap) (locs : List Loc) (ls : Array Slot), St D A s (w_X9_classes cI cJ h h_order g2 g3 g4 g5 g6 g7 g8 g9 g10 g11 g12 g13 g14 g15 g16 g17 g18 g20 g21 g22 g23 g24 g25 g26 v_points v_faces v_order) H locs → lv_has ls 5 [(0, .ref h), (1, .int l1), (2, .int l2)] → k_4 l1 l2 v_order = some Rr → W p l e rm_X9_classes s m args below meth c H locs 0 0 (MQ below (QI D cI cJ A (w_X9_classes cI cJ h h_order g2 g3 g4 g5 g6 g7 g8 g9 g10 g11 g12 g13 g14 g15 g16 g17 g18 g20 g21 g22 g23 g24 g25 g26 v_points v_faces Rr.2) Rr.1) args s 0 0 A) (F0 m 4 ls [])) (n : Nat) : ∀ (l1 : Int32) (l2 : Int32) (l3 : Int32) (l4 : Int32) (v_order : Nat → Int32) (H : Heap) (locs : List Loc) (ls : Array Slot), St D A s (w_X9_classes cI cJ h h_order g2 g3 g4 g5 g6 g7 g8 g9 g10 g11 g12 g13 g14 g15 g16 g17 g18 g20 g21 g22 g23 g24 g25 g26 v_points v_faces v_order) H locs → lv_has ls 5 [(0, .ref h), (1, .int l1), (2, .int l2), (3, .int l3), (4, .int l4)] → f_X9_classes_17 v_points v_faces k_4 n l1 l2 l3 l4 v_order = some Rr → W p l e rm_X9_classes s m args below meth c H locs 0 0 (MQ below (QI D cI cJ A (w_X9_classes cI cJ h h_order g2 g3 g4 g5 g6 g7 g8 g9 g10 g11 g12 g13 g14 g15 g16 g17 g18 g20 g21 g22 g23 g24 g25 g26 v_points v_faces Rr.2) Rr.1) args s 0 0 A) (F0 m 17 ls []) := by
  have hx := C0.1.1
  have hb := C0.1.2.1
  induction n with
  | zero => intro l1 l2 l3 l4 v_order H locs ls hSt hl hf; exact nomatch (show (none : Option _) = some Rr from hf)
  | succ n ih =>
    intro l1 l2 l3 l4 v_order H locs ls hSt hl hf
    unfold f_X9_classes_17 at hf
    refine lv_iload hx hb dX9_classes_17 (lv_at hl 4 rfl) ?_
    refine lv_iload_n hx hb dX9_classes_19 rfl (lv_at hl 2 rfl) ?_
    refine lv_icmp_ge (tgt := 49) hx hb dX9_classes_20 (by decide) (fun cc => ?_) (fun cc => ?_)
    · have hf := ite_t hf cc
      exact k_X9_classes_49 C0 hK hA hX hk_4 l1 l2 l3 v_order _ _ _ hSt (lv_sub hl [0, 1, 2, 3] rfl) hf
    · have hf := ite_f hf cc
      refine lv_iload_n hx hb dX9_classes_23 rfl (lv_at hl 3 rfl) ?_
      refine lv_if_eq (tgt := 49) hx hb dX9_classes_24 (by decide) (fun cc => ?_) (fun cc => ?_)
      · have hf := ite_t hf cc
        exact k_X9_classes_49 C0 hK hA hX hk_4 l1 l2 l3 v_order _ _ _ hSt (lv_sub hl [0, 1, 2, 3] rfl) hf
      · have hf := ite_f hf cc
        refine lv_aload_n hx hb dX9_classes_27 rfl (lv_at hl 0 rfl) ?_
        refine lv_iload hx hb dX9_classes_28 (lv_at hl 4 rfl) ?_
        refine lv_iload_n hx hb dX9_classes_30 rfl (lv_at hl 2 rfl) ?_
        obtain ⟨R1, hR1, hf⟩ := Option.bind_eq_some_iff.mp hf
        have sp : Sp (w_X9_classes cI cJ h h_order g2 g3 g4 g5 g6 g7 g8 g9 g10 g11 g12 g13 g14 g15 g16 g17 g18 g20 g21 g22 g23 g24 g25 g26 v_points v_faces v_order) (w_X9_turns cI cJ h h_order g2 g3 g4 g5 g6 g7 g8 g9 g10 g11 g12 g13 g14 g15 g16 g17 g18 g20 g21 g22 g23 g24 g25 g26 v_points v_faces v_order) (w_X9_turns cI cJ h h_order g2 g3 g4 g5 g6 g7 g8 g9 g10 g11 g12 g13 g14 g15 g16 g17 g18 g20 g21 g22 g23 g24 g25 g26 v_points v_faces R1.2) (w_X9_classes cI cJ h h_order g2 g3 g4 g5 g6 g7 g8 g9 g10 g11 g12 g13 g14 g15 g16 g17 g18 g20 g21 g22 g23 g24 g25 g26 v_points v_faces R1.2) [0, 1] [] [0, 1] := ⟨rfl, rfl, rfl, by decide, by decide, by decide, by decide⟩
        refine hb_ci (hb_rV (As := [.int l4, .int l2]) (rest := []) C0 hK hA XT.nn hSt sp (c_X9_turns l D cI cJ h h_order g2 g3 g4 g5 g6 g7 g8 g9 g10 g11 g12 g13 g14 g15 g16 g17 g18 g20 g21 g22 g23 g24 g25 g26  l4 l2 v_points v_faces v_order R1 hR1) gX9_classes_X9_turns rfl ⟨rfl, rfl⟩ hd_X9_turns ⟨Nat.le_of_ble_eq_true rfl, Nat.le_of_ble_eq_true rfl⟩ 0 8 rfl rfl rfl hl rfl (Nat.le_of_ble_eq_true rfl) dX9_classes_31 ⟨Nat.zero_le _, Nat.zero_le _⟩) hA hSt sp (fun H locs hSt => ?_)
        refine lv_if_ne (tgt := 41) hx hb dX9_classes_34 (by decide) (fun cc => ?_) (fun cc => ?_)
        · have hf := ite_f hf cc
          refine lv_iconst (v := 0) hx hb dX9_classes_41 (by decide) ?_
          exact k_X9_classes_42 C0 hK hA hX hk_4 ih l1 l2 l4 (0 : Int32) R1.2 _ _ _ hSt (lv_sub hl [0, 1, 2, 4] rfl) hf
        · have hf := ite_t hf cc
          refine lv_iconst (v := 1) hx hb dX9_classes_37 (by decide) ?_
          refine lv_goto (tgt := 42) hx hb dX9_classes_38 (by decide) ?_
          exact k_X9_classes_42 C0 hK hA hX hk_4 ih l1 l2 l4 (1 : Int32) R1.2 _ _ _ hSt (lv_sub hl [0, 1, 2, 4] rfl) hf
def f_X9_classes_4 (v_points : Int32) (v_faces : Int64)  : Nat → Int32 → Int32 → (Nat → Int32) → Option (Int32 × (Nat → Int32))
  | 0, _, _, _ => none
  | n + 1, l1, l2, v_order => if v_points ≤ l2 then some (l1, v_order) else f_X9_classes_17 v_points v_faces (f_X9_classes_4 v_points v_faces n) FU l1 l2 (1 : Int32) (0 : Int32) v_order
set_option maxHeartbeats 4000000 in
set_option maxRecDepth 100000 in
theorem k_X9_classes_4 {p : Program} {l : Launch} {e : Env} {s : State} {m : MethodId} {args : Array Value} {below : List Frame} {meth : Method} {c : Code} {A : Nat → Prop} {D : va_G} {cI cJ : ClassId} {h h_order : Nat} {g2 g3 g4 g5 g6 g7 g8 g9 g10 g11 g12 g13 g14 g15 g16 g17 g18 g20 g21 g22 g23 g24 g25 g26 : Value} {v_points : Int32} {v_faces : Int64} (C0 : Cx p s m args meth c cX9_classes wsX9_classes RX9 5 (some .int)) (hK : va_K D vwCl (tyL cI cJ) s) (hA : ∀ q, s.heap.size ≤ q → A q) (hX : XT none A s s.heap) {Rr : Int32 × (Nat → Int32)} (n : Nat) : ∀ (l1 : Int32) (l2 : Int32) (v_order : Nat → Int32) (H : Heap) (locs : List Loc) (ls : Array Slot), St D A s (w_X9_classes cI cJ h h_order g2 g3 g4 g5 g6 g7 g8 g9 g10 g11 g12 g13 g14 g15 g16 g17 g18 g20 g21 g22 g23 g24 g25 g26 v_points v_faces v_order) H locs → lv_has ls 5 [(0, .ref h), (1, .int l1), (2, .int l2)] → f_X9_classes_4 v_points v_faces n l1 l2 v_order = some Rr → W p l e rm_X9_classes s m args below meth c H locs 0 0 (MQ below (QI D cI cJ A (w_X9_classes cI cJ h h_order g2 g3 g4 g5 g6 g7 g8 g9 g10 g11 g12 g13 g14 g15 g16 g17 g18 g20 g21 g22 g23 g24 g25 g26 v_points v_faces Rr.2) Rr.1) args s 0 0 A) (F0 m 4 ls []) := by
  have hx := C0.1.1
  have hb := C0.1.2.1
  induction n with
  | zero => intro l1 l2 v_order H locs ls hSt hl hf; exact nomatch (show (none : Option _) = some Rr from hf)
  | succ n ih =>
    intro l1 l2 v_order H locs ls hSt hl hf
    unfold f_X9_classes_4 at hf
    refine lv_iload_n hx hb dX9_classes_4 rfl (lv_at hl 2 rfl) ?_
    refine lv_aload_n hx hb dX9_classes_5 rfl (lv_at hl 0 rfl) ?_
    refine hb_get C0 hK hSt 0 8 0 rfl rfl iu_X9_classes_X9 (by decide) fl_X9_classes_7 rfl dX9_classes_6 ?_
    refine lv_icmp_ge (tgt := 67) hx hb dX9_classes_9 (by decide) (fun cc => ?_) (fun cc => ?_)
    · have hf := ite_t hf cc
      refine lv_iload_n hx hb dX9_classes_67 rfl (lv_at hl 1 rfl) ?_
      cases hf
      exact hb_iret C0 hK hSt dX9_classes_68
    · have hf := ite_f hf cc
      refine lv_iconst (v := 1) hx hb dX9_classes_12 (by decide) ?_
      refine lv_istore_n (lv' := [(3, .int (1 : Int32)), (0, .ref h), (1, .int l1), (2, .int l2)]) hx hb dX9_classes_13 rfl hl (by decide) rfl (fun ls hl => ?_)
      refine lv_iconst (v := 0) hx hb dX9_classes_14 (by decide) ?_
      refine lv_istore (lv' := [(4, .int (0 : Int32)), (3, .int (1 : Int32)), (0, .ref h), (1, .int l1), (2, .int l2)]) hx hb dX9_classes_15 hl (by decide) rfl (fun ls hl => ?_)
      exact k_X9_classes_17 C0 hK hA hX ih FU l1 l2 (1 : Int32) (0 : Int32) v_order _ _ _ hSt (lv_sub hl [2, 3, 4, 1, 0] rfl) hf
def f_X9_classes_0 (v_points : Int32) (v_faces : Int64)   (v_order : Nat → Int32) : Option (Int32 × (Nat → Int32)) := f_X9_classes_4 v_points v_faces  FU (0 : Int32) (0 : Int32) v_order
set_option maxHeartbeats 4000000 in
set_option maxRecDepth 100000 in
theorem k_X9_classes_0 {p : Program} {l : Launch} {e : Env} {s : State} {m : MethodId} {args : Array Value} {below : List Frame} {meth : Method} {c : Code} {A : Nat → Prop} {D : va_G} {cI cJ : ClassId} {h h_order : Nat} {g2 g3 g4 g5 g6 g7 g8 g9 g10 g11 g12 g13 g14 g15 g16 g17 g18 g20 g21 g22 g23 g24 g25 g26 : Value} {v_points : Int32} {v_faces : Int64} (C0 : Cx p s m args meth c cX9_classes wsX9_classes RX9 5 (some .int)) (hK : va_K D vwCl (tyL cI cJ) s) (hA : ∀ q, s.heap.size ≤ q → A q) (hX : XT none A s s.heap) {Rr : Int32 × (Nat → Int32)} : ∀  (v_order : Nat → Int32) (H : Heap) (locs : List Loc) (ls : Array Slot), St D A s (w_X9_classes cI cJ h h_order g2 g3 g4 g5 g6 g7 g8 g9 g10 g11 g12 g13 g14 g15 g16 g17 g18 g20 g21 g22 g23 g24 g25 g26 v_points v_faces v_order) H locs → lv_has ls 5 [(0, .ref h)] → f_X9_classes_0 v_points v_faces v_order = some Rr → W p l e rm_X9_classes s m args below meth c H locs 0 0 (MQ below (QI D cI cJ A (w_X9_classes cI cJ h h_order g2 g3 g4 g5 g6 g7 g8 g9 g10 g11 g12 g13 g14 g15 g16 g17 g18 g20 g21 g22 g23 g24 g25 g26 v_points v_faces Rr.2) Rr.1) args s 0 0 A) (F0 m 0 ls []) := by
  have hx := C0.1.1
  have hb := C0.1.2.1
  intro v_order H locs ls hSt hl hf
  unfold f_X9_classes_0 at hf
  refine lv_iconst (v := 0) hx hb dX9_classes_0 (by decide) ?_
  refine lv_istore_n (lv' := [(1, .int (0 : Int32)), (0, .ref h)]) hx hb dX9_classes_1 rfl hl (by decide) rfl (fun ls hl => ?_)
  refine lv_iconst (v := 0) hx hb dX9_classes_2 (by decide) ?_
  refine lv_istore_n (lv' := [(2, .int (0 : Int32)), (1, .int (0 : Int32)), (0, .ref h)]) hx hb dX9_classes_3 rfl hl (by decide) rfl (fun ls hl => ?_)
  exact k_X9_classes_4 C0 hK hA hX  FU (0 : Int32) (0 : Int32) v_order _ _ _ hSt (lv_sub hl [2, 1, 0] rfl) hf
def f_X9_classes (v_points : Int32) (v_faces : Int64)  (v_order : Nat → Int32) : Option (Int32 × (Nat → Int32)) := f_X9_classes_0 v_points v_faces v_order
set_option maxRecDepth 100000 in
theorem c_X9_classes (l : Launch) (D : va_G) (cI cJ : ClassId) (h h_order : Nat) (g2 g3 g4 g5 g6 g7 g8 g9 g10 g11 g12 g13 g14 g15 g16 g17 g18 g20 g21 g22 g23 g24 g25 g26 : Value)  (v_points : Int32) (v_faces : Int64) (v_order : Nat → Int32) (Rr : Int32 × (Nat → Int32)) (hf : f_X9_classes v_points v_faces v_order = some Rr) : CtI l yX9_classes wsX9_classes rm_X9_classes D cI cJ none [.ref h] (w_X9_classes cI cJ h h_order g2 g3 g4 g5 g6 g7 g8 g9 g10 g11 g12 g13 g14 g15 g16 g17 g18 g20 g21 g22 g23 g24 g25 g26 v_points v_faces v_order) Rr.1 (w_X9_classes cI cJ h h_order g2 g3 g4 g5 g6 g7 g8 g9 g10 g11 g12 g13 g14 g15 g16 g17 g18 g20 g21 g22 g23 g24 g25 g26 v_points v_faces Rr.2) :=
  fun sz => BodyW.met (av := [.ref h]) (Qc := fun A => QI D cI cJ A (w_X9_classes cI cJ h h_order g2 g3 g4 g5 g6 g7 g8 g9 g10 g11 g12 g13 g14 g15 g16 g17 g18 g20 g21 g22 g23 g24 g25 g26 v_points v_faces Rr.2) Rr.1) (by decide) rfl rfl (Nat.le_of_ble_eq_true rfl) (fun C0 hK hA hX ls hSt hl => k_X9_classes_0 C0 hK hA hX  v_order _ _ ls hSt hl hf) sz
/-! X9 look -/
abbrev rm_X9_look : Room := { frames := 6, cells := 0, slots := 0, locals := 155 }
abbrev w_X9_look (cI cJ : ClassId) (h : Nat) (h_base : Nat) (h_rises : Nat) (h_marks : Nat) (h_closedJ : Nat) (h_closedL : Nat) (h_table : Nat) (h_order : Nat) (g2 : Value) (g3 : Value) (g4 : Value) (g20 : Value) (g21 : Value) (g22 : Value) (g23 : Value) (g24 : Value) (g25 : Value) (g26 : Value) (v_points : Int32) (v_faces : Int64) (v_base : Nat → Int64) (v_rises : Nat → Int64) (v_marks : Nat → Int64) (v_closedJ : Nat → Int64) (v_closedL : Nat → Int64) (v_firstJ : Int32) (v_firstL : Int32) (v_firstA : Int32) (v_firstB : Int32) (v_firstRank : Int32) (v_table : Nat → Int32) (v_askedFaces : Int64) (v_askedPoints : Int32) (v_hasFirst : Int32) (v_order : Nat → Int32) : va_W := [(h, .inr (8, [.int v_points, .long v_faces, g2, g3, g4, .ref h_base, .ref h_rises, .ref h_marks, .ref h_closedJ, .ref h_closedL, .int v_firstJ, .int v_firstL, .int v_firstA, .int v_firstB, .int v_firstRank, .ref h_table, .long v_askedFaces, .int v_askedPoints, .int v_hasFirst, .ref h_order, g20, g21, g22, g23, g24, g25, g26])), (h_base, .inl (cJ, 64, .inr (.inl v_base))), (h_rises, .inl (cJ, 20, .inr (.inl v_rises))), (h_marks, .inl (cJ, 20, .inr (.inl v_marks))), (h_closedJ, .inl (cJ, 20, .inr (.inl v_closedJ))), (h_closedL, .inl (cJ, 20, .inr (.inl v_closedL))), (h_table, .inl (cI, 384, .inl v_table)), (h_order, .inl (cI, 6, .inl v_order))]
theorem iu_X9_look_X9 : ∀ w ∈ wsX90, w ∈ wsX9_look := by decide +kernel
theorem fl_X9_look_7 : Cond.fieldLink RX9 7 (TX9 0).1 (TX9 0).2.1 (TX9 0).2.2.1 ∈ wsX9_look := by decide +kernel
theorem fl_X9_look_13 : Cond.fieldLink RX9 13 (TX9 1).1 (TX9 1).2.1 (TX9 1).2.2.1 ∈ wsX9_look := by decide +kernel
theorem hd_X9_look : yX9_look.cls = RX9 ∧ yX9_look.cls ≠ "java/lang/invoke/MethodHandle" ∧ yX9_look.cls ≠ "java/lang/invoke/VarHandle" ∧ (parseMethodDescriptor yX9_look.desc).map (fun d => d.parameters.length) = some 1 := by decide +kernel
def f_X9_look_63 (v_points : Int32) (v_faces : Int64)  : Nat → Int32 → (Nat → Int64) → (Nat → Int64) → (Nat → Int64) → (Nat → Int64) → (Nat → Int64) → (Int32) → (Int32) → (Int32) → (Int32) → (Int32) → (Nat → Int32) → (Int64) → (Int32) → (Int32) → (Nat → Int32) → Option (Int32 × (Nat → Int64) × (Nat → Int64) × (Nat → Int64) × (Nat → Int64) × (Nat → Int64) × Int32 × Int32 × Int32 × Int32 × Int32 × (Nat → Int32) × Int64 × Int32 × Int32 × (Nat → Int32))
  | 0, _, _, _, _, _, _, _, _, _, _, _, _, _, _, _, _ => none
  | n + 1, l2, v_base, v_rises, v_marks, v_closedJ, v_closedL, v_firstJ, v_firstL, v_firstA, v_firstB, v_firstRank, v_table, v_askedFaces, v_askedPoints, v_hasFirst, v_order => (f_X9_all v_points).bind (fun R1 => (f_X9_facesOf v_points v_faces R1 (l2 + (1 : Int32))).bind (fun R2 => (f_X9_many R2).bind (fun R3 => if R3 = 0 then (f_X9_look_63 v_points v_faces n) (l2 + (-1)) v_base v_rises v_marks v_closedJ v_closedL v_firstJ v_firstL v_firstA v_firstB v_firstRank v_table v_askedFaces v_askedPoints v_hasFirst v_order else some (l2, v_base, v_rises, v_marks, v_closedJ, v_closedL, v_firstJ, v_firstL, v_firstA, v_firstB, v_firstRank, v_table, v_askedFaces, v_askedPoints, v_hasFirst, v_order))))
set_option maxHeartbeats 4000000 in
set_option maxRecDepth 100000 in
theorem k_X9_look_63 {p : Program} {l : Launch} {e : Env} {s : State} {m : MethodId} {args : Array Value} {below : List Frame} {meth : Method} {c : Code} {A : Nat → Prop} {D : va_G} {cI cJ : ClassId} {h h_base h_rises h_marks h_closedJ h_closedL h_table h_order : Nat} {g2 g3 g4 g20 g21 g22 g23 g24 g25 g26 : Value} {v_points : Int32} {v_faces : Int64} (C0 : Cx p s m args meth c cX9_look wsX9_look RX9 3 (some .int)) (hK : va_K D vwCl (tyL cI cJ) s) (hA : ∀ q, s.heap.size ≤ q → A q) (hX : XT none A s s.heap) {Rr : Int32 × (Nat → Int64) × (Nat → Int64) × (Nat → Int64) × (Nat → Int64) × (Nat → Int64) × Int32 × Int32 × Int32 × Int32 × Int32 × (Nat → Int32) × Int64 × Int32 × Int32 × (Nat → Int32)} (n : Nat) : ∀ (l2 : Int32) (v_base : Nat → Int64) (v_rises : Nat → Int64) (v_marks : Nat → Int64) (v_closedJ : Nat → Int64) (v_closedL : Nat → Int64) (v_firstJ : Int32) (v_firstL : Int32) (v_firstA : Int32) (v_firstB : Int32) (v_firstRank : Int32) (v_table : Nat → Int32) (v_askedFaces : Int64) (v_askedPoints : Int32) (v_hasFirst : Int32) (v_order : Nat → Int32) (H : Heap) (locs : List Loc) (ls : Array Slot), St D A s (w_X9_look cI cJ h h_base h_rises h_marks h_closedJ h_closedL h_table h_order g2 g3 g4 g20 g21 g22 g23 g24 g25 g26 v_points v_faces v_base v_rises v_marks v_closedJ v_closedL v_firstJ v_firstL v_firstA v_firstB v_firstRank v_table v_askedFaces v_askedPoints v_hasFirst v_order) H locs → lv_has ls 3 [(0, .ref h), (2, .int l2)] → f_X9_look_63 v_points v_faces n l2 v_base v_rises v_marks v_closedJ v_closedL v_firstJ v_firstL v_firstA v_firstB v_firstRank v_table v_askedFaces v_askedPoints v_hasFirst v_order = some Rr → W p l e rm_X9_look s m args below meth c H locs 0 0 (MQ below (QI D cI cJ A (w_X9_look cI cJ h h_base h_rises h_marks h_closedJ h_closedL h_table h_order g2 g3 g4 g20 g21 g22 g23 g24 g25 g26 v_points v_faces Rr.2.1 Rr.2.2.1 Rr.2.2.2.1 Rr.2.2.2.2.1 Rr.2.2.2.2.2.1 Rr.2.2.2.2.2.2.1 Rr.2.2.2.2.2.2.2.1 Rr.2.2.2.2.2.2.2.2.1 Rr.2.2.2.2.2.2.2.2.2.1 Rr.2.2.2.2.2.2.2.2.2.2.1 Rr.2.2.2.2.2.2.2.2.2.2.2.1 Rr.2.2.2.2.2.2.2.2.2.2.2.2.1 Rr.2.2.2.2.2.2.2.2.2.2.2.2.2.1 Rr.2.2.2.2.2.2.2.2.2.2.2.2.2.2.1 Rr.2.2.2.2.2.2.2.2.2.2.2.2.2.2.2) Rr.1) args s 0 0 A) (F0 m 63 ls []) := by
  have hx := C0.1.1
  have hb := C0.1.2.1
  induction n with
  | zero => intro l2 v_base v_rises v_marks v_closedJ v_closedL v_firstJ v_firstL v_firstA v_firstB v_firstRank v_table v_askedFaces v_askedPoints v_hasFirst v_order H locs ls hSt hl hf; exact nomatch (show (none : Option _) = some Rr from hf)
  | succ n ih =>
    intro l2 v_base v_rises v_marks v_closedJ v_closedL v_firstJ v_firstL v_firstA v_firstB v_firstRank v_table v_askedFaces v_askedPoints v_hasFirst v_order H locs ls hSt hl hf
    unfold f_X9_look_63 at hf
    refine lv_aload_n hx hb dX9_look_63 rfl (lv_at hl 0 rfl) ?_
    refine lv_aload_n hx hb dX9_look_64 rfl (lv_at hl 0 rfl) ?_
    obtain ⟨R1, hR1, hf⟩ := Option.bind_eq_some_iff.mp hf
    have sp : Sp (w_X9_look cI cJ h h_base h_rises h_marks h_closedJ h_closedL h_table h_order g2 g3 g4 g20 g21 g22 g23 g24 g25 g26 v_points v_faces v_base v_rises v_marks v_closedJ v_closedL v_firstJ v_firstL v_firstA v_firstB v_firstRank v_table v_askedFaces v_askedPoints v_hasFirst v_order) (w_X9_all cI cJ h (.long v_faces) g2 g3 g4 (.ref h_base) (.ref h_rises) (.ref h_marks) (.ref h_closedJ) (.ref h_closedL) (.int v_firstJ) (.int v_firstL) (.int v_firstA) (.int v_firstB) (.int v_firstRank) (.ref h_table) (.long v_askedFaces) (.int v_askedPoints) (.int v_hasFirst) (.ref h_order) g20 g21 g22 g23 g24 g25 g26 v_points) (w_X9_all cI cJ h (.long v_faces) g2 g3 g4 (.ref h_base) (.ref h_rises) (.ref h_marks) (.ref h_closedJ) (.ref h_closedL) (.int v_firstJ) (.int v_firstL) (.int v_firstA) (.int v_firstB) (.int v_firstRank) (.ref h_table) (.long v_askedFaces) (.int v_askedPoints) (.int v_hasFirst) (.ref h_order) g20 g21 g22 g23 g24 g25 g26 v_points) (w_X9_look cI cJ h h_base h_rises h_marks h_closedJ h_closedL h_table h_order g2 g3 g4 g20 g21 g22 g23 g24 g25 g26 v_points v_faces v_base v_rises v_marks v_closedJ v_closedL v_firstJ v_firstL v_firstA v_firstB v_firstRank v_table v_askedFaces v_askedPoints v_hasFirst v_order) [0] [1, 2, 3, 4, 5, 6, 7] [7, 0, 1, 2, 3, 4, 5, 6] := ⟨rfl, rfl, rfl, by decide, by decide, by decide, by decide⟩
    refine hb_ci (hb_rV (As := []) (rest := [.ref h]) C0 hK hA XT.nn hSt sp (c_X9_all l D cI cJ h (.long v_faces) g2 g3 g4 (.ref h_base) (.ref h_rises) (.ref h_marks) (.ref h_closedJ) (.ref h_closedL) (.int v_firstJ) (.int v_firstL) (.int v_firstA) (.int v_firstB) (.int v_firstRank) (.ref h_table) (.long v_askedFaces) (.int v_askedPoints) (.int v_hasFirst) (.ref h_order) g20 g21 g22 g23 g24 g25 g26   v_points R1 hR1) gX9_look_X9_all rfl ⟨rfl, rfl⟩ hd_X9_all ⟨Nat.le_of_ble_eq_true rfl, Nat.le_of_ble_eq_true rfl⟩ 0 8 rfl rfl rfl hl rfl (Nat.le_of_ble_eq_true rfl) dX9_look_65 ⟨Nat.zero_le _, Nat.zero_le _⟩) hA hSt sp (fun H locs hSt => ?_)
    refine lv_iload_n hx hb dX9_look_68 rfl (lv_at hl 1 rfl) ?_
    refine lv_iconst (v := 1) hx hb dX9_look_69 (by decide) ?_
    refine lv_iadd hx hb dX9_look_70 ?_
    obtain ⟨R2, hR2, hf⟩ := Option.bind_eq_some_iff.mp hf
    have sp : Sp (w_X9_look cI cJ h h_base h_rises h_marks h_closedJ h_closedL h_table h_order g2 g3 g4 g20 g21 g22 g23 g24 g25 g26 v_points v_faces v_base v_rises v_marks v_closedJ v_closedL v_firstJ v_firstL v_firstA v_firstB v_firstRank v_table v_askedFaces v_askedPoints v_hasFirst v_order) (w_X9_facesOf cI cJ h g2 g3 g4 (.ref h_base) (.ref h_rises) (.ref h_marks) (.ref h_closedJ) (.ref h_closedL) (.int v_firstJ) (.int v_firstL) (.int v_firstA) (.int v_firstB) (.int v_firstRank) (.ref h_table) (.long v_askedFaces) (.int v_askedPoints) (.int v_hasFirst) (.ref h_order) g20 g21 g22 g23 g24 g25 g26 v_points v_faces) (w_X9_facesOf cI cJ h g2 g3 g4 (.ref h_base) (.ref h_rises) (.ref h_marks) (.ref h_closedJ) (.ref h_closedL) (.int v_firstJ) (.int v_firstL) (.int v_firstA) (.int v_firstB) (.int v_firstRank) (.ref h_table) (.long v_askedFaces) (.int v_askedPoints) (.int v_hasFirst) (.ref h_order) g20 g21 g22 g23 g24 g25 g26 v_points v_faces) (w_X9_look cI cJ h h_base h_rises h_marks h_closedJ h_closedL h_table h_order g2 g3 g4 g20 g21 g22 g23 g24 g25 g26 v_points v_faces v_base v_rises v_marks v_closedJ v_closedL v_firstJ v_firstL v_firstA v_firstB v_firstRank v_table v_askedFaces v_askedPoints v_hasFirst v_order) [0] [1, 2, 3, 4, 5, 6, 7] [7, 0, 1, 2, 3, 4, 5, 6] := ⟨rfl, rfl, rfl, by decide, by decide, by decide, by decide⟩
    refine hb_cl (hb_rV (As := [.int R1, .int (l2 + (1 : Int32))]) (rest := []) C0 hK hA XT.nn hSt sp (c_X9_facesOf l D cI cJ h g2 g3 g4 (.ref h_base) (.ref h_rises) (.ref h_marks) (.ref h_closedJ) (.ref h_closedL) (.int v_firstJ) (.int v_firstL) (.int v_firstA) (.int v_firstB) (.int v_firstRank) (.ref h_table) (.long v_askedFaces) (.int v_askedPoints) (.int v_hasFirst) (.ref h_order) g20 g21 g22 g23 g24 g25 g26  R1 (l2 + (1 : Int32)) v_points v_faces R2 hR2) gX9_look_X9_facesOf rfl ⟨rfl, rfl⟩ hd_X9_facesOf ⟨Nat.le_of_ble_eq_true rfl, Nat.le_of_ble_eq_true rfl⟩ 0 8 rfl rfl rfl hl rfl (Nat.le_of_ble_eq_true rfl) dX9_look_71 ⟨Nat.zero_le _, Nat.zero_le _⟩) hA hSt sp (fun H locs hSt => ?_)
    obtain ⟨R3, hR3, hf⟩ := Option.bind_eq_some_iff.mp hf
    have sp : Sp (w_X9_look cI cJ h h_base h_rises h_marks h_closedJ h_closedL h_table h_order g2 g3 g4 g20 g21 g22 g23 g24 g25 g26 v_points v_faces v_base v_rises v_marks v_closedJ v_closedL v_firstJ v_firstL v_firstA v_firstB v_firstRank v_table v_askedFaces v_askedPoints v_hasFirst v_order) (w_X9_many cI cJ) (w_X9_many cI cJ) (w_X9_look cI cJ h h_base h_rises h_marks h_closedJ h_closedL h_table h_order g2 g3 g4 g20 g21 g22 g23 g24 g25 g26 v_points v_faces v_base v_rises v_marks v_closedJ v_closedL v_firstJ v_firstL v_firstA v_firstB v_firstRank v_table v_askedFaces v_askedPoints v_hasFirst v_order) [] [0, 1, 2, 3, 4, 5, 6, 7] [0, 1, 2, 3, 4, 5, 6, 7] := ⟨rfl, rfl, rfl, by decide, by decide, by decide, by decide⟩
    refine hb_ci (hb_rS (As := [.long R2]) (rest := []) C0 hK hA XT.nn hSt sp (c_X9_many l D cI cJ   R2  R3 hR3) gX9_look_X9_many rfl ⟨rfl, rfl⟩ hd_X9_many ⟨Nat.le_of_ble_eq_true rfl, Nat.le_of_ble_eq_true rfl⟩ rfl hl rfl (Nat.le_of_ble_eq_true rfl) dX9_look_74 ⟨Nat.zero_le _, Nat.zero_le _⟩) hA hSt sp (fun H locs hSt => ?_)
    refine lv_if_ne (tgt := 86) hx hb dX9_look_77 (by decide) (fun cc => ?_) (fun cc => ?_)
    · have hf := ite_f hf cc
      refine lv_iload_n hx hb dX9_look_86 rfl (lv_at hl 1 rfl) ?_
      cases hf
      exact hb_iret C0 hK hSt dX9_look_87
    · have hf := ite_t hf cc
      refine lv_iinc (v := l2 + (-1)) (lv' := [(2, .int (l2 + (-1))), (0, .ref h)]) hx hb dX9_look_80 hl (k := 1) rfl rfl (by decide) rfl (fun ls hl => ?_)
      refine lv_goto (tgt := 63) hx hb dX9_look_83 (by decide) ?_
      exact ih (l2 + (-1)) v_base v_rises v_marks v_closedJ v_closedL v_firstJ v_firstL v_firstA v_firstB v_firstRank v_table v_askedFaces v_askedPoints v_hasFirst v_order _ _ _ hSt (lv_sub hl [1, 0] rfl) hf
def f_X9_look_0 (v_points : Int32) (v_faces : Int64)  (l1 : Int32) (v_base : Nat → Int64) (v_rises : Nat → Int64) (v_marks : Nat → Int64) (v_closedJ : Nat → Int64) (v_closedL : Nat → Int64) (v_firstJ : Int32) (v_firstL : Int32) (v_firstA : Int32) (v_firstB : Int32) (v_firstRank : Int32) (v_table : Nat → Int32) (v_askedFaces : Int64) (v_askedPoints : Int32) (v_hasFirst : Int32) (v_order : Nat → Int32) : Option (Int32 × (Nat → Int64) × (Nat → Int64) × (Nat → Int64) × (Nat → Int64) × (Nat → Int64) × Int32 × Int32 × Int32 × Int32 × Int32 × (Nat → Int32) × Int64 × Int32 × Int32 × (Nat → Int32)) := if l1 = 0 then some (v_points, v_base, v_rises, v_marks, v_closedJ, v_closedL, v_firstJ, v_firstL, v_firstA, v_firstB, v_firstRank, v_table, v_askedFaces, v_askedPoints, v_hasFirst, v_order) else if l1 = 1 then (f_X9_many v_faces).bind (fun R1 => some (R1, v_base, v_rises, v_marks, v_closedJ, v_closedL, v_firstJ, v_firstL, v_firstA, v_firstB, v_firstRank, v_table, v_askedFaces, v_askedPoints, v_hasFirst, v_order)) else if l1 = 2 then f_X9_look_63 v_points v_faces  FU (5 : Int32) v_base v_rises v_marks v_closedJ v_closedL v_firstJ v_firstL v_firstA v_firstB v_firstRank v_table v_askedFaces v_askedPoints v_hasFirst v_order else if l1 = 3 then (f_X9_missingMany v_points v_faces).bind (fun R2 => some (R2, v_base, v_rises, v_marks, v_closedJ, v_closedL, v_firstJ, v_firstL, v_firstA, v_firstB, v_firstRank, v_table, v_askedFaces, v_askedPoints, v_hasFirst, v_order)) else if l1 = 4 then (f_X9_isFlag v_points v_faces).bind (fun R3 => if R3 = 0 then some ((0 : Int32), v_base, v_rises, v_marks, v_closedJ, v_closedL, v_firstJ, v_firstL, v_firstA, v_firstB, v_firstRank, v_table, v_askedFaces, v_askedPoints, v_hasFirst, v_order) else some ((1 : Int32), v_base, v_rises, v_marks, v_closedJ, v_closedL, v_firstJ, v_firstL, v_firstA, v_firstB, v_firstRank, v_table, v_askedFaces, v_askedPoints, v_hasFirst, v_order)) else if l1 = 5 then (f_X9_finds v_points v_faces v_base v_rises v_marks v_closedJ v_closedL v_firstJ v_firstL v_firstA v_firstB v_firstRank v_table v_askedFaces v_askedPoints v_hasFirst).bind (fun R4 => if R4.1 = 0 then some ((1 : Int32), R4.2.1, R4.2.2.1, R4.2.2.2.1, R4.2.2.2.2.1, R4.2.2.2.2.2.1, R4.2.2.2.2.2.2.1, R4.2.2.2.2.2.2.2.1, R4.2.2.2.2.2.2.2.2.1, R4.2.2.2.2.2.2.2.2.2.1, R4.2.2.2.2.2.2.2.2.2.2.1, R4.2.2.2.2.2.2.2.2.2.2.2.1, R4.2.2.2.2.2.2.2.2.2.2.2.2.1, R4.2.2.2.2.2.2.2.2.2.2.2.2.2.1, R4.2.2.2.2.2.2.2.2.2.2.2.2.2.2, v_order) else some ((0 : Int32), R4.2.1, R4.2.2.1, R4.2.2.2.1, R4.2.2.2.2.1, R4.2.2.2.2.2.1, R4.2.2.2.2.2.2.1, R4.2.2.2.2.2.2.2.1, R4.2.2.2.2.2.2.2.2.1, R4.2.2.2.2.2.2.2.2.2.1, R4.2.2.2.2.2.2.2.2.2.2.1, R4.2.2.2.2.2.2.2.2.2.2.2.1, R4.2.2.2.2.2.2.2.2.2.2.2.2.1, R4.2.2.2.2.2.2.2.2.2.2.2.2.2.1, R4.2.2.2.2.2.2.2.2.2.2.2.2.2.2, v_order)) else if l1 = 6 then (f_X9_turns v_points v_faces (-1 : Int32) (-1 : Int32) v_order).bind (fun R5 => some (R5.1, v_base, v_rises, v_marks, v_closedJ, v_closedL, v_firstJ, v_firstL, v_firstA, v_firstB, v_firstRank, v_table, v_askedFaces, v_askedPoints, v_hasFirst, R5.2)) else if l1 = 7 then (f_X9_classes v_points v_faces v_order).bind (fun R6 => some (R6.1, v_base, v_rises, v_marks, v_closedJ, v_closedL, v_firstJ, v_firstL, v_firstA, v_firstB, v_firstRank, v_table, v_askedFaces, v_askedPoints, v_hasFirst, R6.2)) else some ((-2 : Int32), v_base, v_rises, v_marks, v_closedJ, v_closedL, v_firstJ, v_firstL, v_firstA, v_firstB, v_firstRank, v_table, v_askedFaces, v_askedPoints, v_hasFirst, v_order)
set_option maxHeartbeats 4000000 in
set_option maxRecDepth 100000 in
theorem k_X9_look_0 {p : Program} {l : Launch} {e : Env} {s : State} {m : MethodId} {args : Array Value} {below : List Frame} {meth : Method} {c : Code} {A : Nat → Prop} {D : va_G} {cI cJ : ClassId} {h h_base h_rises h_marks h_closedJ h_closedL h_table h_order : Nat} {g2 g3 g4 g20 g21 g22 g23 g24 g25 g26 : Value} {v_points : Int32} {v_faces : Int64} (C0 : Cx p s m args meth c cX9_look wsX9_look RX9 3 (some .int)) (hK : va_K D vwCl (tyL cI cJ) s) (hA : ∀ q, s.heap.size ≤ q → A q) (hX : XT none A s s.heap) {Rr : Int32 × (Nat → Int64) × (Nat → Int64) × (Nat → Int64) × (Nat → Int64) × (Nat → Int64) × Int32 × Int32 × Int32 × Int32 × Int32 × (Nat → Int32) × Int64 × Int32 × Int32 × (Nat → Int32)} : ∀ (l1 : Int32) (v_base : Nat → Int64) (v_rises : Nat → Int64) (v_marks : Nat → Int64) (v_closedJ : Nat → Int64) (v_closedL : Nat → Int64) (v_firstJ : Int32) (v_firstL : Int32) (v_firstA : Int32) (v_firstB : Int32) (v_firstRank : Int32) (v_table : Nat → Int32) (v_askedFaces : Int64) (v_askedPoints : Int32) (v_hasFirst : Int32) (v_order : Nat → Int32) (H : Heap) (locs : List Loc) (ls : Array Slot), St D A s (w_X9_look cI cJ h h_base h_rises h_marks h_closedJ h_closedL h_table h_order g2 g3 g4 g20 g21 g22 g23 g24 g25 g26 v_points v_faces v_base v_rises v_marks v_closedJ v_closedL v_firstJ v_firstL v_firstA v_firstB v_firstRank v_table v_askedFaces v_askedPoints v_hasFirst v_order) H locs → lv_has ls 3 [(0, .ref h), (1, .int l1)] → f_X9_look_0 v_points v_faces l1 v_base v_rises v_marks v_closedJ v_closedL v_firstJ v_firstL v_firstA v_firstB v_firstRank v_table v_askedFaces v_askedPoints v_hasFirst v_order = some Rr → W p l e rm_X9_look s m args below meth c H locs 0 0 (MQ below (QI D cI cJ A (w_X9_look cI cJ h h_base h_rises h_marks h_closedJ h_closedL h_table h_order g2 g3 g4 g20 g21 g22 g23 g24 g25 g26 v_points v_faces Rr.2.1 Rr.2.2.1 Rr.2.2.2.1 Rr.2.2.2.2.1 Rr.2.2.2.2.2.1 Rr.2.2.2.2.2.2.1 Rr.2.2.2.2.2.2.2.1 Rr.2.2.2.2.2.2.2.2.1 Rr.2.2.2.2.2.2.2.2.2.1 Rr.2.2.2.2.2.2.2.2.2.2.1 Rr.2.2.2.2.2.2.2.2.2.2.2.1 Rr.2.2.2.2.2.2.2.2.2.2.2.2.1 Rr.2.2.2.2.2.2.2.2.2.2.2.2.2.1 Rr.2.2.2.2.2.2.2.2.2.2.2.2.2.2.1 Rr.2.2.2.2.2.2.2.2.2.2.2.2.2.2.2) Rr.1) args s 0 0 A) (F0 m 0 ls []) := by
  have hx := C0.1.1
  have hb := C0.1.2.1
  intro l1 v_base v_rises v_marks v_closedJ v_closedL v_firstJ v_firstL v_firstA v_firstB v_firstRank v_table v_askedFaces v_askedPoints v_hasFirst v_order H locs ls hSt hl hf
  unfold f_X9_look_0 at hf
  refine lv_iload_n hx hb dX9_look_0 rfl (lv_at hl 1 rfl) ?_
  by_cases c0 : l1 = 0
  · have hf := ite_t hf c0
    refine lv_tableIn (tgt := 48) (off := 47) hx hb dX9_look_1 (by rw [c0]; decide) (by rw [c0]; decide) (by rw [c0]; rfl) (by decide) ?_
    refine lv_aload_n hx hb dX9_look_48 rfl (lv_at hl 0 rfl) ?_
    refine hb_get C0 hK hSt 0 8 0 rfl rfl iu_X9_look_X9 (by decide) fl_X9_look_7 rfl dX9_look_49 ?_
    cases hf
    exact hb_iret C0 hK hSt dX9_look_52
  have hf := ite_f hf c0
  by_cases c1 : l1 = 1
  · have hf := ite_t hf c1
    refine lv_tableIn (tgt := 53) (off := 52) hx hb dX9_look_1 (by rw [c1]; decide) (by rw [c1]; decide) (by rw [c1]; rfl) (by decide) ?_
    refine lv_aload_n hx hb dX9_look_53 rfl (lv_at hl 0 rfl) ?_
    refine hb_get C0 hK hSt 0 8 1 rfl rfl iu_X9_look_X9 (by decide) fl_X9_look_13 rfl dX9_look_54 ?_
    obtain ⟨R1, hR1, hf⟩ := Option.bind_eq_some_iff.mp hf
    have sp : Sp (w_X9_look cI cJ h h_base h_rises h_marks h_closedJ h_closedL h_table h_order g2 g3 g4 g20 g21 g22 g23 g24 g25 g26 v_points v_faces v_base v_rises v_marks v_closedJ v_closedL v_firstJ v_firstL v_firstA v_firstB v_firstRank v_table v_askedFaces v_askedPoints v_hasFirst v_order) (w_X9_many cI cJ) (w_X9_many cI cJ) (w_X9_look cI cJ h h_base h_rises h_marks h_closedJ h_closedL h_table h_order g2 g3 g4 g20 g21 g22 g23 g24 g25 g26 v_points v_faces v_base v_rises v_marks v_closedJ v_closedL v_firstJ v_firstL v_firstA v_firstB v_firstRank v_table v_askedFaces v_askedPoints v_hasFirst v_order) [] [0, 1, 2, 3, 4, 5, 6, 7] [0, 1, 2, 3, 4, 5, 6, 7] := ⟨rfl, rfl, rfl, by decide, by decide, by decide, by decide⟩
    refine hb_ci (hb_rS (As := [.long v_faces]) (rest := []) C0 hK hA XT.nn hSt sp (c_X9_many l D cI cJ   v_faces  R1 hR1) gX9_look_X9_many rfl ⟨rfl, rfl⟩ hd_X9_many ⟨Nat.le_of_ble_eq_true rfl, Nat.le_of_ble_eq_true rfl⟩ rfl hl rfl (Nat.le_of_ble_eq_true rfl) dX9_look_57 ⟨Nat.zero_le _, Nat.zero_le _⟩) hA hSt sp (fun H locs hSt => ?_)
    cases hf
    exact hb_iret C0 hK hSt dX9_look_60
  have hf := ite_f hf c1
  by_cases c2 : l1 = 2
  · have hf := ite_t hf c2
    refine lv_tableIn (tgt := 61) (off := 60) hx hb dX9_look_1 (by rw [c2]; decide) (by rw [c2]; decide) (by rw [c2]; rfl) (by decide) ?_
    refine lv_iconst (v := 5) hx hb dX9_look_61 (by decide) ?_
    refine lv_istore_n (lv' := [(2, .int (5 : Int32)), (0, .ref h), (1, .int l1)]) hx hb dX9_look_62 rfl hl (by decide) rfl (fun ls hl => ?_)
    exact k_X9_look_63 C0 hK hA hX  FU (5 : Int32) v_base v_rises v_marks v_closedJ v_closedL v_firstJ v_firstL v_firstA v_firstB v_firstRank v_table v_askedFaces v_askedPoints v_hasFirst v_order _ _ _ hSt (lv_sub hl [1, 0] rfl) hf
  have hf := ite_f hf c2
  by_cases c3 : l1 = 3
  · have hf := ite_t hf c3
    refine lv_tableIn (tgt := 88) (off := 87) hx hb dX9_look_1 (by rw [c3]; decide) (by rw [c3]; decide) (by rw [c3]; rfl) (by decide) ?_
    refine lv_aload_n hx hb dX9_look_88 rfl (lv_at hl 0 rfl) ?_
    obtain ⟨R2, hR2, hf⟩ := Option.bind_eq_some_iff.mp hf
    have sp : Sp (w_X9_look cI cJ h h_base h_rises h_marks h_closedJ h_closedL h_table h_order g2 g3 g4 g20 g21 g22 g23 g24 g25 g26 v_points v_faces v_base v_rises v_marks v_closedJ v_closedL v_firstJ v_firstL v_firstA v_firstB v_firstRank v_table v_askedFaces v_askedPoints v_hasFirst v_order) (w_X9_missingMany cI cJ h g2 g3 g4 (.ref h_base) (.ref h_rises) (.ref h_marks) (.ref h_closedJ) (.ref h_closedL) (.int v_firstJ) (.int v_firstL) (.int v_firstA) (.int v_firstB) (.int v_firstRank) (.ref h_table) (.long v_askedFaces) (.int v_askedPoints) (.int v_hasFirst) (.ref h_order) g20 g21 g22 g23 g24 g25 g26 v_points v_faces) (w_X9_missingMany cI cJ h g2 g3 g4 (.ref h_base) (.ref h_rises) (.ref h_marks) (.ref h_closedJ) (.ref h_closedL) (.int v_firstJ) (.int v_firstL) (.int v_firstA) (.int v_firstB) (.int v_firstRank) (.ref h_table) (.long v_askedFaces) (.int v_askedPoints) (.int v_hasFirst) (.ref h_order) g20 g21 g22 g23 g24 g25 g26 v_points v_faces) (w_X9_look cI cJ h h_base h_rises h_marks h_closedJ h_closedL h_table h_order g2 g3 g4 g20 g21 g22 g23 g24 g25 g26 v_points v_faces v_base v_rises v_marks v_closedJ v_closedL v_firstJ v_firstL v_firstA v_firstB v_firstRank v_table v_askedFaces v_askedPoints v_hasFirst v_order) [0] [1, 2, 3, 4, 5, 6, 7] [7, 0, 1, 2, 3, 4, 5, 6] := ⟨rfl, rfl, rfl, by decide, by decide, by decide, by decide⟩
    refine hb_ci (hb_rV (As := []) (rest := []) C0 hK hA XT.nn hSt sp (c_X9_missingMany l D cI cJ h g2 g3 g4 (.ref h_base) (.ref h_rises) (.ref h_marks) (.ref h_closedJ) (.ref h_closedL) (.int v_firstJ) (.int v_firstL) (.int v_firstA) (.int v_firstB) (.int v_firstRank) (.ref h_table) (.long v_askedFaces) (.int v_askedPoints) (.int v_hasFirst) (.ref h_order) g20 g21 g22 g23 g24 g25 g26   v_points v_faces R2 hR2) gX9_look_X9_missingMany rfl ⟨rfl, rfl⟩ hd_X9_missingMany ⟨Nat.le_of_ble_eq_true rfl, Nat.le_of_ble_eq_true rfl⟩ 0 8 rfl rfl rfl hl rfl (Nat.le_of_ble_eq_true rfl) dX9_look_89 ⟨Nat.zero_le _, Nat.zero_le _⟩) hA hSt sp (fun H locs hSt => ?_)
    cases hf
    exact hb_iret C0 hK hSt dX9_look_92
  have hf := ite_f hf c3
  by_cases c4 : l1 = 4
  · have hf := ite_t hf c4
    refine lv_tableIn (tgt := 93) (off := 92) hx hb dX9_look_1 (by rw [c4]; decide) (by rw [c4]; decide) (by rw [c4]; rfl) (by decide) ?_
    refine lv_aload_n hx hb dX9_look_93 rfl (lv_at hl 0 rfl) ?_
    obtain ⟨R3, hR3, hf⟩ := Option.bind_eq_some_iff.mp hf
    have sp : Sp (w_X9_look cI cJ h h_base h_rises h_marks h_closedJ h_closedL h_table h_order g2 g3 g4 g20 g21 g22 g23 g24 g25 g26 v_points v_faces v_base v_rises v_marks v_closedJ v_closedL v_firstJ v_firstL v_firstA v_firstB v_firstRank v_table v_askedFaces v_askedPoints v_hasFirst v_order) (w_X9_isFlag cI cJ h g2 g3 g4 (.ref h_base) (.ref h_rises) (.ref h_marks) (.ref h_closedJ) (.ref h_closedL) (.int v_firstJ) (.int v_firstL) (.int v_firstA) (.int v_firstB) (.int v_firstRank) (.ref h_table) (.long v_askedFaces) (.int v_askedPoints) (.int v_hasFirst) (.ref h_order) g20 g21 g22 g23 g24 g25 g26 v_points v_faces) (w_X9_isFlag cI cJ h g2 g3 g4 (.ref h_base) (.ref h_rises) (.ref h_marks) (.ref h_closedJ) (.ref h_closedL) (.int v_firstJ) (.int v_firstL) (.int v_firstA) (.int v_firstB) (.int v_firstRank) (.ref h_table) (.long v_askedFaces) (.int v_askedPoints) (.int v_hasFirst) (.ref h_order) g20 g21 g22 g23 g24 g25 g26 v_points v_faces) (w_X9_look cI cJ h h_base h_rises h_marks h_closedJ h_closedL h_table h_order g2 g3 g4 g20 g21 g22 g23 g24 g25 g26 v_points v_faces v_base v_rises v_marks v_closedJ v_closedL v_firstJ v_firstL v_firstA v_firstB v_firstRank v_table v_askedFaces v_askedPoints v_hasFirst v_order) [0] [1, 2, 3, 4, 5, 6, 7] [7, 0, 1, 2, 3, 4, 5, 6] := ⟨rfl, rfl, rfl, by decide, by decide, by decide, by decide⟩
    refine hb_ci (hb_rV (As := []) (rest := []) C0 hK hA XT.nn hSt sp (c_X9_isFlag l D cI cJ h g2 g3 g4 (.ref h_base) (.ref h_rises) (.ref h_marks) (.ref h_closedJ) (.ref h_closedL) (.int v_firstJ) (.int v_firstL) (.int v_firstA) (.int v_firstB) (.int v_firstRank) (.ref h_table) (.long v_askedFaces) (.int v_askedPoints) (.int v_hasFirst) (.ref h_order) g20 g21 g22 g23 g24 g25 g26   v_points v_faces R3 hR3) gX9_look_X9_isFlag rfl ⟨rfl, rfl⟩ hd_X9_isFlag ⟨Nat.le_of_ble_eq_true rfl, Nat.le_of_ble_eq_true rfl⟩ 0 8 rfl rfl rfl hl rfl (Nat.le_of_ble_eq_true rfl) dX9_look_94 ⟨Nat.zero_le _, Nat.zero_le _⟩) hA hSt sp (fun H locs hSt => ?_)
    refine lv_if_eq (tgt := 104) hx hb dX9_look_97 (by decide) (fun cc => ?_) (fun cc => ?_)
    · have hf := ite_t hf cc
      refine lv_iconst (v := 0) hx hb dX9_look_104 (by decide) ?_
      cases hf
      exact hb_iret C0 hK hSt dX9_look_105
    · have hf := ite_f hf cc
      refine lv_iconst (v := 1) hx hb dX9_look_100 (by decide) ?_
      refine lv_goto (tgt := 105) hx hb dX9_look_101 (by decide) ?_
      cases hf
      exact hb_iret C0 hK hSt dX9_look_105
  have hf := ite_f hf c4
  by_cases c5 : l1 = 5
  · have hf := ite_t hf c5
    refine lv_tableIn (tgt := 106) (off := 105) hx hb dX9_look_1 (by rw [c5]; decide) (by rw [c5]; decide) (by rw [c5]; rfl) (by decide) ?_
    refine lv_aload_n hx hb dX9_look_106 rfl (lv_at hl 0 rfl) ?_
    obtain ⟨R4, hR4, hf⟩ := Option.bind_eq_some_iff.mp hf
    have sp : Sp (w_X9_look cI cJ h h_base h_rises h_marks h_closedJ h_closedL h_table h_order g2 g3 g4 g20 g21 g22 g23 g24 g25 g26 v_points v_faces v_base v_rises v_marks v_closedJ v_closedL v_firstJ v_firstL v_firstA v_firstB v_firstRank v_table v_askedFaces v_askedPoints v_hasFirst v_order) (w_X9_finds cI cJ h h_base h_rises h_marks h_closedJ h_closedL h_table g2 g3 g4 (.ref h_order) g20 g21 g22 g23 g24 g25 g26 v_points v_faces v_base v_rises v_marks v_closedJ v_closedL v_firstJ v_firstL v_firstA v_firstB v_firstRank v_table v_askedFaces v_askedPoints v_hasFirst) (w_X9_finds cI cJ h h_base h_rises h_marks h_closedJ h_closedL h_table g2 g3 g4 (.ref h_order) g20 g21 g22 g23 g24 g25 g26 v_points v_faces R4.2.1 R4.2.2.1 R4.2.2.2.1 R4.2.2.2.2.1 R4.2.2.2.2.2.1 R4.2.2.2.2.2.2.1 R4.2.2.2.2.2.2.2.1 R4.2.2.2.2.2.2.2.2.1 R4.2.2.2.2.2.2.2.2.2.1 R4.2.2.2.2.2.2.2.2.2.2.1 R4.2.2.2.2.2.2.2.2.2.2.2.1 R4.2.2.2.2.2.2.2.2.2.2.2.2.1 R4.2.2.2.2.2.2.2.2.2.2.2.2.2.1 R4.2.2.2.2.2.2.2.2.2.2.2.2.2.2) (w_X9_look cI cJ h h_base h_rises h_marks h_closedJ h_closedL h_table h_order g2 g3 g4 g20 g21 g22 g23 g24 g25 g26 v_points v_faces R4.2.1 R4.2.2.1 R4.2.2.2.1 R4.2.2.2.2.1 R4.2.2.2.2.2.1 R4.2.2.2.2.2.2.1 R4.2.2.2.2.2.2.2.1 R4.2.2.2.2.2.2.2.2.1 R4.2.2.2.2.2.2.2.2.2.1 R4.2.2.2.2.2.2.2.2.2.2.1 R4.2.2.2.2.2.2.2.2.2.2.2.1 R4.2.2.2.2.2.2.2.2.2.2.2.2.1 R4.2.2.2.2.2.2.2.2.2.2.2.2.2.1 R4.2.2.2.2.2.2.2.2.2.2.2.2.2.2 v_order) [0, 1, 2, 3, 4, 5, 6] [7] [1, 2, 3, 4, 5, 6, 7, 0] := ⟨rfl, rfl, rfl, by decide, by decide, by decide, by decide⟩
    refine hb_ci (hb_rV (As := []) (rest := []) C0 hK hA XT.nn hSt sp (c_X9_finds l D cI cJ h h_base h_rises h_marks h_closedJ h_closedL h_table g2 g3 g4 (.ref h_order) g20 g21 g22 g23 g24 g25 g26   v_points v_faces v_base v_rises v_marks v_closedJ v_closedL v_firstJ v_firstL v_firstA v_firstB v_firstRank v_table v_askedFaces v_askedPoints v_hasFirst R4 hR4) gX9_look_X9_finds rfl ⟨rfl, rfl⟩ hd_X9_finds ⟨Nat.le_of_ble_eq_true rfl, Nat.le_of_ble_eq_true rfl⟩ 0 8 rfl rfl rfl hl rfl (Nat.le_of_ble_eq_true rfl) dX9_look_107 ⟨Nat.zero_le _, Nat.zero_le _⟩) hA hSt sp (fun H locs hSt => ?_)
    refine lv_if_eq (tgt := 117) hx hb dX9_look_110 (by decide) (fun cc => ?_) (fun cc => ?_)
    · have hf := ite_t hf cc
      refine lv_iconst (v := 1) hx hb dX9_look_117 (by decide) ?_
      cases hf
      exact hb_iret C0 hK hSt dX9_look_118
    · have hf := ite_f hf cc
      refine lv_iconst (v := 0) hx hb dX9_look_113 (by decide) ?_
      refine lv_goto (tgt := 118) hx hb dX9_look_114 (by decide) ?_
      cases hf
      exact hb_iret C0 hK hSt dX9_look_118
  have hf := ite_f hf c5
  by_cases c6 : l1 = 6
  · have hf := ite_t hf c6
    refine lv_tableIn (tgt := 119) (off := 118) hx hb dX9_look_1 (by rw [c6]; decide) (by rw [c6]; decide) (by rw [c6]; rfl) (by decide) ?_
    refine lv_aload_n hx hb dX9_look_119 rfl (lv_at hl 0 rfl) ?_
    refine lv_iconst (v := -1) hx hb dX9_look_120 (by decide) ?_
    refine lv_iconst (v := -1) hx hb dX9_look_121 (by decide) ?_
    obtain ⟨R5, hR5, hf⟩ := Option.bind_eq_some_iff.mp hf
    have sp : Sp (w_X9_look cI cJ h h_base h_rises h_marks h_closedJ h_closedL h_table h_order g2 g3 g4 g20 g21 g22 g23 g24 g25 g26 v_points v_faces v_base v_rises v_marks v_closedJ v_closedL v_firstJ v_firstL v_firstA v_firstB v_firstRank v_table v_askedFaces v_askedPoints v_hasFirst v_order) (w_X9_turns cI cJ h h_order g2 g3 g4 (.ref h_base) (.ref h_rises) (.ref h_marks) (.ref h_closedJ) (.ref h_closedL) (.int v_firstJ) (.int v_firstL) (.int v_firstA) (.int v_firstB) (.int v_firstRank) (.ref h_table) (.long v_askedFaces) (.int v_askedPoints) (.int v_hasFirst) g20 g21 g22 g23 g24 g25 g26 v_points v_faces v_order) (w_X9_turns cI cJ h h_order g2 g3 g4 (.ref h_base) (.ref h_rises) (.ref h_marks) (.ref h_closedJ) (.ref h_closedL) (.int v_firstJ) (.int v_firstL) (.int v_firstA) (.int v_firstB) (.int v_firstRank) (.ref h_table) (.long v_askedFaces) (.int v_askedPoints) (.int v_hasFirst) g20 g21 g22 g23 g24 g25 g26 v_points v_faces R5.2) (w_X9_look cI cJ h h_base h_rises h_marks h_closedJ h_closedL h_table h_order g2 g3 g4 g20 g21 g22 g23 g24 g25 g26 v_points v_faces v_base v_rises v_marks v_closedJ v_closedL v_firstJ v_firstL v_firstA v_firstB v_firstRank v_table v_askedFaces v_askedPoints v_hasFirst R5.2) [0, 7] [1, 2, 3, 4, 5, 6] [6, 0, 1, 2, 3, 4, 5, 7] := ⟨rfl, rfl, rfl, by decide, by decide, by decide, by decide⟩
    refine hb_ci (hb_rV (As := [.int (-1 : Int32), .int (-1 : Int32)]) (rest := []) C0 hK hA XT.nn hSt sp (c_X9_turns l D cI cJ h h_order g2 g3 g4 (.ref h_base) (.ref h_rises) (.ref h_marks) (.ref h_closedJ) (.ref h_closedL) (.int v_firstJ) (.int v_firstL) (.int v_firstA) (.int v_firstB) (.int v_firstRank) (.ref h_table) (.long v_askedFaces) (.int v_askedPoints) (.int v_hasFirst) g20 g21 g22 g23 g24 g25 g26  (-1 : Int32) (-1 : Int32) v_points v_faces v_order R5 hR5) gX9_look_X9_turns rfl ⟨rfl, rfl⟩ hd_X9_turns ⟨Nat.le_of_ble_eq_true rfl, Nat.le_of_ble_eq_true rfl⟩ 0 8 rfl rfl rfl hl rfl (Nat.le_of_ble_eq_true rfl) dX9_look_122 ⟨Nat.zero_le _, Nat.zero_le _⟩) hA hSt sp (fun H locs hSt => ?_)
    cases hf
    exact hb_iret C0 hK hSt dX9_look_125
  have hf := ite_f hf c6
  by_cases c7 : l1 = 7
  · have hf := ite_t hf c7
    refine lv_tableIn (tgt := 126) (off := 125) hx hb dX9_look_1 (by rw [c7]; decide) (by rw [c7]; decide) (by rw [c7]; rfl) (by decide) ?_
    refine lv_aload_n hx hb dX9_look_126 rfl (lv_at hl 0 rfl) ?_
    obtain ⟨R6, hR6, hf⟩ := Option.bind_eq_some_iff.mp hf
    have sp : Sp (w_X9_look cI cJ h h_base h_rises h_marks h_closedJ h_closedL h_table h_order g2 g3 g4 g20 g21 g22 g23 g24 g25 g26 v_points v_faces v_base v_rises v_marks v_closedJ v_closedL v_firstJ v_firstL v_firstA v_firstB v_firstRank v_table v_askedFaces v_askedPoints v_hasFirst v_order) (w_X9_classes cI cJ h h_order g2 g3 g4 (.ref h_base) (.ref h_rises) (.ref h_marks) (.ref h_closedJ) (.ref h_closedL) (.int v_firstJ) (.int v_firstL) (.int v_firstA) (.int v_firstB) (.int v_firstRank) (.ref h_table) (.long v_askedFaces) (.int v_askedPoints) (.int v_hasFirst) g20 g21 g22 g23 g24 g25 g26 v_points v_faces v_order) (w_X9_classes cI cJ h h_order g2 g3 g4 (.ref h_base) (.ref h_rises) (.ref h_marks) (.ref h_closedJ) (.ref h_closedL) (.int v_firstJ) (.int v_firstL) (.int v_firstA) (.int v_firstB) (.int v_firstRank) (.ref h_table) (.long v_askedFaces) (.int v_askedPoints) (.int v_hasFirst) g20 g21 g22 g23 g24 g25 g26 v_points v_faces R6.2) (w_X9_look cI cJ h h_base h_rises h_marks h_closedJ h_closedL h_table h_order g2 g3 g4 g20 g21 g22 g23 g24 g25 g26 v_points v_faces v_base v_rises v_marks v_closedJ v_closedL v_firstJ v_firstL v_firstA v_firstB v_firstRank v_table v_askedFaces v_askedPoints v_hasFirst R6.2) [0, 7] [1, 2, 3, 4, 5, 6] [6, 0, 1, 2, 3, 4, 5, 7] := ⟨rfl, rfl, rfl, by decide, by decide, by decide, by decide⟩
    refine hb_ci (hb_rV (As := []) (rest := []) C0 hK hA XT.nn hSt sp (c_X9_classes l D cI cJ h h_order g2 g3 g4 (.ref h_base) (.ref h_rises) (.ref h_marks) (.ref h_closedJ) (.ref h_closedL) (.int v_firstJ) (.int v_firstL) (.int v_firstA) (.int v_firstB) (.int v_firstRank) (.ref h_table) (.long v_askedFaces) (.int v_askedPoints) (.int v_hasFirst) g20 g21 g22 g23 g24 g25 g26   v_points v_faces v_order R6 hR6) gX9_look_X9_classes rfl ⟨rfl, rfl⟩ hd_X9_classes ⟨Nat.le_of_ble_eq_true rfl, Nat.le_of_ble_eq_true rfl⟩ 0 8 rfl rfl rfl hl rfl (Nat.le_of_ble_eq_true rfl) dX9_look_127 ⟨Nat.zero_le _, Nat.zero_le _⟩) hA hSt sp (fun H locs hSt => ?_)
    cases hf
    exact hb_iret C0 hK hSt dX9_look_130
  have hf := ite_f hf c7
  have hsw : l1.toInt < 0 ∨ 7 < l1.toInt := by
    have n0 := lv_neT c0 (a := 0) (by decide)
    have n1 := lv_neT c1 (a := 1) (by decide)
    have n2 := lv_neT c2 (a := 2) (by decide)
    have n3 := lv_neT c3 (a := 3) (by decide)
    have n4 := lv_neT c4 (a := 4) (by decide)
    have n5 := lv_neT c5 (a := 5) (by decide)
    have n6 := lv_neT c6 (a := 6) (by decide)
    have n7 := lv_neT c7 (a := 7) (by decide)
    omega
  refine lv_tableOut (tgt := 131) hx hb dX9_look_1 hsw (by decide) ?_
  refine lv_bipush (v := -2) hx hb dX9_look_131 (by decide) ?_
  cases hf
  exact hb_iret C0 hK hSt dX9_look_133
def f_X9_look (v_points : Int32) (v_faces : Int64) (l1 : Int32) (v_base : Nat → Int64) (v_rises : Nat → Int64) (v_marks : Nat → Int64) (v_closedJ : Nat → Int64) (v_closedL : Nat → Int64) (v_firstJ : Int32) (v_firstL : Int32) (v_firstA : Int32) (v_firstB : Int32) (v_firstRank : Int32) (v_table : Nat → Int32) (v_askedFaces : Int64) (v_askedPoints : Int32) (v_hasFirst : Int32) (v_order : Nat → Int32) : Option (Int32 × (Nat → Int64) × (Nat → Int64) × (Nat → Int64) × (Nat → Int64) × (Nat → Int64) × Int32 × Int32 × Int32 × Int32 × Int32 × (Nat → Int32) × Int64 × Int32 × Int32 × (Nat → Int32)) := f_X9_look_0 v_points v_faces l1 v_base v_rises v_marks v_closedJ v_closedL v_firstJ v_firstL v_firstA v_firstB v_firstRank v_table v_askedFaces v_askedPoints v_hasFirst v_order
set_option maxRecDepth 100000 in
theorem c_X9_look (l : Launch) (D : va_G) (cI cJ : ClassId) (h h_base h_rises h_marks h_closedJ h_closedL h_table h_order : Nat) (g2 g3 g4 g20 g21 g22 g23 g24 g25 g26 : Value) (l1 : Int32) (v_points : Int32) (v_faces : Int64) (v_base : Nat → Int64) (v_rises : Nat → Int64) (v_marks : Nat → Int64) (v_closedJ : Nat → Int64) (v_closedL : Nat → Int64) (v_firstJ : Int32) (v_firstL : Int32) (v_firstA : Int32) (v_firstB : Int32) (v_firstRank : Int32) (v_table : Nat → Int32) (v_askedFaces : Int64) (v_askedPoints : Int32) (v_hasFirst : Int32) (v_order : Nat → Int32) (Rr : Int32 × (Nat → Int64) × (Nat → Int64) × (Nat → Int64) × (Nat → Int64) × (Nat → Int64) × Int32 × Int32 × Int32 × Int32 × Int32 × (Nat → Int32) × Int64 × Int32 × Int32 × (Nat → Int32)) (hf : f_X9_look v_points v_faces l1 v_base v_rises v_marks v_closedJ v_closedL v_firstJ v_firstL v_firstA v_firstB v_firstRank v_table v_askedFaces v_askedPoints v_hasFirst v_order = some Rr) : CtI l yX9_look wsX9_look rm_X9_look D cI cJ none [.ref h, .int l1] (w_X9_look cI cJ h h_base h_rises h_marks h_closedJ h_closedL h_table h_order g2 g3 g4 g20 g21 g22 g23 g24 g25 g26 v_points v_faces v_base v_rises v_marks v_closedJ v_closedL v_firstJ v_firstL v_firstA v_firstB v_firstRank v_table v_askedFaces v_askedPoints v_hasFirst v_order) Rr.1 (w_X9_look cI cJ h h_base h_rises h_marks h_closedJ h_closedL h_table h_order g2 g3 g4 g20 g21 g22 g23 g24 g25 g26 v_points v_faces Rr.2.1 Rr.2.2.1 Rr.2.2.2.1 Rr.2.2.2.2.1 Rr.2.2.2.2.2.1 Rr.2.2.2.2.2.2.1 Rr.2.2.2.2.2.2.2.1 Rr.2.2.2.2.2.2.2.2.1 Rr.2.2.2.2.2.2.2.2.2.1 Rr.2.2.2.2.2.2.2.2.2.2.1 Rr.2.2.2.2.2.2.2.2.2.2.2.1 Rr.2.2.2.2.2.2.2.2.2.2.2.2.1 Rr.2.2.2.2.2.2.2.2.2.2.2.2.2.1 Rr.2.2.2.2.2.2.2.2.2.2.2.2.2.2.1 Rr.2.2.2.2.2.2.2.2.2.2.2.2.2.2.2) :=
  fun sz => BodyW.met (av := [.ref h, .int l1]) (Qc := fun A => QI D cI cJ A (w_X9_look cI cJ h h_base h_rises h_marks h_closedJ h_closedL h_table h_order g2 g3 g4 g20 g21 g22 g23 g24 g25 g26 v_points v_faces Rr.2.1 Rr.2.2.1 Rr.2.2.2.1 Rr.2.2.2.2.1 Rr.2.2.2.2.2.1 Rr.2.2.2.2.2.2.1 Rr.2.2.2.2.2.2.2.1 Rr.2.2.2.2.2.2.2.2.1 Rr.2.2.2.2.2.2.2.2.2.1 Rr.2.2.2.2.2.2.2.2.2.2.1 Rr.2.2.2.2.2.2.2.2.2.2.2.1 Rr.2.2.2.2.2.2.2.2.2.2.2.2.1 Rr.2.2.2.2.2.2.2.2.2.2.2.2.2.1 Rr.2.2.2.2.2.2.2.2.2.2.2.2.2.2.1 Rr.2.2.2.2.2.2.2.2.2.2.2.2.2.2.2) Rr.1) (by decide) rfl rfl (Nat.le_of_ble_eq_true rfl) (fun C0 hK hA hX ls hSt hl => k_X9_look_0 C0 hK hA hX l1 v_base v_rises v_marks v_closedJ v_closedL v_firstJ v_firstL v_firstA v_firstB v_firstRank v_table v_askedFaces v_askedPoints v_hasFirst v_order _ _ ls hSt hl hf) sz
/-! X9 feed -/
abbrev rm_X9_feed : Room := { frames := 0, cells := 0, slots := 0, locals := 0 }
abbrev w_X9_feed (cI cJ : ClassId) (h : Nat) (h_tape : Nat) (g0 : Value) (g1 : Value) (g2 : Value) (g3 : Value) (g4 : Value) (g5 : Value) (g6 : Value) (g7 : Value) (g8 : Value) (g9 : Value) (g10 : Value) (g11 : Value) (g12 : Value) (g13 : Value) (g14 : Value) (g15 : Value) (g16 : Value) (g17 : Value) (g18 : Value) (g19 : Value) (g21 : Value) (g23 : Value) (g24 : Value) (g25 : Value) (g26 : Value) (v_tape : Nat → Int32) (v_taped : Int32) : va_W := [(h, .inr (8, [g0, g1, g2, g3, g4, g5, g6, g7, g8, g9, g10, g11, g12, g13, g14, g15, g16, g17, g18, g19, .ref h_tape, g21, .int v_taped, g23, g24, g25, g26])), (h_tape, .inl (cI, 200, .inl v_tape))]
theorem iu_X9_feed_X9 : ∀ w ∈ wsX90, w ∈ wsX9_feed := by decide +kernel
theorem fl_X9_feed_46 : Cond.fieldLink RX9 46 (TX9 20).1 (TX9 20).2.1 (TX9 20).2.2.1 ∈ wsX9_feed := by decide +kernel
theorem fl_X9_feed_198 : Cond.fieldLink RX9 198 (TX9 22).1 (TX9 22).2.1 (TX9 22).2.2.1 ∈ wsX9_feed := by decide +kernel
theorem hd_X9_feed : yX9_feed.cls = RX9 ∧ yX9_feed.cls ≠ "java/lang/invoke/MethodHandle" ∧ yX9_feed.cls ≠ "java/lang/invoke/VarHandle" ∧ (parseMethodDescriptor yX9_feed.desc).map (fun d => d.parameters.length) = some 5 := by decide +kernel
def f_X9_feed_71  (k_18 : Int32 → Int32 → Int32 → Int32 → Int32 → Int32 → (Nat → Int32) → (Int32) → Option (Int32 × (Nat → Int32) × Int32)) (l1 : Int32) (l2 : Int32) (l3 : Int32) (l4 : Int32) (l5 : Int32) (l6 : Int32) (s0 : Int32) (v_tape : Nat → Int32) (v_taped : Int32) : Option (Int32 × (Nat → Int32) × Int32) := bnd ((s0 >>> (((24 : Int32) - ((8 : Int32) * (l6 - l6 / (4 : Int32) * (4 : Int32)))) &&& 31)) &&& (255 : Int32)) (fun e_1 => gd (ix v_taped 200) (k_18 l1 l2 l3 l4 l5 (l6 + 1) (upd v_tape v_taped.toNatClampNeg e_1) (v_taped + (1 : Int32))))
set_option maxHeartbeats 4000000 in
set_option maxRecDepth 100000 in
theorem k_X9_feed_71 {p : Program} {l : Launch} {e : Env} {s : State} {m : MethodId} {args : Array Value} {below : List Frame} {meth : Method} {c : Code} {A : Nat → Prop} {D : va_G} {cI cJ : ClassId} {h h_tape : Nat} {g0 g1 g2 g3 g4 g5 g6 g7 g8 g9 g10 g11 g12 g13 g14 g15 g16 g17 g18 g19 g21 g23 g24 g25 g26 : Value}  (C0 : Cx p s m args meth c cX9_feed wsX9_feed RX9 8 (some .int)) (hK : va_K D vwCl (tyL cI cJ) s) (hA : ∀ q, s.heap.size ≤ q → A q) (hX : XT none A s s.heap) {Rr : Int32 × (Nat → Int32) × Int32} {k_18 : Int32 → Int32 → Int32 → Int32 → Int32 → Int32 → (Nat → Int32) → (Int32) → Option (Int32 × (Nat → Int32) × Int32)} (hk_18 : ∀ (l1 : Int32) (l2 : Int32) (l3 : Int32) (l4 : Int32) (l5 : Int32) (l6 : Int32) (v_tape : Nat → Int32) (v_taped : Int32) (H : Heap) (locs : List Loc) (ls : Array Slot), St D A s (w_X9_feed cI cJ h h_tape g0 g1 g2 g3 g4 g5 g6 g7 g8 g9 g10 g11 g12 g13 g14 g15 g16 g17 g18 g19 g21 g23 g24 g25 g26 v_tape v_taped) H locs → lv_has ls 8 [(0, .ref h), (1, .int l1), (2, .int l2), (3, .int l3), (4, .int l4), (5, .int l5), (6, .int l6)] → k_18 l1 l2 l3 l4 l5 l6 v_tape v_taped = some Rr → W p l e rm_X9_feed s m args below meth c H locs 0 0 (MQ below (QI D cI cJ A (w_X9_feed cI cJ h h_tape g0 g1 g2 g3 g4 g5 g6 g7 g8 g9 g10 g11 g12 g13 g14 g15 g16 g17 g18 g19 g21 g23 g24 g25 g26 Rr.2.1 Rr.2.2) Rr.1) args s 0 0 A) (F0 m 18 ls [])) : ∀ (l1 : Int32) (l2 : Int32) (l3 : Int32) (l4 : Int32) (l5 : Int32) (l6 : Int32) (s0 : Int32) (v_tape : Nat → Int32) (v_taped : Int32) (H : Heap) (locs : List Loc) (ls : Array Slot), St D A s (w_X9_feed cI cJ h h_tape g0 g1 g2 g3 g4 g5 g6 g7 g8 g9 g10 g11 g12 g13 g14 g15 g16 g17 g18 g19 g21 g23 g24 g25 g26 v_tape v_taped) H locs → lv_has ls 8 [(0, .ref h), (1, .int l1), (2, .int l2), (3, .int l3), (4, .int l4), (5, .int l5), (6, .int l6)] → f_X9_feed_71 k_18 l1 l2 l3 l4 l5 l6 s0 v_tape v_taped = some Rr → W p l e rm_X9_feed s m args below meth c H locs 0 0 (MQ below (QI D cI cJ A (w_X9_feed cI cJ h h_tape g0 g1 g2 g3 g4 g5 g6 g7 g8 g9 g10 g11 g12 g13 g14 g15 g16 g17 g18 g19 g21 g23 g24 g25 g26 Rr.2.1 Rr.2.2) Rr.1) args s 0 0 A) (F0 m 71 ls [.int s0]) := by
  have hx := C0.1.1
  have hb := C0.1.2.1
  intro l1 l2 l3 l4 l5 l6 s0 v_tape v_taped H locs ls hSt hl hf
  unfold f_X9_feed_71 at hf
  refine lv_istore (lv' := [(7, .int s0), (0, .ref h), (1, .int l1), (2, .int l2), (3, .int l3), (4, .int l4), (5, .int l5), (6, .int l6)]) hx hb dX9_feed_71 hl (by decide) rfl (fun ls hl => ?_)
  refine lv_aload_n hx hb dX9_feed_73 rfl (lv_at hl 1 rfl) ?_
  refine hb_get C0 hK hSt 0 8 20 rfl rfl iu_X9_feed_X9 (by decide) fl_X9_feed_46 rfl dX9_feed_74 ?_
  refine lv_aload_n hx hb dX9_feed_77 rfl (lv_at hl 1 rfl) ?_
  refine hb_get C0 hK hSt 0 8 22 rfl rfl iu_X9_feed_X9 (by decide) fl_X9_feed_198 rfl dX9_feed_78 ?_
  refine lv_iload hx hb dX9_feed_81 (lv_at hl 0 rfl) ?_
  refine lv_bipush (v := 24) hx hb dX9_feed_83 (by decide) ?_
  refine lv_bipush (v := 8) hx hb dX9_feed_85 (by decide) ?_
  refine lv_iload hx hb dX9_feed_87 (lv_at hl 7 rfl) ?_
  refine lv_iconst (v := 4) hx hb dX9_feed_89 (by decide) ?_
  refine lv_irem hx hb dX9_feed_90 (by decide) ?_
  refine lv_imul hx hb dX9_feed_91 ?_
  refine lv_isub hx hb dX9_feed_92 ?_
  refine lv_ishr hx hb dX9_feed_93 ?_
  refine lv_sipush (v := 255) hx hb dX9_feed_94 (by decide) ?_
  refine lv_iand hx hb dX9_feed_97 ?_
  refine tp_i hf (fun e_1 hf => ?_)
  obtain ⟨hi, hf⟩ := gd_t hf
  refine hb_iast C0 hK hSt 1 rfl hi (w' := w_X9_feed cI cJ h h_tape g0 g1 g2 g3 g4 g5 g6 g7 g8 g9 g10 g11 g12 g13 g14 g15 g16 g17 g18 g19 g21 g23 g24 g25 g26 (upd v_tape v_taped.toNatClampNeg e_1) v_taped) rfl dX9_feed_98 (fun H locs hSt => ?_)
  refine lv_aload_n hx hb dX9_feed_99 rfl (lv_at hl 1 rfl) ?_
  refine lv_dup hx hb dX9_feed_100 rfl ?_
  refine hb_get C0 hK hSt 0 8 22 rfl rfl iu_X9_feed_X9 (by decide) fl_X9_feed_198 rfl dX9_feed_101 ?_
  refine lv_iconst (v := 1) hx hb dX9_feed_104 (by decide) ?_
  refine lv_iadd hx hb dX9_feed_105 ?_
  refine hb_put C0 hK hSt 0 8 22 rfl rfl iu_X9_feed_X9 tyX9 tyX9_ok nmX9 (by decide) fl_X9_feed_198 rfl rfl rfl (Nat.le_of_ble_eq_true rfl) (w' := w_X9_feed cI cJ h h_tape g0 g1 g2 g3 g4 g5 g6 g7 g8 g9 g10 g11 g12 g13 g14 g15 g16 g17 g18 g19 g21 g23 g24 g25 g26 (upd v_tape v_taped.toNatClampNeg e_1) (v_taped + (1 : Int32))) rfl dX9_feed_106 (fun H locs hSt => ?_)
  refine lv_iinc (v := l6 + 1) (lv' := [(6, .int (l6 + 1)), (7, .int s0), (0, .ref h), (1, .int l1), (2, .int l2), (3, .int l3), (4, .int l4), (5, .int l5)]) hx hb dX9_feed_109 hl (k := 7) rfl rfl (by decide) rfl (fun ls hl => ?_)
  refine lv_goto (tgt := 18) hx hb dX9_feed_112 (by decide) ?_
  exact hk_18 l1 l2 l3 l4 l5 (l6 + 1) (upd v_tape v_taped.toNatClampNeg e_1) (v_taped + (1 : Int32)) _ _ _ hSt (lv_sub hl [2, 3, 4, 5, 6, 7, 0] rfl) hf
def f_X9_feed_18   : Nat → Int32 → Int32 → Int32 → Int32 → Int32 → Int32 → (Nat → Int32) → (Int32) → Option (Int32 × (Nat → Int32) × Int32)
  | 0, _, _, _, _, _, _, _, _ => none
  | n + 1, l1, l2, l3, l4, l5, l6, v_tape, v_taped => if (20 : Int32) ≤ l6 then some (v_taped, v_tape, v_taped) else if (4 : Int32) ≤ l6 then if (8 : Int32) ≤ l6 then if (12 : Int32) ≤ l6 then if (16 : Int32) ≤ l6 then f_X9_feed_71  (f_X9_feed_18 n) l1 l2 l3 l4 l5 l6 l5 v_tape v_taped else f_X9_feed_71  (f_X9_feed_18 n) l1 l2 l3 l4 l5 l6 l4 v_tape v_taped else f_X9_feed_71  (f_X9_feed_18 n) l1 l2 l3 l4 l5 l6 l3 v_tape v_taped else f_X9_feed_71  (f_X9_feed_18 n) l1 l2 l3 l4 l5 l6 l2 v_tape v_taped else f_X9_feed_71  (f_X9_feed_18 n) l1 l2 l3 l4 l5 l6 l1 v_tape v_taped
set_option maxHeartbeats 4000000 in
set_option maxRecDepth 100000 in
theorem k_X9_feed_18 {p : Program} {l : Launch} {e : Env} {s : State} {m : MethodId} {args : Array Value} {below : List Frame} {meth : Method} {c : Code} {A : Nat → Prop} {D : va_G} {cI cJ : ClassId} {h h_tape : Nat} {g0 g1 g2 g3 g4 g5 g6 g7 g8 g9 g10 g11 g12 g13 g14 g15 g16 g17 g18 g19 g21 g23 g24 g25 g26 : Value}  (C0 : Cx p s m args meth c cX9_feed wsX9_feed RX9 8 (some .int)) (hK : va_K D vwCl (tyL cI cJ) s) (hA : ∀ q, s.heap.size ≤ q → A q) (hX : XT none A s s.heap) {Rr : Int32 × (Nat → Int32) × Int32} (n : Nat) : ∀ (l1 : Int32) (l2 : Int32) (l3 : Int32) (l4 : Int32) (l5 : Int32) (l6 : Int32) (v_tape : Nat → Int32) (v_taped : Int32) (H : Heap) (locs : List Loc) (ls : Array Slot), St D A s (w_X9_feed cI cJ h h_tape g0 g1 g2 g3 g4 g5 g6 g7 g8 g9 g10 g11 g12 g13 g14 g15 g16 g17 g18 g19 g21 g23 g24 g25 g26 v_tape v_taped) H locs → lv_has ls 8 [(0, .ref h), (1, .int l1), (2, .int l2), (3, .int l3), (4, .int l4), (5, .int l5), (6, .int l6)] → f_X9_feed_18 n l1 l2 l3 l4 l5 l6 v_tape v_taped = some Rr → W p l e rm_X9_feed s m args below meth c H locs 0 0 (MQ below (QI D cI cJ A (w_X9_feed cI cJ h h_tape g0 g1 g2 g3 g4 g5 g6 g7 g8 g9 g10 g11 g12 g13 g14 g15 g16 g17 g18 g19 g21 g23 g24 g25 g26 Rr.2.1 Rr.2.2) Rr.1) args s 0 0 A) (F0 m 18 ls []) := by
  have hx := C0.1.1
  have hb := C0.1.2.1
  induction n with
  | zero => intro l1 l2 l3 l4 l5 l6 v_tape v_taped H locs ls hSt hl hf; exact nomatch (show (none : Option _) = some Rr from hf)
  | succ n ih =>
    intro l1 l2 l3 l4 l5 l6 v_tape v_taped H locs ls hSt hl hf
    unfold f_X9_feed_18 at hf
    refine lv_iload hx hb dX9_feed_18 (lv_at hl 6 rfl) ?_
    refine lv_bipush (v := 20) hx hb dX9_feed_20 (by decide) ?_
    refine lv_icmp_ge (tgt := 115) hx hb dX9_feed_22 (by decide) (fun cc => ?_) (fun cc => ?_)
    · have hf := ite_t hf cc
      refine lv_aload_n hx hb dX9_feed_115 rfl (lv_at hl 0 rfl) ?_
      refine hb_get C0 hK hSt 0 8 22 rfl rfl iu_X9_feed_X9 (by decide) fl_X9_feed_198 rfl dX9_feed_116 ?_
      cases hf
      exact hb_iret C0 hK hSt dX9_feed_119
    · have hf := ite_f hf cc
      refine lv_iload hx hb dX9_feed_25 (lv_at hl 6 rfl) ?_
      refine lv_iconst (v := 4) hx hb dX9_feed_27 (by decide) ?_
      refine lv_icmp_ge (tgt := 35) hx hb dX9_feed_28 (by decide) (fun cc => ?_) (fun cc => ?_)
      · have hf := ite_t hf cc
        refine lv_iload hx hb dX9_feed_35 (lv_at hl 6 rfl) ?_
        refine lv_bipush (v := 8) hx hb dX9_feed_37 (by decide) ?_
        refine lv_icmp_ge (tgt := 46) hx hb dX9_feed_39 (by decide) (fun cc => ?_) (fun cc => ?_)
        · have hf := ite_t hf cc
          refine lv_iload hx hb dX9_feed_46 (lv_at hl 6 rfl) ?_
          refine lv_bipush (v := 12) hx hb dX9_feed_48 (by decide) ?_
          refine lv_icmp_ge (tgt := 57) hx hb dX9_feed_50 (by decide) (fun cc => ?_) (fun cc => ?_)
          · have hf := ite_t hf cc
            refine lv_iload hx hb dX9_feed_57 (lv_at hl 6 rfl) ?_
            refine lv_bipush (v := 16) hx hb dX9_feed_59 (by decide) ?_
            refine lv_icmp_ge (tgt := 69) hx hb dX9_feed_61 (by decide) (fun cc => ?_) (fun cc => ?_)
            · have hf := ite_t hf cc
              refine lv_iload hx hb dX9_feed_69 (lv_at hl 5 rfl) ?_
              exact k_X9_feed_71 C0 hK hA hX ih l1 l2 l3 l4 l5 l6 l5 v_tape v_taped _ _ _ hSt (lv_sub hl [0, 1, 2, 3, 4, 5, 6] rfl) hf
            · have hf := ite_f hf cc
              refine lv_iload hx hb dX9_feed_64 (lv_at hl 4 rfl) ?_
              refine lv_goto (tgt := 71) hx hb dX9_feed_66 (by decide) ?_
              exact k_X9_feed_71 C0 hK hA hX ih l1 l2 l3 l4 l5 l6 l4 v_tape v_taped _ _ _ hSt (lv_sub hl [0, 1, 2, 3, 4, 5, 6] rfl) hf
          · have hf := ite_f hf cc
            refine lv_iload_n hx hb dX9_feed_53 rfl (lv_at hl 3 rfl) ?_
            refine lv_goto (tgt := 71) hx hb dX9_feed_54 (by decide) ?_
            exact k_X9_feed_71 C0 hK hA hX ih l1 l2 l3 l4 l5 l6 l3 v_tape v_taped _ _ _ hSt (lv_sub hl [0, 1, 2, 3, 4, 5, 6] rfl) hf
        · have hf := ite_f hf cc
          refine lv_iload_n hx hb dX9_feed_42 rfl (lv_at hl 2 rfl) ?_
          refine lv_goto (tgt := 71) hx hb dX9_feed_43 (by decide) ?_
          exact k_X9_feed_71 C0 hK hA hX ih l1 l2 l3 l4 l5 l6 l2 v_tape v_taped _ _ _ hSt (lv_sub hl [0, 1, 2, 3, 4, 5, 6] rfl) hf
      · have hf := ite_f hf cc
        refine lv_iload_n hx hb dX9_feed_31 rfl (lv_at hl 1 rfl) ?_
        refine lv_goto (tgt := 71) hx hb dX9_feed_32 (by decide) ?_
        exact k_X9_feed_71 C0 hK hA hX ih l1 l2 l3 l4 l5 l6 l1 v_tape v_taped _ _ _ hSt (lv_sub hl [0, 1, 2, 3, 4, 5, 6] rfl) hf
def f_X9_feed_0   (l1 : Int32) (l2 : Int32) (l3 : Int32) (l4 : Int32) (l5 : Int32) (v_tape : Nat → Int32) (v_taped : Int32) : Option (Int32 × (Nat → Int32) × Int32) := if (v_taped + (20 : Int32)) ≤ (200 : Int32) then f_X9_feed_18   FU l1 l2 l3 l4 l5 (0 : Int32) v_tape v_taped else some ((-1 : Int32), v_tape, v_taped)
set_option maxHeartbeats 4000000 in
set_option maxRecDepth 100000 in
theorem k_X9_feed_0 {p : Program} {l : Launch} {e : Env} {s : State} {m : MethodId} {args : Array Value} {below : List Frame} {meth : Method} {c : Code} {A : Nat → Prop} {D : va_G} {cI cJ : ClassId} {h h_tape : Nat} {g0 g1 g2 g3 g4 g5 g6 g7 g8 g9 g10 g11 g12 g13 g14 g15 g16 g17 g18 g19 g21 g23 g24 g25 g26 : Value}  (C0 : Cx p s m args meth c cX9_feed wsX9_feed RX9 8 (some .int)) (hK : va_K D vwCl (tyL cI cJ) s) (hA : ∀ q, s.heap.size ≤ q → A q) (hX : XT none A s s.heap) {Rr : Int32 × (Nat → Int32) × Int32} : ∀ (l1 : Int32) (l2 : Int32) (l3 : Int32) (l4 : Int32) (l5 : Int32) (v_tape : Nat → Int32) (v_taped : Int32) (H : Heap) (locs : List Loc) (ls : Array Slot), St D A s (w_X9_feed cI cJ h h_tape g0 g1 g2 g3 g4 g5 g6 g7 g8 g9 g10 g11 g12 g13 g14 g15 g16 g17 g18 g19 g21 g23 g24 g25 g26 v_tape v_taped) H locs → lv_has ls 8 [(0, .ref h), (1, .int l1), (2, .int l2), (3, .int l3), (4, .int l4), (5, .int l5)] → f_X9_feed_0 l1 l2 l3 l4 l5 v_tape v_taped = some Rr → W p l e rm_X9_feed s m args below meth c H locs 0 0 (MQ below (QI D cI cJ A (w_X9_feed cI cJ h h_tape g0 g1 g2 g3 g4 g5 g6 g7 g8 g9 g10 g11 g12 g13 g14 g15 g16 g17 g18 g19 g21 g23 g24 g25 g26 Rr.2.1 Rr.2.2) Rr.1) args s 0 0 A) (F0 m 0 ls []) := by
  have hx := C0.1.1
  have hb := C0.1.2.1
  intro l1 l2 l3 l4 l5 v_tape v_taped H locs ls hSt hl hf
  unfold f_X9_feed_0 at hf
  refine lv_aload_n hx hb dX9_feed_0 rfl (lv_at hl 0 rfl) ?_
  refine hb_get C0 hK hSt 0 8 22 rfl rfl iu_X9_feed_X9 (by decide) fl_X9_feed_198 rfl dX9_feed_1 ?_
  refine lv_bipush (v := 20) hx hb dX9_feed_4 (by decide) ?_
  refine lv_iadd hx hb dX9_feed_6 ?_
  refine lv_sipush (v := 200) hx hb dX9_feed_7 (by decide) ?_
  refine lv_icmp_le (tgt := 15) hx hb dX9_feed_10 (by decide) (fun cc => ?_) (fun cc => ?_)
  · have hf := ite_t hf cc
    refine lv_iconst (v := 0) hx hb dX9_feed_15 (by decide) ?_
    refine lv_istore (lv' := [(6, .int (0 : Int32)), (0, .ref h), (1, .int l1), (2, .int l2), (3, .int l3), (4, .int l4), (5, .int l5)]) hx hb dX9_feed_16 hl (by decide) rfl (fun ls hl => ?_)
    exact k_X9_feed_18 C0 hK hA hX  FU l1 l2 l3 l4 l5 (0 : Int32) v_tape v_taped _ _ _ hSt (lv_sub hl [1, 2, 3, 4, 5, 6, 0] rfl) hf
  · have hf := ite_f hf cc
    refine lv_iconst (v := -1) hx hb dX9_feed_13 (by decide) ?_
    cases hf
    exact hb_iret C0 hK hSt dX9_feed_14
def f_X9_feed  (l1 : Int32) (l2 : Int32) (l3 : Int32) (l4 : Int32) (l5 : Int32) (v_tape : Nat → Int32) (v_taped : Int32) : Option (Int32 × (Nat → Int32) × Int32) := f_X9_feed_0 l1 l2 l3 l4 l5 v_tape v_taped
set_option maxRecDepth 100000 in
theorem c_X9_feed (l : Launch) (D : va_G) (cI cJ : ClassId) (h h_tape : Nat) (g0 g1 g2 g3 g4 g5 g6 g7 g8 g9 g10 g11 g12 g13 g14 g15 g16 g17 g18 g19 g21 g23 g24 g25 g26 : Value) (l1 : Int32) (l2 : Int32) (l3 : Int32) (l4 : Int32) (l5 : Int32) (v_tape : Nat → Int32) (v_taped : Int32) (Rr : Int32 × (Nat → Int32) × Int32) (hf : f_X9_feed l1 l2 l3 l4 l5 v_tape v_taped = some Rr) : CtI l yX9_feed wsX9_feed rm_X9_feed D cI cJ none [.ref h, .int l1, .int l2, .int l3, .int l4, .int l5] (w_X9_feed cI cJ h h_tape g0 g1 g2 g3 g4 g5 g6 g7 g8 g9 g10 g11 g12 g13 g14 g15 g16 g17 g18 g19 g21 g23 g24 g25 g26 v_tape v_taped) Rr.1 (w_X9_feed cI cJ h h_tape g0 g1 g2 g3 g4 g5 g6 g7 g8 g9 g10 g11 g12 g13 g14 g15 g16 g17 g18 g19 g21 g23 g24 g25 g26 Rr.2.1 Rr.2.2) :=
  fun sz => BodyW.met (av := [.ref h, .int l1, .int l2, .int l3, .int l4, .int l5]) (Qc := fun A => QI D cI cJ A (w_X9_feed cI cJ h h_tape g0 g1 g2 g3 g4 g5 g6 g7 g8 g9 g10 g11 g12 g13 g14 g15 g16 g17 g18 g19 g21 g23 g24 g25 g26 Rr.2.1 Rr.2.2) Rr.1) (by decide) rfl rfl (Nat.le_of_ble_eq_true rfl) (fun C0 hK hA hX ls hSt hl => k_X9_feed_0 C0 hK hA hX l1 l2 l3 l4 l5 v_tape v_taped _ _ ls hSt hl hf) sz
/-! X9 end -/
abbrev rm_X9_end : Room := { frames := 1, cells := 0, slots := 0, locals := 22 }
abbrev w_X9_end (cI cJ : ClassId) (h : Nat) (g0 : Value) (g1 : Value) (g2 : Value) (g3 : Value) (g4 : Value) (g5 : Value) (g6 : Value) (g7 : Value) (g8 : Value) (g9 : Value) (g10 : Value) (g11 : Value) (g12 : Value) (g13 : Value) (g14 : Value) (g15 : Value) (g16 : Value) (g17 : Value) (g18 : Value) (g19 : Value) (g20 : Value) (g21 : Value) (g23 : Value) (g24 : Value) (g25 : Value) (g26 : Value) (v_taped : Int32) : va_W := [(h, .inr (8, [g0, g1, g2, g3, g4, g5, g6, g7, g8, g9, g10, g11, g12, g13, g14, g15, g16, g17, g18, g19, g20, g21, .int v_taped, g23, g24, g25, g26]))]
theorem iu_X9_end_X9 : ∀ w ∈ wsX90, w ∈ wsX9_end := by decide +kernel
theorem fl_X9_end_198 : Cond.fieldLink RX9 198 (TX9 22).1 (TX9 22).2.1 (TX9 22).2.2.1 ∈ wsX9_end := by decide +kernel
theorem hd_X9_end : yX9_end.cls = RX9 ∧ yX9_end.cls ≠ "java/lang/invoke/MethodHandle" ∧ yX9_end.cls ≠ "java/lang/invoke/VarHandle" ∧ (parseMethodDescriptor yX9_end.desc).map (fun d => d.parameters.length) = some 1 := by decide +kernel
def f_X9_end_0   (l1 : Int32) (v_taped : Int32) : Option (Int32 × Int32) := (f_X9_isIn l1 (0 : Int32) v_taped).bind (fun R1 => if R1 = 0 then some ((0 : Int32), v_taped) else some ((1 : Int32), l1))
set_option maxHeartbeats 4000000 in
set_option maxRecDepth 100000 in
theorem k_X9_end_0 {p : Program} {l : Launch} {e : Env} {s : State} {m : MethodId} {args : Array Value} {below : List Frame} {meth : Method} {c : Code} {A : Nat → Prop} {D : va_G} {cI cJ : ClassId} {h : Nat} {g0 g1 g2 g3 g4 g5 g6 g7 g8 g9 g10 g11 g12 g13 g14 g15 g16 g17 g18 g19 g20 g21 g23 g24 g25 g26 : Value}  (C0 : Cx p s m args meth c cX9_end wsX9_end RX9 2 (some .boolean)) (hK : va_K D vwCl (tyL cI cJ) s) (hA : ∀ q, s.heap.size ≤ q → A q) (hX : XT none A s s.heap) {Rr : Int32 × Int32} : ∀ (l1 : Int32) (v_taped : Int32) (H : Heap) (locs : List Loc) (ls : Array Slot), St D A s (w_X9_end cI cJ h g0 g1 g2 g3 g4 g5 g6 g7 g8 g9 g10 g11 g12 g13 g14 g15 g16 g17 g18 g19 g20 g21 g23 g24 g25 g26 v_taped) H locs → lv_has ls 2 [(0, .ref h), (1, .int l1)] → f_X9_end_0 l1 v_taped = some Rr → W p l e rm_X9_end s m args below meth c H locs 0 0 (MQ below (QI D cI cJ A (w_X9_end cI cJ h g0 g1 g2 g3 g4 g5 g6 g7 g8 g9 g10 g11 g12 g13 g14 g15 g16 g17 g18 g19 g20 g21 g23 g24 g25 g26 Rr.2) Rr.1) args s 0 0 A) (F0 m 0 ls []) := by
  have hx := C0.1.1
  have hb := C0.1.2.1
  intro l1 v_taped H locs ls hSt hl hf
  unfold f_X9_end_0 at hf
  refine lv_iload_n hx hb dX9_end_0 rfl (lv_at hl 1 rfl) ?_
  refine lv_iconst (v := 0) hx hb dX9_end_1 (by decide) ?_
  refine lv_aload_n hx hb dX9_end_2 rfl (lv_at hl 0 rfl) ?_
  refine hb_get C0 hK hSt 0 8 22 rfl rfl iu_X9_end_X9 (by decide) fl_X9_end_198 rfl dX9_end_3 ?_
  obtain ⟨R1, hR1, hf⟩ := Option.bind_eq_some_iff.mp hf
  have sp : Sp (w_X9_end cI cJ h g0 g1 g2 g3 g4 g5 g6 g7 g8 g9 g10 g11 g12 g13 g14 g15 g16 g17 g18 g19 g20 g21 g23 g24 g25 g26 v_taped) (w_X9_isIn cI cJ) (w_X9_isIn cI cJ) (w_X9_end cI cJ h g0 g1 g2 g3 g4 g5 g6 g7 g8 g9 g10 g11 g12 g13 g14 g15 g16 g17 g18 g19 g20 g21 g23 g24 g25 g26 v_taped) [] [0] [0] := ⟨rfl, rfl, rfl, by decide, by decide, by decide, by decide⟩
  refine hb_ci (hb_rS (As := [.int l1, .int (0 : Int32), .int v_taped]) (rest := []) C0 hK hA XT.nn hSt sp (c_X9_isIn l D cI cJ   l1 (0 : Int32) v_taped  R1 hR1) gX9_end_X9_isIn rfl ⟨rfl, rfl⟩ hd_X9_isIn ⟨Nat.le_of_ble_eq_true rfl, Nat.le_of_ble_eq_true rfl⟩ rfl hl rfl (Nat.le_of_ble_eq_true rfl) dX9_end_6 ⟨Nat.zero_le _, Nat.zero_le _⟩) hA hSt sp (fun H locs hSt => ?_)
  refine lv_if_ne (tgt := 14) hx hb dX9_end_9 (by decide) (fun cc => ?_) (fun cc => ?_)
  · have hf := ite_f hf cc
    refine lv_aload_n hx hb dX9_end_14 rfl (lv_at hl 0 rfl) ?_
    refine lv_iload_n hx hb dX9_end_15 rfl (lv_at hl 1 rfl) ?_
    refine hb_put C0 hK hSt 0 8 22 rfl rfl iu_X9_end_X9 tyX9 tyX9_ok nmX9 (by decide) fl_X9_end_198 rfl rfl rfl (Nat.le_of_ble_eq_true rfl) (w' := w_X9_end cI cJ h g0 g1 g2 g3 g4 g5 g6 g7 g8 g9 g10 g11 g12 g13 g14 g15 g16 g17 g18 g19 g20 g21 g23 g24 g25 g26 l1) rfl dX9_end_16 (fun H locs hSt => ?_)
    refine lv_iconst (v := 1) hx hb dX9_end_19 (by decide) ?_
    cases hf
    exact hb_zret C0 hK hSt nb1.1 dX9_end_20
  · have hf := ite_t hf cc
    refine lv_iconst (v := 0) hx hb dX9_end_12 (by decide) ?_
    cases hf
    exact hb_zret C0 hK hSt nb0.1 dX9_end_13
def f_X9_end  (l1 : Int32) (v_taped : Int32) : Option (Int32 × Int32) := f_X9_end_0 l1 v_taped
set_option maxRecDepth 100000 in
theorem c_X9_end (l : Launch) (D : va_G) (cI cJ : ClassId) (h : Nat) (g0 g1 g2 g3 g4 g5 g6 g7 g8 g9 g10 g11 g12 g13 g14 g15 g16 g17 g18 g19 g20 g21 g23 g24 g25 g26 : Value) (l1 : Int32) (v_taped : Int32) (Rr : Int32 × Int32) (hf : f_X9_end l1 v_taped = some Rr) : CtI l yX9_end wsX9_end rm_X9_end D cI cJ none [.ref h, .int l1] (w_X9_end cI cJ h g0 g1 g2 g3 g4 g5 g6 g7 g8 g9 g10 g11 g12 g13 g14 g15 g16 g17 g18 g19 g20 g21 g23 g24 g25 g26 v_taped) Rr.1 (w_X9_end cI cJ h g0 g1 g2 g3 g4 g5 g6 g7 g8 g9 g10 g11 g12 g13 g14 g15 g16 g17 g18 g19 g20 g21 g23 g24 g25 g26 Rr.2) :=
  fun sz => BodyW.met (av := [.ref h, .int l1]) (Qc := fun A => QI D cI cJ A (w_X9_end cI cJ h g0 g1 g2 g3 g4 g5 g6 g7 g8 g9 g10 g11 g12 g13 g14 g15 g16 g17 g18 g19 g20 g21 g23 g24 g25 g26 Rr.2) Rr.1) (by decide) rfl rfl (Nat.le_of_ble_eq_true rfl) (fun C0 hK hA hX ls hSt hl => k_X9_end_0 C0 hK hA hX l1 v_taped _ _ ls hSt hl hf) sz
/-! X9 see -/
abbrev rm_X9_see : Room := { frames := 0, cells := 0, slots := 0, locals := 0 }
abbrev w_X9_see (cI cJ : ClassId) (h : Nat) (h_tape : Nat) (g0 : Value) (g1 : Value) (g2 : Value) (g3 : Value) (g4 : Value) (g5 : Value) (g6 : Value) (g7 : Value) (g8 : Value) (g9 : Value) (g10 : Value) (g11 : Value) (g12 : Value) (g13 : Value) (g14 : Value) (g15 : Value) (g16 : Value) (g17 : Value) (g18 : Value) (g19 : Value) (g21 : Value) (g23 : Value) (g24 : Value) (g25 : Value) (g26 : Value) (v_tape : Nat → Int32) (v_taped : Int32) : va_W := [(h, .inr (8, [g0, g1, g2, g3, g4, g5, g6, g7, g8, g9, g10, g11, g12, g13, g14, g15, g16, g17, g18, g19, .ref h_tape, g21, .int v_taped, g23, g24, g25, g26])), (h_tape, .inl (cI, 200, .inl v_tape))]
theorem iu_X9_see_X9 : ∀ w ∈ wsX90, w ∈ wsX9_see := by decide +kernel
theorem fl_X9_see_46 : Cond.fieldLink RX9 46 (TX9 20).1 (TX9 20).2.1 (TX9 20).2.2.1 ∈ wsX9_see := by decide +kernel
theorem fl_X9_see_198 : Cond.fieldLink RX9 198 (TX9 22).1 (TX9 22).2.1 (TX9 22).2.2.1 ∈ wsX9_see := by decide +kernel
theorem hd_X9_see : yX9_see.cls = RX9 ∧ yX9_see.cls ≠ "java/lang/invoke/MethodHandle" ∧ yX9_see.cls ≠ "java/lang/invoke/VarHandle" ∧ (parseMethodDescriptor yX9_see.desc).map (fun d => d.parameters.length) = some 1 := by decide +kernel
def f_X9_see_0 (v_tape : Nat → Int32) (v_taped : Int32)  (l1 : Int32)  : Option (Int32) := if v_taped ≤ l1 then some (-1 : Int32) else gd (ix l1 200) (some (v_tape l1.toNatClampNeg))
set_option maxHeartbeats 4000000 in
set_option maxRecDepth 100000 in
theorem k_X9_see_0 {p : Program} {l : Launch} {e : Env} {s : State} {m : MethodId} {args : Array Value} {below : List Frame} {meth : Method} {c : Code} {A : Nat → Prop} {D : va_G} {cI cJ : ClassId} {h h_tape : Nat} {g0 g1 g2 g3 g4 g5 g6 g7 g8 g9 g10 g11 g12 g13 g14 g15 g16 g17 g18 g19 g21 g23 g24 g25 g26 : Value} {v_tape : Nat → Int32} {v_taped : Int32} (C0 : Cx p s m args meth c cX9_see wsX9_see RX9 2 (some .int)) (hK : va_K D vwCl (tyL cI cJ) s) (hA : ∀ q, s.heap.size ≤ q → A q) (hX : XT none A s s.heap) {Rr : Int32} : ∀ (l1 : Int32)  (H : Heap) (locs : List Loc) (ls : Array Slot), St D A s (w_X9_see cI cJ h h_tape g0 g1 g2 g3 g4 g5 g6 g7 g8 g9 g10 g11 g12 g13 g14 g15 g16 g17 g18 g19 g21 g23 g24 g25 g26 v_tape v_taped) H locs → lv_has ls 2 [(0, .ref h), (1, .int l1)] → f_X9_see_0 v_tape v_taped l1 = some Rr → W p l e rm_X9_see s m args below meth c H locs 0 0 (MQ below (QI D cI cJ A (w_X9_see cI cJ h h_tape g0 g1 g2 g3 g4 g5 g6 g7 g8 g9 g10 g11 g12 g13 g14 g15 g16 g17 g18 g19 g21 g23 g24 g25 g26 v_tape v_taped) Rr) args s 0 0 A) (F0 m 0 ls []) := by
  have hx := C0.1.1
  have hb := C0.1.2.1
  intro l1 H locs ls hSt hl hf
  unfold f_X9_see_0 at hf
  refine lv_iload_n hx hb dX9_see_0 rfl (lv_at hl 1 rfl) ?_
  refine lv_aload_n hx hb dX9_see_1 rfl (lv_at hl 0 rfl) ?_
  refine hb_get C0 hK hSt 0 8 22 rfl rfl iu_X9_see_X9 (by decide) fl_X9_see_198 rfl dX9_see_2 ?_
  refine lv_icmp_ge (tgt := 17) hx hb dX9_see_5 (by decide) (fun cc => ?_) (fun cc => ?_)
  · have hf := ite_t hf cc
    refine lv_iconst (v := -1) hx hb dX9_see_17 (by decide) ?_
    cases hf
    exact hb_iret C0 hK hSt dX9_see_18
  · have hf := ite_f hf cc
    refine lv_aload_n hx hb dX9_see_8 rfl (lv_at hl 0 rfl) ?_
    refine hb_get C0 hK hSt 0 8 20 rfl rfl iu_X9_see_X9 (by decide) fl_X9_see_46 rfl dX9_see_9 ?_
    refine lv_iload_n hx hb dX9_see_12 rfl (lv_at hl 1 rfl) ?_
    obtain ⟨hi, hf⟩ := gd_t hf
    refine hb_iald C0 hK hSt 1 rfl hi dX9_see_13 ?_
    refine lv_goto (tgt := 18) hx hb dX9_see_14 (by decide) ?_
    cases hf
    exact hb_iret C0 hK hSt dX9_see_18
def f_X9_see (v_tape : Nat → Int32) (v_taped : Int32) (l1 : Int32)  : Option (Int32) := f_X9_see_0 v_tape v_taped l1
set_option maxRecDepth 100000 in
theorem c_X9_see (l : Launch) (D : va_G) (cI cJ : ClassId) (h h_tape : Nat) (g0 g1 g2 g3 g4 g5 g6 g7 g8 g9 g10 g11 g12 g13 g14 g15 g16 g17 g18 g19 g21 g23 g24 g25 g26 : Value) (l1 : Int32) (v_tape : Nat → Int32) (v_taped : Int32) (Rr : Int32) (hf : f_X9_see v_tape v_taped l1 = some Rr) : CtI l yX9_see wsX9_see rm_X9_see D cI cJ none [.ref h, .int l1] (w_X9_see cI cJ h h_tape g0 g1 g2 g3 g4 g5 g6 g7 g8 g9 g10 g11 g12 g13 g14 g15 g16 g17 g18 g19 g21 g23 g24 g25 g26 v_tape v_taped) Rr (w_X9_see cI cJ h h_tape g0 g1 g2 g3 g4 g5 g6 g7 g8 g9 g10 g11 g12 g13 g14 g15 g16 g17 g18 g19 g21 g23 g24 g25 g26 v_tape v_taped) :=
  fun sz => BodyW.met (av := [.ref h, .int l1]) (Qc := fun A => QI D cI cJ A (w_X9_see cI cJ h h_tape g0 g1 g2 g3 g4 g5 g6 g7 g8 g9 g10 g11 g12 g13 g14 g15 g16 g17 g18 g19 g21 g23 g24 g25 g26 v_tape v_taped) Rr) (by decide) rfl rfl (Nat.le_of_ble_eq_true rfl) (fun C0 hK hA hX ls hSt hl => k_X9_see_0 C0 hK hA hX l1  _ _ ls hSt hl hf) sz
/-! X9 blanks -/
abbrev rm_X9_blanks : Room := { frames := 1, cells := 0, slots := 0, locals := 21 }
abbrev w_X9_blanks (cI cJ : ClassId) (h : Nat) (h_tape : Nat) (g0 : Value) (g1 : Value) (g2 : Value) (g3 : Value) (g4 : Value) (g5 : Value) (g6 : Value) (g7 : Value) (g8 : Value) (g9 : Value) (g10 : Value) (g11 : Value) (g12 : Value) (g13 : Value) (g14 : Value) (g15 : Value) (g16 : Value) (g17 : Value) (g18 : Value) (g19 : Value) (g21 : Value) (g23 : Value) (g24 : Value) (g25 : Value) (g26 : Value) (v_tape : Nat → Int32) (v_taped : Int32) : va_W := [(h, .inr (8, [g0, g1, g2, g3, g4, g5, g6, g7, g8, g9, g10, g11, g12, g13, g14, g15, g16, g17, g18, g19, .ref h_tape, g21, .int v_taped, g23, g24, g25, g26])), (h_tape, .inl (cI, 200, .inl v_tape))]
theorem hd_X9_blanks : yX9_blanks.cls = RX9 ∧ yX9_blanks.cls ≠ "java/lang/invoke/MethodHandle" ∧ yX9_blanks.cls ≠ "java/lang/invoke/VarHandle" ∧ (parseMethodDescriptor yX9_blanks.desc).map (fun d => d.parameters.length) = some 1 := by decide +kernel
def f_X9_blanks_2 (v_tape : Nat → Int32) (v_taped : Int32)  : Nat → Int32 → Option (Int32)
  | 0, _ => none
  | n + 1, l2 => (f_X9_see v_tape v_taped l2).bind (fun R1 => if R1 = (32 : Int32) then (f_X9_blanks_2 v_tape v_taped n) (l2 + 1) else (f_X9_see v_tape v_taped l2).bind (fun R2 => if R2 = (10 : Int32) then (f_X9_blanks_2 v_tape v_taped n) (l2 + 1) else some l2))
set_option maxHeartbeats 4000000 in
set_option maxRecDepth 100000 in
theorem k_X9_blanks_2 {p : Program} {l : Launch} {e : Env} {s : State} {m : MethodId} {args : Array Value} {below : List Frame} {meth : Method} {c : Code} {A : Nat → Prop} {D : va_G} {cI cJ : ClassId} {h h_tape : Nat} {g0 g1 g2 g3 g4 g5 g6 g7 g8 g9 g10 g11 g12 g13 g14 g15 g16 g17 g18 g19 g21 g23 g24 g25 g26 : Value} {v_tape : Nat → Int32} {v_taped : Int32} (C0 : Cx p s m args meth c cX9_blanks wsX9_blanks RX9 3 (some .int)) (hK : va_K D vwCl (tyL cI cJ) s) (hA : ∀ q, s.heap.size ≤ q → A q) (hX : XT none A s s.heap) {Rr : Int32} (n : Nat) : ∀ (l2 : Int32)  (H : Heap) (locs : List Loc) (ls : Array Slot), St D A s (w_X9_blanks cI cJ h h_tape g0 g1 g2 g3 g4 g5 g6 g7 g8 g9 g10 g11 g12 g13 g14 g15 g16 g17 g18 g19 g21 g23 g24 g25 g26 v_tape v_taped) H locs → lv_has ls 3 [(0, .ref h), (2, .int l2)] → f_X9_blanks_2 v_tape v_taped n l2 = some Rr → W p l e rm_X9_blanks s m args below meth c H locs 0 0 (MQ below (QI D cI cJ A (w_X9_blanks cI cJ h h_tape g0 g1 g2 g3 g4 g5 g6 g7 g8 g9 g10 g11 g12 g13 g14 g15 g16 g17 g18 g19 g21 g23 g24 g25 g26 v_tape v_taped) Rr) args s 0 0 A) (F0 m 2 ls []) := by
  have hx := C0.1.1
  have hb := C0.1.2.1
  induction n with
  | zero => intro l2 H locs ls hSt hl hf; exact nomatch (show (none : Option _) = some Rr from hf)
  | succ n ih =>
    intro l2 H locs ls hSt hl hf
    unfold f_X9_blanks_2 at hf
    refine lv_aload_n hx hb dX9_blanks_2 rfl (lv_at hl 0 rfl) ?_
    refine lv_iload_n hx hb dX9_blanks_3 rfl (lv_at hl 1 rfl) ?_
    obtain ⟨R1, hR1, hf⟩ := Option.bind_eq_some_iff.mp hf
    have sp : Sp (w_X9_blanks cI cJ h h_tape g0 g1 g2 g3 g4 g5 g6 g7 g8 g9 g10 g11 g12 g13 g14 g15 g16 g17 g18 g19 g21 g23 g24 g25 g26 v_tape v_taped) (w_X9_see cI cJ h h_tape g0 g1 g2 g3 g4 g5 g6 g7 g8 g9 g10 g11 g12 g13 g14 g15 g16 g17 g18 g19 g21 g23 g24 g25 g26 v_tape v_taped) (w_X9_see cI cJ h h_tape g0 g1 g2 g3 g4 g5 g6 g7 g8 g9 g10 g11 g12 g13 g14 g15 g16 g17 g18 g19 g21 g23 g24 g25 g26 v_tape v_taped) (w_X9_blanks cI cJ h h_tape g0 g1 g2 g3 g4 g5 g6 g7 g8 g9 g10 g11 g12 g13 g14 g15 g16 g17 g18 g19 g21 g23 g24 g25 g26 v_tape v_taped) [0, 1] [] [0, 1] := ⟨rfl, rfl, rfl, by decide, by decide, by decide, by decide⟩
    refine hb_ci (hb_rV (As := [.int l2]) (rest := []) C0 hK hA XT.nn hSt sp (c_X9_see l D cI cJ h h_tape g0 g1 g2 g3 g4 g5 g6 g7 g8 g9 g10 g11 g12 g13 g14 g15 g16 g17 g18 g19 g21 g23 g24 g25 g26  l2 v_tape v_taped R1 hR1) gX9_blanks_X9_see rfl ⟨rfl, rfl⟩ hd_X9_see ⟨Nat.le_of_ble_eq_true rfl, Nat.le_of_ble_eq_true rfl⟩ 0 8 rfl rfl rfl hl rfl (Nat.le_of_ble_eq_true rfl) dX9_blanks_4 ⟨Nat.zero_le _, Nat.zero_le _⟩) hA hSt sp (fun H locs hSt => ?_)
    refine lv_bipush (v := 32) hx hb dX9_blanks_7 (by decide) ?_
    refine lv_icmp_eq (tgt := 22) hx hb dX9_blanks_9 (by decide) (fun cc => ?_) (fun cc => ?_)
    · have hf := ite_t hf cc
      refine lv_iinc (v := l2 + 1) (lv' := [(2, .int (l2 + 1)), (0, .ref h)]) hx hb dX9_blanks_22 hl (k := 1) rfl rfl (by decide) rfl (fun ls hl => ?_)
      refine lv_goto (tgt := 2) hx hb dX9_blanks_25 (by decide) ?_
      exact ih (l2 + 1) _ _ _ hSt (lv_sub hl [1, 0] rfl) hf
    · have hf := ite_f hf cc
      refine lv_aload_n hx hb dX9_blanks_12 rfl (lv_at hl 0 rfl) ?_
      refine lv_iload_n hx hb dX9_blanks_13 rfl (lv_at hl 1 rfl) ?_
      obtain ⟨R2, hR2, hf⟩ := Option.bind_eq_some_iff.mp hf
      have sp : Sp (w_X9_blanks cI cJ h h_tape g0 g1 g2 g3 g4 g5 g6 g7 g8 g9 g10 g11 g12 g13 g14 g15 g16 g17 g18 g19 g21 g23 g24 g25 g26 v_tape v_taped) (w_X9_see cI cJ h h_tape g0 g1 g2 g3 g4 g5 g6 g7 g8 g9 g10 g11 g12 g13 g14 g15 g16 g17 g18 g19 g21 g23 g24 g25 g26 v_tape v_taped) (w_X9_see cI cJ h h_tape g0 g1 g2 g3 g4 g5 g6 g7 g8 g9 g10 g11 g12 g13 g14 g15 g16 g17 g18 g19 g21 g23 g24 g25 g26 v_tape v_taped) (w_X9_blanks cI cJ h h_tape g0 g1 g2 g3 g4 g5 g6 g7 g8 g9 g10 g11 g12 g13 g14 g15 g16 g17 g18 g19 g21 g23 g24 g25 g26 v_tape v_taped) [0, 1] [] [0, 1] := ⟨rfl, rfl, rfl, by decide, by decide, by decide, by decide⟩
      refine hb_ci (hb_rV (As := [.int l2]) (rest := []) C0 hK hA XT.nn hSt sp (c_X9_see l D cI cJ h h_tape g0 g1 g2 g3 g4 g5 g6 g7 g8 g9 g10 g11 g12 g13 g14 g15 g16 g17 g18 g19 g21 g23 g24 g25 g26  l2 v_tape v_taped R2 hR2) gX9_blanks_X9_see rfl ⟨rfl, rfl⟩ hd_X9_see ⟨Nat.le_of_ble_eq_true rfl, Nat.le_of_ble_eq_true rfl⟩ 0 8 rfl rfl rfl hl rfl (Nat.le_of_ble_eq_true rfl) dX9_blanks_14 ⟨Nat.zero_le _, Nat.zero_le _⟩) hA hSt sp (fun H locs hSt => ?_)
      refine lv_bipush (v := 10) hx hb dX9_blanks_17 (by decide) ?_
      refine lv_icmp_ne (tgt := 28) hx hb dX9_blanks_19 (by decide) (fun cc => ?_) (fun cc => ?_)
      · have hf := ite_f hf cc
        refine lv_iload_n hx hb dX9_blanks_28 rfl (lv_at hl 1 rfl) ?_
        cases hf
        exact hb_iret C0 hK hSt dX9_blanks_29
      · have hf := ite_t hf cc
        refine lv_iinc (v := l2 + 1) (lv' := [(2, .int (l2 + 1)), (0, .ref h)]) hx hb dX9_blanks_22 hl (k := 1) rfl rfl (by decide) rfl (fun ls hl => ?_)
        refine lv_goto (tgt := 2) hx hb dX9_blanks_25 (by decide) ?_
        exact ih (l2 + 1) _ _ _ hSt (lv_sub hl [1, 0] rfl) hf
def f_X9_blanks_0 (v_tape : Nat → Int32) (v_taped : Int32)  (l1 : Int32)  : Option (Int32) := f_X9_blanks_2 v_tape v_taped  FU l1
set_option maxHeartbeats 4000000 in
set_option maxRecDepth 100000 in
theorem k_X9_blanks_0 {p : Program} {l : Launch} {e : Env} {s : State} {m : MethodId} {args : Array Value} {below : List Frame} {meth : Method} {c : Code} {A : Nat → Prop} {D : va_G} {cI cJ : ClassId} {h h_tape : Nat} {g0 g1 g2 g3 g4 g5 g6 g7 g8 g9 g10 g11 g12 g13 g14 g15 g16 g17 g18 g19 g21 g23 g24 g25 g26 : Value} {v_tape : Nat → Int32} {v_taped : Int32} (C0 : Cx p s m args meth c cX9_blanks wsX9_blanks RX9 3 (some .int)) (hK : va_K D vwCl (tyL cI cJ) s) (hA : ∀ q, s.heap.size ≤ q → A q) (hX : XT none A s s.heap) {Rr : Int32} : ∀ (l1 : Int32)  (H : Heap) (locs : List Loc) (ls : Array Slot), St D A s (w_X9_blanks cI cJ h h_tape g0 g1 g2 g3 g4 g5 g6 g7 g8 g9 g10 g11 g12 g13 g14 g15 g16 g17 g18 g19 g21 g23 g24 g25 g26 v_tape v_taped) H locs → lv_has ls 3 [(0, .ref h), (1, .int l1)] → f_X9_blanks_0 v_tape v_taped l1 = some Rr → W p l e rm_X9_blanks s m args below meth c H locs 0 0 (MQ below (QI D cI cJ A (w_X9_blanks cI cJ h h_tape g0 g1 g2 g3 g4 g5 g6 g7 g8 g9 g10 g11 g12 g13 g14 g15 g16 g17 g18 g19 g21 g23 g24 g25 g26 v_tape v_taped) Rr) args s 0 0 A) (F0 m 0 ls []) := by
  have hx := C0.1.1
  have hb := C0.1.2.1
  intro l1 H locs ls hSt hl hf
  unfold f_X9_blanks_0 at hf
  refine lv_iload_n hx hb dX9_blanks_0 rfl (lv_at hl 1 rfl) ?_
  refine lv_istore_n (lv' := [(2, .int l1), (0, .ref h), (1, .int l1)]) hx hb dX9_blanks_1 rfl hl (by decide) rfl (fun ls hl => ?_)
  exact k_X9_blanks_2 C0 hK hA hX  FU l1 _ _ _ hSt (lv_sub hl [1, 0] rfl) hf
def f_X9_blanks (v_tape : Nat → Int32) (v_taped : Int32) (l1 : Int32)  : Option (Int32) := f_X9_blanks_0 v_tape v_taped l1
set_option maxRecDepth 100000 in
theorem c_X9_blanks (l : Launch) (D : va_G) (cI cJ : ClassId) (h h_tape : Nat) (g0 g1 g2 g3 g4 g5 g6 g7 g8 g9 g10 g11 g12 g13 g14 g15 g16 g17 g18 g19 g21 g23 g24 g25 g26 : Value) (l1 : Int32) (v_tape : Nat → Int32) (v_taped : Int32) (Rr : Int32) (hf : f_X9_blanks v_tape v_taped l1 = some Rr) : CtI l yX9_blanks wsX9_blanks rm_X9_blanks D cI cJ none [.ref h, .int l1] (w_X9_blanks cI cJ h h_tape g0 g1 g2 g3 g4 g5 g6 g7 g8 g9 g10 g11 g12 g13 g14 g15 g16 g17 g18 g19 g21 g23 g24 g25 g26 v_tape v_taped) Rr (w_X9_blanks cI cJ h h_tape g0 g1 g2 g3 g4 g5 g6 g7 g8 g9 g10 g11 g12 g13 g14 g15 g16 g17 g18 g19 g21 g23 g24 g25 g26 v_tape v_taped) :=
  fun sz => BodyW.met (av := [.ref h, .int l1]) (Qc := fun A => QI D cI cJ A (w_X9_blanks cI cJ h h_tape g0 g1 g2 g3 g4 g5 g6 g7 g8 g9 g10 g11 g12 g13 g14 g15 g16 g17 g18 g19 g21 g23 g24 g25 g26 v_tape v_taped) Rr) (by decide) rfl rfl (Nat.le_of_ble_eq_true rfl) (fun C0 hK hA hX ls hSt hl => k_X9_blanks_0 C0 hK hA hX l1  _ _ ls hSt hl hf) sz
/-! X9 reads -/
abbrev rm_X9_reads : Room := { frames := 2, cells := 0, slots := 0, locals := 43 }
abbrev w_X9_reads (cI cJ : ClassId) (h : Nat) (h_tape : Nat) (g0 : Value) (g1 : Value) (g2 : Value) (g3 : Value) (g4 : Value) (g5 : Value) (g6 : Value) (g7 : Value) (g8 : Value) (g9 : Value) (g10 : Value) (g11 : Value) (g12 : Value) (g13 : Value) (g14 : Value) (g15 : Value) (g16 : Value) (g17 : Value) (g18 : Value) (g19 : Value) (g21 : Value) (g23 : Value) (g24 : Value) (v_tape : Nat → Int32) (v_taped : Int32) (v_readFaces : Int64) (v_readPoints : Int32) : va_W := [(h, .inr (8, [g0, g1, g2, g3, g4, g5, g6, g7, g8, g9, g10, g11, g12, g13, g14, g15, g16, g17, g18, g19, .ref h_tape, g21, .int v_taped, g23, g24, .long v_readFaces, .int v_readPoints])), (h_tape, .inl (cI, 200, .inl v_tape))]
theorem iu_X9_reads_X9 : ∀ w ∈ wsX90, w ∈ wsX9_reads := by decide +kernel
theorem fl_X9_reads_198 : Cond.fieldLink RX9 198 (TX9 22).1 (TX9 22).2.1 (TX9 22).2.2.1 ∈ wsX9_reads := by decide +kernel
theorem fl_X9_reads_207 : Cond.fieldLink RX9 207 (TX9 26).1 (TX9 26).2.1 (TX9 26).2.2.1 ∈ wsX9_reads := by decide +kernel
theorem fl_X9_reads_210 : Cond.fieldLink RX9 210 (TX9 25).1 (TX9 25).2.1 (TX9 25).2.2.1 ∈ wsX9_reads := by decide +kernel
theorem hd_X9_reads : yX9_reads.cls = RX9 ∧ yX9_reads.cls ≠ "java/lang/invoke/MethodHandle" ∧ yX9_reads.cls ≠ "java/lang/invoke/VarHandle" ∧ (parseMethodDescriptor yX9_reads.desc).map (fun d => d.parameters.length) = some 0 := by decide +kernel
def f_X9_reads_154 (v_tape : Nat → Int32) (v_taped : Int32) (k_68 : Int32 → (Int64) → (Int32) → Option (Int32 × Int64 × Int32)) (l1 : Int32) (l2 : Int32) (v_readFaces : Int64) (v_readPoints : Int32) : Option (Int32 × Int64 × Int32) := (f_X9_within l2).bind (fun R1 => (f_X9_blanks v_tape v_taped l1).bind (fun R2 => k_68 R2 (v_readFaces ||| R1) v_readPoints))
set_option maxHeartbeats 4000000 in
set_option maxRecDepth 100000 in
theorem k_X9_reads_154 {p : Program} {l : Launch} {e : Env} {s : State} {m : MethodId} {args : Array Value} {below : List Frame} {meth : Method} {c : Code} {A : Nat → Prop} {D : va_G} {cI cJ : ClassId} {h h_tape : Nat} {g0 g1 g2 g3 g4 g5 g6 g7 g8 g9 g10 g11 g12 g13 g14 g15 g16 g17 g18 g19 g21 g23 g24 : Value} {v_tape : Nat → Int32} {v_taped : Int32} (C0 : Cx p s m args meth c cX9_reads wsX9_reads RX9 5 (some .int)) (hK : va_K D vwCl (tyL cI cJ) s) (hA : ∀ q, s.heap.size ≤ q → A q) (hX : XT none A s s.heap) {Rr : Int32 × Int64 × Int32} {k_68 : Int32 → (Int64) → (Int32) → Option (Int32 × Int64 × Int32)} (hk_68 : ∀ (l1 : Int32) (v_readFaces : Int64) (v_readPoints : Int32) (H : Heap) (locs : List Loc) (ls : Array Slot), St D A s (w_X9_reads cI cJ h h_tape g0 g1 g2 g3 g4 g5 g6 g7 g8 g9 g10 g11 g12 g13 g14 g15 g16 g17 g18 g19 g21 g23 g24 v_tape v_taped v_readFaces v_readPoints) H locs → lv_has ls 5 [(0, .ref h), (1, .int l1)] → k_68 l1 v_readFaces v_readPoints = some Rr → W p l e rm_X9_reads s m args below meth c H locs 0 0 (MQ below (QI D cI cJ A (w_X9_reads cI cJ h h_tape g0 g1 g2 g3 g4 g5 g6 g7 g8 g9 g10 g11 g12 g13 g14 g15 g16 g17 g18 g19 g21 g23 g24 v_tape v_taped Rr.2.1 Rr.2.2) Rr.1) args s 0 0 A) (F0 m 68 ls [])) : ∀ (l1 : Int32) (l2 : Int32) (v_readFaces : Int64) (v_readPoints : Int32) (H : Heap) (locs : List Loc) (ls : Array Slot), St D A s (w_X9_reads cI cJ h h_tape g0 g1 g2 g3 g4 g5 g6 g7 g8 g9 g10 g11 g12 g13 g14 g15 g16 g17 g18 g19 g21 g23 g24 v_tape v_taped v_readFaces v_readPoints) H locs → lv_has ls 5 [(0, .ref h), (1, .int l1), (2, .int l2)] → f_X9_reads_154 v_tape v_taped k_68 l1 l2 v_readFaces v_readPoints = some Rr → W p l e rm_X9_reads s m args below meth c H locs 0 0 (MQ below (QI D cI cJ A (w_X9_reads cI cJ h h_tape g0 g1 g2 g3 g4 g5 g6 g7 g8 g9 g10 g11 g12 g13 g14 g15 g16 g17 g18 g19 g21 g23 g24 v_tape v_taped Rr.2.1 Rr.2.2) Rr.1) args s 0 0 A) (F0 m 154 ls []) := by
  have hx := C0.1.1
  have hb := C0.1.2.1
  intro l1 l2 v_readFaces v_readPoints H locs ls hSt hl hf
  unfold f_X9_reads_154 at hf
  refine lv_aload_n hx hb dX9_reads_154 rfl (lv_at hl 0 rfl) ?_
  refine lv_dup hx hb dX9_reads_155 rfl ?_
  refine hb_get C0 hK hSt 0 8 25 rfl rfl iu_X9_reads_X9 (by decide) fl_X9_reads_210 rfl dX9_reads_156 ?_
  refine lv_iload_n hx hb dX9_reads_159 rfl (lv_at hl 2 rfl) ?_
  obtain ⟨R1, hR1, hf⟩ := Option.bind_eq_some_iff.mp hf
  have sp : Sp (w_X9_reads cI cJ h h_tape g0 g1 g2 g3 g4 g5 g6 g7 g8 g9 g10 g11 g12 g13 g14 g15 g16 g17 g18 g19 g21 g23 g24 v_tape v_taped v_readFaces v_readPoints) (w_X9_within cI cJ) (w_X9_within cI cJ) (w_X9_reads cI cJ h h_tape g0 g1 g2 g3 g4 g5 g6 g7 g8 g9 g10 g11 g12 g13 g14 g15 g16 g17 g18 g19 g21 g23 g24 v_tape v_taped v_readFaces v_readPoints) [] [0, 1] [0, 1] := ⟨rfl, rfl, rfl, by decide, by decide, by decide, by decide⟩
  refine hb_cl (hb_rS (As := [.int l2]) (rest := [.long v_readFaces, .ref h]) C0 hK hA XT.nn hSt sp (c_X9_within l D cI cJ   l2  R1 hR1) gX9_reads_X9_within rfl ⟨rfl, rfl⟩ hd_X9_within ⟨Nat.le_of_ble_eq_true rfl, Nat.le_of_ble_eq_true rfl⟩ rfl hl rfl (Nat.le_of_ble_eq_true rfl) dX9_reads_160 ⟨Nat.zero_le _, Nat.zero_le _⟩) hA hSt sp (fun H locs hSt => ?_)
  refine lv_lor hx hb dX9_reads_163 ?_
  refine hb_put C0 hK hSt 0 8 25 rfl rfl iu_X9_reads_X9 tyX9 tyX9_ok nmX9 (by decide) fl_X9_reads_210 rfl rfl rfl (Nat.le_of_ble_eq_true rfl) (w' := w_X9_reads cI cJ h h_tape g0 g1 g2 g3 g4 g5 g6 g7 g8 g9 g10 g11 g12 g13 g14 g15 g16 g17 g18 g19 g21 g23 g24 v_tape v_taped (v_readFaces ||| R1) v_readPoints) rfl dX9_reads_164 (fun H locs hSt => ?_)
  refine lv_aload_n hx hb dX9_reads_167 rfl (lv_at hl 0 rfl) ?_
  refine lv_iload_n hx hb dX9_reads_168 rfl (lv_at hl 1 rfl) ?_
  obtain ⟨R2, hR2, hf⟩ := Option.bind_eq_some_iff.mp hf
  have sp : Sp (w_X9_reads cI cJ h h_tape g0 g1 g2 g3 g4 g5 g6 g7 g8 g9 g10 g11 g12 g13 g14 g15 g16 g17 g18 g19 g21 g23 g24 v_tape v_taped (v_readFaces ||| R1) v_readPoints) (w_X9_blanks cI cJ h h_tape g0 g1 g2 g3 g4 g5 g6 g7 g8 g9 g10 g11 g12 g13 g14 g15 g16 g17 g18 g19 g21 g23 g24 (.long (v_readFaces ||| R1)) (.int v_readPoints) v_tape v_taped) (w_X9_blanks cI cJ h h_tape g0 g1 g2 g3 g4 g5 g6 g7 g8 g9 g10 g11 g12 g13 g14 g15 g16 g17 g18 g19 g21 g23 g24 (.long (v_readFaces ||| R1)) (.int v_readPoints) v_tape v_taped) (w_X9_reads cI cJ h h_tape g0 g1 g2 g3 g4 g5 g6 g7 g8 g9 g10 g11 g12 g13 g14 g15 g16 g17 g18 g19 g21 g23 g24 v_tape v_taped (v_readFaces ||| R1) v_readPoints) [0, 1] [] [0, 1] := ⟨rfl, rfl, rfl, by decide, by decide, by decide, by decide⟩
  refine hb_ci (hb_rV (As := [.int l1]) (rest := []) C0 hK hA XT.nn hSt sp (c_X9_blanks l D cI cJ h h_tape g0 g1 g2 g3 g4 g5 g6 g7 g8 g9 g10 g11 g12 g13 g14 g15 g16 g17 g18 g19 g21 g23 g24 (.long (v_readFaces ||| R1)) (.int v_readPoints)  l1 v_tape v_taped R2 hR2) gX9_reads_X9_blanks rfl ⟨rfl, rfl⟩ hd_X9_blanks ⟨Nat.le_of_ble_eq_true rfl, Nat.le_of_ble_eq_true rfl⟩ 0 8 rfl rfl rfl hl rfl (Nat.le_of_ble_eq_true rfl) dX9_reads_169 ⟨Nat.zero_le _, Nat.zero_le _⟩) hA hSt sp (fun H locs hSt => ?_)
  refine lv_istore_n (lv' := [(1, .int R2), (0, .ref h), (2, .int l2)]) hx hb dX9_reads_172 rfl hl (by decide) rfl (fun ls hl => ?_)
  refine lv_goto (tgt := 68) hx hb dX9_reads_173 (by decide) ?_
  exact hk_68 R2 (v_readFaces ||| R1) v_readPoints _ _ _ hSt (lv_sub hl [1, 0] rfl) hf
def f_X9_reads_80 (v_tape : Nat → Int32) (v_taped : Int32) (k_68 : Int32 → (Int64) → (Int32) → Option (Int32 × Int64 × Int32)) : Nat → Int32 → Int32 → Int32 → (Int64) → (Int32) → Option (Int32 × Int64 × Int32)
  | 0, _, _, _, _, _ => none
  | n + 1, l1, l2, l3, v_readFaces, v_readPoints => (f_X9_see v_tape v_taped l1).bind (fun R1 => if R1 = (32 : Int32) then f_X9_reads_154 v_tape v_taped k_68 l1 l2 v_readFaces v_readPoints else (f_X9_see v_tape v_taped l1).bind (fun R2 => if R2 = (10 : Int32) then f_X9_reads_154 v_tape v_taped k_68 l1 l2 v_readFaces v_readPoints else (f_X9_see v_tape v_taped l1).bind (fun R3 => if R3 = (-1 : Int32) then f_X9_reads_154 v_tape v_taped k_68 l1 l2 v_readFaces v_readPoints else (f_X9_see v_tape v_taped l1).bind (fun R4 => (f_X9_isIn (R4 - (48 : Int32)) (l3 + (1 : Int32)) (v_readPoints - (1 : Int32))).bind (fun R5 => if R5 = 0 then some (l1, v_readFaces, v_readPoints) else bnd (l2 ||| ((1 : Int32) <<< ((R4 - (48 : Int32)) &&& 31))) (fun l2_6 => (f_X9_reads_80 v_tape v_taped k_68 n) (l1 + 1) l2_6 (R4 - (48 : Int32)) v_readFaces v_readPoints))))))
set_option maxHeartbeats 4000000 in
set_option maxRecDepth 100000 in
theorem k_X9_reads_80 {p : Program} {l : Launch} {e : Env} {s : State} {m : MethodId} {args : Array Value} {below : List Frame} {meth : Method} {c : Code} {A : Nat → Prop} {D : va_G} {cI cJ : ClassId} {h h_tape : Nat} {g0 g1 g2 g3 g4 g5 g6 g7 g8 g9 g10 g11 g12 g13 g14 g15 g16 g17 g18 g19 g21 g23 g24 : Value} {v_tape : Nat → Int32} {v_taped : Int32} (C0 : Cx p s m args meth c cX9_reads wsX9_reads RX9 5 (some .int)) (hK : va_K D vwCl (tyL cI cJ) s) (hA : ∀ q, s.heap.size ≤ q → A q) (hX : XT none A s s.heap) {Rr : Int32 × Int64 × Int32} {k_68 : Int32 → (Int64) → (Int32) → Option (Int32 × Int64 × Int32)} (hk_68 : ∀ (l1 : Int32) (v_readFaces : Int64) (v_readPoints : Int32) (H : Heap) (locs : List Loc) (ls : Array Slot), St D A s (w_X9_reads cI cJ h h_tape g0 g1 g2 g3 g4 g5 g6 g7 g8 g9 g10 g11 g12 g13 g14 g15 g16 g17 g18 g19 g21 g23 g24 v_tape v_taped v_readFaces v_readPoints) H locs → lv_has ls 5 [(0, .ref h), (1, .int l1)] → k_68 l1 v_readFaces v_readPoints = some Rr → W p l e rm_X9_reads s m args below meth c H locs 0 0 (MQ below (QI D cI cJ A (w_X9_reads cI cJ h h_tape g0 g1 g2 g3 g4 g5 g6 g7 g8 g9 g10 g11 g12 g13 g14 g15 g16 g17 g18 g19 g21 g23 g24 v_tape v_taped Rr.2.1 Rr.2.2) Rr.1) args s 0 0 A) (F0 m 68 ls [])) (n : Nat) : ∀ (l1 : Int32) (l2 : Int32) (l3 : Int32) (v_readFaces : Int64) (v_readPoints : Int32) (H : Heap) (locs : List Loc) (ls : Array Slot), St D A s (w_X9_reads cI cJ h h_tape g0 g1 g2 g3 g4 g5 g6 g7 g8 g9 g10 g11 g12 g13 g14 g15 g16 g17 g18 g19 g21 g23 g24 v_tape v_taped v_readFaces v_readPoints) H locs → lv_has ls 5 [(0, .ref h), (1, .int l1), (2, .int l2), (3, .int l3)] → f_X9_reads_80 v_tape v_taped k_68 n l1 l2 l3 v_readFaces v_readPoints = some Rr → W p l e rm_X9_reads s m args below meth c H locs 0 0 (MQ below (QI D cI cJ A (w_X9_reads cI cJ h h_tape g0 g1 g2 g3 g4 g5 g6 g7 g8 g9 g10 g11 g12 g13 g14 g15 g16 g17 g18 g19 g21 g23 g24 v_tape v_taped Rr.2.1 Rr.2.2) Rr.1) args s 0 0 A) (F0 m 80 ls []) := by
  have hx := C0.1.1
  have hb := C0.1.2.1
  induction n with
  | zero => intro l1 l2 l3 v_readFaces v_readPoints H locs ls hSt hl hf; exact nomatch (show (none : Option _) = some Rr from hf)
  | succ n ih =>
    intro l1 l2 l3 v_readFaces v_readPoints H locs ls hSt hl hf
    unfold f_X9_reads_80 at hf
    refine lv_aload_n hx hb dX9_reads_80 rfl (lv_at hl 0 rfl) ?_
    refine lv_iload_n hx hb dX9_reads_81 rfl (lv_at hl 1 rfl) ?_
    obtain ⟨R1, hR1, hf⟩ := Option.bind_eq_some_iff.mp hf
    have sp : Sp (w_X9_reads cI cJ h h_tape g0 g1 g2 g3 g4 g5 g6 g7 g8 g9 g10 g11 g12 g13 g14 g15 g16 g17 g18 g19 g21 g23 g24 v_tape v_taped v_readFaces v_readPoints) (w_X9_see cI cJ h h_tape g0 g1 g2 g3 g4 g5 g6 g7 g8 g9 g10 g11 g12 g13 g14 g15 g16 g17 g18 g19 g21 g23 g24 (.long v_readFaces) (.int v_readPoints) v_tape v_taped) (w_X9_see cI cJ h h_tape g0 g1 g2 g3 g4 g5 g6 g7 g8 g9 g10 g11 g12 g13 g14 g15 g16 g17 g18 g19 g21 g23 g24 (.long v_readFaces) (.int v_readPoints) v_tape v_taped) (w_X9_reads cI cJ h h_tape g0 g1 g2 g3 g4 g5 g6 g7 g8 g9 g10 g11 g12 g13 g14 g15 g16 g17 g18 g19 g21 g23 g24 v_tape v_taped v_readFaces v_readPoints) [0, 1] [] [0, 1] := ⟨rfl, rfl, rfl, by decide, by decide, by decide, by decide⟩
    refine hb_ci (hb_rV (As := [.int l1]) (rest := []) C0 hK hA XT.nn hSt sp (c_X9_see l D cI cJ h h_tape g0 g1 g2 g3 g4 g5 g6 g7 g8 g9 g10 g11 g12 g13 g14 g15 g16 g17 g18 g19 g21 g23 g24 (.long v_readFaces) (.int v_readPoints)  l1 v_tape v_taped R1 hR1) gX9_reads_X9_see rfl ⟨rfl, rfl⟩ hd_X9_see ⟨Nat.le_of_ble_eq_true rfl, Nat.le_of_ble_eq_true rfl⟩ 0 8 rfl rfl rfl hl rfl (Nat.le_of_ble_eq_true rfl) dX9_reads_82 ⟨Nat.zero_le _, Nat.zero_le _⟩) hA hSt sp (fun H locs hSt => ?_)
    refine lv_bipush (v := 32) hx hb dX9_reads_85 (by decide) ?_
    refine lv_icmp_eq (tgt := 154) hx hb dX9_reads_87 (by decide) (fun cc => ?_) (fun cc => ?_)
    · have hf := ite_t hf cc
      exact k_X9_reads_154 C0 hK hA hX hk_68 l1 l2 v_readFaces v_readPoints _ _ _ hSt (lv_sub hl [0, 1, 2] rfl) hf
    · have hf := ite_f hf cc
      refine lv_aload_n hx hb dX9_reads_90 rfl (lv_at hl 0 rfl) ?_
      refine lv_iload_n hx hb dX9_reads_91 rfl (lv_at hl 1 rfl) ?_
      obtain ⟨R2, hR2, hf⟩ := Option.bind_eq_some_iff.mp hf
      have sp : Sp (w_X9_reads cI cJ h h_tape g0 g1 g2 g3 g4 g5 g6 g7 g8 g9 g10 g11 g12 g13 g14 g15 g16 g17 g18 g19 g21 g23 g24 v_tape v_taped v_readFaces v_readPoints) (w_X9_see cI cJ h h_tape g0 g1 g2 g3 g4 g5 g6 g7 g8 g9 g10 g11 g12 g13 g14 g15 g16 g17 g18 g19 g21 g23 g24 (.long v_readFaces) (.int v_readPoints) v_tape v_taped) (w_X9_see cI cJ h h_tape g0 g1 g2 g3 g4 g5 g6 g7 g8 g9 g10 g11 g12 g13 g14 g15 g16 g17 g18 g19 g21 g23 g24 (.long v_readFaces) (.int v_readPoints) v_tape v_taped) (w_X9_reads cI cJ h h_tape g0 g1 g2 g3 g4 g5 g6 g7 g8 g9 g10 g11 g12 g13 g14 g15 g16 g17 g18 g19 g21 g23 g24 v_tape v_taped v_readFaces v_readPoints) [0, 1] [] [0, 1] := ⟨rfl, rfl, rfl, by decide, by decide, by decide, by decide⟩
      refine hb_ci (hb_rV (As := [.int l1]) (rest := []) C0 hK hA XT.nn hSt sp (c_X9_see l D cI cJ h h_tape g0 g1 g2 g3 g4 g5 g6 g7 g8 g9 g10 g11 g12 g13 g14 g15 g16 g17 g18 g19 g21 g23 g24 (.long v_readFaces) (.int v_readPoints)  l1 v_tape v_taped R2 hR2) gX9_reads_X9_see rfl ⟨rfl, rfl⟩ hd_X9_see ⟨Nat.le_of_ble_eq_true rfl, Nat.le_of_ble_eq_true rfl⟩ 0 8 rfl rfl rfl hl rfl (Nat.le_of_ble_eq_true rfl) dX9_reads_92 ⟨Nat.zero_le _, Nat.zero_le _⟩) hA hSt sp (fun H locs hSt => ?_)
      refine lv_bipush (v := 10) hx hb dX9_reads_95 (by decide) ?_
      refine lv_icmp_eq (tgt := 154) hx hb dX9_reads_97 (by decide) (fun cc => ?_) (fun cc => ?_)
      · have hf := ite_t hf cc
        exact k_X9_reads_154 C0 hK hA hX hk_68 l1 l2 v_readFaces v_readPoints _ _ _ hSt (lv_sub hl [0, 1, 2] rfl) hf
      · have hf := ite_f hf cc
        refine lv_aload_n hx hb dX9_reads_100 rfl (lv_at hl 0 rfl) ?_
        refine lv_iload_n hx hb dX9_reads_101 rfl (lv_at hl 1 rfl) ?_
        obtain ⟨R3, hR3, hf⟩ := Option.bind_eq_some_iff.mp hf
        have sp : Sp (w_X9_reads cI cJ h h_tape g0 g1 g2 g3 g4 g5 g6 g7 g8 g9 g10 g11 g12 g13 g14 g15 g16 g17 g18 g19 g21 g23 g24 v_tape v_taped v_readFaces v_readPoints) (w_X9_see cI cJ h h_tape g0 g1 g2 g3 g4 g5 g6 g7 g8 g9 g10 g11 g12 g13 g14 g15 g16 g17 g18 g19 g21 g23 g24 (.long v_readFaces) (.int v_readPoints) v_tape v_taped) (w_X9_see cI cJ h h_tape g0 g1 g2 g3 g4 g5 g6 g7 g8 g9 g10 g11 g12 g13 g14 g15 g16 g17 g18 g19 g21 g23 g24 (.long v_readFaces) (.int v_readPoints) v_tape v_taped) (w_X9_reads cI cJ h h_tape g0 g1 g2 g3 g4 g5 g6 g7 g8 g9 g10 g11 g12 g13 g14 g15 g16 g17 g18 g19 g21 g23 g24 v_tape v_taped v_readFaces v_readPoints) [0, 1] [] [0, 1] := ⟨rfl, rfl, rfl, by decide, by decide, by decide, by decide⟩
        refine hb_ci (hb_rV (As := [.int l1]) (rest := []) C0 hK hA XT.nn hSt sp (c_X9_see l D cI cJ h h_tape g0 g1 g2 g3 g4 g5 g6 g7 g8 g9 g10 g11 g12 g13 g14 g15 g16 g17 g18 g19 g21 g23 g24 (.long v_readFaces) (.int v_readPoints)  l1 v_tape v_taped R3 hR3) gX9_reads_X9_see rfl ⟨rfl, rfl⟩ hd_X9_see ⟨Nat.le_of_ble_eq_true rfl, Nat.le_of_ble_eq_true rfl⟩ 0 8 rfl rfl rfl hl rfl (Nat.le_of_ble_eq_true rfl) dX9_reads_102 ⟨Nat.zero_le _, Nat.zero_le _⟩) hA hSt sp (fun H locs hSt => ?_)
        refine lv_iconst (v := -1) hx hb dX9_reads_105 (by decide) ?_
        refine lv_icmp_eq (tgt := 154) hx hb dX9_reads_106 (by decide) (fun cc => ?_) (fun cc => ?_)
        · have hf := ite_t hf cc
          exact k_X9_reads_154 C0 hK hA hX hk_68 l1 l2 v_readFaces v_readPoints _ _ _ hSt (lv_sub hl [0, 1, 2] rfl) hf
        · have hf := ite_f hf cc
          refine lv_aload_n hx hb dX9_reads_109 rfl (lv_at hl 0 rfl) ?_
          refine lv_iload_n hx hb dX9_reads_110 rfl (lv_at hl 1 rfl) ?_
          obtain ⟨R4, hR4, hf⟩ := Option.bind_eq_some_iff.mp hf
          have sp : Sp (w_X9_reads cI cJ h h_tape g0 g1 g2 g3 g4 g5 g6 g7 g8 g9 g10 g11 g12 g13 g14 g15 g16 g17 g18 g19 g21 g23 g24 v_tape v_taped v_readFaces v_readPoints) (w_X9_see cI cJ h h_tape g0 g1 g2 g3 g4 g5 g6 g7 g8 g9 g10 g11 g12 g13 g14 g15 g16 g17 g18 g19 g21 g23 g24 (.long v_readFaces) (.int v_readPoints) v_tape v_taped) (w_X9_see cI cJ h h_tape g0 g1 g2 g3 g4 g5 g6 g7 g8 g9 g10 g11 g12 g13 g14 g15 g16 g17 g18 g19 g21 g23 g24 (.long v_readFaces) (.int v_readPoints) v_tape v_taped) (w_X9_reads cI cJ h h_tape g0 g1 g2 g3 g4 g5 g6 g7 g8 g9 g10 g11 g12 g13 g14 g15 g16 g17 g18 g19 g21 g23 g24 v_tape v_taped v_readFaces v_readPoints) [0, 1] [] [0, 1] := ⟨rfl, rfl, rfl, by decide, by decide, by decide, by decide⟩
          refine hb_ci (hb_rV (As := [.int l1]) (rest := []) C0 hK hA XT.nn hSt sp (c_X9_see l D cI cJ h h_tape g0 g1 g2 g3 g4 g5 g6 g7 g8 g9 g10 g11 g12 g13 g14 g15 g16 g17 g18 g19 g21 g23 g24 (.long v_readFaces) (.int v_readPoints)  l1 v_tape v_taped R4 hR4) gX9_reads_X9_see rfl ⟨rfl, rfl⟩ hd_X9_see ⟨Nat.le_of_ble_eq_true rfl, Nat.le_of_ble_eq_true rfl⟩ 0 8 rfl rfl rfl hl rfl (Nat.le_of_ble_eq_true rfl) dX9_reads_111 ⟨Nat.zero_le _, Nat.zero_le _⟩) hA hSt sp (fun H locs hSt => ?_)
          refine lv_bipush (v := 48) hx hb dX9_reads_114 (by decide) ?_
          refine lv_isub hx hb dX9_reads_116 ?_
          refine lv_istore (lv' := [(4, .int (R4 - (48 : Int32))), (0, .ref h), (1, .int l1), (2, .int l2), (3, .int l3)]) hx hb dX9_reads_117 hl (by decide) rfl (fun ls hl => ?_)
          refine lv_iload hx hb dX9_reads_119 (lv_at hl 0 rfl) ?_
          refine lv_iload_n hx hb dX9_reads_121 rfl (lv_at hl 4 rfl) ?_
          refine lv_iconst (v := 1) hx hb dX9_reads_122 (by decide) ?_
          refine lv_iadd hx hb dX9_reads_123 ?_
          refine lv_aload_n hx hb dX9_reads_124 rfl (lv_at hl 1 rfl) ?_
          refine hb_get C0 hK hSt 0 8 26 rfl rfl iu_X9_reads_X9 (by decide) fl_X9_reads_207 rfl dX9_reads_125 ?_
          refine lv_iconst (v := 1) hx hb dX9_reads_128 (by decide) ?_
          refine lv_isub hx hb dX9_reads_129 ?_
          obtain ⟨R5, hR5, hf⟩ := Option.bind_eq_some_iff.mp hf
          have sp : Sp (w_X9_reads cI cJ h h_tape g0 g1 g2 g3 g4 g5 g6 g7 g8 g9 g10 g11 g12 g13 g14 g15 g16 g17 g18 g19 g21 g23 g24 v_tape v_taped v_readFaces v_readPoints) (w_X9_isIn cI cJ) (w_X9_isIn cI cJ) (w_X9_reads cI cJ h h_tape g0 g1 g2 g3 g4 g5 g6 g7 g8 g9 g10 g11 g12 g13 g14 g15 g16 g17 g18 g19 g21 g23 g24 v_tape v_taped v_readFaces v_readPoints) [] [0, 1] [0, 1] := ⟨rfl, rfl, rfl, by decide, by decide, by decide, by decide⟩
          refine hb_ci (hb_rS (As := [.int (R4 - (48 : Int32)), .int (l3 + (1 : Int32)), .int (v_readPoints - (1 : Int32))]) (rest := []) C0 hK hA XT.nn hSt sp (c_X9_isIn l D cI cJ   (R4 - (48 : Int32)) (l3 + (1 : Int32)) (v_readPoints - (1 : Int32))  R5 hR5) gX9_reads_X9_isIn rfl ⟨rfl, rfl⟩ hd_X9_isIn ⟨Nat.le_of_ble_eq_true rfl, Nat.le_of_ble_eq_true rfl⟩ rfl hl rfl (Nat.le_of_ble_eq_true rfl) dX9_reads_130 ⟨Nat.zero_le _, Nat.zero_le _⟩) hA hSt sp (fun H locs hSt => ?_)
          refine lv_if_ne (tgt := 138) hx hb dX9_reads_133 (by decide) (fun cc => ?_) (fun cc => ?_)
          · have hf := ite_f hf cc
            refine lv_iload_n hx hb dX9_reads_138 rfl (lv_at hl 3 rfl) ?_
            refine lv_iconst (v := 1) hx hb dX9_reads_139 (by decide) ?_
            refine lv_iload hx hb dX9_reads_140 (lv_at hl 0 rfl) ?_
            refine lv_ishl hx hb dX9_reads_142 ?_
            refine lv_ior hx hb dX9_reads_143 ?_
            refine tp_i hf (fun l2_6 hf => ?_)
            refine lv_istore_n (lv' := [(2, .int l2_6), (4, .int (R4 - (48 : Int32))), (0, .ref h), (1, .int l1), (3, .int l3)]) hx hb dX9_reads_144 rfl hl (by decide) rfl (fun ls hl => ?_)
            refine lv_iload hx hb dX9_reads_145 (lv_at hl 1 rfl) ?_
            refine lv_istore_n (lv' := [(3, .int (R4 - (48 : Int32))), (2, .int l2_6), (4, .int (R4 - (48 : Int32))), (0, .ref h), (1, .int l1)]) hx hb dX9_reads_147 rfl hl (by decide) rfl (fun ls hl => ?_)
            refine lv_iinc (v := l1 + 1) (lv' := [(1, .int (l1 + 1)), (3, .int (R4 - (48 : Int32))), (2, .int l2_6), (4, .int (R4 - (48 : Int32))), (0, .ref h)]) hx hb dX9_reads_148 hl (k := 4) rfl rfl (by decide) rfl (fun ls hl => ?_)
            refine lv_goto (tgt := 80) hx hb dX9_reads_151 (by decide) ?_
            exact ih (l1 + 1) l2_6 (R4 - (48 : Int32)) v_readFaces v_readPoints _ _ _ hSt (lv_sub hl [4, 0, 2, 1] rfl) hf
          · have hf := ite_t hf cc
            refine lv_iload_n hx hb dX9_reads_136 rfl (lv_at hl 2 rfl) ?_
            cases hf
            exact hb_iret C0 hK hSt dX9_reads_137
def f_X9_reads_68 (v_tape : Nat → Int32) (v_taped : Int32)  : Nat → Int32 → (Int64) → (Int32) → Option (Int32 × Int64 × Int32)
  | 0, _, _, _ => none
  | n + 1, l1, v_readFaces, v_readPoints => if v_taped ≤ l1 then some ((-1 : Int32), v_readFaces, v_readPoints) else f_X9_reads_80 v_tape v_taped (f_X9_reads_68 v_tape v_taped n) FU l1 (0 : Int32) (-1 : Int32) v_readFaces v_readPoints
set_option maxHeartbeats 4000000 in
set_option maxRecDepth 100000 in
theorem k_X9_reads_68 {p : Program} {l : Launch} {e : Env} {s : State} {m : MethodId} {args : Array Value} {below : List Frame} {meth : Method} {c : Code} {A : Nat → Prop} {D : va_G} {cI cJ : ClassId} {h h_tape : Nat} {g0 g1 g2 g3 g4 g5 g6 g7 g8 g9 g10 g11 g12 g13 g14 g15 g16 g17 g18 g19 g21 g23 g24 : Value} {v_tape : Nat → Int32} {v_taped : Int32} (C0 : Cx p s m args meth c cX9_reads wsX9_reads RX9 5 (some .int)) (hK : va_K D vwCl (tyL cI cJ) s) (hA : ∀ q, s.heap.size ≤ q → A q) (hX : XT none A s s.heap) {Rr : Int32 × Int64 × Int32} (n : Nat) : ∀ (l1 : Int32) (v_readFaces : Int64) (v_readPoints : Int32) (H : Heap) (locs : List Loc) (ls : Array Slot), St D A s (w_X9_reads cI cJ h h_tape g0 g1 g2 g3 g4 g5 g6 g7 g8 g9 g10 g11 g12 g13 g14 g15 g16 g17 g18 g19 g21 g23 g24 v_tape v_taped v_readFaces v_readPoints) H locs → lv_has ls 5 [(0, .ref h), (1, .int l1)] → f_X9_reads_68 v_tape v_taped n l1 v_readFaces v_readPoints = some Rr → W p l e rm_X9_reads s m args below meth c H locs 0 0 (MQ below (QI D cI cJ A (w_X9_reads cI cJ h h_tape g0 g1 g2 g3 g4 g5 g6 g7 g8 g9 g10 g11 g12 g13 g14 g15 g16 g17 g18 g19 g21 g23 g24 v_tape v_taped Rr.2.1 Rr.2.2) Rr.1) args s 0 0 A) (F0 m 68 ls []) := by
  have hx := C0.1.1
  have hb := C0.1.2.1
  induction n with
  | zero => intro l1 v_readFaces v_readPoints H locs ls hSt hl hf; exact nomatch (show (none : Option _) = some Rr from hf)
  | succ n ih =>
    intro l1 v_readFaces v_readPoints H locs ls hSt hl hf
    unfold f_X9_reads_68 at hf
    refine lv_iload_n hx hb dX9_reads_68 rfl (lv_at hl 1 rfl) ?_
    refine lv_aload_n hx hb dX9_reads_69 rfl (lv_at hl 0 rfl) ?_
    refine hb_get C0 hK hSt 0 8 22 rfl rfl iu_X9_reads_X9 (by decide) fl_X9_reads_198 rfl dX9_reads_70 ?_
    refine lv_icmp_ge (tgt := 176) hx hb dX9_reads_73 (by decide) (fun cc => ?_) (fun cc => ?_)
    · have hf := ite_t hf cc
      refine lv_iconst (v := -1) hx hb dX9_reads_176 (by decide) ?_
      cases hf
      exact hb_iret C0 hK hSt dX9_reads_177
    · have hf := ite_f hf cc
      refine lv_iconst (v := 0) hx hb dX9_reads_76 (by decide) ?_
      refine lv_istore_n (lv' := [(2, .int (0 : Int32)), (0, .ref h), (1, .int l1)]) hx hb dX9_reads_77 rfl hl (by decide) rfl (fun ls hl => ?_)
      refine lv_iconst (v := -1) hx hb dX9_reads_78 (by decide) ?_
      refine lv_istore_n (lv' := [(3, .int (-1 : Int32)), (2, .int (0 : Int32)), (0, .ref h), (1, .int l1)]) hx hb dX9_reads_79 rfl hl (by decide) rfl (fun ls hl => ?_)
      exact k_X9_reads_80 C0 hK hA hX ih FU l1 (0 : Int32) (-1 : Int32) v_readFaces v_readPoints _ _ _ hSt (lv_sub hl [2, 3, 1, 0] rfl) hf
def f_X9_reads_0 (v_tape : Nat → Int32) (v_taped : Int32)   (v_readFaces : Int64) (v_readPoints : Int32) : Option (Int32 × Int64 × Int32) := (f_X9_blanks v_tape v_taped (0 : Int32)).bind (fun R1 => (f_X9_see v_tape v_taped R1).bind (fun R2 => (f_X9_isIn R2 (49 : Int32) (54 : Int32)).bind (fun R3 => if R3 = 0 then some (R1, v_readFaces, v_readPoints) else (f_X9_see v_tape v_taped R1).bind (fun R4 => (f_X9_blanks v_tape v_taped (R1 + (1 : Int32))).bind (fun R5 => (f_X9_see v_tape v_taped R5).bind (fun R6 => if R6 = (58 : Int32) then (f_X9_blanks v_tape v_taped (R5 + (1 : Int32))).bind (fun R7 => f_X9_reads_68 v_tape v_taped  FU R7 (1 : Int64) (R4 - (48 : Int32))) else some (R5, (1 : Int64), R4 - (48 : Int32))))))))
set_option maxHeartbeats 4000000 in
set_option maxRecDepth 100000 in
theorem k_X9_reads_0 {p : Program} {l : Launch} {e : Env} {s : State} {m : MethodId} {args : Array Value} {below : List Frame} {meth : Method} {c : Code} {A : Nat → Prop} {D : va_G} {cI cJ : ClassId} {h h_tape : Nat} {g0 g1 g2 g3 g4 g5 g6 g7 g8 g9 g10 g11 g12 g13 g14 g15 g16 g17 g18 g19 g21 g23 g24 : Value} {v_tape : Nat → Int32} {v_taped : Int32} (C0 : Cx p s m args meth c cX9_reads wsX9_reads RX9 5 (some .int)) (hK : va_K D vwCl (tyL cI cJ) s) (hA : ∀ q, s.heap.size ≤ q → A q) (hX : XT none A s s.heap) {Rr : Int32 × Int64 × Int32} : ∀  (v_readFaces : Int64) (v_readPoints : Int32) (H : Heap) (locs : List Loc) (ls : Array Slot), St D A s (w_X9_reads cI cJ h h_tape g0 g1 g2 g3 g4 g5 g6 g7 g8 g9 g10 g11 g12 g13 g14 g15 g16 g17 g18 g19 g21 g23 g24 v_tape v_taped v_readFaces v_readPoints) H locs → lv_has ls 5 [(0, .ref h)] → f_X9_reads_0 v_tape v_taped v_readFaces v_readPoints = some Rr → W p l e rm_X9_reads s m args below meth c H locs 0 0 (MQ below (QI D cI cJ A (w_X9_reads cI cJ h h_tape g0 g1 g2 g3 g4 g5 g6 g7 g8 g9 g10 g11 g12 g13 g14 g15 g16 g17 g18 g19 g21 g23 g24 v_tape v_taped Rr.2.1 Rr.2.2) Rr.1) args s 0 0 A) (F0 m 0 ls []) := by
  have hx := C0.1.1
  have hb := C0.1.2.1
  intro v_readFaces v_readPoints H locs ls hSt hl hf
  unfold f_X9_reads_0 at hf
  refine lv_aload_n hx hb dX9_reads_0 rfl (lv_at hl 0 rfl) ?_
  refine lv_iconst (v := 0) hx hb dX9_reads_1 (by decide) ?_
  obtain ⟨R1, hR1, hf⟩ := Option.bind_eq_some_iff.mp hf
  have sp : Sp (w_X9_reads cI cJ h h_tape g0 g1 g2 g3 g4 g5 g6 g7 g8 g9 g10 g11 g12 g13 g14 g15 g16 g17 g18 g19 g21 g23 g24 v_tape v_taped v_readFaces v_readPoints) (w_X9_blanks cI cJ h h_tape g0 g1 g2 g3 g4 g5 g6 g7 g8 g9 g10 g11 g12 g13 g14 g15 g16 g17 g18 g19 g21 g23 g24 (.long v_readFaces) (.int v_readPoints) v_tape v_taped) (w_X9_blanks cI cJ h h_tape g0 g1 g2 g3 g4 g5 g6 g7 g8 g9 g10 g11 g12 g13 g14 g15 g16 g17 g18 g19 g21 g23 g24 (.long v_readFaces) (.int v_readPoints) v_tape v_taped) (w_X9_reads cI cJ h h_tape g0 g1 g2 g3 g4 g5 g6 g7 g8 g9 g10 g11 g12 g13 g14 g15 g16 g17 g18 g19 g21 g23 g24 v_tape v_taped v_readFaces v_readPoints) [0, 1] [] [0, 1] := ⟨rfl, rfl, rfl, by decide, by decide, by decide, by decide⟩
  refine hb_ci (hb_rV (As := [.int (0 : Int32)]) (rest := []) C0 hK hA XT.nn hSt sp (c_X9_blanks l D cI cJ h h_tape g0 g1 g2 g3 g4 g5 g6 g7 g8 g9 g10 g11 g12 g13 g14 g15 g16 g17 g18 g19 g21 g23 g24 (.long v_readFaces) (.int v_readPoints)  (0 : Int32) v_tape v_taped R1 hR1) gX9_reads_X9_blanks rfl ⟨rfl, rfl⟩ hd_X9_blanks ⟨Nat.le_of_ble_eq_true rfl, Nat.le_of_ble_eq_true rfl⟩ 0 8 rfl rfl rfl hl rfl (Nat.le_of_ble_eq_true rfl) dX9_reads_2 ⟨Nat.zero_le _, Nat.zero_le _⟩) hA hSt sp (fun H locs hSt => ?_)
  refine lv_istore_n (lv' := [(1, .int R1), (0, .ref h)]) hx hb dX9_reads_5 rfl hl (by decide) rfl (fun ls hl => ?_)
  refine lv_aload_n hx hb dX9_reads_6 rfl (lv_at hl 1 rfl) ?_
  refine lv_iload_n hx hb dX9_reads_7 rfl (lv_at hl 0 rfl) ?_
  obtain ⟨R2, hR2, hf⟩ := Option.bind_eq_some_iff.mp hf
  have sp : Sp (w_X9_reads cI cJ h h_tape g0 g1 g2 g3 g4 g5 g6 g7 g8 g9 g10 g11 g12 g13 g14 g15 g16 g17 g18 g19 g21 g23 g24 v_tape v_taped v_readFaces v_readPoints) (w_X9_see cI cJ h h_tape g0 g1 g2 g3 g4 g5 g6 g7 g8 g9 g10 g11 g12 g13 g14 g15 g16 g17 g18 g19 g21 g23 g24 (.long v_readFaces) (.int v_readPoints) v_tape v_taped) (w_X9_see cI cJ h h_tape g0 g1 g2 g3 g4 g5 g6 g7 g8 g9 g10 g11 g12 g13 g14 g15 g16 g17 g18 g19 g21 g23 g24 (.long v_readFaces) (.int v_readPoints) v_tape v_taped) (w_X9_reads cI cJ h h_tape g0 g1 g2 g3 g4 g5 g6 g7 g8 g9 g10 g11 g12 g13 g14 g15 g16 g17 g18 g19 g21 g23 g24 v_tape v_taped v_readFaces v_readPoints) [0, 1] [] [0, 1] := ⟨rfl, rfl, rfl, by decide, by decide, by decide, by decide⟩
  refine hb_ci (hb_rV (As := [.int R1]) (rest := []) C0 hK hA XT.nn hSt sp (c_X9_see l D cI cJ h h_tape g0 g1 g2 g3 g4 g5 g6 g7 g8 g9 g10 g11 g12 g13 g14 g15 g16 g17 g18 g19 g21 g23 g24 (.long v_readFaces) (.int v_readPoints)  R1 v_tape v_taped R2 hR2) gX9_reads_X9_see rfl ⟨rfl, rfl⟩ hd_X9_see ⟨Nat.le_of_ble_eq_true rfl, Nat.le_of_ble_eq_true rfl⟩ 0 8 rfl rfl rfl hl rfl (Nat.le_of_ble_eq_true rfl) dX9_reads_8 ⟨Nat.zero_le _, Nat.zero_le _⟩) hA hSt sp (fun H locs hSt => ?_)
  refine lv_bipush (v := 49) hx hb dX9_reads_11 (by decide) ?_
  refine lv_bipush (v := 54) hx hb dX9_reads_13 (by decide) ?_
  obtain ⟨R3, hR3, hf⟩ := Option.bind_eq_some_iff.mp hf
  have sp : Sp (w_X9_reads cI cJ h h_tape g0 g1 g2 g3 g4 g5 g6 g7 g8 g9 g10 g11 g12 g13 g14 g15 g16 g17 g18 g19 g21 g23 g24 v_tape v_taped v_readFaces v_readPoints) (w_X9_isIn cI cJ) (w_X9_isIn cI cJ) (w_X9_reads cI cJ h h_tape g0 g1 g2 g3 g4 g5 g6 g7 g8 g9 g10 g11 g12 g13 g14 g15 g16 g17 g18 g19 g21 g23 g24 v_tape v_taped v_readFaces v_readPoints) [] [0, 1] [0, 1] := ⟨rfl, rfl, rfl, by decide, by decide, by decide, by decide⟩
  refine hb_ci (hb_rS (As := [.int R2, .int (49 : Int32), .int (54 : Int32)]) (rest := []) C0 hK hA XT.nn hSt sp (c_X9_isIn l D cI cJ   R2 (49 : Int32) (54 : Int32)  R3 hR3) gX9_reads_X9_isIn rfl ⟨rfl, rfl⟩ hd_X9_isIn ⟨Nat.le_of_ble_eq_true rfl, Nat.le_of_ble_eq_true rfl⟩ rfl hl rfl (Nat.le_of_ble_eq_true rfl) dX9_reads_15 ⟨Nat.zero_le _, Nat.zero_le _⟩) hA hSt sp (fun H locs hSt => ?_)
  refine lv_if_ne (tgt := 23) hx hb dX9_reads_18 (by decide) (fun cc => ?_) (fun cc => ?_)
  · have hf := ite_f hf cc
    refine lv_aload_n hx hb dX9_reads_23 rfl (lv_at hl 1 rfl) ?_
    refine lv_aload_n hx hb dX9_reads_24 rfl (lv_at hl 1 rfl) ?_
    refine lv_iload_n hx hb dX9_reads_25 rfl (lv_at hl 0 rfl) ?_
    obtain ⟨R4, hR4, hf⟩ := Option.bind_eq_some_iff.mp hf
    have sp : Sp (w_X9_reads cI cJ h h_tape g0 g1 g2 g3 g4 g5 g6 g7 g8 g9 g10 g11 g12 g13 g14 g15 g16 g17 g18 g19 g21 g23 g24 v_tape v_taped v_readFaces v_readPoints) (w_X9_see cI cJ h h_tape g0 g1 g2 g3 g4 g5 g6 g7 g8 g9 g10 g11 g12 g13 g14 g15 g16 g17 g18 g19 g21 g23 g24 (.long v_readFaces) (.int v_readPoints) v_tape v_taped) (w_X9_see cI cJ h h_tape g0 g1 g2 g3 g4 g5 g6 g7 g8 g9 g10 g11 g12 g13 g14 g15 g16 g17 g18 g19 g21 g23 g24 (.long v_readFaces) (.int v_readPoints) v_tape v_taped) (w_X9_reads cI cJ h h_tape g0 g1 g2 g3 g4 g5 g6 g7 g8 g9 g10 g11 g12 g13 g14 g15 g16 g17 g18 g19 g21 g23 g24 v_tape v_taped v_readFaces v_readPoints) [0, 1] [] [0, 1] := ⟨rfl, rfl, rfl, by decide, by decide, by decide, by decide⟩
    refine hb_ci (hb_rV (As := [.int R1]) (rest := [.ref h]) C0 hK hA XT.nn hSt sp (c_X9_see l D cI cJ h h_tape g0 g1 g2 g3 g4 g5 g6 g7 g8 g9 g10 g11 g12 g13 g14 g15 g16 g17 g18 g19 g21 g23 g24 (.long v_readFaces) (.int v_readPoints)  R1 v_tape v_taped R4 hR4) gX9_reads_X9_see rfl ⟨rfl, rfl⟩ hd_X9_see ⟨Nat.le_of_ble_eq_true rfl, Nat.le_of_ble_eq_true rfl⟩ 0 8 rfl rfl rfl hl rfl (Nat.le_of_ble_eq_true rfl) dX9_reads_26 ⟨Nat.zero_le _, Nat.zero_le _⟩) hA hSt sp (fun H locs hSt => ?_)
    refine lv_bipush (v := 48) hx hb dX9_reads_29 (by decide) ?_
    refine lv_isub hx hb dX9_reads_31 ?_
    refine hb_put C0 hK hSt 0 8 26 rfl rfl iu_X9_reads_X9 tyX9 tyX9_ok nmX9 (by decide) fl_X9_reads_207 rfl rfl rfl (Nat.le_of_ble_eq_true rfl) (w' := w_X9_reads cI cJ h h_tape g0 g1 g2 g3 g4 g5 g6 g7 g8 g9 g10 g11 g12 g13 g14 g15 g16 g17 g18 g19 g21 g23 g24 v_tape v_taped v_readFaces (R4 - (48 : Int32))) rfl dX9_reads_32 (fun H locs hSt => ?_)
    refine lv_aload_n hx hb dX9_reads_35 rfl (lv_at hl 1 rfl) ?_
    refine lv_lconst (v := 1) hx hb dX9_reads_36 (by decide) ?_
    refine hb_put C0 hK hSt 0 8 25 rfl rfl iu_X9_reads_X9 tyX9 tyX9_ok nmX9 (by decide) fl_X9_reads_210 rfl rfl rfl (Nat.le_of_ble_eq_true rfl) (w' := w_X9_reads cI cJ h h_tape g0 g1 g2 g3 g4 g5 g6 g7 g8 g9 g10 g11 g12 g13 g14 g15 g16 g17 g18 g19 g21 g23 g24 v_tape v_taped (1 : Int64) (R4 - (48 : Int32))) rfl dX9_reads_37 (fun H locs hSt => ?_)
    refine lv_aload_n hx hb dX9_reads_40 rfl (lv_at hl 1 rfl) ?_
    refine lv_iload_n hx hb dX9_reads_41 rfl (lv_at hl 0 rfl) ?_
    refine lv_iconst (v := 1) hx hb dX9_reads_42 (by decide) ?_
    refine lv_iadd hx hb dX9_reads_43 ?_
    obtain ⟨R5, hR5, hf⟩ := Option.bind_eq_some_iff.mp hf
    have sp : Sp (w_X9_reads cI cJ h h_tape g0 g1 g2 g3 g4 g5 g6 g7 g8 g9 g10 g11 g12 g13 g14 g15 g16 g17 g18 g19 g21 g23 g24 v_tape v_taped (1 : Int64) (R4 - (48 : Int32))) (w_X9_blanks cI cJ h h_tape g0 g1 g2 g3 g4 g5 g6 g7 g8 g9 g10 g11 g12 g13 g14 g15 g16 g17 g18 g19 g21 g23 g24 (.long (1 : Int64)) (.int (R4 - (48 : Int32))) v_tape v_taped) (w_X9_blanks cI cJ h h_tape g0 g1 g2 g3 g4 g5 g6 g7 g8 g9 g10 g11 g12 g13 g14 g15 g16 g17 g18 g19 g21 g23 g24 (.long (1 : Int64)) (.int (R4 - (48 : Int32))) v_tape v_taped) (w_X9_reads cI cJ h h_tape g0 g1 g2 g3 g4 g5 g6 g7 g8 g9 g10 g11 g12 g13 g14 g15 g16 g17 g18 g19 g21 g23 g24 v_tape v_taped (1 : Int64) (R4 - (48 : Int32))) [0, 1] [] [0, 1] := ⟨rfl, rfl, rfl, by decide, by decide, by decide, by decide⟩
    refine hb_ci (hb_rV (As := [.int (R1 + (1 : Int32))]) (rest := []) C0 hK hA XT.nn hSt sp (c_X9_blanks l D cI cJ h h_tape g0 g1 g2 g3 g4 g5 g6 g7 g8 g9 g10 g11 g12 g13 g14 g15 g16 g17 g18 g19 g21 g23 g24 (.long (1 : Int64)) (.int (R4 - (48 : Int32)))  (R1 + (1 : Int32)) v_tape v_taped R5 hR5) gX9_reads_X9_blanks rfl ⟨rfl, rfl⟩ hd_X9_blanks ⟨Nat.le_of_ble_eq_true rfl, Nat.le_of_ble_eq_true rfl⟩ 0 8 rfl rfl rfl hl rfl (Nat.le_of_ble_eq_true rfl) dX9_reads_44 ⟨Nat.zero_le _, Nat.zero_le _⟩) hA hSt sp (fun H locs hSt => ?_)
    refine lv_istore_n (lv' := [(1, .int R5), (0, .ref h)]) hx hb dX9_reads_47 rfl hl (by decide) rfl (fun ls hl => ?_)
    refine lv_aload_n hx hb dX9_reads_48 rfl (lv_at hl 1 rfl) ?_
    refine lv_iload_n hx hb dX9_reads_49 rfl (lv_at hl 0 rfl) ?_
    obtain ⟨R6, hR6, hf⟩ := Option.bind_eq_some_iff.mp hf
    have sp : Sp (w_X9_reads cI cJ h h_tape g0 g1 g2 g3 g4 g5 g6 g7 g8 g9 g10 g11 g12 g13 g14 g15 g16 g17 g18 g19 g21 g23 g24 v_tape v_taped (1 : Int64) (R4 - (48 : Int32))) (w_X9_see cI cJ h h_tape g0 g1 g2 g3 g4 g5 g6 g7 g8 g9 g10 g11 g12 g13 g14 g15 g16 g17 g18 g19 g21 g23 g24 (.long (1 : Int64)) (.int (R4 - (48 : Int32))) v_tape v_taped) (w_X9_see cI cJ h h_tape g0 g1 g2 g3 g4 g5 g6 g7 g8 g9 g10 g11 g12 g13 g14 g15 g16 g17 g18 g19 g21 g23 g24 (.long (1 : Int64)) (.int (R4 - (48 : Int32))) v_tape v_taped) (w_X9_reads cI cJ h h_tape g0 g1 g2 g3 g4 g5 g6 g7 g8 g9 g10 g11 g12 g13 g14 g15 g16 g17 g18 g19 g21 g23 g24 v_tape v_taped (1 : Int64) (R4 - (48 : Int32))) [0, 1] [] [0, 1] := ⟨rfl, rfl, rfl, by decide, by decide, by decide, by decide⟩
    refine hb_ci (hb_rV (As := [.int R5]) (rest := []) C0 hK hA XT.nn hSt sp (c_X9_see l D cI cJ h h_tape g0 g1 g2 g3 g4 g5 g6 g7 g8 g9 g10 g11 g12 g13 g14 g15 g16 g17 g18 g19 g21 g23 g24 (.long (1 : Int64)) (.int (R4 - (48 : Int32)))  R5 v_tape v_taped R6 hR6) gX9_reads_X9_see rfl ⟨rfl, rfl⟩ hd_X9_see ⟨Nat.le_of_ble_eq_true rfl, Nat.le_of_ble_eq_true rfl⟩ 0 8 rfl rfl rfl hl rfl (Nat.le_of_ble_eq_true rfl) dX9_reads_50 ⟨Nat.zero_le _, Nat.zero_le _⟩) hA hSt sp (fun H locs hSt => ?_)
    refine lv_bipush (v := 58) hx hb dX9_reads_53 (by decide) ?_
    refine lv_icmp_eq (tgt := 60) hx hb dX9_reads_55 (by decide) (fun cc => ?_) (fun cc => ?_)
    · have hf := ite_t hf cc
      refine lv_aload_n hx hb dX9_reads_60 rfl (lv_at hl 1 rfl) ?_
      refine lv_iload_n hx hb dX9_reads_61 rfl (lv_at hl 0 rfl) ?_
      refine lv_iconst (v := 1) hx hb dX9_reads_62 (by decide) ?_
      refine lv_iadd hx hb dX9_reads_63 ?_
      obtain ⟨R7, hR7, hf⟩ := Option.bind_eq_some_iff.mp hf
      have sp : Sp (w_X9_reads cI cJ h h_tape g0 g1 g2 g3 g4 g5 g6 g7 g8 g9 g10 g11 g12 g13 g14 g15 g16 g17 g18 g19 g21 g23 g24 v_tape v_taped (1 : Int64) (R4 - (48 : Int32))) (w_X9_blanks cI cJ h h_tape g0 g1 g2 g3 g4 g5 g6 g7 g8 g9 g10 g11 g12 g13 g14 g15 g16 g17 g18 g19 g21 g23 g24 (.long (1 : Int64)) (.int (R4 - (48 : Int32))) v_tape v_taped) (w_X9_blanks cI cJ h h_tape g0 g1 g2 g3 g4 g5 g6 g7 g8 g9 g10 g11 g12 g13 g14 g15 g16 g17 g18 g19 g21 g23 g24 (.long (1 : Int64)) (.int (R4 - (48 : Int32))) v_tape v_taped) (w_X9_reads cI cJ h h_tape g0 g1 g2 g3 g4 g5 g6 g7 g8 g9 g10 g11 g12 g13 g14 g15 g16 g17 g18 g19 g21 g23 g24 v_tape v_taped (1 : Int64) (R4 - (48 : Int32))) [0, 1] [] [0, 1] := ⟨rfl, rfl, rfl, by decide, by decide, by decide, by decide⟩
      refine hb_ci (hb_rV (As := [.int (R5 + (1 : Int32))]) (rest := []) C0 hK hA XT.nn hSt sp (c_X9_blanks l D cI cJ h h_tape g0 g1 g2 g3 g4 g5 g6 g7 g8 g9 g10 g11 g12 g13 g14 g15 g16 g17 g18 g19 g21 g23 g24 (.long (1 : Int64)) (.int (R4 - (48 : Int32)))  (R5 + (1 : Int32)) v_tape v_taped R7 hR7) gX9_reads_X9_blanks rfl ⟨rfl, rfl⟩ hd_X9_blanks ⟨Nat.le_of_ble_eq_true rfl, Nat.le_of_ble_eq_true rfl⟩ 0 8 rfl rfl rfl hl rfl (Nat.le_of_ble_eq_true rfl) dX9_reads_64 ⟨Nat.zero_le _, Nat.zero_le _⟩) hA hSt sp (fun H locs hSt => ?_)
      refine lv_istore_n (lv' := [(1, .int R7), (0, .ref h)]) hx hb dX9_reads_67 rfl hl (by decide) rfl (fun ls hl => ?_)
      exact k_X9_reads_68 C0 hK hA hX  FU R7 (1 : Int64) (R4 - (48 : Int32)) _ _ _ hSt (lv_sub hl [1, 0] rfl) hf
    · have hf := ite_f hf cc
      refine lv_iload_n hx hb dX9_reads_58 rfl (lv_at hl 0 rfl) ?_
      cases hf
      exact hb_iret C0 hK hSt dX9_reads_59
  · have hf := ite_t hf cc
    refine lv_iload_n hx hb dX9_reads_21 rfl (lv_at hl 0 rfl) ?_
    cases hf
    exact hb_iret C0 hK hSt dX9_reads_22
def f_X9_reads (v_tape : Nat → Int32) (v_taped : Int32)  (v_readFaces : Int64) (v_readPoints : Int32) : Option (Int32 × Int64 × Int32) := f_X9_reads_0 v_tape v_taped v_readFaces v_readPoints
set_option maxRecDepth 100000 in
theorem c_X9_reads (l : Launch) (D : va_G) (cI cJ : ClassId) (h h_tape : Nat) (g0 g1 g2 g3 g4 g5 g6 g7 g8 g9 g10 g11 g12 g13 g14 g15 g16 g17 g18 g19 g21 g23 g24 : Value)  (v_tape : Nat → Int32) (v_taped : Int32) (v_readFaces : Int64) (v_readPoints : Int32) (Rr : Int32 × Int64 × Int32) (hf : f_X9_reads v_tape v_taped v_readFaces v_readPoints = some Rr) : CtI l yX9_reads wsX9_reads rm_X9_reads D cI cJ none [.ref h] (w_X9_reads cI cJ h h_tape g0 g1 g2 g3 g4 g5 g6 g7 g8 g9 g10 g11 g12 g13 g14 g15 g16 g17 g18 g19 g21 g23 g24 v_tape v_taped v_readFaces v_readPoints) Rr.1 (w_X9_reads cI cJ h h_tape g0 g1 g2 g3 g4 g5 g6 g7 g8 g9 g10 g11 g12 g13 g14 g15 g16 g17 g18 g19 g21 g23 g24 v_tape v_taped Rr.2.1 Rr.2.2) :=
  fun sz => BodyW.met (av := [.ref h]) (Qc := fun A => QI D cI cJ A (w_X9_reads cI cJ h h_tape g0 g1 g2 g3 g4 g5 g6 g7 g8 g9 g10 g11 g12 g13 g14 g15 g16 g17 g18 g19 g21 g23 g24 v_tape v_taped Rr.2.1 Rr.2.2) Rr.1) (by decide) rfl rfl (Nat.le_of_ble_eq_true rfl) (fun C0 hK hA hX ls hSt hl => k_X9_reads_0 C0 hK hA hX  v_readFaces v_readPoints _ _ ls hSt hl hf) sz
/-! X9 read -/
abbrev rm_X9_read : Room := { frames := 3, cells := 0, slots := 0, locals := 67 }
abbrev w_X9_read (cI cJ : ClassId) (h : Nat) (h_pointsHad : Nat) (h_facesHad : Nat) (h_tape : Nat) (g5 : Value) (g6 : Value) (g7 : Value) (g8 : Value) (g9 : Value) (g10 : Value) (g11 : Value) (g12 : Value) (g13 : Value) (g14 : Value) (g15 : Value) (g16 : Value) (g17 : Value) (g18 : Value) (g19 : Value) (g21 : Value) (g23 : Value) (v_tape : Nat → Int32) (v_points : Int32) (v_faces : Int64) (v_kept : Int32) (v_pointsHad : Nat → Int32) (v_facesHad : Nat → Int64) (v_taped : Int32) (v_wrong : Int32) (v_readFaces : Int64) (v_readPoints : Int32) : va_W := [(h, .inr (8, [.int v_points, .long v_faces, .int v_kept, .ref h_pointsHad, .ref h_facesHad, g5, g6, g7, g8, g9, g10, g11, g12, g13, g14, g15, g16, g17, g18, g19, .ref h_tape, g21, .int v_taped, g23, .int v_wrong, .long v_readFaces, .int v_readPoints])), (h_pointsHad, .inl (cI, 8, .inl v_pointsHad)), (h_facesHad, .inl (cJ, 8, .inr (.inl v_facesHad))), (h_tape, .inl (cI, 200, .inl v_tape))]
theorem iu_X9_read_X9 : ∀ w ∈ wsX90, w ∈ wsX9_read := by decide +kernel
theorem fl_X9_read_13 : Cond.fieldLink RX9 13 (TX9 1).1 (TX9 1).2.1 (TX9 1).2.2.1 ∈ wsX9_read := by decide +kernel
theorem fl_X9_read_52 : Cond.fieldLink RX9 52 (TX9 24).1 (TX9 24).2.1 (TX9 24).2.2.1 ∈ wsX9_read := by decide +kernel
theorem fl_X9_read_198 : Cond.fieldLink RX9 198 (TX9 22).1 (TX9 22).2.1 (TX9 22).2.2.1 ∈ wsX9_read := by decide +kernel
theorem fl_X9_read_207 : Cond.fieldLink RX9 207 (TX9 26).1 (TX9 26).2.1 (TX9 26).2.2.1 ∈ wsX9_read := by decide +kernel
theorem fl_X9_read_210 : Cond.fieldLink RX9 210 (TX9 25).1 (TX9 25).2.1 (TX9 25).2.2.1 ∈ wsX9_read := by decide +kernel
theorem hd_X9_read : yX9_read.cls = RX9 ∧ yX9_read.cls ≠ "java/lang/invoke/MethodHandle" ∧ yX9_read.cls ≠ "java/lang/invoke/VarHandle" ∧ (parseMethodDescriptor yX9_read.desc).map (fun d => d.parameters.length) = some 0 := by decide +kernel
def f_X9_read_0 (v_tape : Nat → Int32)   (v_points : Int32) (v_faces : Int64) (v_kept : Int32) (v_pointsHad : Nat → Int32) (v_facesHad : Nat → Int64) (v_taped : Int32) (v_wrong : Int32) (v_readFaces : Int64) (v_readPoints : Int32) : Option (Int32 × Int32 × Int64 × Int32 × (Nat → Int32) × (Nat → Int64) × Int32 × Int32 × Int64 × Int32) := (f_X9_reads v_tape v_taped v_readFaces v_readPoints).bind (fun R1 => if R1.1 = (-1 : Int32) then (f_X9_becomes R1.2.2 R1.2.1 v_points v_faces v_kept v_pointsHad v_facesHad).bind (fun R2 => (f_X9_many R2.2.1).bind (fun R3 => some (R3, R2.1, R2.2.1, R2.2.2.1, R2.2.2.2.1, R2.2.2.2.2, (0 : Int32), R1.1, R1.2.1, R1.2.2))) else some ((-1 : Int32), v_points, v_faces, v_kept, v_pointsHad, v_facesHad, (0 : Int32), R1.1, R1.2.1, R1.2.2))
set_option maxHeartbeats 4000000 in
set_option maxRecDepth 100000 in
theorem k_X9_read_0 {p : Program} {l : Launch} {e : Env} {s : State} {m : MethodId} {args : Array Value} {below : List Frame} {meth : Method} {c : Code} {A : Nat → Prop} {D : va_G} {cI cJ : ClassId} {h h_pointsHad h_facesHad h_tape : Nat} {g5 g6 g7 g8 g9 g10 g11 g12 g13 g14 g15 g16 g17 g18 g19 g21 g23 : Value} {v_tape : Nat → Int32} (C0 : Cx p s m args meth c cX9_read wsX9_read RX9 1 (some .int)) (hK : va_K D vwCl (tyL cI cJ) s) (hA : ∀ q, s.heap.size ≤ q → A q) (hX : XT none A s s.heap) {Rr : Int32 × Int32 × Int64 × Int32 × (Nat → Int32) × (Nat → Int64) × Int32 × Int32 × Int64 × Int32} : ∀  (v_points : Int32) (v_faces : Int64) (v_kept : Int32) (v_pointsHad : Nat → Int32) (v_facesHad : Nat → Int64) (v_taped : Int32) (v_wrong : Int32) (v_readFaces : Int64) (v_readPoints : Int32) (H : Heap) (locs : List Loc) (ls : Array Slot), St D A s (w_X9_read cI cJ h h_pointsHad h_facesHad h_tape g5 g6 g7 g8 g9 g10 g11 g12 g13 g14 g15 g16 g17 g18 g19 g21 g23 v_tape v_points v_faces v_kept v_pointsHad v_facesHad v_taped v_wrong v_readFaces v_readPoints) H locs → lv_has ls 1 [(0, .ref h)] → f_X9_read_0 v_tape v_points v_faces v_kept v_pointsHad v_facesHad v_taped v_wrong v_readFaces v_readPoints = some Rr → W p l e rm_X9_read s m args below meth c H locs 0 0 (MQ below (QI D cI cJ A (w_X9_read cI cJ h h_pointsHad h_facesHad h_tape g5 g6 g7 g8 g9 g10 g11 g12 g13 g14 g15 g16 g17 g18 g19 g21 g23 v_tape Rr.2.1 Rr.2.2.1 Rr.2.2.2.1 Rr.2.2.2.2.1 Rr.2.2.2.2.2.1 Rr.2.2.2.2.2.2.1 Rr.2.2.2.2.2.2.2.1 Rr.2.2.2.2.2.2.2.2.1 Rr.2.2.2.2.2.2.2.2.2) Rr.1) args s 0 0 A) (F0 m 0 ls []) := by
  have hx := C0.1.1
  have hb := C0.1.2.1
  intro v_points v_faces v_kept v_pointsHad v_facesHad v_taped v_wrong v_readFaces v_readPoints H locs ls hSt hl hf
  unfold f_X9_read_0 at hf
  refine lv_aload_n hx hb dX9_read_0 rfl (lv_at hl 0 rfl) ?_
  refine lv_aload_n hx hb dX9_read_1 rfl (lv_at hl 0 rfl) ?_
  obtain ⟨R1, hR1, hf⟩ := Option.bind_eq_some_iff.mp hf
  have sp : Sp (w_X9_read cI cJ h h_pointsHad h_facesHad h_tape g5 g6 g7 g8 g9 g10 g11 g12 g13 g14 g15 g16 g17 g18 g19 g21 g23 v_tape v_points v_faces v_kept v_pointsHad v_facesHad v_taped v_wrong v_readFaces v_readPoints) (w_X9_reads cI cJ h h_tape (.int v_points) (.long v_faces) (.int v_kept) (.ref h_pointsHad) (.ref h_facesHad) g5 g6 g7 g8 g9 g10 g11 g12 g13 g14 g15 g16 g17 g18 g19 g21 g23 (.int v_wrong) v_tape v_taped v_readFaces v_readPoints) (w_X9_reads cI cJ h h_tape (.int v_points) (.long v_faces) (.int v_kept) (.ref h_pointsHad) (.ref h_facesHad) g5 g6 g7 g8 g9 g10 g11 g12 g13 g14 g15 g16 g17 g18 g19 g21 g23 (.int v_wrong) v_tape v_taped R1.2.1 R1.2.2) (w_X9_read cI cJ h h_pointsHad h_facesHad h_tape g5 g6 g7 g8 g9 g10 g11 g12 g13 g14 g15 g16 g17 g18 g19 g21 g23 v_tape v_points v_faces v_kept v_pointsHad v_facesHad v_taped v_wrong R1.2.1 R1.2.2) [0, 3] [1, 2] [2, 0, 1, 3] := ⟨rfl, rfl, rfl, by decide, by decide, by decide, by decide⟩
  refine hb_ci (hb_rV (As := []) (rest := [.ref h]) C0 hK hA XT.nn hSt sp (c_X9_reads l D cI cJ h h_tape (.int v_points) (.long v_faces) (.int v_kept) (.ref h_pointsHad) (.ref h_facesHad) g5 g6 g7 g8 g9 g10 g11 g12 g13 g14 g15 g16 g17 g18 g19 g21 g23 (.int v_wrong)   v_tape v_taped v_readFaces v_readPoints R1 hR1) gX9_read_X9_reads rfl ⟨rfl, rfl⟩ hd_X9_reads ⟨Nat.le_of_ble_eq_true rfl, Nat.le_of_ble_eq_true rfl⟩ 0 8 rfl rfl rfl hl rfl (Nat.le_of_ble_eq_true rfl) dX9_read_2 ⟨Nat.zero_le _, Nat.zero_le _⟩) hA hSt sp (fun H locs hSt => ?_)
  refine hb_put C0 hK hSt 0 8 24 rfl rfl iu_X9_read_X9 tyX9 tyX9_ok nmX9 (by decide) fl_X9_read_52 rfl rfl rfl (Nat.le_of_ble_eq_true rfl) (w' := w_X9_read cI cJ h h_pointsHad h_facesHad h_tape g5 g6 g7 g8 g9 g10 g11 g12 g13 g14 g15 g16 g17 g18 g19 g21 g23 v_tape v_points v_faces v_kept v_pointsHad v_facesHad v_taped R1.1 R1.2.1 R1.2.2) rfl dX9_read_5 (fun H locs hSt => ?_)
  refine lv_aload_n hx hb dX9_read_8 rfl (lv_at hl 0 rfl) ?_
  refine lv_iconst (v := 0) hx hb dX9_read_9 (by decide) ?_
  refine hb_put C0 hK hSt 0 8 22 rfl rfl iu_X9_read_X9 tyX9 tyX9_ok nmX9 (by decide) fl_X9_read_198 rfl rfl rfl (Nat.le_of_ble_eq_true rfl) (w' := w_X9_read cI cJ h h_pointsHad h_facesHad h_tape g5 g6 g7 g8 g9 g10 g11 g12 g13 g14 g15 g16 g17 g18 g19 g21 g23 v_tape v_points v_faces v_kept v_pointsHad v_facesHad (0 : Int32) R1.1 R1.2.1 R1.2.2) rfl dX9_read_10 (fun H locs hSt => ?_)
  refine lv_aload_n hx hb dX9_read_13 rfl (lv_at hl 0 rfl) ?_
  refine hb_get C0 hK hSt 0 8 24 rfl rfl iu_X9_read_X9 (by decide) fl_X9_read_52 rfl dX9_read_14 ?_
  refine lv_iconst (v := -1) hx hb dX9_read_17 (by decide) ?_
  refine lv_icmp_eq (tgt := 23) hx hb dX9_read_18 (by decide) (fun cc => ?_) (fun cc => ?_)
  · have hf := ite_t hf cc
    refine lv_aload_n hx hb dX9_read_23 rfl (lv_at hl 0 rfl) ?_
    refine lv_aload_n hx hb dX9_read_24 rfl (lv_at hl 0 rfl) ?_
    refine hb_get C0 hK hSt 0 8 26 rfl rfl iu_X9_read_X9 (by decide) fl_X9_read_207 rfl dX9_read_25 ?_
    refine lv_aload_n hx hb dX9_read_28 rfl (lv_at hl 0 rfl) ?_
    refine hb_get C0 hK hSt 0 8 25 rfl rfl iu_X9_read_X9 (by decide) fl_X9_read_210 rfl dX9_read_29 ?_
    obtain ⟨R2, hR2, hf⟩ := Option.bind_eq_some_iff.mp hf
    have sp : Sp (w_X9_read cI cJ h h_pointsHad h_facesHad h_tape g5 g6 g7 g8 g9 g10 g11 g12 g13 g14 g15 g16 g17 g18 g19 g21 g23 v_tape v_points v_faces v_kept v_pointsHad v_facesHad (0 : Int32) R1.1 R1.2.1 R1.2.2) (w_X9_becomes cI cJ h h_pointsHad h_facesHad g5 g6 g7 g8 g9 g10 g11 g12 g13 g14 g15 g16 g17 g18 g19 (.ref h_tape) g21 (.int (0 : Int32)) g23 (.int R1.1) (.long R1.2.1) (.int R1.2.2) v_points v_faces v_kept v_pointsHad v_facesHad) (w_X9_becomes cI cJ h h_pointsHad h_facesHad g5 g6 g7 g8 g9 g10 g11 g12 g13 g14 g15 g16 g17 g18 g19 (.ref h_tape) g21 (.int (0 : Int32)) g23 (.int R1.1) (.long R1.2.1) (.int R1.2.2) R2.1 R2.2.1 R2.2.2.1 R2.2.2.2.1 R2.2.2.2.2) (w_X9_read cI cJ h h_pointsHad h_facesHad h_tape g5 g6 g7 g8 g9 g10 g11 g12 g13 g14 g15 g16 g17 g18 g19 g21 g23 v_tape R2.1 R2.2.1 R2.2.2.1 R2.2.2.2.1 R2.2.2.2.2 (0 : Int32) R1.1 R1.2.1 R1.2.2) [0, 1, 2] [3] [1, 2, 3, 0] := ⟨rfl, rfl, rfl, by decide, by decide, by decide, by decide⟩
    refine hb_cv (hb_rV (As := [.int R1.2.2, .long R1.2.1]) (rest := []) C0 hK hA XT.nn hSt sp (c_X9_becomes l D cI cJ h h_pointsHad h_facesHad g5 g6 g7 g8 g9 g10 g11 g12 g13 g14 g15 g16 g17 g18 g19 (.ref h_tape) g21 (.int (0 : Int32)) g23 (.int R1.1) (.long R1.2.1) (.int R1.2.2)  R1.2.2 R1.2.1 v_points v_faces v_kept v_pointsHad v_facesHad R2 hR2) gX9_read_X9_becomes rfl ⟨rfl, rfl⟩ hd_X9_becomes ⟨Nat.le_of_ble_eq_true rfl, Nat.le_of_ble_eq_true rfl⟩ 0 8 rfl rfl rfl hl rfl (Nat.le_of_ble_eq_true rfl) dX9_read_32 ⟨Nat.zero_le _, Nat.zero_le _⟩) hA hSt sp (fun H locs hSt => ?_)
    refine lv_aload_n hx hb dX9_read_35 rfl (lv_at hl 0 rfl) ?_
    refine hb_get C0 hK hSt 0 8 1 rfl rfl iu_X9_read_X9 (by decide) fl_X9_read_13 rfl dX9_read_36 ?_
    obtain ⟨R3, hR3, hf⟩ := Option.bind_eq_some_iff.mp hf
    have sp : Sp (w_X9_read cI cJ h h_pointsHad h_facesHad h_tape g5 g6 g7 g8 g9 g10 g11 g12 g13 g14 g15 g16 g17 g18 g19 g21 g23 v_tape R2.1 R2.2.1 R2.2.2.1 R2.2.2.2.1 R2.2.2.2.2 (0 : Int32) R1.1 R1.2.1 R1.2.2) (w_X9_many cI cJ) (w_X9_many cI cJ) (w_X9_read cI cJ h h_pointsHad h_facesHad h_tape g5 g6 g7 g8 g9 g10 g11 g12 g13 g14 g15 g16 g17 g18 g19 g21 g23 v_tape R2.1 R2.2.1 R2.2.2.1 R2.2.2.2.1 R2.2.2.2.2 (0 : Int32) R1.1 R1.2.1 R1.2.2) [] [0, 1, 2, 3] [0, 1, 2, 3] := ⟨rfl, rfl, rfl, by decide, by decide, by decide, by decide⟩
    refine hb_ci (hb_rS (As := [.long R2.2.1]) (rest := []) C0 hK hA XT.nn hSt sp (c_X9_many l D cI cJ   R2.2.1  R3 hR3) gX9_read_X9_many rfl ⟨rfl, rfl⟩ hd_X9_many ⟨Nat.le_of_ble_eq_true rfl, Nat.le_of_ble_eq_true rfl⟩ rfl hl rfl (Nat.le_of_ble_eq_true rfl) dX9_read_39 ⟨Nat.zero_le _, Nat.zero_le _⟩) hA hSt sp (fun H locs hSt => ?_)
    cases hf
    exact hb_iret C0 hK hSt dX9_read_42
  · have hf := ite_f hf cc
    refine lv_iconst (v := -1) hx hb dX9_read_21 (by decide) ?_
    cases hf
    exact hb_iret C0 hK hSt dX9_read_22
def f_X9_read (v_tape : Nat → Int32)  (v_points : Int32) (v_faces : Int64) (v_kept : Int32) (v_pointsHad : Nat → Int32) (v_facesHad : Nat → Int64) (v_taped : Int32) (v_wrong : Int32) (v_readFaces : Int64) (v_readPoints : Int32) : Option (Int32 × Int32 × Int64 × Int32 × (Nat → Int32) × (Nat → Int64) × Int32 × Int32 × Int64 × Int32) := f_X9_read_0 v_tape v_points v_faces v_kept v_pointsHad v_facesHad v_taped v_wrong v_readFaces v_readPoints
set_option maxRecDepth 100000 in
theorem c_X9_read (l : Launch) (D : va_G) (cI cJ : ClassId) (h h_pointsHad h_facesHad h_tape : Nat) (g5 g6 g7 g8 g9 g10 g11 g12 g13 g14 g15 g16 g17 g18 g19 g21 g23 : Value)  (v_tape : Nat → Int32) (v_points : Int32) (v_faces : Int64) (v_kept : Int32) (v_pointsHad : Nat → Int32) (v_facesHad : Nat → Int64) (v_taped : Int32) (v_wrong : Int32) (v_readFaces : Int64) (v_readPoints : Int32) (Rr : Int32 × Int32 × Int64 × Int32 × (Nat → Int32) × (Nat → Int64) × Int32 × Int32 × Int64 × Int32) (hf : f_X9_read v_tape v_points v_faces v_kept v_pointsHad v_facesHad v_taped v_wrong v_readFaces v_readPoints = some Rr) : CtI l yX9_read wsX9_read rm_X9_read D cI cJ none [.ref h] (w_X9_read cI cJ h h_pointsHad h_facesHad h_tape g5 g6 g7 g8 g9 g10 g11 g12 g13 g14 g15 g16 g17 g18 g19 g21 g23 v_tape v_points v_faces v_kept v_pointsHad v_facesHad v_taped v_wrong v_readFaces v_readPoints) Rr.1 (w_X9_read cI cJ h h_pointsHad h_facesHad h_tape g5 g6 g7 g8 g9 g10 g11 g12 g13 g14 g15 g16 g17 g18 g19 g21 g23 v_tape Rr.2.1 Rr.2.2.1 Rr.2.2.2.1 Rr.2.2.2.2.1 Rr.2.2.2.2.2.1 Rr.2.2.2.2.2.2.1 Rr.2.2.2.2.2.2.2.1 Rr.2.2.2.2.2.2.2.2.1 Rr.2.2.2.2.2.2.2.2.2) :=
  fun sz => BodyW.met (av := [.ref h]) (Qc := fun A => QI D cI cJ A (w_X9_read cI cJ h h_pointsHad h_facesHad h_tape g5 g6 g7 g8 g9 g10 g11 g12 g13 g14 g15 g16 g17 g18 g19 g21 g23 v_tape Rr.2.1 Rr.2.2.1 Rr.2.2.2.1 Rr.2.2.2.2.1 Rr.2.2.2.2.2.1 Rr.2.2.2.2.2.2.1 Rr.2.2.2.2.2.2.2.1 Rr.2.2.2.2.2.2.2.2.1 Rr.2.2.2.2.2.2.2.2.2) Rr.1) (by decide) rfl rfl (Nat.le_of_ble_eq_true rfl) (fun C0 hK hA hX ls hSt hl => k_X9_read_0 C0 hK hA hX  v_points v_faces v_kept v_pointsHad v_facesHad v_taped v_wrong v_readFaces v_readPoints _ _ ls hSt hl hf) sz
/-! X9 fault -/
abbrev rm_X9_fault : Room := { frames := 0, cells := 0, slots := 0, locals := 0 }
abbrev w_X9_fault (cI cJ : ClassId) (h : Nat) (g0 : Value) (g1 : Value) (g2 : Value) (g3 : Value) (g4 : Value) (g5 : Value) (g6 : Value) (g7 : Value) (g8 : Value) (g9 : Value) (g10 : Value) (g11 : Value) (g12 : Value) (g13 : Value) (g14 : Value) (g15 : Value) (g16 : Value) (g17 : Value) (g18 : Value) (g19 : Value) (g20 : Value) (g21 : Value) (g22 : Value) (g23 : Value) (g25 : Value) (g26 : Value) (v_wrong : Int32) : va_W := [(h, .inr (8, [g0, g1, g2, g3, g4, g5, g6, g7, g8, g9, g10, g11, g12, g13, g14, g15, g16, g17, g18, g19, g20, g21, g22, g23, .int v_wrong, g25, g26]))]
theorem iu_X9_fault_X9 : ∀ w ∈ wsX90, w ∈ wsX9_fault := by decide +kernel
theorem fl_X9_fault_52 : Cond.fieldLink RX9 52 (TX9 24).1 (TX9 24).2.1 (TX9 24).2.2.1 ∈ wsX9_fault := by decide +kernel
theorem hd_X9_fault : yX9_fault.cls = RX9 ∧ yX9_fault.cls ≠ "java/lang/invoke/MethodHandle" ∧ yX9_fault.cls ≠ "java/lang/invoke/VarHandle" ∧ (parseMethodDescriptor yX9_fault.desc).map (fun d => d.parameters.length) = some 0 := by decide +kernel
def f_X9_fault_0 (v_wrong : Int32)    : Option (Int32) := some v_wrong
set_option maxHeartbeats 4000000 in
set_option maxRecDepth 100000 in
theorem k_X9_fault_0 {p : Program} {l : Launch} {e : Env} {s : State} {m : MethodId} {args : Array Value} {below : List Frame} {meth : Method} {c : Code} {A : Nat → Prop} {D : va_G} {cI cJ : ClassId} {h : Nat} {g0 g1 g2 g3 g4 g5 g6 g7 g8 g9 g10 g11 g12 g13 g14 g15 g16 g17 g18 g19 g20 g21 g22 g23 g25 g26 : Value} {v_wrong : Int32} (C0 : Cx p s m args meth c cX9_fault wsX9_fault RX9 1 (some .int)) (hK : va_K D vwCl (tyL cI cJ) s) (hA : ∀ q, s.heap.size ≤ q → A q) (hX : XT none A s s.heap) {Rr : Int32} : ∀   (H : Heap) (locs : List Loc) (ls : Array Slot), St D A s (w_X9_fault cI cJ h g0 g1 g2 g3 g4 g5 g6 g7 g8 g9 g10 g11 g12 g13 g14 g15 g16 g17 g18 g19 g20 g21 g22 g23 g25 g26 v_wrong) H locs → lv_has ls 1 [(0, .ref h)] → f_X9_fault_0 v_wrong = some Rr → W p l e rm_X9_fault s m args below meth c H locs 0 0 (MQ below (QI D cI cJ A (w_X9_fault cI cJ h g0 g1 g2 g3 g4 g5 g6 g7 g8 g9 g10 g11 g12 g13 g14 g15 g16 g17 g18 g19 g20 g21 g22 g23 g25 g26 v_wrong) Rr) args s 0 0 A) (F0 m 0 ls []) := by
  have hx := C0.1.1
  have hb := C0.1.2.1
  intro H locs ls hSt hl hf
  unfold f_X9_fault_0 at hf
  refine lv_aload_n hx hb dX9_fault_0 rfl (lv_at hl 0 rfl) ?_
  refine hb_get C0 hK hSt 0 8 24 rfl rfl iu_X9_fault_X9 (by decide) fl_X9_fault_52 rfl dX9_fault_1 ?_
  cases hf
  exact hb_iret C0 hK hSt dX9_fault_4
def f_X9_fault (v_wrong : Int32)   : Option (Int32) := f_X9_fault_0 v_wrong
set_option maxRecDepth 100000 in
theorem c_X9_fault (l : Launch) (D : va_G) (cI cJ : ClassId) (h : Nat) (g0 g1 g2 g3 g4 g5 g6 g7 g8 g9 g10 g11 g12 g13 g14 g15 g16 g17 g18 g19 g20 g21 g22 g23 g25 g26 : Value)  (v_wrong : Int32) (Rr : Int32) (hf : f_X9_fault v_wrong = some Rr) : CtI l yX9_fault wsX9_fault rm_X9_fault D cI cJ none [.ref h] (w_X9_fault cI cJ h g0 g1 g2 g3 g4 g5 g6 g7 g8 g9 g10 g11 g12 g13 g14 g15 g16 g17 g18 g19 g20 g21 g22 g23 g25 g26 v_wrong) Rr (w_X9_fault cI cJ h g0 g1 g2 g3 g4 g5 g6 g7 g8 g9 g10 g11 g12 g13 g14 g15 g16 g17 g18 g19 g20 g21 g22 g23 g25 g26 v_wrong) :=
  fun sz => BodyW.met (av := [.ref h]) (Qc := fun A => QI D cI cJ A (w_X9_fault cI cJ h g0 g1 g2 g3 g4 g5 g6 g7 g8 g9 g10 g11 g12 g13 g14 g15 g16 g17 g18 g19 g20 g21 g22 g23 g25 g26 v_wrong) Rr) (by decide) rfl rfl (Nat.le_of_ble_eq_true rfl) (fun C0 hK hA hX ls hSt hl => k_X9_fault_0 C0 hK hA hX   _ _ ls hSt hl hf) sz
/-! X9 isGreatest -/
abbrev rm_X9_isGreatest : Room := { frames := 1, cells := 0, slots := 0, locals := 21 }
abbrev w_X9_isGreatest (cI cJ : ClassId) (h : Nat) (g2 : Value) (g3 : Value) (g4 : Value) (g5 : Value) (g6 : Value) (g7 : Value) (g8 : Value) (g9 : Value) (g10 : Value) (g11 : Value) (g12 : Value) (g13 : Value) (g14 : Value) (g15 : Value) (g16 : Value) (g17 : Value) (g18 : Value) (g19 : Value) (g20 : Value) (g21 : Value) (g22 : Value) (g23 : Value) (g24 : Value) (g25 : Value) (g26 : Value) (v_points : Int32) (v_faces : Int64) : va_W := [(h, .inr (8, [.int v_points, .long v_faces, g2, g3, g4, g5, g6, g7, g8, g9, g10, g11, g12, g13, g14, g15, g16, g17, g18, g19, g20, g21, g22, g23, g24, g25, g26]))]
theorem iu_X9_isGreatest_X9 : ∀ w ∈ wsX90, w ∈ wsX9_isGreatest := by decide +kernel
theorem fl_X9_isGreatest_7 : Cond.fieldLink RX9 7 (TX9 0).1 (TX9 0).2.1 (TX9 0).2.2.1 ∈ wsX9_isGreatest := by decide +kernel
theorem hd_X9_isGreatest : yX9_isGreatest.cls = RX9 ∧ yX9_isGreatest.cls ≠ "java/lang/invoke/MethodHandle" ∧ yX9_isGreatest.cls ≠ "java/lang/invoke/VarHandle" ∧ (parseMethodDescriptor yX9_isGreatest.desc).map (fun d => d.parameters.length) = some 1 := by decide +kernel
def f_X9_isGreatest_56 (v_points : Int32) (v_faces : Int64) (k_18 : Int32 → Int32 → Int32 → Option (Int32)) (l1 : Int32) (l3 : Int32) (s0 : Int32)  : Option (Int32) := k_18 l1 s0 (l3 + 1)
set_option maxHeartbeats 4000000 in
set_option maxRecDepth 100000 in
theorem k_X9_isGreatest_56 {p : Program} {l : Launch} {e : Env} {s : State} {m : MethodId} {args : Array Value} {below : List Frame} {meth : Method} {c : Code} {A : Nat → Prop} {D : va_G} {cI cJ : ClassId} {h : Nat} {g2 g3 g4 g5 g6 g7 g8 g9 g10 g11 g12 g13 g14 g15 g16 g17 g18 g19 g20 g21 g22 g23 g24 g25 g26 : Value} {v_points : Int32} {v_faces : Int64} (C0 : Cx p s m args meth c cX9_isGreatest wsX9_isGreatest RX9 4 (some .boolean)) (hK : va_K D vwCl (tyL cI cJ) s) (hA : ∀ q, s.heap.size ≤ q → A q) (hX : XT none A s s.heap) {Rr : Int32} {k_18 : Int32 → Int32 → Int32 → Option (Int32)} (hk_18 : ∀ (l1 : Int32) (l2 : Int32) (l3 : Int32)  (H : Heap) (locs : List Loc) (ls : Array Slot), St D A s (w_X9_isGreatest cI cJ h g2 g3 g4 g5 g6 g7 g8 g9 g10 g11 g12 g13 g14 g15 g16 g17 g18 g19 g20 g21 g22 g23 g24 g25 g26 v_points v_faces) H locs → lv_has ls 4 [(0, .ref h), (1, .int l1), (2, .int l2), (3, .int l3)] → k_18 l1 l2 l3 = some Rr → W p l e rm_X9_isGreatest s m args below meth c H locs 0 0 (MQ below (QI D cI cJ A (w_X9_isGreatest cI cJ h g2 g3 g4 g5 g6 g7 g8 g9 g10 g11 g12 g13 g14 g15 g16 g17 g18 g19 g20 g21 g22 g23 g24 g25 g26 v_points v_faces) Rr) args s 0 0 A) (F0 m 18 ls [])) : ∀ (l1 : Int32) (l3 : Int32) (s0 : Int32)  (H : Heap) (locs : List Loc) (ls : Array Slot), St D A s (w_X9_isGreatest cI cJ h g2 g3 g4 g5 g6 g7 g8 g9 g10 g11 g12 g13 g14 g15 g16 g17 g18 g19 g20 g21 g22 g23 g24 g25 g26 v_points v_faces) H locs → lv_has ls 4 [(0, .ref h), (1, .int l1), (3, .int l3)] → f_X9_isGreatest_56 v_points v_faces k_18 l1 l3 s0 = some Rr → W p l e rm_X9_isGreatest s m args below meth c H locs 0 0 (MQ below (QI D cI cJ A (w_X9_isGreatest cI cJ h g2 g3 g4 g5 g6 g7 g8 g9 g10 g11 g12 g13 g14 g15 g16 g17 g18 g19 g20 g21 g22 g23 g24 g25 g26 v_points v_faces) Rr) args s 0 0 A) (F0 m 56 ls [.int s0]) := by
  have hx := C0.1.1
  have hb := C0.1.2.1
  intro l1 l3 s0 H locs ls hSt hl hf
  unfold f_X9_isGreatest_56 at hf
  refine lv_istore_n (lv' := [(2, .int s0), (0, .ref h), (1, .int l1), (3, .int l3)]) hx hb dX9_isGreatest_56 rfl hl (by decide) rfl (fun ls hl => ?_)
  refine lv_iinc (v := l3 + 1) (lv' := [(3, .int (l3 + 1)), (2, .int s0), (0, .ref h), (1, .int l1)]) hx hb dX9_isGreatest_57 hl (k := 3) rfl rfl (by decide) rfl (fun ls hl => ?_)
  refine lv_goto (tgt := 18) hx hb dX9_isGreatest_60 (by decide) ?_
  exact hk_18 l1 s0 (l3 + 1) _ _ _ hSt (lv_sub hl [2, 3, 1, 0] rfl) hf
def f_X9_isGreatest_51 (v_points : Int32) (v_faces : Int64) (k_18 : Int32 → Int32 → Int32 → Option (Int32)) (l1 : Int32) (l3 : Int32)  : Option (Int32) := f_X9_isGreatest_56 v_points v_faces k_18 l1 l3 (1 : Int32)
set_option maxHeartbeats 4000000 in
set_option maxRecDepth 100000 in
theorem k_X9_isGreatest_51 {p : Program} {l : Launch} {e : Env} {s : State} {m : MethodId} {args : Array Value} {below : List Frame} {meth : Method} {c : Code} {A : Nat → Prop} {D : va_G} {cI cJ : ClassId} {h : Nat} {g2 g3 g4 g5 g6 g7 g8 g9 g10 g11 g12 g13 g14 g15 g16 g17 g18 g19 g20 g21 g22 g23 g24 g25 g26 : Value} {v_points : Int32} {v_faces : Int64} (C0 : Cx p s m args meth c cX9_isGreatest wsX9_isGreatest RX9 4 (some .boolean)) (hK : va_K D vwCl (tyL cI cJ) s) (hA : ∀ q, s.heap.size ≤ q → A q) (hX : XT none A s s.heap) {Rr : Int32} {k_18 : Int32 → Int32 → Int32 → Option (Int32)} (hk_18 : ∀ (l1 : Int32) (l2 : Int32) (l3 : Int32)  (H : Heap) (locs : List Loc) (ls : Array Slot), St D A s (w_X9_isGreatest cI cJ h g2 g3 g4 g5 g6 g7 g8 g9 g10 g11 g12 g13 g14 g15 g16 g17 g18 g19 g20 g21 g22 g23 g24 g25 g26 v_points v_faces) H locs → lv_has ls 4 [(0, .ref h), (1, .int l1), (2, .int l2), (3, .int l3)] → k_18 l1 l2 l3 = some Rr → W p l e rm_X9_isGreatest s m args below meth c H locs 0 0 (MQ below (QI D cI cJ A (w_X9_isGreatest cI cJ h g2 g3 g4 g5 g6 g7 g8 g9 g10 g11 g12 g13 g14 g15 g16 g17 g18 g19 g20 g21 g22 g23 g24 g25 g26 v_points v_faces) Rr) args s 0 0 A) (F0 m 18 ls [])) : ∀ (l1 : Int32) (l3 : Int32)  (H : Heap) (locs : List Loc) (ls : Array Slot), St D A s (w_X9_isGreatest cI cJ h g2 g3 g4 g5 g6 g7 g8 g9 g10 g11 g12 g13 g14 g15 g16 g17 g18 g19 g20 g21 g22 g23 g24 g25 g26 v_points v_faces) H locs → lv_has ls 4 [(0, .ref h), (1, .int l1), (3, .int l3)] → f_X9_isGreatest_51 v_points v_faces k_18 l1 l3 = some Rr → W p l e rm_X9_isGreatest s m args below meth c H locs 0 0 (MQ below (QI D cI cJ A (w_X9_isGreatest cI cJ h g2 g3 g4 g5 g6 g7 g8 g9 g10 g11 g12 g13 g14 g15 g16 g17 g18 g19 g20 g21 g22 g23 g24 g25 g26 v_points v_faces) Rr) args s 0 0 A) (F0 m 51 ls []) := by
  have hx := C0.1.1
  have hb := C0.1.2.1
  intro l1 l3 H locs ls hSt hl hf
  unfold f_X9_isGreatest_51 at hf
  refine lv_iconst (v := 1) hx hb dX9_isGreatest_51 (by decide) ?_
  refine lv_goto (tgt := 56) hx hb dX9_isGreatest_52 (by decide) ?_
  exact k_X9_isGreatest_56 C0 hK hA hX hk_18 l1 l3 (1 : Int32) _ _ _ hSt (lv_sub hl [0, 1, 2] rfl) hf
def f_X9_isGreatest_55 (v_points : Int32) (v_faces : Int64) (k_18 : Int32 → Int32 → Int32 → Option (Int32)) (l1 : Int32) (l3 : Int32)  : Option (Int32) := f_X9_isGreatest_56 v_points v_faces k_18 l1 l3 (0 : Int32)
set_option maxHeartbeats 4000000 in
set_option maxRecDepth 100000 in
theorem k_X9_isGreatest_55 {p : Program} {l : Launch} {e : Env} {s : State} {m : MethodId} {args : Array Value} {below : List Frame} {meth : Method} {c : Code} {A : Nat → Prop} {D : va_G} {cI cJ : ClassId} {h : Nat} {g2 g3 g4 g5 g6 g7 g8 g9 g10 g11 g12 g13 g14 g15 g16 g17 g18 g19 g20 g21 g22 g23 g24 g25 g26 : Value} {v_points : Int32} {v_faces : Int64} (C0 : Cx p s m args meth c cX9_isGreatest wsX9_isGreatest RX9 4 (some .boolean)) (hK : va_K D vwCl (tyL cI cJ) s) (hA : ∀ q, s.heap.size ≤ q → A q) (hX : XT none A s s.heap) {Rr : Int32} {k_18 : Int32 → Int32 → Int32 → Option (Int32)} (hk_18 : ∀ (l1 : Int32) (l2 : Int32) (l3 : Int32)  (H : Heap) (locs : List Loc) (ls : Array Slot), St D A s (w_X9_isGreatest cI cJ h g2 g3 g4 g5 g6 g7 g8 g9 g10 g11 g12 g13 g14 g15 g16 g17 g18 g19 g20 g21 g22 g23 g24 g25 g26 v_points v_faces) H locs → lv_has ls 4 [(0, .ref h), (1, .int l1), (2, .int l2), (3, .int l3)] → k_18 l1 l2 l3 = some Rr → W p l e rm_X9_isGreatest s m args below meth c H locs 0 0 (MQ below (QI D cI cJ A (w_X9_isGreatest cI cJ h g2 g3 g4 g5 g6 g7 g8 g9 g10 g11 g12 g13 g14 g15 g16 g17 g18 g19 g20 g21 g22 g23 g24 g25 g26 v_points v_faces) Rr) args s 0 0 A) (F0 m 18 ls [])) : ∀ (l1 : Int32) (l3 : Int32)  (H : Heap) (locs : List Loc) (ls : Array Slot), St D A s (w_X9_isGreatest cI cJ h g2 g3 g4 g5 g6 g7 g8 g9 g10 g11 g12 g13 g14 g15 g16 g17 g18 g19 g20 g21 g22 g23 g24 g25 g26 v_points v_faces) H locs → lv_has ls 4 [(0, .ref h), (1, .int l1), (3, .int l3)] → f_X9_isGreatest_55 v_points v_faces k_18 l1 l3 = some Rr → W p l e rm_X9_isGreatest s m args below meth c H locs 0 0 (MQ below (QI D cI cJ A (w_X9_isGreatest cI cJ h g2 g3 g4 g5 g6 g7 g8 g9 g10 g11 g12 g13 g14 g15 g16 g17 g18 g19 g20 g21 g22 g23 g24 g25 g26 v_points v_faces) Rr) args s 0 0 A) (F0 m 55 ls []) := by
  have hx := C0.1.1
  have hb := C0.1.2.1
  intro l1 l3 H locs ls hSt hl hf
  unfold f_X9_isGreatest_55 at hf
  refine lv_iconst (v := 0) hx hb dX9_isGreatest_55 (by decide) ?_
  exact k_X9_isGreatest_56 C0 hK hA hX hk_18 l1 l3 (0 : Int32) _ _ _ hSt (lv_sub hl [0, 1, 2] rfl) hf
def f_X9_isGreatest_18 (v_points : Int32) (v_faces : Int64)  : Nat → Int32 → Int32 → Int32 → Option (Int32)
  | 0, _, _, _ => none
  | n + 1, l1, l2, l3 => if v_points ≤ l3 then gd (isb l2) (some l2) else if l2 = 0 then f_X9_isGreatest_55 v_points v_faces (f_X9_isGreatest_18 v_points v_faces n) l1 l3 else if ((l1 >>> (l3 &&& 31)) &&& (1 : Int32)) = (1 : Int32) then f_X9_isGreatest_51 v_points v_faces (f_X9_isGreatest_18 v_points v_faces n) l1 l3 else (f_X9_isFace v_faces (l1 ||| ((1 : Int32) <<< (l3 &&& 31)))).bind (fun R1 => if R1 = 0 then f_X9_isGreatest_51 v_points v_faces (f_X9_isGreatest_18 v_points v_faces n) l1 l3 else f_X9_isGreatest_55 v_points v_faces (f_X9_isGreatest_18 v_points v_faces n) l1 l3)
set_option maxHeartbeats 4000000 in
set_option maxRecDepth 100000 in
theorem k_X9_isGreatest_18 {p : Program} {l : Launch} {e : Env} {s : State} {m : MethodId} {args : Array Value} {below : List Frame} {meth : Method} {c : Code} {A : Nat → Prop} {D : va_G} {cI cJ : ClassId} {h : Nat} {g2 g3 g4 g5 g6 g7 g8 g9 g10 g11 g12 g13 g14 g15 g16 g17 g18 g19 g20 g21 g22 g23 g24 g25 g26 : Value} {v_points : Int32} {v_faces : Int64} (C0 : Cx p s m args meth c cX9_isGreatest wsX9_isGreatest RX9 4 (some .boolean)) (hK : va_K D vwCl (tyL cI cJ) s) (hA : ∀ q, s.heap.size ≤ q → A q) (hX : XT none A s s.heap) {Rr : Int32} (n : Nat) : ∀ (l1 : Int32) (l2 : Int32) (l3 : Int32)  (H : Heap) (locs : List Loc) (ls : Array Slot), St D A s (w_X9_isGreatest cI cJ h g2 g3 g4 g5 g6 g7 g8 g9 g10 g11 g12 g13 g14 g15 g16 g17 g18 g19 g20 g21 g22 g23 g24 g25 g26 v_points v_faces) H locs → lv_has ls 4 [(0, .ref h), (1, .int l1), (2, .int l2), (3, .int l3)] → f_X9_isGreatest_18 v_points v_faces n l1 l2 l3 = some Rr → W p l e rm_X9_isGreatest s m args below meth c H locs 0 0 (MQ below (QI D cI cJ A (w_X9_isGreatest cI cJ h g2 g3 g4 g5 g6 g7 g8 g9 g10 g11 g12 g13 g14 g15 g16 g17 g18 g19 g20 g21 g22 g23 g24 g25 g26 v_points v_faces) Rr) args s 0 0 A) (F0 m 18 ls []) := by
  have hx := C0.1.1
  have hb := C0.1.2.1
  induction n with
  | zero => intro l1 l2 l3 H locs ls hSt hl hf; exact nomatch (show (none : Option _) = some Rr from hf)
  | succ n ih =>
    intro l1 l2 l3 H locs ls hSt hl hf
    unfold f_X9_isGreatest_18 at hf
    refine lv_iload_n hx hb dX9_isGreatest_18 rfl (lv_at hl 3 rfl) ?_
    refine lv_aload_n hx hb dX9_isGreatest_19 rfl (lv_at hl 0 rfl) ?_
    refine hb_get C0 hK hSt 0 8 0 rfl rfl iu_X9_isGreatest_X9 (by decide) fl_X9_isGreatest_7 rfl dX9_isGreatest_20 ?_
    refine lv_icmp_ge (tgt := 63) hx hb dX9_isGreatest_23 (by decide) (fun cc => ?_) (fun cc => ?_)
    · have hf := ite_t hf cc
      refine lv_iload_n hx hb dX9_isGreatest_63 rfl (lv_at hl 2 rfl) ?_
      obtain ⟨hz, hf⟩ := gd_t hf
      cases hf
      exact hb_zret C0 hK hSt (isb_n hz).1 dX9_isGreatest_64
    · have hf := ite_f hf cc
      refine lv_iload_n hx hb dX9_isGreatest_26 rfl (lv_at hl 2 rfl) ?_
      refine lv_if_eq (tgt := 55) hx hb dX9_isGreatest_27 (by decide) (fun cc => ?_) (fun cc => ?_)
      · have hf := ite_t hf cc
        exact k_X9_isGreatest_55 C0 hK hA hX ih l1 l3 _ _ _ hSt (lv_sub hl [0, 1, 3] rfl) hf
      · have hf := ite_f hf cc
        refine lv_iload_n hx hb dX9_isGreatest_30 rfl (lv_at hl 1 rfl) ?_
        refine lv_iload_n hx hb dX9_isGreatest_31 rfl (lv_at hl 3 rfl) ?_
        refine lv_ishr hx hb dX9_isGreatest_32 ?_
        refine lv_iconst (v := 1) hx hb dX9_isGreatest_33 (by decide) ?_
        refine lv_iand hx hb dX9_isGreatest_34 ?_
        refine lv_iconst (v := 1) hx hb dX9_isGreatest_35 (by decide) ?_
        refine lv_icmp_eq (tgt := 51) hx hb dX9_isGreatest_36 (by decide) (fun cc => ?_) (fun cc => ?_)
        · have hf := ite_t hf cc
          exact k_X9_isGreatest_51 C0 hK hA hX ih l1 l3 _ _ _ hSt (lv_sub hl [0, 1, 3] rfl) hf
        · have hf := ite_f hf cc
          refine lv_aload_n hx hb dX9_isGreatest_39 rfl (lv_at hl 0 rfl) ?_
          refine lv_iload_n hx hb dX9_isGreatest_40 rfl (lv_at hl 1 rfl) ?_
          refine lv_iconst (v := 1) hx hb dX9_isGreatest_41 (by decide) ?_
          refine lv_iload_n hx hb dX9_isGreatest_42 rfl (lv_at hl 3 rfl) ?_
          refine lv_ishl hx hb dX9_isGreatest_43 ?_
          refine lv_ior hx hb dX9_isGreatest_44 ?_
          obtain ⟨R1, hR1, hf⟩ := Option.bind_eq_some_iff.mp hf
          have sp : Sp (w_X9_isGreatest cI cJ h g2 g3 g4 g5 g6 g7 g8 g9 g10 g11 g12 g13 g14 g15 g16 g17 g18 g19 g20 g21 g22 g23 g24 g25 g26 v_points v_faces) (w_X9_isFace cI cJ h (.int v_points) g2 g3 g4 g5 g6 g7 g8 g9 g10 g11 g12 g13 g14 g15 g16 g17 g18 g19 g20 g21 g22 g23 g24 g25 g26 v_faces) (w_X9_isFace cI cJ h (.int v_points) g2 g3 g4 g5 g6 g7 g8 g9 g10 g11 g12 g13 g14 g15 g16 g17 g18 g19 g20 g21 g22 g23 g24 g25 g26 v_faces) (w_X9_isGreatest cI cJ h g2 g3 g4 g5 g6 g7 g8 g9 g10 g11 g12 g13 g14 g15 g16 g17 g18 g19 g20 g21 g22 g23 g24 g25 g26 v_points v_faces) [0] [] [0] := ⟨rfl, rfl, rfl, by decide, by decide, by decide, by decide⟩
          refine hb_ci (hb_rV (As := [.int (l1 ||| ((1 : Int32) <<< (l3 &&& 31)))]) (rest := []) C0 hK hA XT.nn hSt sp (c_X9_isFace l D cI cJ h (.int v_points) g2 g3 g4 g5 g6 g7 g8 g9 g10 g11 g12 g13 g14 g15 g16 g17 g18 g19 g20 g21 g22 g23 g24 g25 g26  (l1 ||| ((1 : Int32) <<< (l3 &&& 31))) v_faces R1 hR1) gX9_isGreatest_X9_isFace rfl ⟨rfl, rfl⟩ hd_X9_isFace ⟨Nat.le_of_ble_eq_true rfl, Nat.le_of_ble_eq_true rfl⟩ 0 8 rfl rfl rfl hl rfl (Nat.le_of_ble_eq_true rfl) dX9_isGreatest_45 ⟨Nat.zero_le _, Nat.zero_le _⟩) hA hSt sp (fun H locs hSt => ?_)
          refine lv_if_ne (tgt := 55) hx hb dX9_isGreatest_48 (by decide) (fun cc => ?_) (fun cc => ?_)
          · have hf := ite_f hf cc
            exact k_X9_isGreatest_55 C0 hK hA hX ih l1 l3 _ _ _ hSt (lv_sub hl [0, 1, 3] rfl) hf
          · have hf := ite_t hf cc
            exact k_X9_isGreatest_51 C0 hK hA hX ih l1 l3 _ _ _ hSt (lv_sub hl [0, 1, 3] rfl) hf
def f_X9_isGreatest_0 (v_points : Int32) (v_faces : Int64)  (l1 : Int32)  : Option (Int32) := (f_X9_isFace v_faces l1).bind (fun R1 => if R1 = 0 then some (0 : Int32) else if l1 = 0 then some (0 : Int32) else f_X9_isGreatest_18 v_points v_faces  FU l1 (1 : Int32) (0 : Int32))
set_option maxHeartbeats 4000000 in
set_option maxRecDepth 100000 in
theorem k_X9_isGreatest_0 {p : Program} {l : Launch} {e : Env} {s : State} {m : MethodId} {args : Array Value} {below : List Frame} {meth : Method} {c : Code} {A : Nat → Prop} {D : va_G} {cI cJ : ClassId} {h : Nat} {g2 g3 g4 g5 g6 g7 g8 g9 g10 g11 g12 g13 g14 g15 g16 g17 g18 g19 g20 g21 g22 g23 g24 g25 g26 : Value} {v_points : Int32} {v_faces : Int64} (C0 : Cx p s m args meth c cX9_isGreatest wsX9_isGreatest RX9 4 (some .boolean)) (hK : va_K D vwCl (tyL cI cJ) s) (hA : ∀ q, s.heap.size ≤ q → A q) (hX : XT none A s s.heap) {Rr : Int32} : ∀ (l1 : Int32)  (H : Heap) (locs : List Loc) (ls : Array Slot), St D A s (w_X9_isGreatest cI cJ h g2 g3 g4 g5 g6 g7 g8 g9 g10 g11 g12 g13 g14 g15 g16 g17 g18 g19 g20 g21 g22 g23 g24 g25 g26 v_points v_faces) H locs → lv_has ls 4 [(0, .ref h), (1, .int l1)] → f_X9_isGreatest_0 v_points v_faces l1 = some Rr → W p l e rm_X9_isGreatest s m args below meth c H locs 0 0 (MQ below (QI D cI cJ A (w_X9_isGreatest cI cJ h g2 g3 g4 g5 g6 g7 g8 g9 g10 g11 g12 g13 g14 g15 g16 g17 g18 g19 g20 g21 g22 g23 g24 g25 g26 v_points v_faces) Rr) args s 0 0 A) (F0 m 0 ls []) := by
  have hx := C0.1.1
  have hb := C0.1.2.1
  intro l1 H locs ls hSt hl hf
  unfold f_X9_isGreatest_0 at hf
  refine lv_aload_n hx hb dX9_isGreatest_0 rfl (lv_at hl 0 rfl) ?_
  refine lv_iload_n hx hb dX9_isGreatest_1 rfl (lv_at hl 1 rfl) ?_
  obtain ⟨R1, hR1, hf⟩ := Option.bind_eq_some_iff.mp hf
  have sp : Sp (w_X9_isGreatest cI cJ h g2 g3 g4 g5 g6 g7 g8 g9 g10 g11 g12 g13 g14 g15 g16 g17 g18 g19 g20 g21 g22 g23 g24 g25 g26 v_points v_faces) (w_X9_isFace cI cJ h (.int v_points) g2 g3 g4 g5 g6 g7 g8 g9 g10 g11 g12 g13 g14 g15 g16 g17 g18 g19 g20 g21 g22 g23 g24 g25 g26 v_faces) (w_X9_isFace cI cJ h (.int v_points) g2 g3 g4 g5 g6 g7 g8 g9 g10 g11 g12 g13 g14 g15 g16 g17 g18 g19 g20 g21 g22 g23 g24 g25 g26 v_faces) (w_X9_isGreatest cI cJ h g2 g3 g4 g5 g6 g7 g8 g9 g10 g11 g12 g13 g14 g15 g16 g17 g18 g19 g20 g21 g22 g23 g24 g25 g26 v_points v_faces) [0] [] [0] := ⟨rfl, rfl, rfl, by decide, by decide, by decide, by decide⟩
  refine hb_ci (hb_rV (As := [.int l1]) (rest := []) C0 hK hA XT.nn hSt sp (c_X9_isFace l D cI cJ h (.int v_points) g2 g3 g4 g5 g6 g7 g8 g9 g10 g11 g12 g13 g14 g15 g16 g17 g18 g19 g20 g21 g22 g23 g24 g25 g26  l1 v_faces R1 hR1) gX9_isGreatest_X9_isFace rfl ⟨rfl, rfl⟩ hd_X9_isFace ⟨Nat.le_of_ble_eq_true rfl, Nat.le_of_ble_eq_true rfl⟩ 0 8 rfl rfl rfl hl rfl (Nat.le_of_ble_eq_true rfl) dX9_isGreatest_2 ⟨Nat.zero_le _, Nat.zero_le _⟩) hA hSt sp (fun H locs hSt => ?_)
  refine lv_if_eq (tgt := 12) hx hb dX9_isGreatest_5 (by decide) (fun cc => ?_) (fun cc => ?_)
  · have hf := ite_t hf cc
    refine lv_iconst (v := 0) hx hb dX9_isGreatest_12 (by decide) ?_
    cases hf
    exact hb_zret C0 hK hSt nb0.1 dX9_isGreatest_13
  · have hf := ite_f hf cc
    refine lv_iload_n hx hb dX9_isGreatest_8 rfl (lv_at hl 1 rfl) ?_
    refine lv_if_ne (tgt := 14) hx hb dX9_isGreatest_9 (by decide) (fun cc => ?_) (fun cc => ?_)
    · have hf := ite_f hf cc
      refine lv_iconst (v := 1) hx hb dX9_isGreatest_14 (by decide) ?_
      refine lv_istore_n (lv' := [(2, .int (1 : Int32)), (0, .ref h), (1, .int l1)]) hx hb dX9_isGreatest_15 rfl hl (by decide) rfl (fun ls hl => ?_)
      refine lv_iconst (v := 0) hx hb dX9_isGreatest_16 (by decide) ?_
      refine lv_istore_n (lv' := [(3, .int (0 : Int32)), (2, .int (1 : Int32)), (0, .ref h), (1, .int l1)]) hx hb dX9_isGreatest_17 rfl hl (by decide) rfl (fun ls hl => ?_)
      exact k_X9_isGreatest_18 C0 hK hA hX  FU l1 (1 : Int32) (0 : Int32) _ _ _ hSt (lv_sub hl [2, 3, 1, 0] rfl) hf
    · have hf := ite_t hf cc
      refine lv_iconst (v := 0) hx hb dX9_isGreatest_12 (by decide) ?_
      cases hf
      exact hb_zret C0 hK hSt nb0.1 dX9_isGreatest_13
def f_X9_isGreatest (v_points : Int32) (v_faces : Int64) (l1 : Int32)  : Option (Int32) := f_X9_isGreatest_0 v_points v_faces l1
set_option maxRecDepth 100000 in
theorem c_X9_isGreatest (l : Launch) (D : va_G) (cI cJ : ClassId) (h : Nat) (g2 g3 g4 g5 g6 g7 g8 g9 g10 g11 g12 g13 g14 g15 g16 g17 g18 g19 g20 g21 g22 g23 g24 g25 g26 : Value) (l1 : Int32) (v_points : Int32) (v_faces : Int64) (Rr : Int32) (hf : f_X9_isGreatest v_points v_faces l1 = some Rr) : CtI l yX9_isGreatest wsX9_isGreatest rm_X9_isGreatest D cI cJ none [.ref h, .int l1] (w_X9_isGreatest cI cJ h g2 g3 g4 g5 g6 g7 g8 g9 g10 g11 g12 g13 g14 g15 g16 g17 g18 g19 g20 g21 g22 g23 g24 g25 g26 v_points v_faces) Rr (w_X9_isGreatest cI cJ h g2 g3 g4 g5 g6 g7 g8 g9 g10 g11 g12 g13 g14 g15 g16 g17 g18 g19 g20 g21 g22 g23 g24 g25 g26 v_points v_faces) :=
  fun sz => BodyW.met (av := [.ref h, .int l1]) (Qc := fun A => QI D cI cJ A (w_X9_isGreatest cI cJ h g2 g3 g4 g5 g6 g7 g8 g9 g10 g11 g12 g13 g14 g15 g16 g17 g18 g19 g20 g21 g22 g23 g24 g25 g26 v_points v_faces) Rr) (by decide) rfl rfl (Nat.le_of_ble_eq_true rfl) (fun C0 hK hA hX ls hSt hl => k_X9_isGreatest_0 C0 hK hA hX l1  _ _ ls hSt hl hf) sz
/-! X9 puts -/
abbrev rm_X9_puts : Room := { frames := 0, cells := 0, slots := 0, locals := 0 }
abbrev w_X9_puts (cI cJ : ClassId) (h : Nat) (h_out : Nat) (g0 : Value) (g1 : Value) (g2 : Value) (g3 : Value) (g4 : Value) (g5 : Value) (g6 : Value) (g7 : Value) (g8 : Value) (g9 : Value) (g10 : Value) (g11 : Value) (g12 : Value) (g13 : Value) (g14 : Value) (g15 : Value) (g16 : Value) (g17 : Value) (g18 : Value) (g19 : Value) (g20 : Value) (g22 : Value) (g24 : Value) (g25 : Value) (g26 : Value) (v_out : Nat → Int32) (v_outs : Int32) : va_W := [(h, .inr (8, [g0, g1, g2, g3, g4, g5, g6, g7, g8, g9, g10, g11, g12, g13, g14, g15, g16, g17, g18, g19, g20, .ref h_out, g22, .int v_outs, g24, g25, g26])), (h_out, .inl (cI, 200, .inl v_out))]
theorem iu_X9_puts_X9 : ∀ w ∈ wsX90, w ∈ wsX9_puts := by decide +kernel
theorem fl_X9_puts_49 : Cond.fieldLink RX9 49 (TX9 21).1 (TX9 21).2.1 (TX9 21).2.2.1 ∈ wsX9_puts := by decide +kernel
theorem fl_X9_puts_216 : Cond.fieldLink RX9 216 (TX9 23).1 (TX9 23).2.1 (TX9 23).2.2.1 ∈ wsX9_puts := by decide +kernel
theorem hd_X9_puts : yX9_puts.cls = RX9 ∧ yX9_puts.cls ≠ "java/lang/invoke/MethodHandle" ∧ yX9_puts.cls ≠ "java/lang/invoke/VarHandle" ∧ (parseMethodDescriptor yX9_puts.desc).map (fun d => d.parameters.length) = some 1 := by decide +kernel
def f_X9_puts_0   (l1 : Int32) (v_out : Nat → Int32) (v_outs : Int32) : Option ((Nat → Int32) × Int32) := gd (ix v_outs 200) (some (upd v_out v_outs.toNatClampNeg l1, v_outs + (1 : Int32)))
set_option maxHeartbeats 4000000 in
set_option maxRecDepth 100000 in
theorem k_X9_puts_0 {p : Program} {l : Launch} {e : Env} {s : State} {m : MethodId} {args : Array Value} {below : List Frame} {meth : Method} {c : Code} {A : Nat → Prop} {D : va_G} {cI cJ : ClassId} {h h_out : Nat} {g0 g1 g2 g3 g4 g5 g6 g7 g8 g9 g10 g11 g12 g13 g14 g15 g16 g17 g18 g19 g20 g22 g24 g25 g26 : Value}  (C0 : Cx p s m args meth c cX9_puts wsX9_puts RX9 2 none) (hK : va_K D vwCl (tyL cI cJ) s) (hA : ∀ q, s.heap.size ≤ q → A q) (hX : XT none A s s.heap) {Rr : (Nat → Int32) × Int32} : ∀ (l1 : Int32) (v_out : Nat → Int32) (v_outs : Int32) (H : Heap) (locs : List Loc) (ls : Array Slot), St D A s (w_X9_puts cI cJ h h_out g0 g1 g2 g3 g4 g5 g6 g7 g8 g9 g10 g11 g12 g13 g14 g15 g16 g17 g18 g19 g20 g22 g24 g25 g26 v_out v_outs) H locs → lv_has ls 2 [(0, .ref h), (1, .int l1)] → f_X9_puts_0 l1 v_out v_outs = some Rr → W p l e rm_X9_puts s m args below meth c H locs 0 0 (MQ below (QV D cI cJ A (w_X9_puts cI cJ h h_out g0 g1 g2 g3 g4 g5 g6 g7 g8 g9 g10 g11 g12 g13 g14 g15 g16 g17 g18 g19 g20 g22 g24 g25 g26 Rr.1 Rr.2)) args s 0 0 A) (F0 m 0 ls []) := by
  have hx := C0.1.1
  have hb := C0.1.2.1
  intro l1 v_out v_outs H locs ls hSt hl hf
  unfold f_X9_puts_0 at hf
  refine lv_aload_n hx hb dX9_puts_0 rfl (lv_at hl 0 rfl) ?_
  refine hb_get C0 hK hSt 0 8 21 rfl rfl iu_X9_puts_X9 (by decide) fl_X9_puts_49 rfl dX9_puts_1 ?_
  refine lv_aload_n hx hb dX9_puts_4 rfl (lv_at hl 0 rfl) ?_
  refine hb_get C0 hK hSt 0 8 23 rfl rfl iu_X9_puts_X9 (by decide) fl_X9_puts_216 rfl dX9_puts_5 ?_
  refine lv_iload_n hx hb dX9_puts_8 rfl (lv_at hl 1 rfl) ?_
  obtain ⟨hi, hf⟩ := gd_t hf
  refine hb_iast C0 hK hSt 1 rfl hi (w' := w_X9_puts cI cJ h h_out g0 g1 g2 g3 g4 g5 g6 g7 g8 g9 g10 g11 g12 g13 g14 g15 g16 g17 g18 g19 g20 g22 g24 g25 g26 (upd v_out v_outs.toNatClampNeg l1) v_outs) rfl dX9_puts_9 (fun H locs hSt => ?_)
  refine lv_aload_n hx hb dX9_puts_10 rfl (lv_at hl 0 rfl) ?_
  refine lv_dup hx hb dX9_puts_11 rfl ?_
  refine hb_get C0 hK hSt 0 8 23 rfl rfl iu_X9_puts_X9 (by decide) fl_X9_puts_216 rfl dX9_puts_12 ?_
  refine lv_iconst (v := 1) hx hb dX9_puts_15 (by decide) ?_
  refine lv_iadd hx hb dX9_puts_16 ?_
  refine hb_put C0 hK hSt 0 8 23 rfl rfl iu_X9_puts_X9 tyX9 tyX9_ok nmX9 (by decide) fl_X9_puts_216 rfl rfl rfl (Nat.le_of_ble_eq_true rfl) (w' := w_X9_puts cI cJ h h_out g0 g1 g2 g3 g4 g5 g6 g7 g8 g9 g10 g11 g12 g13 g14 g15 g16 g17 g18 g19 g20 g22 g24 g25 g26 (upd v_out v_outs.toNatClampNeg l1) (v_outs + (1 : Int32))) rfl dX9_puts_17 (fun H locs hSt => ?_)
  cases hf
  exact hb_vret C0 hK hSt dX9_puts_20
def f_X9_puts  (l1 : Int32) (v_out : Nat → Int32) (v_outs : Int32) : Option ((Nat → Int32) × Int32) := f_X9_puts_0 l1 v_out v_outs
set_option maxRecDepth 100000 in
theorem c_X9_puts (l : Launch) (D : va_G) (cI cJ : ClassId) (h h_out : Nat) (g0 g1 g2 g3 g4 g5 g6 g7 g8 g9 g10 g11 g12 g13 g14 g15 g16 g17 g18 g19 g20 g22 g24 g25 g26 : Value) (l1 : Int32) (v_out : Nat → Int32) (v_outs : Int32) (Rr : (Nat → Int32) × Int32) (hf : f_X9_puts l1 v_out v_outs = some Rr) : CtV l yX9_puts wsX9_puts rm_X9_puts D cI cJ none [.ref h, .int l1] (w_X9_puts cI cJ h h_out g0 g1 g2 g3 g4 g5 g6 g7 g8 g9 g10 g11 g12 g13 g14 g15 g16 g17 g18 g19 g20 g22 g24 g25 g26 v_out v_outs) (w_X9_puts cI cJ h h_out g0 g1 g2 g3 g4 g5 g6 g7 g8 g9 g10 g11 g12 g13 g14 g15 g16 g17 g18 g19 g20 g22 g24 g25 g26 Rr.1 Rr.2) :=
  fun sz => BodyW.met (av := [.ref h, .int l1]) (Qc := fun A => QV D cI cJ A (w_X9_puts cI cJ h h_out g0 g1 g2 g3 g4 g5 g6 g7 g8 g9 g10 g11 g12 g13 g14 g15 g16 g17 g18 g19 g20 g22 g24 g25 g26 Rr.1 Rr.2)) (by decide) rfl rfl (Nat.le_of_ble_eq_true rfl) (fun C0 hK hA hX ls hSt hl => k_X9_puts_0 C0 hK hA hX l1 v_out v_outs _ _ ls hSt hl hf) sz
/-! X9 write -/
abbrev rm_X9_write : Room := { frames := 2, cells := 0, slots := 0, locals := 44 }
abbrev w_X9_write (cI cJ : ClassId) (h : Nat) (h_out : Nat) (g2 : Value) (g3 : Value) (g4 : Value) (g5 : Value) (g6 : Value) (g7 : Value) (g8 : Value) (g9 : Value) (g10 : Value) (g11 : Value) (g12 : Value) (g13 : Value) (g14 : Value) (g15 : Value) (g16 : Value) (g17 : Value) (g18 : Value) (g19 : Value) (g20 : Value) (g22 : Value) (g24 : Value) (g25 : Value) (g26 : Value) (v_points : Int32) (v_faces : Int64) (v_out : Nat → Int32) (v_outs : Int32) : va_W := [(h, .inr (8, [.int v_points, .long v_faces, g2, g3, g4, g5, g6, g7, g8, g9, g10, g11, g12, g13, g14, g15, g16, g17, g18, g19, g20, .ref h_out, g22, .int v_outs, g24, g25, g26])), (h_out, .inl (cI, 200, .inl v_out))]
theorem iu_X9_write_X9 : ∀ w ∈ wsX90, w ∈ wsX9_write := by decide +kernel
theorem fl_X9_write_7 : Cond.fieldLink RX9 7 (TX9 0).1 (TX9 0).2.1 (TX9 0).2.2.1 ∈ wsX9_write := by decide +kernel
theorem fl_X9_write_216 : Cond.fieldLink RX9 216 (TX9 23).1 (TX9 23).2.1 (TX9 23).2.2.1 ∈ wsX9_write := by decide +kernel
theorem hd_X9_write : yX9_write.cls = RX9 ∧ yX9_write.cls ≠ "java/lang/invoke/MethodHandle" ∧ yX9_write.cls ≠ "java/lang/invoke/VarHandle" ∧ (parseMethodDescriptor yX9_write.desc).map (fun d => d.parameters.length) = some 0 := by decide +kernel
def f_X9_write_51 (v_points : Int32) (v_faces : Int64) (k_24 : Int32 → (Nat → Int32) → (Int32) → Option (Int32 × (Nat → Int32) × Int32)) : Nat → Int32 → Int32 → (Nat → Int32) → (Int32) → Option (Int32 × (Nat → Int32) × Int32)
  | 0, _, _, _, _ => none
  | n + 1, l1, l2, v_out, v_outs => if v_points ≤ l2 then k_24 (l1 + 1) v_out v_outs else if ((l1 >>> (l2 &&& 31)) &&& (1 : Int32)) = (1 : Int32) then (f_X9_puts ((48 : Int32) + l2) v_out v_outs).bind (fun R1 => (f_X9_write_51 v_points v_faces k_24 n) l1 (l2 + 1) R1.1 R1.2) else (f_X9_write_51 v_points v_faces k_24 n) l1 (l2 + 1) v_out v_outs
set_option maxHeartbeats 4000000 in
set_option maxRecDepth 100000 in
theorem k_X9_write_51 {p : Program} {l : Launch} {e : Env} {s : State} {m : MethodId} {args : Array Value} {below : List Frame} {meth : Method} {c : Code} {A : Nat → Prop} {D : va_G} {cI cJ : ClassId} {h h_out : Nat} {g2 g3 g4 g5 g6 g7 g8 g9 g10 g11 g12 g13 g14 g15 g16 g17 g18 g19 g20 g22 g24 g25 g26 : Value} {v_points : Int32} {v_faces : Int64} (C0 : Cx p s m args meth c cX9_write wsX9_write RX9 3 (some .int)) (hK : va_K D vwCl (tyL cI cJ) s) (hA : ∀ q, s.heap.size ≤ q → A q) (hX : XT none A s s.heap) {Rr : Int32 × (Nat → Int32) × Int32} {k_24 : Int32 → (Nat → Int32) → (Int32) → Option (Int32 × (Nat → Int32) × Int32)} (hk_24 : ∀ (l1 : Int32) (v_out : Nat → Int32) (v_outs : Int32) (H : Heap) (locs : List Loc) (ls : Array Slot), St D A s (w_X9_write cI cJ h h_out g2 g3 g4 g5 g6 g7 g8 g9 g10 g11 g12 g13 g14 g15 g16 g17 g18 g19 g20 g22 g24 g25 g26 v_points v_faces v_out v_outs) H locs → lv_has ls 3 [(0, .ref h), (1, .int l1)] → k_24 l1 v_out v_outs = some Rr → W p l e rm_X9_write s m args below meth c H locs 0 0 (MQ below (QI D cI cJ A (w_X9_write cI cJ h h_out g2 g3 g4 g5 g6 g7 g8 g9 g10 g11 g12 g13 g14 g15 g16 g17 g18 g19 g20 g22 g24 g25 g26 v_points v_faces Rr.2.1 Rr.2.2) Rr.1) args s 0 0 A) (F0 m 24 ls [])) (n : Nat) : ∀ (l1 : Int32) (l2 : Int32) (v_out : Nat → Int32) (v_outs : Int32) (H : Heap) (locs : List Loc) (ls : Array Slot), St D A s (w_X9_write cI cJ h h_out g2 g3 g4 g5 g6 g7 g8 g9 g10 g11 g12 g13 g14 g15 g16 g17 g18 g19 g20 g22 g24 g25 g26 v_points v_faces v_out v_outs) H locs → lv_has ls 3 [(0, .ref h), (1, .int l1), (2, .int l2)] → f_X9_write_51 v_points v_faces k_24 n l1 l2 v_out v_outs = some Rr → W p l e rm_X9_write s m args below meth c H locs 0 0 (MQ below (QI D cI cJ A (w_X9_write cI cJ h h_out g2 g3 g4 g5 g6 g7 g8 g9 g10 g11 g12 g13 g14 g15 g16 g17 g18 g19 g20 g22 g24 g25 g26 v_points v_faces Rr.2.1 Rr.2.2) Rr.1) args s 0 0 A) (F0 m 51 ls []) := by
  have hx := C0.1.1
  have hb := C0.1.2.1
  induction n with
  | zero => intro l1 l2 v_out v_outs H locs ls hSt hl hf; exact nomatch (show (none : Option _) = some Rr from hf)
  | succ n ih =>
    intro l1 l2 v_out v_outs H locs ls hSt hl hf
    unfold f_X9_write_51 at hf
    refine lv_iload_n hx hb dX9_write_51 rfl (lv_at hl 2 rfl) ?_
    refine lv_aload_n hx hb dX9_write_52 rfl (lv_at hl 0 rfl) ?_
    refine hb_get C0 hK hSt 0 8 0 rfl rfl iu_X9_write_X9 (by decide) fl_X9_write_7 rfl dX9_write_53 ?_
    refine lv_icmp_ge (tgt := 82) hx hb dX9_write_56 (by decide) (fun cc => ?_) (fun cc => ?_)
    · have hf := ite_t hf cc
      refine lv_iinc (v := l1 + 1) (lv' := [(1, .int (l1 + 1)), (0, .ref h), (2, .int l2)]) hx hb dX9_write_82 hl (k := 1) rfl rfl (by decide) rfl (fun ls hl => ?_)
      refine lv_goto (tgt := 24) hx hb dX9_write_85 (by decide) ?_
      exact hk_24 (l1 + 1) v_out v_outs _ _ _ hSt (lv_sub hl [1, 0] rfl) hf
    · have hf := ite_f hf cc
      refine lv_iload_n hx hb dX9_write_59 rfl (lv_at hl 1 rfl) ?_
      refine lv_iload_n hx hb dX9_write_60 rfl (lv_at hl 2 rfl) ?_
      refine lv_ishr hx hb dX9_write_61 ?_
      refine lv_iconst (v := 1) hx hb dX9_write_62 (by decide) ?_
      refine lv_iand hx hb dX9_write_63 ?_
      refine lv_iconst (v := 1) hx hb dX9_write_64 (by decide) ?_
      refine lv_icmp_ne (tgt := 76) hx hb dX9_write_65 (by decide) (fun cc => ?_) (fun cc => ?_)
      · have hf := ite_f hf cc
        refine lv_iinc (v := l2 + 1) (lv' := [(2, .int (l2 + 1)), (0, .ref h), (1, .int l1)]) hx hb dX9_write_76 hl (k := 2) rfl rfl (by decide) rfl (fun ls hl => ?_)
        refine lv_goto (tgt := 51) hx hb dX9_write_79 (by decide) ?_
        exact ih l1 (l2 + 1) v_out v_outs _ _ _ hSt (lv_sub hl [1, 2, 0] rfl) hf
      · have hf := ite_t hf cc
        refine lv_aload_n hx hb dX9_write_68 rfl (lv_at hl 0 rfl) ?_
        refine lv_bipush (v := 48) hx hb dX9_write_69 (by decide) ?_
        refine lv_iload_n hx hb dX9_write_71 rfl (lv_at hl 2 rfl) ?_
        refine lv_iadd hx hb dX9_write_72 ?_
        obtain ⟨R1, hR1, hf⟩ := Option.bind_eq_some_iff.mp hf
        have sp : Sp (w_X9_write cI cJ h h_out g2 g3 g4 g5 g6 g7 g8 g9 g10 g11 g12 g13 g14 g15 g16 g17 g18 g19 g20 g22 g24 g25 g26 v_points v_faces v_out v_outs) (w_X9_puts cI cJ h h_out (.int v_points) (.long v_faces) g2 g3 g4 g5 g6 g7 g8 g9 g10 g11 g12 g13 g14 g15 g16 g17 g18 g19 g20 g22 g24 g25 g26 v_out v_outs) (w_X9_puts cI cJ h h_out (.int v_points) (.long v_faces) g2 g3 g4 g5 g6 g7 g8 g9 g10 g11 g12 g13 g14 g15 g16 g17 g18 g19 g20 g22 g24 g25 g26 R1.1 R1.2) (w_X9_write cI cJ h h_out g2 g3 g4 g5 g6 g7 g8 g9 g10 g11 g12 g13 g14 g15 g16 g17 g18 g19 g20 g22 g24 g25 g26 v_points v_faces R1.1 R1.2) [0, 1] [] [0, 1] := ⟨rfl, rfl, rfl, by decide, by decide, by decide, by decide⟩
        refine hb_cv (hb_rV (As := [.int ((48 : Int32) + l2)]) (rest := []) C0 hK hA XT.nn hSt sp (c_X9_puts l D cI cJ h h_out (.int v_points) (.long v_faces) g2 g3 g4 g5 g6 g7 g8 g9 g10 g11 g12 g13 g14 g15 g16 g17 g18 g19 g20 g22 g24 g25 g26  ((48 : Int32) + l2) v_out v_outs R1 hR1) gX9_write_X9_puts rfl ⟨rfl, rfl⟩ hd_X9_puts ⟨Nat.le_of_ble_eq_true rfl, Nat.le_of_ble_eq_true rfl⟩ 0 8 rfl rfl rfl hl rfl (Nat.le_of_ble_eq_true rfl) dX9_write_73 ⟨Nat.zero_le _, Nat.zero_le _⟩) hA hSt sp (fun H locs hSt => ?_)
        refine lv_iinc (v := l2 + 1) (lv' := [(2, .int (l2 + 1)), (0, .ref h), (1, .int l1)]) hx hb dX9_write_76 hl (k := 2) rfl rfl (by decide) rfl (fun ls hl => ?_)
        refine lv_goto (tgt := 51) hx hb dX9_write_79 (by decide) ?_
        exact ih l1 (l2 + 1) R1.1 R1.2 _ _ _ hSt (lv_sub hl [1, 2, 0] rfl) hf
def f_X9_write_24 (v_points : Int32) (v_faces : Int64)  : Nat → Int32 → (Nat → Int32) → (Int32) → Option (Int32 × (Nat → Int32) × Int32)
  | 0, _, _, _ => none
  | n + 1, l1, v_out, v_outs => (f_X9_all v_points).bind (fun R1 => if R1 < l1 then some (v_outs, v_out, v_outs) else (f_X9_isGreatest v_points v_faces l1).bind (fun R2 => if R2 = 0 then (f_X9_write_24 v_points v_faces n) (l1 + 1) v_out v_outs else (f_X9_puts (32 : Int32) v_out v_outs).bind (fun R3 => f_X9_write_51 v_points v_faces (f_X9_write_24 v_points v_faces n) FU l1 (0 : Int32) R3.1 R3.2)))
set_option maxHeartbeats 4000000 in
set_option maxRecDepth 100000 in
theorem k_X9_write_24 {p : Program} {l : Launch} {e : Env} {s : State} {m : MethodId} {args : Array Value} {below : List Frame} {meth : Method} {c : Code} {A : Nat → Prop} {D : va_G} {cI cJ : ClassId} {h h_out : Nat} {g2 g3 g4 g5 g6 g7 g8 g9 g10 g11 g12 g13 g14 g15 g16 g17 g18 g19 g20 g22 g24 g25 g26 : Value} {v_points : Int32} {v_faces : Int64} (C0 : Cx p s m args meth c cX9_write wsX9_write RX9 3 (some .int)) (hK : va_K D vwCl (tyL cI cJ) s) (hA : ∀ q, s.heap.size ≤ q → A q) (hX : XT none A s s.heap) {Rr : Int32 × (Nat → Int32) × Int32} (n : Nat) : ∀ (l1 : Int32) (v_out : Nat → Int32) (v_outs : Int32) (H : Heap) (locs : List Loc) (ls : Array Slot), St D A s (w_X9_write cI cJ h h_out g2 g3 g4 g5 g6 g7 g8 g9 g10 g11 g12 g13 g14 g15 g16 g17 g18 g19 g20 g22 g24 g25 g26 v_points v_faces v_out v_outs) H locs → lv_has ls 3 [(0, .ref h), (1, .int l1)] → f_X9_write_24 v_points v_faces n l1 v_out v_outs = some Rr → W p l e rm_X9_write s m args below meth c H locs 0 0 (MQ below (QI D cI cJ A (w_X9_write cI cJ h h_out g2 g3 g4 g5 g6 g7 g8 g9 g10 g11 g12 g13 g14 g15 g16 g17 g18 g19 g20 g22 g24 g25 g26 v_points v_faces Rr.2.1 Rr.2.2) Rr.1) args s 0 0 A) (F0 m 24 ls []) := by
  have hx := C0.1.1
  have hb := C0.1.2.1
  induction n with
  | zero => intro l1 v_out v_outs H locs ls hSt hl hf; exact nomatch (show (none : Option _) = some Rr from hf)
  | succ n ih =>
    intro l1 v_out v_outs H locs ls hSt hl hf
    unfold f_X9_write_24 at hf
    refine lv_iload_n hx hb dX9_write_24 rfl (lv_at hl 1 rfl) ?_
    refine lv_aload_n hx hb dX9_write_25 rfl (lv_at hl 0 rfl) ?_
    obtain ⟨R1, hR1, hf⟩ := Option.bind_eq_some_iff.mp hf
    have sp : Sp (w_X9_write cI cJ h h_out g2 g3 g4 g5 g6 g7 g8 g9 g10 g11 g12 g13 g14 g15 g16 g17 g18 g19 g20 g22 g24 g25 g26 v_points v_faces v_out v_outs) (w_X9_all cI cJ h (.long v_faces) g2 g3 g4 g5 g6 g7 g8 g9 g10 g11 g12 g13 g14 g15 g16 g17 g18 g19 g20 (.ref h_out) g22 (.int v_outs) g24 g25 g26 v_points) (w_X9_all cI cJ h (.long v_faces) g2 g3 g4 g5 g6 g7 g8 g9 g10 g11 g12 g13 g14 g15 g16 g17 g18 g19 g20 (.ref h_out) g22 (.int v_outs) g24 g25 g26 v_points) (w_X9_write cI cJ h h_out g2 g3 g4 g5 g6 g7 g8 g9 g10 g11 g12 g13 g14 g15 g16 g17 g18 g19 g20 g22 g24 g25 g26 v_points v_faces v_out v_outs) [0] [1] [1, 0] := ⟨rfl, rfl, rfl, by decide, by decide, by decide, by decide⟩
    refine hb_ci (hb_rV (As := []) (rest := [.int l1]) C0 hK hA XT.nn hSt sp (c_X9_all l D cI cJ h (.long v_faces) g2 g3 g4 g5 g6 g7 g8 g9 g10 g11 g12 g13 g14 g15 g16 g17 g18 g19 g20 (.ref h_out) g22 (.int v_outs) g24 g25 g26   v_points R1 hR1) gX9_write_X9_all rfl ⟨rfl, rfl⟩ hd_X9_all ⟨Nat.le_of_ble_eq_true rfl, Nat.le_of_ble_eq_true rfl⟩ 0 8 rfl rfl rfl hl rfl (Nat.le_of_ble_eq_true rfl) dX9_write_26 ⟨Nat.zero_le _, Nat.zero_le _⟩) hA hSt sp (fun H locs hSt => ?_)
    refine lv_icmp_gt (tgt := 88) hx hb dX9_write_29 (by decide) (fun cc => ?_) (fun cc => ?_)
    · have hf := ite_t hf cc
      refine lv_aload_n hx hb dX9_write_88 rfl (lv_at hl 0 rfl) ?_
      refine hb_get C0 hK hSt 0 8 23 rfl rfl iu_X9_write_X9 (by decide) fl_X9_write_216 rfl dX9_write_89 ?_
      cases hf
      exact hb_iret C0 hK hSt dX9_write_92
    · have hf := ite_f hf cc
      refine lv_aload_n hx hb dX9_write_32 rfl (lv_at hl 0 rfl) ?_
      refine lv_iload_n hx hb dX9_write_33 rfl (lv_at hl 1 rfl) ?_
      obtain ⟨R2, hR2, hf⟩ := Option.bind_eq_some_iff.mp hf
      have sp : Sp (w_X9_write cI cJ h h_out g2 g3 g4 g5 g6 g7 g8 g9 g10 g11 g12 g13 g14 g15 g16 g17 g18 g19 g20 g22 g24 g25 g26 v_points v_faces v_out v_outs) (w_X9_isGreatest cI cJ h g2 g3 g4 g5 g6 g7 g8 g9 g10 g11 g12 g13 g14 g15 g16 g17 g18 g19 g20 (.ref h_out) g22 (.int v_outs) g24 g25 g26 v_points v_faces) (w_X9_isGreatest cI cJ h g2 g3 g4 g5 g6 g7 g8 g9 g10 g11 g12 g13 g14 g15 g16 g17 g18 g19 g20 (.ref h_out) g22 (.int v_outs) g24 g25 g26 v_points v_faces) (w_X9_write cI cJ h h_out g2 g3 g4 g5 g6 g7 g8 g9 g10 g11 g12 g13 g14 g15 g16 g17 g18 g19 g20 g22 g24 g25 g26 v_points v_faces v_out v_outs) [0] [1] [1, 0] := ⟨rfl, rfl, rfl, by decide, by decide, by decide, by decide⟩
      refine hb_ci (hb_rV (As := [.int l1]) (rest := []) C0 hK hA XT.nn hSt sp (c_X9_isGreatest l D cI cJ h g2 g3 g4 g5 g6 g7 g8 g9 g10 g11 g12 g13 g14 g15 g16 g17 g18 g19 g20 (.ref h_out) g22 (.int v_outs) g24 g25 g26  l1 v_points v_faces R2 hR2) gX9_write_X9_isGreatest rfl ⟨rfl, rfl⟩ hd_X9_isGreatest ⟨Nat.le_of_ble_eq_true rfl, Nat.le_of_ble_eq_true rfl⟩ 0 8 rfl rfl rfl hl rfl (Nat.le_of_ble_eq_true rfl) dX9_write_34 ⟨Nat.zero_le _, Nat.zero_le _⟩) hA hSt sp (fun H locs hSt => ?_)
      refine lv_if_ne (tgt := 43) hx hb dX9_write_37 (by decide) (fun cc => ?_) (fun cc => ?_)
      · have hf := ite_f hf cc
        refine lv_aload_n hx hb dX9_write_43 rfl (lv_at hl 0 rfl) ?_
        refine lv_bipush (v := 32) hx hb dX9_write_44 (by decide) ?_
        obtain ⟨R3, hR3, hf⟩ := Option.bind_eq_some_iff.mp hf
        have sp : Sp (w_X9_write cI cJ h h_out g2 g3 g4 g5 g6 g7 g8 g9 g10 g11 g12 g13 g14 g15 g16 g17 g18 g19 g20 g22 g24 g25 g26 v_points v_faces v_out v_outs) (w_X9_puts cI cJ h h_out (.int v_points) (.long v_faces) g2 g3 g4 g5 g6 g7 g8 g9 g10 g11 g12 g13 g14 g15 g16 g17 g18 g19 g20 g22 g24 g25 g26 v_out v_outs) (w_X9_puts cI cJ h h_out (.int v_points) (.long v_faces) g2 g3 g4 g5 g6 g7 g8 g9 g10 g11 g12 g13 g14 g15 g16 g17 g18 g19 g20 g22 g24 g25 g26 R3.1 R3.2) (w_X9_write cI cJ h h_out g2 g3 g4 g5 g6 g7 g8 g9 g10 g11 g12 g13 g14 g15 g16 g17 g18 g19 g20 g22 g24 g25 g26 v_points v_faces R3.1 R3.2) [0, 1] [] [0, 1] := ⟨rfl, rfl, rfl, by decide, by decide, by decide, by decide⟩
        refine hb_cv (hb_rV (As := [.int (32 : Int32)]) (rest := []) C0 hK hA XT.nn hSt sp (c_X9_puts l D cI cJ h h_out (.int v_points) (.long v_faces) g2 g3 g4 g5 g6 g7 g8 g9 g10 g11 g12 g13 g14 g15 g16 g17 g18 g19 g20 g22 g24 g25 g26  (32 : Int32) v_out v_outs R3 hR3) gX9_write_X9_puts rfl ⟨rfl, rfl⟩ hd_X9_puts ⟨Nat.le_of_ble_eq_true rfl, Nat.le_of_ble_eq_true rfl⟩ 0 8 rfl rfl rfl hl rfl (Nat.le_of_ble_eq_true rfl) dX9_write_46 ⟨Nat.zero_le _, Nat.zero_le _⟩) hA hSt sp (fun H locs hSt => ?_)
        refine lv_iconst (v := 0) hx hb dX9_write_49 (by decide) ?_
        refine lv_istore_n (lv' := [(2, .int (0 : Int32)), (0, .ref h), (1, .int l1)]) hx hb dX9_write_50 rfl hl (by decide) rfl (fun ls hl => ?_)
        exact k_X9_write_51 C0 hK hA hX ih FU l1 (0 : Int32) R3.1 R3.2 _ _ _ hSt (lv_sub hl [1, 2, 0] rfl) hf
      · have hf := ite_t hf cc
        refine lv_goto (tgt := 82) hx hb dX9_write_40 (by decide) ?_
        refine lv_iinc (v := l1 + 1) (lv' := [(1, .int (l1 + 1)), (0, .ref h)]) hx hb dX9_write_82 hl (k := 1) rfl rfl (by decide) rfl (fun ls hl => ?_)
        refine lv_goto (tgt := 24) hx hb dX9_write_85 (by decide) ?_
        exact ih (l1 + 1) v_out v_outs _ _ _ hSt (lv_sub hl [1, 0] rfl) hf
def f_X9_write_0 (v_points : Int32) (v_faces : Int64)   (v_out : Nat → Int32) (v_outs : Int32) : Option (Int32 × (Nat → Int32) × Int32) := (f_X9_puts ((48 : Int32) + v_points) v_out (0 : Int32)).bind (fun R1 => (f_X9_puts (58 : Int32) R1.1 R1.2).bind (fun R2 => f_X9_write_24 v_points v_faces  FU (1 : Int32) R2.1 R2.2))
set_option maxHeartbeats 4000000 in
set_option maxRecDepth 100000 in
theorem k_X9_write_0 {p : Program} {l : Launch} {e : Env} {s : State} {m : MethodId} {args : Array Value} {below : List Frame} {meth : Method} {c : Code} {A : Nat → Prop} {D : va_G} {cI cJ : ClassId} {h h_out : Nat} {g2 g3 g4 g5 g6 g7 g8 g9 g10 g11 g12 g13 g14 g15 g16 g17 g18 g19 g20 g22 g24 g25 g26 : Value} {v_points : Int32} {v_faces : Int64} (C0 : Cx p s m args meth c cX9_write wsX9_write RX9 3 (some .int)) (hK : va_K D vwCl (tyL cI cJ) s) (hA : ∀ q, s.heap.size ≤ q → A q) (hX : XT none A s s.heap) {Rr : Int32 × (Nat → Int32) × Int32} : ∀  (v_out : Nat → Int32) (v_outs : Int32) (H : Heap) (locs : List Loc) (ls : Array Slot), St D A s (w_X9_write cI cJ h h_out g2 g3 g4 g5 g6 g7 g8 g9 g10 g11 g12 g13 g14 g15 g16 g17 g18 g19 g20 g22 g24 g25 g26 v_points v_faces v_out v_outs) H locs → lv_has ls 3 [(0, .ref h)] → f_X9_write_0 v_points v_faces v_out v_outs = some Rr → W p l e rm_X9_write s m args below meth c H locs 0 0 (MQ below (QI D cI cJ A (w_X9_write cI cJ h h_out g2 g3 g4 g5 g6 g7 g8 g9 g10 g11 g12 g13 g14 g15 g16 g17 g18 g19 g20 g22 g24 g25 g26 v_points v_faces Rr.2.1 Rr.2.2) Rr.1) args s 0 0 A) (F0 m 0 ls []) := by
  have hx := C0.1.1
  have hb := C0.1.2.1
  intro v_out v_outs H locs ls hSt hl hf
  unfold f_X9_write_0 at hf
  refine lv_aload_n hx hb dX9_write_0 rfl (lv_at hl 0 rfl) ?_
  refine lv_iconst (v := 0) hx hb dX9_write_1 (by decide) ?_
  refine hb_put C0 hK hSt 0 8 23 rfl rfl iu_X9_write_X9 tyX9 tyX9_ok nmX9 (by decide) fl_X9_write_216 rfl rfl rfl (Nat.le_of_ble_eq_true rfl) (w' := w_X9_write cI cJ h h_out g2 g3 g4 g5 g6 g7 g8 g9 g10 g11 g12 g13 g14 g15 g16 g17 g18 g19 g20 g22 g24 g25 g26 v_points v_faces v_out (0 : Int32)) rfl dX9_write_2 (fun H locs hSt => ?_)
  refine lv_aload_n hx hb dX9_write_5 rfl (lv_at hl 0 rfl) ?_
  refine lv_bipush (v := 48) hx hb dX9_write_6 (by decide) ?_
  refine lv_aload_n hx hb dX9_write_8 rfl (lv_at hl 0 rfl) ?_
  refine hb_get C0 hK hSt 0 8 0 rfl rfl iu_X9_write_X9 (by decide) fl_X9_write_7 rfl dX9_write_9 ?_
  refine lv_iadd hx hb dX9_write_12 ?_
  obtain ⟨R1, hR1, hf⟩ := Option.bind_eq_some_iff.mp hf
  have sp : Sp (w_X9_write cI cJ h h_out g2 g3 g4 g5 g6 g7 g8 g9 g10 g11 g12 g13 g14 g15 g16 g17 g18 g19 g20 g22 g24 g25 g26 v_points v_faces v_out (0 : Int32)) (w_X9_puts cI cJ h h_out (.int v_points) (.long v_faces) g2 g3 g4 g5 g6 g7 g8 g9 g10 g11 g12 g13 g14 g15 g16 g17 g18 g19 g20 g22 g24 g25 g26 v_out (0 : Int32)) (w_X9_puts cI cJ h h_out (.int v_points) (.long v_faces) g2 g3 g4 g5 g6 g7 g8 g9 g10 g11 g12 g13 g14 g15 g16 g17 g18 g19 g20 g22 g24 g25 g26 R1.1 R1.2) (w_X9_write cI cJ h h_out g2 g3 g4 g5 g6 g7 g8 g9 g10 g11 g12 g13 g14 g15 g16 g17 g18 g19 g20 g22 g24 g25 g26 v_points v_faces R1.1 R1.2) [0, 1] [] [0, 1] := ⟨rfl, rfl, rfl, by decide, by decide, by decide, by decide⟩
  refine hb_cv (hb_rV (As := [.int ((48 : Int32) + v_points)]) (rest := []) C0 hK hA XT.nn hSt sp (c_X9_puts l D cI cJ h h_out (.int v_points) (.long v_faces) g2 g3 g4 g5 g6 g7 g8 g9 g10 g11 g12 g13 g14 g15 g16 g17 g18 g19 g20 g22 g24 g25 g26  ((48 : Int32) + v_points) v_out (0 : Int32) R1 hR1) gX9_write_X9_puts rfl ⟨rfl, rfl⟩ hd_X9_puts ⟨Nat.le_of_ble_eq_true rfl, Nat.le_of_ble_eq_true rfl⟩ 0 8 rfl rfl rfl hl rfl (Nat.le_of_ble_eq_true rfl) dX9_write_13 ⟨Nat.zero_le _, Nat.zero_le _⟩) hA hSt sp (fun H locs hSt => ?_)
  refine lv_aload_n hx hb dX9_write_16 rfl (lv_at hl 0 rfl) ?_
  refine lv_bipush (v := 58) hx hb dX9_write_17 (by decide) ?_
  obtain ⟨R2, hR2, hf⟩ := Option.bind_eq_some_iff.mp hf
  have sp : Sp (w_X9_write cI cJ h h_out g2 g3 g4 g5 g6 g7 g8 g9 g10 g11 g12 g13 g14 g15 g16 g17 g18 g19 g20 g22 g24 g25 g26 v_points v_faces R1.1 R1.2) (w_X9_puts cI cJ h h_out (.int v_points) (.long v_faces) g2 g3 g4 g5 g6 g7 g8 g9 g10 g11 g12 g13 g14 g15 g16 g17 g18 g19 g20 g22 g24 g25 g26 R1.1 R1.2) (w_X9_puts cI cJ h h_out (.int v_points) (.long v_faces) g2 g3 g4 g5 g6 g7 g8 g9 g10 g11 g12 g13 g14 g15 g16 g17 g18 g19 g20 g22 g24 g25 g26 R2.1 R2.2) (w_X9_write cI cJ h h_out g2 g3 g4 g5 g6 g7 g8 g9 g10 g11 g12 g13 g14 g15 g16 g17 g18 g19 g20 g22 g24 g25 g26 v_points v_faces R2.1 R2.2) [0, 1] [] [0, 1] := ⟨rfl, rfl, rfl, by decide, by decide, by decide, by decide⟩
  refine hb_cv (hb_rV (As := [.int (58 : Int32)]) (rest := []) C0 hK hA XT.nn hSt sp (c_X9_puts l D cI cJ h h_out (.int v_points) (.long v_faces) g2 g3 g4 g5 g6 g7 g8 g9 g10 g11 g12 g13 g14 g15 g16 g17 g18 g19 g20 g22 g24 g25 g26  (58 : Int32) R1.1 R1.2 R2 hR2) gX9_write_X9_puts rfl ⟨rfl, rfl⟩ hd_X9_puts ⟨Nat.le_of_ble_eq_true rfl, Nat.le_of_ble_eq_true rfl⟩ 0 8 rfl rfl rfl hl rfl (Nat.le_of_ble_eq_true rfl) dX9_write_19 ⟨Nat.zero_le _, Nat.zero_le _⟩) hA hSt sp (fun H locs hSt => ?_)
  refine lv_iconst (v := 1) hx hb dX9_write_22 (by decide) ?_
  refine lv_istore_n (lv' := [(1, .int (1 : Int32)), (0, .ref h)]) hx hb dX9_write_23 rfl hl (by decide) rfl (fun ls hl => ?_)
  exact k_X9_write_24 C0 hK hA hX  FU (1 : Int32) R2.1 R2.2 _ _ _ hSt (lv_sub hl [1, 0] rfl) hf
def f_X9_write (v_points : Int32) (v_faces : Int64)  (v_out : Nat → Int32) (v_outs : Int32) : Option (Int32 × (Nat → Int32) × Int32) := f_X9_write_0 v_points v_faces v_out v_outs
set_option maxRecDepth 100000 in
theorem c_X9_write (l : Launch) (D : va_G) (cI cJ : ClassId) (h h_out : Nat) (g2 g3 g4 g5 g6 g7 g8 g9 g10 g11 g12 g13 g14 g15 g16 g17 g18 g19 g20 g22 g24 g25 g26 : Value)  (v_points : Int32) (v_faces : Int64) (v_out : Nat → Int32) (v_outs : Int32) (Rr : Int32 × (Nat → Int32) × Int32) (hf : f_X9_write v_points v_faces v_out v_outs = some Rr) : CtI l yX9_write wsX9_write rm_X9_write D cI cJ none [.ref h] (w_X9_write cI cJ h h_out g2 g3 g4 g5 g6 g7 g8 g9 g10 g11 g12 g13 g14 g15 g16 g17 g18 g19 g20 g22 g24 g25 g26 v_points v_faces v_out v_outs) Rr.1 (w_X9_write cI cJ h h_out g2 g3 g4 g5 g6 g7 g8 g9 g10 g11 g12 g13 g14 g15 g16 g17 g18 g19 g20 g22 g24 g25 g26 v_points v_faces Rr.2.1 Rr.2.2) :=
  fun sz => BodyW.met (av := [.ref h]) (Qc := fun A => QI D cI cJ A (w_X9_write cI cJ h h_out g2 g3 g4 g5 g6 g7 g8 g9 g10 g11 g12 g13 g14 g15 g16 g17 g18 g19 g20 g22 g24 g25 g26 v_points v_faces Rr.2.1 Rr.2.2) Rr.1) (by decide) rfl rfl (Nat.le_of_ble_eq_true rfl) (fun C0 hK hA hX ls hSt hl => k_X9_write_0 C0 hK hA hX  v_out v_outs _ _ ls hSt hl hf) sz
/-! X9 out -/
abbrev rm_X9_out : Room := { frames := 1, cells := 0, slots := 0, locals := 22 }
abbrev w_X9_out (cI cJ : ClassId) (h : Nat) (h_out : Nat) (g0 : Value) (g1 : Value) (g2 : Value) (g3 : Value) (g4 : Value) (g5 : Value) (g6 : Value) (g7 : Value) (g8 : Value) (g9 : Value) (g10 : Value) (g11 : Value) (g12 : Value) (g13 : Value) (g14 : Value) (g15 : Value) (g16 : Value) (g17 : Value) (g18 : Value) (g19 : Value) (g20 : Value) (g22 : Value) (g24 : Value) (g25 : Value) (g26 : Value) (v_out : Nat → Int32) (v_outs : Int32) : va_W := [(h, .inr (8, [g0, g1, g2, g3, g4, g5, g6, g7, g8, g9, g10, g11, g12, g13, g14, g15, g16, g17, g18, g19, g20, .ref h_out, g22, .int v_outs, g24, g25, g26])), (h_out, .inl (cI, 200, .inl v_out))]
theorem iu_X9_out_X9 : ∀ w ∈ wsX90, w ∈ wsX9_out := by decide +kernel
theorem fl_X9_out_49 : Cond.fieldLink RX9 49 (TX9 21).1 (TX9 21).2.1 (TX9 21).2.2.1 ∈ wsX9_out := by decide +kernel
theorem fl_X9_out_216 : Cond.fieldLink RX9 216 (TX9 23).1 (TX9 23).2.1 (TX9 23).2.2.1 ∈ wsX9_out := by decide +kernel
theorem hd_X9_out : yX9_out.cls = RX9 ∧ yX9_out.cls ≠ "java/lang/invoke/MethodHandle" ∧ yX9_out.cls ≠ "java/lang/invoke/VarHandle" ∧ (parseMethodDescriptor yX9_out.desc).map (fun d => d.parameters.length) = some 1 := by decide +kernel
def f_X9_out_0 (v_out : Nat → Int32) (v_outs : Int32)  (l1 : Int32)  : Option (Int32) := (f_X9_isIn l1 (0 : Int32) (v_outs - (1 : Int32))).bind (fun R1 => if R1 = 0 then some (-1 : Int32) else gd (ix l1 200) (some (v_out l1.toNatClampNeg)))
set_option maxHeartbeats 4000000 in
set_option maxRecDepth 100000 in
theorem k_X9_out_0 {p : Program} {l : Launch} {e : Env} {s : State} {m : MethodId} {args : Array Value} {below : List Frame} {meth : Method} {c : Code} {A : Nat → Prop} {D : va_G} {cI cJ : ClassId} {h h_out : Nat} {g0 g1 g2 g3 g4 g5 g6 g7 g8 g9 g10 g11 g12 g13 g14 g15 g16 g17 g18 g19 g20 g22 g24 g25 g26 : Value} {v_out : Nat → Int32} {v_outs : Int32} (C0 : Cx p s m args meth c cX9_out wsX9_out RX9 2 (some .int)) (hK : va_K D vwCl (tyL cI cJ) s) (hA : ∀ q, s.heap.size ≤ q → A q) (hX : XT none A s s.heap) {Rr : Int32} : ∀ (l1 : Int32)  (H : Heap) (locs : List Loc) (ls : Array Slot), St D A s (w_X9_out cI cJ h h_out g0 g1 g2 g3 g4 g5 g6 g7 g8 g9 g10 g11 g12 g13 g14 g15 g16 g17 g18 g19 g20 g22 g24 g25 g26 v_out v_outs) H locs → lv_has ls 2 [(0, .ref h), (1, .int l1)] → f_X9_out_0 v_out v_outs l1 = some Rr → W p l e rm_X9_out s m args below meth c H locs 0 0 (MQ below (QI D cI cJ A (w_X9_out cI cJ h h_out g0 g1 g2 g3 g4 g5 g6 g7 g8 g9 g10 g11 g12 g13 g14 g15 g16 g17 g18 g19 g20 g22 g24 g25 g26 v_out v_outs) Rr) args s 0 0 A) (F0 m 0 ls []) := by
  have hx := C0.1.1
  have hb := C0.1.2.1
  intro l1 H locs ls hSt hl hf
  unfold f_X9_out_0 at hf
  refine lv_iload_n hx hb dX9_out_0 rfl (lv_at hl 1 rfl) ?_
  refine lv_iconst (v := 0) hx hb dX9_out_1 (by decide) ?_
  refine lv_aload_n hx hb dX9_out_2 rfl (lv_at hl 0 rfl) ?_
  refine hb_get C0 hK hSt 0 8 23 rfl rfl iu_X9_out_X9 (by decide) fl_X9_out_216 rfl dX9_out_3 ?_
  refine lv_iconst (v := 1) hx hb dX9_out_6 (by decide) ?_
  refine lv_isub hx hb dX9_out_7 ?_
  obtain ⟨R1, hR1, hf⟩ := Option.bind_eq_some_iff.mp hf
  have sp : Sp (w_X9_out cI cJ h h_out g0 g1 g2 g3 g4 g5 g6 g7 g8 g9 g10 g11 g12 g13 g14 g15 g16 g17 g18 g19 g20 g22 g24 g25 g26 v_out v_outs) (w_X9_isIn cI cJ) (w_X9_isIn cI cJ) (w_X9_out cI cJ h h_out g0 g1 g2 g3 g4 g5 g6 g7 g8 g9 g10 g11 g12 g13 g14 g15 g16 g17 g18 g19 g20 g22 g24 g25 g26 v_out v_outs) [] [0, 1] [0, 1] := ⟨rfl, rfl, rfl, by decide, by decide, by decide, by decide⟩
  refine hb_ci (hb_rS (As := [.int l1, .int (0 : Int32), .int (v_outs - (1 : Int32))]) (rest := []) C0 hK hA XT.nn hSt sp (c_X9_isIn l D cI cJ   l1 (0 : Int32) (v_outs - (1 : Int32))  R1 hR1) gX9_out_X9_isIn rfl ⟨rfl, rfl⟩ hd_X9_isIn ⟨Nat.le_of_ble_eq_true rfl, Nat.le_of_ble_eq_true rfl⟩ rfl hl rfl (Nat.le_of_ble_eq_true rfl) dX9_out_8 ⟨Nat.zero_le _, Nat.zero_le _⟩) hA hSt sp (fun H locs hSt => ?_)
  refine lv_if_eq (tgt := 23) hx hb dX9_out_11 (by decide) (fun cc => ?_) (fun cc => ?_)
  · have hf := ite_t hf cc
    refine lv_iconst (v := -1) hx hb dX9_out_23 (by decide) ?_
    cases hf
    exact hb_iret C0 hK hSt dX9_out_24
  · have hf := ite_f hf cc
    refine lv_aload_n hx hb dX9_out_14 rfl (lv_at hl 0 rfl) ?_
    refine hb_get C0 hK hSt 0 8 21 rfl rfl iu_X9_out_X9 (by decide) fl_X9_out_49 rfl dX9_out_15 ?_
    refine lv_iload_n hx hb dX9_out_18 rfl (lv_at hl 1 rfl) ?_
    obtain ⟨hi, hf⟩ := gd_t hf
    refine hb_iald C0 hK hSt 1 rfl hi dX9_out_19 ?_
    refine lv_goto (tgt := 24) hx hb dX9_out_20 (by decide) ?_
    cases hf
    exact hb_iret C0 hK hSt dX9_out_24
def f_X9_out (v_out : Nat → Int32) (v_outs : Int32) (l1 : Int32)  : Option (Int32) := f_X9_out_0 v_out v_outs l1
set_option maxRecDepth 100000 in
theorem c_X9_out (l : Launch) (D : va_G) (cI cJ : ClassId) (h h_out : Nat) (g0 g1 g2 g3 g4 g5 g6 g7 g8 g9 g10 g11 g12 g13 g14 g15 g16 g17 g18 g19 g20 g22 g24 g25 g26 : Value) (l1 : Int32) (v_out : Nat → Int32) (v_outs : Int32) (Rr : Int32) (hf : f_X9_out v_out v_outs l1 = some Rr) : CtI l yX9_out wsX9_out rm_X9_out D cI cJ none [.ref h, .int l1] (w_X9_out cI cJ h h_out g0 g1 g2 g3 g4 g5 g6 g7 g8 g9 g10 g11 g12 g13 g14 g15 g16 g17 g18 g19 g20 g22 g24 g25 g26 v_out v_outs) Rr (w_X9_out cI cJ h h_out g0 g1 g2 g3 g4 g5 g6 g7 g8 g9 g10 g11 g12 g13 g14 g15 g16 g17 g18 g19 g20 g22 g24 g25 g26 v_out v_outs) :=
  fun sz => BodyW.met (av := [.ref h, .int l1]) (Qc := fun A => QI D cI cJ A (w_X9_out cI cJ h h_out g0 g1 g2 g3 g4 g5 g6 g7 g8 g9 g10 g11 g12 g13 g14 g15 g16 g17 g18 g19 g20 g22 g24 g25 g26 v_out v_outs) Rr) (by decide) rfl rfl (Nat.le_of_ble_eq_true rfl) (fun C0 hK hA hX ls hSt hl => k_X9_out_0 C0 hK hA hX l1  _ _ ls hSt hl hf) sz
/-! X9 take -/
abbrev rm_X9_take : Room := { frames := 0, cells := 0, slots := 0, locals := 0 }
abbrev w_X9_take (cI cJ : ClassId) (h : Nat) (h_tape : Nat) (h_out : Nat) (g0 : Value) (g1 : Value) (g2 : Value) (g3 : Value) (g4 : Value) (g5 : Value) (g6 : Value) (g7 : Value) (g8 : Value) (g9 : Value) (g10 : Value) (g11 : Value) (g12 : Value) (g13 : Value) (g14 : Value) (g15 : Value) (g16 : Value) (g17 : Value) (g18 : Value) (g19 : Value) (g24 : Value) (g25 : Value) (g26 : Value) (v_out : Nat → Int32) (v_outs : Int32) (v_tape : Nat → Int32) (v_taped : Int32) : va_W := [(h, .inr (8, [g0, g1, g2, g3, g4, g5, g6, g7, g8, g9, g10, g11, g12, g13, g14, g15, g16, g17, g18, g19, .ref h_tape, .ref h_out, .int v_taped, .int v_outs, g24, g25, g26])), (h_tape, .inl (cI, 200, .inl v_tape)), (h_out, .inl (cI, 200, .inl v_out))]
theorem iu_X9_take_X9 : ∀ w ∈ wsX90, w ∈ wsX9_take := by decide +kernel
theorem fl_X9_take_46 : Cond.fieldLink RX9 46 (TX9 20).1 (TX9 20).2.1 (TX9 20).2.2.1 ∈ wsX9_take := by decide +kernel
theorem fl_X9_take_49 : Cond.fieldLink RX9 49 (TX9 21).1 (TX9 21).2.1 (TX9 21).2.2.1 ∈ wsX9_take := by decide +kernel
theorem fl_X9_take_198 : Cond.fieldLink RX9 198 (TX9 22).1 (TX9 22).2.1 (TX9 22).2.2.1 ∈ wsX9_take := by decide +kernel
theorem fl_X9_take_216 : Cond.fieldLink RX9 216 (TX9 23).1 (TX9 23).2.1 (TX9 23).2.2.1 ∈ wsX9_take := by decide +kernel
theorem hd_X9_take : yX9_take.cls = RX9 ∧ yX9_take.cls ≠ "java/lang/invoke/MethodHandle" ∧ yX9_take.cls ≠ "java/lang/invoke/VarHandle" ∧ (parseMethodDescriptor yX9_take.desc).map (fun d => d.parameters.length) = some 0 := by decide +kernel
def f_X9_take_10 (v_out : Nat → Int32) (v_outs : Int32)  : Nat → Int32 → (Nat → Int32) → (Int32) → Option (Int32 × (Nat → Int32) × Int32)
  | 0, _, _, _ => none
  | n + 1, l1, v_tape, v_taped => if v_outs ≤ l1 then some (v_outs, v_tape, v_taped) else gd (ix l1 200) (gd (ix l1 200) ((f_X9_take_10 v_out v_outs n) (l1 + 1) (upd v_tape l1.toNatClampNeg (v_out l1.toNatClampNeg)) v_taped))
set_option maxHeartbeats 4000000 in
set_option maxRecDepth 100000 in
theorem k_X9_take_10 {p : Program} {l : Launch} {e : Env} {s : State} {m : MethodId} {args : Array Value} {below : List Frame} {meth : Method} {c : Code} {A : Nat → Prop} {D : va_G} {cI cJ : ClassId} {h h_tape h_out : Nat} {g0 g1 g2 g3 g4 g5 g6 g7 g8 g9 g10 g11 g12 g13 g14 g15 g16 g17 g18 g19 g24 g25 g26 : Value} {v_out : Nat → Int32} {v_outs : Int32} (C0 : Cx p s m args meth c cX9_take wsX9_take RX9 2 (some .int)) (hK : va_K D vwCl (tyL cI cJ) s) (hA : ∀ q, s.heap.size ≤ q → A q) (hX : XT none A s s.heap) {Rr : Int32 × (Nat → Int32) × Int32} (n : Nat) : ∀ (l1 : Int32) (v_tape : Nat → Int32) (v_taped : Int32) (H : Heap) (locs : List Loc) (ls : Array Slot), St D A s (w_X9_take cI cJ h h_tape h_out g0 g1 g2 g3 g4 g5 g6 g7 g8 g9 g10 g11 g12 g13 g14 g15 g16 g17 g18 g19 g24 g25 g26 v_out v_outs v_tape v_taped) H locs → lv_has ls 2 [(0, .ref h), (1, .int l1)] → f_X9_take_10 v_out v_outs n l1 v_tape v_taped = some Rr → W p l e rm_X9_take s m args below meth c H locs 0 0 (MQ below (QI D cI cJ A (w_X9_take cI cJ h h_tape h_out g0 g1 g2 g3 g4 g5 g6 g7 g8 g9 g10 g11 g12 g13 g14 g15 g16 g17 g18 g19 g24 g25 g26 v_out v_outs Rr.2.1 Rr.2.2) Rr.1) args s 0 0 A) (F0 m 10 ls []) := by
  have hx := C0.1.1
  have hb := C0.1.2.1
  induction n with
  | zero => intro l1 v_tape v_taped H locs ls hSt hl hf; exact nomatch (show (none : Option _) = some Rr from hf)
  | succ n ih =>
    intro l1 v_tape v_taped H locs ls hSt hl hf
    unfold f_X9_take_10 at hf
    refine lv_iload_n hx hb dX9_take_10 rfl (lv_at hl 1 rfl) ?_
    refine lv_aload_n hx hb dX9_take_11 rfl (lv_at hl 0 rfl) ?_
    refine hb_get C0 hK hSt 0 8 23 rfl rfl iu_X9_take_X9 (by decide) fl_X9_take_216 rfl dX9_take_12 ?_
    refine lv_icmp_ge (tgt := 36) hx hb dX9_take_15 (by decide) (fun cc => ?_) (fun cc => ?_)
    · have hf := ite_t hf cc
      refine lv_aload_n hx hb dX9_take_36 rfl (lv_at hl 0 rfl) ?_
      refine hb_get C0 hK hSt 0 8 23 rfl rfl iu_X9_take_X9 (by decide) fl_X9_take_216 rfl dX9_take_37 ?_
      cases hf
      exact hb_iret C0 hK hSt dX9_take_40
    · have hf := ite_f hf cc
      refine lv_aload_n hx hb dX9_take_18 rfl (lv_at hl 0 rfl) ?_
      refine hb_get C0 hK hSt 0 8 20 rfl rfl iu_X9_take_X9 (by decide) fl_X9_take_46 rfl dX9_take_19 ?_
      refine lv_iload_n hx hb dX9_take_22 rfl (lv_at hl 1 rfl) ?_
      refine lv_aload_n hx hb dX9_take_23 rfl (lv_at hl 0 rfl) ?_
      refine hb_get C0 hK hSt 0 8 21 rfl rfl iu_X9_take_X9 (by decide) fl_X9_take_49 rfl dX9_take_24 ?_
      refine lv_iload_n hx hb dX9_take_27 rfl (lv_at hl 1 rfl) ?_
      obtain ⟨hi, hf⟩ := gd_t hf
      refine hb_iald C0 hK hSt 2 rfl hi dX9_take_28 ?_
      obtain ⟨hi, hf⟩ := gd_t hf
      refine hb_iast C0 hK hSt 1 rfl hi (w' := w_X9_take cI cJ h h_tape h_out g0 g1 g2 g3 g4 g5 g6 g7 g8 g9 g10 g11 g12 g13 g14 g15 g16 g17 g18 g19 g24 g25 g26 v_out v_outs (upd v_tape l1.toNatClampNeg (v_out l1.toNatClampNeg)) v_taped) rfl dX9_take_29 (fun H locs hSt => ?_)
      refine lv_iinc (v := l1 + 1) (lv' := [(1, .int (l1 + 1)), (0, .ref h)]) hx hb dX9_take_30 hl (k := 1) rfl rfl (by decide) rfl (fun ls hl => ?_)
      refine lv_goto (tgt := 10) hx hb dX9_take_33 (by decide) ?_
      exact ih (l1 + 1) (upd v_tape l1.toNatClampNeg (v_out l1.toNatClampNeg)) v_taped _ _ _ hSt (lv_sub hl [1, 0] rfl) hf
def f_X9_take_0 (v_out : Nat → Int32) (v_outs : Int32)   (v_tape : Nat → Int32) (v_taped : Int32) : Option (Int32 × (Nat → Int32) × Int32) := f_X9_take_10 v_out v_outs  FU (0 : Int32) v_tape v_outs
set_option maxHeartbeats 4000000 in
set_option maxRecDepth 100000 in
theorem k_X9_take_0 {p : Program} {l : Launch} {e : Env} {s : State} {m : MethodId} {args : Array Value} {below : List Frame} {meth : Method} {c : Code} {A : Nat → Prop} {D : va_G} {cI cJ : ClassId} {h h_tape h_out : Nat} {g0 g1 g2 g3 g4 g5 g6 g7 g8 g9 g10 g11 g12 g13 g14 g15 g16 g17 g18 g19 g24 g25 g26 : Value} {v_out : Nat → Int32} {v_outs : Int32} (C0 : Cx p s m args meth c cX9_take wsX9_take RX9 2 (some .int)) (hK : va_K D vwCl (tyL cI cJ) s) (hA : ∀ q, s.heap.size ≤ q → A q) (hX : XT none A s s.heap) {Rr : Int32 × (Nat → Int32) × Int32} : ∀  (v_tape : Nat → Int32) (v_taped : Int32) (H : Heap) (locs : List Loc) (ls : Array Slot), St D A s (w_X9_take cI cJ h h_tape h_out g0 g1 g2 g3 g4 g5 g6 g7 g8 g9 g10 g11 g12 g13 g14 g15 g16 g17 g18 g19 g24 g25 g26 v_out v_outs v_tape v_taped) H locs → lv_has ls 2 [(0, .ref h)] → f_X9_take_0 v_out v_outs v_tape v_taped = some Rr → W p l e rm_X9_take s m args below meth c H locs 0 0 (MQ below (QI D cI cJ A (w_X9_take cI cJ h h_tape h_out g0 g1 g2 g3 g4 g5 g6 g7 g8 g9 g10 g11 g12 g13 g14 g15 g16 g17 g18 g19 g24 g25 g26 v_out v_outs Rr.2.1 Rr.2.2) Rr.1) args s 0 0 A) (F0 m 0 ls []) := by
  have hx := C0.1.1
  have hb := C0.1.2.1
  intro v_tape v_taped H locs ls hSt hl hf
  unfold f_X9_take_0 at hf
  refine lv_aload_n hx hb dX9_take_0 rfl (lv_at hl 0 rfl) ?_
  refine lv_aload_n hx hb dX9_take_1 rfl (lv_at hl 0 rfl) ?_
  refine hb_get C0 hK hSt 0 8 23 rfl rfl iu_X9_take_X9 (by decide) fl_X9_take_216 rfl dX9_take_2 ?_
  refine hb_put C0 hK hSt 0 8 22 rfl rfl iu_X9_take_X9 tyX9 tyX9_ok nmX9 (by decide) fl_X9_take_198 rfl rfl rfl (Nat.le_of_ble_eq_true rfl) (w' := w_X9_take cI cJ h h_tape h_out g0 g1 g2 g3 g4 g5 g6 g7 g8 g9 g10 g11 g12 g13 g14 g15 g16 g17 g18 g19 g24 g25 g26 v_out v_outs v_tape v_outs) rfl dX9_take_5 (fun H locs hSt => ?_)
  refine lv_iconst (v := 0) hx hb dX9_take_8 (by decide) ?_
  refine lv_istore_n (lv' := [(1, .int (0 : Int32)), (0, .ref h)]) hx hb dX9_take_9 rfl hl (by decide) rfl (fun ls hl => ?_)
  exact k_X9_take_10 C0 hK hA hX  FU (0 : Int32) v_tape v_outs _ _ _ hSt (lv_sub hl [1, 0] rfl) hf
def f_X9_take (v_out : Nat → Int32) (v_outs : Int32)  (v_tape : Nat → Int32) (v_taped : Int32) : Option (Int32 × (Nat → Int32) × Int32) := f_X9_take_0 v_out v_outs v_tape v_taped
set_option maxRecDepth 100000 in
theorem c_X9_take (l : Launch) (D : va_G) (cI cJ : ClassId) (h h_tape h_out : Nat) (g0 g1 g2 g3 g4 g5 g6 g7 g8 g9 g10 g11 g12 g13 g14 g15 g16 g17 g18 g19 g24 g25 g26 : Value)  (v_out : Nat → Int32) (v_outs : Int32) (v_tape : Nat → Int32) (v_taped : Int32) (Rr : Int32 × (Nat → Int32) × Int32) (hf : f_X9_take v_out v_outs v_tape v_taped = some Rr) : CtI l yX9_take wsX9_take rm_X9_take D cI cJ none [.ref h] (w_X9_take cI cJ h h_tape h_out g0 g1 g2 g3 g4 g5 g6 g7 g8 g9 g10 g11 g12 g13 g14 g15 g16 g17 g18 g19 g24 g25 g26 v_out v_outs v_tape v_taped) Rr.1 (w_X9_take cI cJ h h_tape h_out g0 g1 g2 g3 g4 g5 g6 g7 g8 g9 g10 g11 g12 g13 g14 g15 g16 g17 g18 g19 g24 g25 g26 v_out v_outs Rr.2.1 Rr.2.2) :=
  fun sz => BodyW.met (av := [.ref h]) (Qc := fun A => QI D cI cJ A (w_X9_take cI cJ h h_tape h_out g0 g1 g2 g3 g4 g5 g6 g7 g8 g9 g10 g11 g12 g13 g14 g15 g16 g17 g18 g19 g24 g25 g26 v_out v_outs Rr.2.1 Rr.2.2) Rr.1) (by decide) rfl rfl (Nat.le_of_ble_eq_true rfl) (fun C0 hK hA hX ls hSt hl => k_X9_take_0 C0 hK hA hX  v_tape v_taped _ _ ls hSt hl hf) sz
