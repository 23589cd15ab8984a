/-! X2 countBorders -/
abbrev rm_X2_countBorders : Room := { frames := 2, cells := 0, slots := 0, locals := 44 }
abbrev w_X2_countBorders (cI cJ : ClassId) (h : Nat) (h_borders : Nat) (h_basis : Nat) (h_basis_rows : Nat) (h_basis_leads : Nat) (g0 : Value) (g3 : Value) (g4 : Value) (v_borders : Nat → Int32) (v_basis_rows : Nat → Int64) (v_basis_leads : Nat → Int64) (v_basis_leading : Int64) (v_basis_rest : Int64) (v_basis_count : Int32) : va_W := [(h, .inr (2, [g0, .ref h_borders, .ref h_basis, g3, g4])), (h_borders, .inl (cI, 8, .inl v_borders)), (h_basis, .inr (0, [.ref h_basis_rows, .ref h_basis_leads, .long v_basis_leading, .long v_basis_rest, .int v_basis_count])), (h_basis_rows, .inl (cJ, 64, .inr (.inl v_basis_rows))), (h_basis_leads, .inl (cJ, 64, .inr (.inl v_basis_leads)))]
theorem iu_X2_countBorders_X2 : ∀ w ∈ wsX20, w ∈ wsX2_countBorders := by decide +kernel
theorem fl_X2_countBorders_15 : Cond.fieldLink RX2 15 (TX2 1).1 (TX2 1).2.1 (TX2 1).2.2.1 ∈ wsX2_countBorders := by decide +kernel
theorem fl_X2_countBorders_21 : Cond.fieldLink RX2 21 (TX2 2).1 (TX2 2).2.1 (TX2 2).2.2.1 ∈ wsX2_countBorders := by decide +kernel
theorem kl_X2_countBorders_59 : Cond.constantLong RX2 59 (-1) ∈ wsX2_countBorders := by decide +kernel
theorem hd_X2_countBorders : yX2_countBorders.cls = RX2 ∧ yX2_countBorders.cls ≠ "java/lang/invoke/MethodHandle" ∧ yX2_countBorders.cls ≠ "java/lang/invoke/VarHandle" ∧ (parseMethodDescriptor yX2_countBorders.desc).map (fun d => d.parameters.length) = some 2 := by decide +kernel
def f_X2_countBorders_37   : Nat → Int32 → Int64 → Int32 → (Nat → Int32) → (Nat → Int64) → (Nat → Int64) → (Int64) → (Int64) → (Int32) → Option ((Nat → Int32) × (Nat → Int64) × (Nat → Int64) × Int64 × Int64 × Int32)
  | 0, _, _, _, _, _, _, _, _, _ => none
  | n + 1, l1, l2, l4, v_borders, v_basis_rows, v_basis_leads, v_basis_leading, v_basis_rest, v_basis_count => if l1 < l4 then some (v_borders, v_basis_rows, v_basis_leads, v_basis_leading, v_basis_rest, v_basis_count) else if (64 : Int32) ≤ l4 then some (v_borders, v_basis_rows, v_basis_leads, v_basis_leading, v_basis_rest, v_basis_count) else (f_X6_holds l2 l4).bind (fun R1 => if R1 = 0 then (f_X2_countBorders_37 n) l1 l2 (l4 + 1) v_borders v_basis_rows v_basis_leads v_basis_leading v_basis_rest v_basis_count else (f_X6_below l4).bind (fun R2 => (f_X0_add v_basis_leading R2 v_basis_rows v_basis_leads v_basis_rest v_basis_count).bind (fun R3 => if R3.1 = 0 then (f_X2_countBorders_37 n) l1 l2 (l4 + 1) v_borders R3.2.1 R3.2.2.1 v_basis_leading R3.2.2.2.1 R3.2.2.2.2 else (f_J6_bitCount_0f7a4 l4).bind (fun R4 => gd (ix R4 8) (bnd ((v_borders R4.toNatClampNeg) + (1 : Int32)) (fun e_5 => gd (ix R4 8) ((f_X2_countBorders_37 n) l1 l2 (l4 + 1) (upd v_borders R4.toNatClampNeg e_5) R3.2.1 R3.2.2.1 v_basis_leading R3.2.2.2.1 R3.2.2.2.2)))))))
set_option maxHeartbeats 4000000 in
set_option maxRecDepth 100000 in
theorem k_X2_countBorders_37 {p : Program} {l : Launch} {e : Env} {s : State} {m : MethodId} {args : Array Value} {below : List Frame} {meth : Method} {c : Code} {A : Nat → Prop} {D : va_G} {cI cJ : ClassId} {h h_borders h_basis h_basis_rows h_basis_leads : Nat} {g0 g3 g4 : Value}  (C0 : Cx p s m args meth c cX2_countBorders wsX2_countBorders RX2 5 none) (hK : va_K D vwCl (tyL cI cJ) s) (hA : ∀ q, s.heap.size ≤ q → A q) (hX : XT none A s s.heap) {Rr : (Nat → Int32) × (Nat → Int64) × (Nat → Int64) × Int64 × Int64 × Int32} (n : Nat) : ∀ (l1 : Int32) (l2 : Int64) (l4 : Int32) (v_borders : Nat → Int32) (v_basis_rows : Nat → Int64) (v_basis_leads : Nat → Int64) (v_basis_leading : Int64) (v_basis_rest : Int64) (v_basis_count : Int32) (H : Heap) (locs : List Loc) (ls : Array Slot), St D A s (w_X2_countBorders cI cJ h h_borders h_basis h_basis_rows h_basis_leads g0 g3 g4 v_borders v_basis_rows v_basis_leads v_basis_leading v_basis_rest v_basis_count) H locs → lv_has ls 5 [(0, .ref h), (1, .int l1), (2, .long l2), (4, .int l4)] → f_X2_countBorders_37 n l1 l2 l4 v_borders v_basis_rows v_basis_leads v_basis_leading v_basis_rest v_basis_count = some Rr → W p l e rm_X2_countBorders s m args below meth c H locs 0 0 (MQ below (QV D cI cJ A (w_X2_countBorders cI cJ h h_borders h_basis h_basis_rows h_basis_leads g0 g3 g4 Rr.1 Rr.2.1 Rr.2.2.1 Rr.2.2.2.1 Rr.2.2.2.2.1 Rr.2.2.2.2.2)) args s 0 0 A) (F0 m 37 ls []) := by
  have hx := C0.1.1
  have hb := C0.1.2.1
  induction n with
  | zero => intro l1 l2 l4 v_borders v_basis_rows v_basis_leads v_basis_leading v_basis_rest v_basis_count H locs ls hSt hl hf; exact nomatch (show (none : Option _) = some Rr from hf)
  | succ n ih =>
    intro l1 l2 l4 v_borders v_basis_rows v_basis_leads v_basis_leading v_basis_rest v_basis_count H locs ls hSt hl hf
    unfold f_X2_countBorders_37 at hf
    refine lv_iload hx hb dX2_countBorders_37 (lv_at hl 3 rfl) ?_
    refine lv_iload_n hx hb dX2_countBorders_39 rfl (lv_at hl 1 rfl) ?_
    refine lv_icmp_gt (tgt := 94) hx hb dX2_countBorders_40 (by decide) (fun cc => ?_) (fun cc => ?_)
    · have hf := ite_t hf cc
      cases hf
      exact hb_vret C0 hK hSt dX2_countBorders_94
    · have hf := ite_f hf cc
      refine lv_iload hx hb dX2_countBorders_43 (lv_at hl 3 rfl) ?_
      refine lv_bipush (v := 64) hx hb dX2_countBorders_45 (by decide) ?_
      refine lv_icmp_ge (tgt := 94) hx hb dX2_countBorders_47 (by decide) (fun cc => ?_) (fun cc => ?_)
      · have hf := ite_t hf cc
        cases hf
        exact hb_vret C0 hK hSt dX2_countBorders_94
      · have hf := ite_f hf cc
        refine lv_lload_n hx hb dX2_countBorders_50 rfl (lv_at hl 2 rfl) ?_
        refine lv_iload hx hb dX2_countBorders_51 (lv_at hl 3 rfl) ?_
        obtain ⟨R1, hR1, hf⟩ := Option.bind_eq_some_iff.mp hf
        have sp : Sp (w_X2_countBorders cI cJ h h_borders h_basis h_basis_rows h_basis_leads g0 g3 g4 v_borders v_basis_rows v_basis_leads v_basis_leading v_basis_rest v_basis_count) (w_X6_holds cI cJ) (w_X6_holds cI cJ) (w_X2_countBorders cI cJ h h_borders h_basis h_basis_rows h_basis_leads g0 g3 g4 v_borders v_basis_rows v_basis_leads v_basis_leading v_basis_rest v_basis_count) [] [0, 1, 2, 3, 4] [0, 1, 2, 3, 4] := ⟨rfl, rfl, rfl, by decide, by decide, by decide, by decide⟩
        refine hb_ci (hb_rS (As := [.long l2, .int l4]) (rest := []) C0 hK hA XT.nn hSt sp (c_X6_holds l D cI cJ   l2 l4  R1 hR1) gX2_countBorders_X6_holds rfl ⟨rfl, rfl⟩ hd_X6_holds ⟨Nat.le_of_ble_eq_true rfl, Nat.le_of_ble_eq_true rfl⟩ rfl hl rfl (Nat.le_of_ble_eq_true rfl) dX2_countBorders_53 ⟨Nat.zero_le _, Nat.zero_le _⟩) hA hSt sp (fun H locs hSt => ?_)
        refine lv_if_eq (tgt := 88) hx hb dX2_countBorders_56 (by decide) (fun cc => ?_) (fun cc => ?_)
        · have hf := ite_t hf cc
          refine lv_iinc (v := l4 + 1) (lv' := [(4, .int (l4 + 1)), (0, .ref h), (1, .int l1), (2, .long l2)]) hx hb dX2_countBorders_88 hl (k := 3) rfl rfl (by decide) rfl (fun ls hl => ?_)
          refine lv_goto (tgt := 37) hx hb dX2_countBorders_91 (by decide) ?_
          exact ih l1 l2 (l4 + 1) v_borders v_basis_rows v_basis_leads v_basis_leading v_basis_rest v_basis_count _ _ _ hSt (lv_sub hl [1, 2, 3, 0] rfl) hf
        · have hf := ite_f hf cc
          refine lv_aload_n hx hb dX2_countBorders_59 rfl (lv_at hl 0 rfl) ?_
          refine hb_get C0 hK hSt 0 2 2 rfl rfl iu_X2_countBorders_X2 (by decide) fl_X2_countBorders_21 rfl dX2_countBorders_60 ?_
          refine lv_iload hx hb dX2_countBorders_63 (lv_at hl 3 rfl) ?_
          obtain ⟨R2, hR2, hf⟩ := Option.bind_eq_some_iff.mp hf
          have sp : Sp (w_X2_countBorders cI cJ h h_borders h_basis h_basis_rows h_basis_leads g0 g3 g4 v_borders v_basis_rows v_basis_leads v_basis_leading v_basis_rest v_basis_count) (w_X6_below cI cJ) (w_X6_below cI cJ) (w_X2_countBorders cI cJ h h_borders h_basis h_basis_rows h_basis_leads g0 g3 g4 v_borders v_basis_rows v_basis_leads v_basis_leading v_basis_rest v_basis_count) [] [0, 1, 2, 3, 4] [0, 1, 2, 3, 4] := ⟨rfl, rfl, rfl, by decide, by decide, by decide, by decide⟩
          refine hb_cl (hb_rS (As := [.int l4]) (rest := [.ref h_basis]) C0 hK hA XT.nn hSt sp (c_X6_below l D cI cJ   l4  R2 hR2) gX2_countBorders_X6_below rfl ⟨rfl, rfl⟩ hd_X6_below ⟨Nat.le_of_ble_eq_true rfl, Nat.le_of_ble_eq_true rfl⟩ rfl hl rfl (Nat.le_of_ble_eq_true rfl) dX2_countBorders_65 ⟨Nat.zero_le _, Nat.zero_le _⟩) hA hSt sp (fun H locs hSt => ?_)
          obtain ⟨R3, hR3, hf⟩ := Option.bind_eq_some_iff.mp hf
          have sp : Sp (w_X2_countBorders cI cJ h h_borders h_basis h_basis_rows h_basis_leads g0 g3 g4 v_borders v_basis_rows v_basis_leads v_basis_leading v_basis_rest v_basis_count) (w_X0_add cI cJ h_basis h_basis_rows h_basis_leads v_basis_leading v_basis_rows v_basis_leads v_basis_rest v_basis_count) (w_X0_add cI cJ h_basis h_basis_rows h_basis_leads v_basis_leading R3.2.1 R3.2.2.1 R3.2.2.2.1 R3.2.2.2.2) (w_X2_countBorders cI cJ h h_borders h_basis h_basis_rows h_basis_leads g0 g3 g4 v_borders R3.2.1 R3.2.2.1 v_basis_leading R3.2.2.2.1 R3.2.2.2.2) [2, 3, 4] [0, 1] [0, 1, 2, 3, 4] := ⟨rfl, rfl, rfl, by decide, by decide, by decide, by decide⟩
          refine hb_ci (hb_rV (As := [.long R2]) (rest := []) C0 hK hA XT.nn hSt sp (c_X0_add l D cI cJ h_basis h_basis_rows h_basis_leads  R2 v_basis_leading v_basis_rows v_basis_leads v_basis_rest v_basis_count R3 hR3) gX2_countBorders_X0_add rfl ⟨rfl, rfl⟩ hd_X0_add ⟨Nat.le_of_ble_eq_true rfl, Nat.le_of_ble_eq_true rfl⟩ 2 0 rfl rfl rfl hl rfl (Nat.le_of_ble_eq_true rfl) dX2_countBorders_68 ⟨Nat.zero_le _, Nat.zero_le _⟩) hA hSt sp (fun H locs hSt => ?_)
          refine lv_if_eq (tgt := 88) hx hb dX2_countBorders_71 (by decide) (fun cc => ?_) (fun cc => ?_)
          · have hf := ite_t hf cc
            refine lv_iinc (v := l4 + 1) (lv' := [(4, .int (l4 + 1)), (0, .ref h), (1, .int l1), (2, .long l2)]) hx hb dX2_countBorders_88 hl (k := 3) rfl rfl (by decide) rfl (fun ls hl => ?_)
            refine lv_goto (tgt := 37) hx hb dX2_countBorders_91 (by decide) ?_
            exact ih l1 l2 (l4 + 1) v_borders R3.2.1 R3.2.2.1 v_basis_leading R3.2.2.2.1 R3.2.2.2.2 _ _ _ hSt (lv_sub hl [1, 2, 3, 0] rfl) hf
          · have hf := ite_f hf cc
            refine lv_aload_n hx hb dX2_countBorders_74 rfl (lv_at hl 0 rfl) ?_
            refine hb_get C0 hK hSt 0 2 1 rfl rfl iu_X2_countBorders_X2 (by decide) fl_X2_countBorders_15 rfl dX2_countBorders_75 ?_
            refine lv_iload hx hb dX2_countBorders_78 (lv_at hl 3 rfl) ?_
            obtain ⟨R4, hR4, hf⟩ := Option.bind_eq_some_iff.mp hf
            have sp : Sp (w_X2_countBorders cI cJ h h_borders h_basis h_basis_rows h_basis_leads g0 g3 g4 v_borders R3.2.1 R3.2.2.1 v_basis_leading R3.2.2.2.1 R3.2.2.2.2) (w_J6_bitCount_0f7a4 cI cJ) (w_J6_bitCount_0f7a4 cI cJ) (w_X2_countBorders cI cJ h h_borders h_basis h_basis_rows h_basis_leads g0 g3 g4 v_borders R3.2.1 R3.2.2.1 v_basis_leading R3.2.2.2.1 R3.2.2.2.2) [] [0, 1, 2, 3, 4] [0, 1, 2, 3, 4] := ⟨rfl, rfl, rfl, by decide, by decide, by decide, by decide⟩
            refine hb_ci (hb_rS (As := [.int l4]) (rest := [.ref h_borders]) C0 hK hA XT.nn hSt sp (c_J6_bitCount_0f7a4 l D cI cJ   l4  R4 hR4) gX2_countBorders_J6_bitCount_0f7a4 rfl ⟨rfl, rfl⟩ hd_J6_bitCount_0f7a4 ⟨Nat.le_of_ble_eq_true rfl, Nat.le_of_ble_eq_true rfl⟩ rfl hl rfl (Nat.le_of_ble_eq_true rfl) dX2_countBorders_80 ⟨Nat.zero_le _, Nat.zero_le _⟩) hA hSt sp (fun H locs hSt => ?_)
            refine lv_dup2_11 hx hb dX2_countBorders_83 rfl rfl ?_
            obtain ⟨hi, hf⟩ := gd_t hf
            refine hb_iald C0 hK hSt 1 rfl hi dX2_countBorders_84 ?_
            refine lv_iconst (v := 1) hx hb dX2_countBorders_85 (by decide) ?_
            refine lv_iadd hx hb dX2_countBorders_86 ?_
            refine tp_i hf (fun e_5 hf => ?_)
            obtain ⟨hi, hf⟩ := gd_t hf
            refine hb_iast C0 hK hSt 1 rfl hi (w' := w_X2_countBorders cI cJ h h_borders h_basis h_basis_rows h_basis_leads g0 g3 g4 (upd v_borders R4.toNatClampNeg e_5) R3.2.1 R3.2.2.1 v_basis_leading R3.2.2.2.1 R3.2.2.2.2) rfl dX2_countBorders_87 (fun H locs hSt => ?_)
            refine lv_iinc (v := l4 + 1) (lv' := [(4, .int (l4 + 1)), (0, .ref h), (1, .int l1), (2, .long l2)]) hx hb dX2_countBorders_88 hl (k := 3) rfl rfl (by decide) rfl (fun ls hl => ?_)
            refine lv_goto (tgt := 37) hx hb dX2_countBorders_91 (by decide) ?_
            exact ih l1 l2 (l4 + 1) (upd v_borders R4.toNatClampNeg e_5) R3.2.1 R3.2.2.1 v_basis_leading R3.2.2.2.1 R3.2.2.2.2 _ _ _ hSt (lv_sub hl [1, 2, 3, 0] rfl) hf
def f_X2_countBorders_3   : Nat → Int32 → Int64 → Int32 → (Nat → Int32) → (Nat → Int64) → (Nat → Int64) → (Int64) → (Int64) → (Int32) → Option ((Nat → Int32) × (Nat → Int64) × (Nat → Int64) × Int64 × Int64 × Int32)
  | 0, _, _, _, _, _, _, _, _, _ => none
  | n + 1, l1, l2, l4, v_borders, v_basis_rows, v_basis_leads, v_basis_leading, v_basis_rest, v_basis_count => if (7 : Int32) < l4 then (f_X0_clear (-1 : Int64) v_basis_leading v_basis_rest v_basis_count).bind (fun R1 => f_X2_countBorders_37   FU l1 l2 (1 : Int32) v_borders v_basis_rows v_basis_leads R1.1 R1.2.1 R1.2.2) else gd (ix l4 8) ((f_X2_countBorders_3 n) l1 l2 (l4 + 1) (upd v_borders l4.toNatClampNeg (0 : Int32)) v_basis_rows v_basis_leads v_basis_leading v_basis_rest v_basis_count)
set_option maxHeartbeats 4000000 in
set_option maxRecDepth 100000 in
theorem k_X2_countBorders_3 {p : Program} {l : Launch} {e : Env} {s : State} {m : MethodId} {args : Array Value} {below : List Frame} {meth : Method} {c : Code} {A : Nat → Prop} {D : va_G} {cI cJ : ClassId} {h h_borders h_basis h_basis_rows h_basis_leads : Nat} {g0 g3 g4 : Value}  (C0 : Cx p s m args meth c cX2_countBorders wsX2_countBorders RX2 5 none) (hK : va_K D vwCl (tyL cI cJ) s) (hA : ∀ q, s.heap.size ≤ q → A q) (hX : XT none A s s.heap) {Rr : (Nat → Int32) × (Nat → Int64) × (Nat → Int64) × Int64 × Int64 × Int32} (n : Nat) : ∀ (l1 : Int32) (l2 : Int64) (l4 : Int32) (v_borders : Nat → Int32) (v_basis_rows : Nat → Int64) (v_basis_leads : Nat → Int64) (v_basis_leading : Int64) (v_basis_rest : Int64) (v_basis_count : Int32) (H : Heap) (locs : List Loc) (ls : Array Slot), St D A s (w_X2_countBorders cI cJ h h_borders h_basis h_basis_rows h_basis_leads g0 g3 g4 v_borders v_basis_rows v_basis_leads v_basis_leading v_basis_rest v_basis_count) H locs → lv_has ls 5 [(0, .ref h), (1, .int l1), (2, .long l2), (4, .int l4)] → f_X2_countBorders_3 n l1 l2 l4 v_borders v_basis_rows v_basis_leads v_basis_leading v_basis_rest v_basis_count = some Rr → W p l e rm_X2_countBorders s m args below meth c H locs 0 0 (MQ below (QV D cI cJ A (w_X2_countBorders cI cJ h h_borders h_basis h_basis_rows h_basis_leads g0 g3 g4 Rr.1 Rr.2.1 Rr.2.2.1 Rr.2.2.2.1 Rr.2.2.2.2.1 Rr.2.2.2.2.2)) args s 0 0 A) (F0 m 3 ls []) := by
  have hx := C0.1.1
  have hb := C0.1.2.1
  induction n with
  | zero => intro l1 l2 l4 v_borders v_basis_rows v_basis_leads v_basis_leading v_basis_rest v_basis_count H locs ls hSt hl hf; exact nomatch (show (none : Option _) = some Rr from hf)
  | succ n ih =>
    intro l1 l2 l4 v_borders v_basis_rows v_basis_leads v_basis_leading v_basis_rest v_basis_count H locs ls hSt hl hf
    unfold f_X2_countBorders_3 at hf
    refine lv_iload hx hb dX2_countBorders_3 (lv_at hl 3 rfl) ?_
    refine lv_bipush (v := 7) hx hb dX2_countBorders_5 (by decide) ?_
    refine lv_icmp_gt (tgt := 24) hx hb dX2_countBorders_7 (by decide) (fun cc => ?_) (fun cc => ?_)
    · have hf := ite_t hf cc
      refine lv_aload_n hx hb dX2_countBorders_24 rfl (lv_at hl 0 rfl) ?_
      refine hb_get C0 hK hSt 0 2 2 rfl rfl iu_X2_countBorders_X2 (by decide) fl_X2_countBorders_21 rfl dX2_countBorders_25 ?_
      refine lv_ldc2 (v := -1) hx hb C0.1.2.2.2.1 (C0.1.2.2.2.2 _ kl_X2_countBorders_59) dX2_countBorders_28 ?_
      obtain ⟨R1, hR1, hf⟩ := Option.bind_eq_some_iff.mp hf
      have sp : Sp (w_X2_countBorders cI cJ h h_borders h_basis h_basis_rows h_basis_leads g0 g3 g4 v_borders v_basis_rows v_basis_leads v_basis_leading v_basis_rest v_basis_count) (w_X0_clear cI cJ h_basis (.ref h_basis_rows) (.ref h_basis_leads) v_basis_leading v_basis_rest v_basis_count) (w_X0_clear cI cJ h_basis (.ref h_basis_rows) (.ref h_basis_leads) R1.1 R1.2.1 R1.2.2) (w_X2_countBorders cI cJ h h_borders h_basis h_basis_rows h_basis_leads g0 g3 g4 v_borders v_basis_rows v_basis_leads R1.1 R1.2.1 R1.2.2) [2] [0, 1, 3, 4] [0, 1, 4, 2, 3] := ⟨rfl, rfl, rfl, by decide, by decide, by decide, by decide⟩
      refine hb_cv (hb_rV (As := [.long (-1 : Int64)]) (rest := []) C0 hK hA XT.nn hSt sp (c_X0_clear l D cI cJ h_basis (.ref h_basis_rows) (.ref h_basis_leads)  (-1 : Int64) v_basis_leading v_basis_rest v_basis_count R1 hR1) gX2_countBorders_X0_clear rfl ⟨rfl, rfl⟩ hd_X0_clear ⟨Nat.le_of_ble_eq_true rfl, Nat.le_of_ble_eq_true rfl⟩ 2 0 rfl rfl rfl hl rfl (Nat.le_of_ble_eq_true rfl) dX2_countBorders_31 ⟨Nat.zero_le _, Nat.zero_le _⟩) hA hSt sp (fun H locs hSt => ?_)
      refine lv_iconst (v := 1) hx hb dX2_countBorders_34 (by decide) ?_
      refine lv_istore (lv' := [(4, .int (1 : Int32)), (0, .ref h), (1, .int l1), (2, .long l2)]) hx hb dX2_countBorders_35 hl (by decide) rfl (fun ls hl => ?_)
      exact k_X2_countBorders_37 C0 hK hA hX  FU l1 l2 (1 : Int32) v_borders v_basis_rows v_basis_leads R1.1 R1.2.1 R1.2.2 _ _ _ hSt (lv_sub hl [1, 2, 3, 0] rfl) hf
    · have hf := ite_f hf cc
      refine lv_aload_n hx hb dX2_countBorders_10 rfl (lv_at hl 0 rfl) ?_
      refine hb_get C0 hK hSt 0 2 1 rfl rfl iu_X2_countBorders_X2 (by decide) fl_X2_countBorders_15 rfl dX2_countBorders_11 ?_
      refine lv_iload hx hb dX2_countBorders_14 (lv_at hl 3 rfl) ?_
      refine lv_iconst (v := 0) hx hb dX2_countBorders_16 (by decide) ?_
      obtain ⟨hi, hf⟩ := gd_t hf
      refine hb_iast C0 hK hSt 1 rfl hi (w' := w_X2_countBorders cI cJ h h_borders h_basis h_basis_rows h_basis_leads g0 g3 g4 (upd v_borders l4.toNatClampNeg (0 : Int32)) v_basis_rows v_basis_leads v_basis_leading v_basis_rest v_basis_count) rfl dX2_countBorders_17 (fun H locs hSt => ?_)
      refine lv_iinc (v := l4 + 1) (lv' := [(4, .int (l4 + 1)), (0, .ref h), (1, .int l1), (2, .long l2)]) hx hb dX2_countBorders_18 hl (k := 3) rfl rfl (by decide) rfl (fun ls hl => ?_)
      refine lv_goto (tgt := 3) hx hb dX2_countBorders_21 (by decide) ?_
      exact ih l1 l2 (l4 + 1) (upd v_borders l4.toNatClampNeg (0 : Int32)) v_basis_rows v_basis_leads v_basis_leading v_basis_rest v_basis_count _ _ _ hSt (lv_sub hl [1, 2, 3, 0] rfl) hf
def f_X2_countBorders_0   (l1 : Int32) (l2 : Int64) (v_borders : Nat → Int32) (v_basis_rows : Nat → Int64) (v_basis_leads : Nat → Int64) (v_basis_leading : Int64) (v_basis_rest : Int64) (v_basis_count : Int32) : Option ((Nat → Int32) × (Nat → Int64) × (Nat → Int64) × Int64 × Int64 × Int32) := f_X2_countBorders_3   FU l1 l2 (0 : Int32) v_borders v_basis_rows v_basis_leads v_basis_leading v_basis_rest v_basis_count
set_option maxHeartbeats 4000000 in
set_option maxRecDepth 100000 in
theorem k_X2_countBorders_0 {p : Program} {l : Launch} {e : Env} {s : State} {m : MethodId} {args : Array Value} {below : List Frame} {meth : Method} {c : Code} {A : Nat → Prop} {D : va_G} {cI cJ : ClassId} {h h_borders h_basis h_basis_rows h_basis_leads : Nat} {g0 g3 g4 : Value}  (C0 : Cx p s m args meth c cX2_countBorders wsX2_countBorders RX2 5 none) (hK : va_K D vwCl (tyL cI cJ) s) (hA : ∀ q, s.heap.size ≤ q → A q) (hX : XT none A s s.heap) {Rr : (Nat → Int32) × (Nat → Int64) × (Nat → Int64) × Int64 × Int64 × Int32} : ∀ (l1 : Int32) (l2 : Int64) (v_borders : Nat → Int32) (v_basis_rows : Nat → Int64) (v_basis_leads : Nat → Int64) (v_basis_leading : Int64) (v_basis_rest : Int64) (v_basis_count : Int32) (H : Heap) (locs : List Loc) (ls : Array Slot), St D A s (w_X2_countBorders cI cJ h h_borders h_basis h_basis_rows h_basis_leads g0 g3 g4 v_borders v_basis_rows v_basis_leads v_basis_leading v_basis_rest v_basis_count) H locs → lv_has ls 5 [(0, .ref h), (1, .int l1), (2, .long l2)] → f_X2_countBorders_0 l1 l2 v_borders v_basis_rows v_basis_leads v_basis_leading v_basis_rest v_basis_count = some Rr → W p l e rm_X2_countBorders s m args below meth c H locs 0 0 (MQ below (QV D cI cJ A (w_X2_countBorders cI cJ h h_borders h_basis h_basis_rows h_basis_leads g0 g3 g4 Rr.1 Rr.2.1 Rr.2.2.1 Rr.2.2.2.1 Rr.2.2.2.2.1 Rr.2.2.2.2.2)) args s 0 0 A) (F0 m 0 ls []) := by
  have hx := C0.1.1
  have hb := C0.1.2.1
  intro l1 l2 v_borders v_basis_rows v_basis_leads v_basis_leading v_basis_rest v_basis_count H locs ls hSt hl hf
  unfold f_X2_countBorders_0 at hf
  refine lv_iconst (v := 0) hx hb dX2_countBorders_0 (by decide) ?_
  refine lv_istore (lv' := [(4, .int (0 : Int32)), (0, .ref h), (1, .int l1), (2, .long l2)]) hx hb dX2_countBorders_1 hl (by decide) rfl (fun ls hl => ?_)
  exact k_X2_countBorders_3 C0 hK hA hX  FU l1 l2 (0 : Int32) v_borders v_basis_rows v_basis_leads v_basis_leading v_basis_rest v_basis_count _ _ _ hSt (lv_sub hl [1, 2, 3, 0] rfl) hf
def f_X2_countBorders  (l1 : Int32) (l2 : Int64) (v_borders : Nat → Int32) (v_basis_rows : Nat → Int64) (v_basis_leads : Nat → Int64) (v_basis_leading : Int64) (v_basis_rest : Int64) (v_basis_count : Int32) : Option ((Nat → Int32) × (Nat → Int64) × (Nat → Int64) × Int64 × Int64 × Int32) := f_X2_countBorders_0 l1 l2 v_borders v_basis_rows v_basis_leads v_basis_leading v_basis_rest v_basis_count
set_option maxRecDepth 100000 in
theorem c_X2_countBorders (l : Launch) (D : va_G) (cI cJ : ClassId) (h h_borders h_basis h_basis_rows h_basis_leads : Nat) (g0 g3 g4 : Value) (l1 : Int32) (l2 : Int64) (v_borders : Nat → Int32) (v_basis_rows : Nat → Int64) (v_basis_leads : Nat → Int64) (v_basis_leading : Int64) (v_basis_rest : Int64) (v_basis_count : Int32) (Rr : (Nat → Int32) × (Nat → Int64) × (Nat → Int64) × Int64 × Int64 × Int32) (hf : f_X2_countBorders l1 l2 v_borders v_basis_rows v_basis_leads v_basis_leading v_basis_rest v_basis_count = some Rr) : CtV l yX2_countBorders wsX2_countBorders rm_X2_countBorders D cI cJ none [.ref h, .int l1, .long l2] (w_X2_countBorders cI cJ h h_borders h_basis h_basis_rows h_basis_leads g0 g3 g4 v_borders v_basis_rows v_basis_leads v_basis_leading v_basis_rest v_basis_count) (w_X2_countBorders cI cJ h h_borders h_basis h_basis_rows h_basis_leads g0 g3 g4 Rr.1 Rr.2.1 Rr.2.2.1 Rr.2.2.2.1 Rr.2.2.2.2.1 Rr.2.2.2.2.2) :=
  fun sz => BodyW.met (av := [.ref h, .int l1, .long l2]) (Qc := fun A => QV D cI cJ A (w_X2_countBorders cI cJ h h_borders h_basis h_basis_rows h_basis_leads g0 g3 g4 Rr.1 Rr.2.1 Rr.2.2.1 Rr.2.2.2.1 Rr.2.2.2.2.1 Rr.2.2.2.2.2)) (by decide) rfl rfl (Nat.le_of_ble_eq_true rfl) (fun C0 hK hA hX ls hSt hl => k_X2_countBorders_0 C0 hK hA hX l1 l2 v_borders v_basis_rows v_basis_leads v_basis_leading v_basis_rest v_basis_count _ _ ls hSt hl hf) sz
/-! X2 countHoles -/
abbrev rm_X2_countHoles : Room := { frames := 3, cells := 0, slots := 0, locals := 68 }
abbrev w_X2_countHoles (cI cJ : ClassId) (h : Nat) (h_counts : Nat) (h_borders : Nat) (h_basis : Nat) (h_basis_rows : Nat) (h_basis_leads : Nat) (g3 : Value) (g4 : Value) (v_counts : Nat → Int32) (v_borders : Nat → Int32) (v_basis_rows : Nat → Int64) (v_basis_leads : Nat → Int64) (v_basis_leading : Int64) (v_basis_rest : Int64) (v_basis_count : Int32) : va_W := [(h, .inr (2, [.ref h_counts, .ref h_borders, .ref h_basis, g3, g4])), (h_counts, .inl (cI, 448, .inl v_counts)), (h_borders, .inl (cI, 8, .inl v_borders)), (h_basis, .inr (0, [.ref h_basis_rows, .ref h_basis_leads, .long v_basis_leading, .long v_basis_rest, .int v_basis_count])), (h_basis_rows, .inl (cJ, 64, .inr (.inl v_basis_rows))), (h_basis_leads, .inl (cJ, 64, .inr (.inl v_basis_leads)))]
theorem iu_X2_countHoles_X2 : ∀ w ∈ wsX20, w ∈ wsX2_countHoles := by decide +kernel
theorem fl_X2_countHoles_11 : Cond.fieldLink RX2 11 (TX2 0).1 (TX2 0).2.1 (TX2 0).2.2.1 ∈ wsX2_countHoles := by decide +kernel
theorem fl_X2_countHoles_15 : Cond.fieldLink RX2 15 (TX2 1).1 (TX2 1).2.1 (TX2 1).2.2.1 ∈ wsX2_countHoles := by decide +kernel
theorem hd_X2_countHoles : yX2_countHoles.cls = RX2 ∧ yX2_countHoles.cls ≠ "java/lang/invoke/MethodHandle" ∧ yX2_countHoles.cls ≠ "java/lang/invoke/VarHandle" ∧ (parseMethodDescriptor yX2_countHoles.desc).map (fun d => d.parameters.length) = some 2 := by decide +kernel
def f_X2_countHoles_9   : Nat → Int32 → Int64 → Int32 → (Nat → Int32) → (Nat → Int32) → (Nat → Int64) → (Nat → Int64) → (Int64) → (Int64) → (Int32) → Option ((Nat → Int32) × (Nat → Int32) × (Nat → Int64) × (Nat → Int64) × Int64 × Int64 × Int32)
  | 0, _, _, _, _, _, _, _, _, _, _ => none
  | n + 1, l1, l2, l4, v_counts, v_borders, v_basis_rows, v_basis_leads, v_basis_leading, v_basis_rest, v_basis_count => if (7 : Int32) ≤ l4 then some (v_counts, v_borders, v_basis_rows, v_basis_leads, v_basis_leading, v_basis_rest, v_basis_count) else (f_X6_ofSize l4).bind (fun R1 => (f_J13_bitCount_95d88 (l2 &&& R1)).bind (fun R2 => gd (ix l4 8) (gd (ix (l4 + (1 : Int32)) 8) (bnd ((R2 - (v_borders l4.toNatClampNeg)) - (v_borders (l4 + (1 : Int32)).toNatClampNeg)) (fun e_3 => gd (ix ((l1 * (7 : Int32)) + l4) 448) ((f_X2_countHoles_9 n) l1 l2 (l4 + 1) (upd v_counts ((l1 * (7 : Int32)) + l4).toNatClampNeg e_3) v_borders v_basis_rows v_basis_leads v_basis_leading v_basis_rest v_basis_count))))))
set_option maxHeartbeats 4000000 in
set_option maxRecDepth 100000 in
theorem k_X2_countHoles_9 {p : Program} {l : Launch} {e : Env} {s : State} {m : MethodId} {args : Array Value} {below : List Frame} {meth : Method} {c : Code} {A : Nat → Prop} {D : va_G} {cI cJ : ClassId} {h h_counts h_borders h_basis h_basis_rows h_basis_leads : Nat} {g3 g4 : Value} {tB : Nat}  (C0 : Cx p s m args meth c cX2_countHoles wsX2_countHoles RX2 6 none) (hK : va_K D vwCl (tyL cI cJ) s) (hA : ∀ q, s.heap.size ≤ q → A q) (hX : XT (some tB) A s s.heap) {Rr : (Nat → Int32) × (Nat → Int32) × (Nat → Int64) × (Nat → Int64) × Int64 × Int64 × Int32} (n : Nat) : ∀ (l1 : Int32) (l2 : Int64) (l4 : Int32) (v_counts : Nat → Int32) (v_borders : Nat → Int32) (v_basis_rows : Nat → Int64) (v_basis_leads : Nat → Int64) (v_basis_leading : Int64) (v_basis_rest : Int64) (v_basis_count : Int32) (H : Heap) (locs : List Loc) (ls : Array Slot), St D A s (w_X2_countHoles cI cJ h h_counts h_borders h_basis h_basis_rows h_basis_leads g3 g4 v_counts v_borders v_basis_rows v_basis_leads v_basis_leading v_basis_rest v_basis_count) H locs → lv_has ls 6 [(0, .ref h), (1, .int l1), (2, .long l2), (4, .int l4)] → f_X2_countHoles_9 n l1 l2 l4 v_counts v_borders v_basis_rows v_basis_leads v_basis_leading v_basis_rest v_basis_count = some Rr → W p l e rm_X2_countHoles s m args below meth c H locs 0 0 (MQ below (QV D cI cJ A (w_X2_countHoles cI cJ h h_counts h_borders h_basis h_basis_rows h_basis_leads g3 g4 Rr.1 Rr.2.1 Rr.2.2.1 Rr.2.2.2.1 Rr.2.2.2.2.1 Rr.2.2.2.2.2.1 Rr.2.2.2.2.2.2)) args s 0 0 A) (F0 m 9 ls []) := by
  have hx := C0.1.1
  have hb := C0.1.2.1
  induction n with
  | zero => intro l1 l2 l4 v_counts v_borders v_basis_rows v_basis_leads v_basis_leading v_basis_rest v_basis_count H locs ls hSt hl hf; exact nomatch (show (none : Option _) = some Rr from hf)
  | succ n ih =>
    intro l1 l2 l4 v_counts v_borders v_basis_rows v_basis_leads v_basis_leading v_basis_rest v_basis_count H locs ls hSt hl hf
    unfold f_X2_countHoles_9 at hf
    refine lv_iload hx hb dX2_countHoles_9 (lv_at hl 3 rfl) ?_
    refine lv_bipush (v := 7) hx hb dX2_countHoles_11 (by decide) ?_
    refine lv_icmp_ge (tgt := 66) hx hb dX2_countHoles_13 (by decide) (fun cc => ?_) (fun cc => ?_)
    · have hf := ite_t hf cc
      cases hf
      exact hb_vret C0 hK hSt dX2_countHoles_66
    · have hf := ite_f hf cc
      refine lv_lload_n hx hb dX2_countHoles_16 rfl (lv_at hl 2 rfl) ?_
      refine lv_iload hx hb dX2_countHoles_17 (lv_at hl 3 rfl) ?_
      obtain ⟨R1, hR1, hf⟩ := Option.bind_eq_some_iff.mp hf
      have sp : Sp (w_X2_countHoles cI cJ h h_counts h_borders h_basis h_basis_rows h_basis_leads g3 g4 v_counts v_borders v_basis_rows v_basis_leads v_basis_leading v_basis_rest v_basis_count) (w_X6_ofSize cI cJ) (w_X6_ofSize cI cJ) (w_X2_countHoles cI cJ h h_counts h_borders h_basis h_basis_rows h_basis_leads g3 g4 v_counts v_borders v_basis_rows v_basis_leads v_basis_leading v_basis_rest v_basis_count) [] [0, 1, 2, 3, 4, 5] [0, 1, 2, 3, 4, 5] := ⟨rfl, rfl, rfl, by decide, by decide, by decide, by decide⟩
      refine hb_cl (hb_rS (As := [.int l4]) (rest := [.long l2]) C0 hK hA hX hSt sp (c_X6_ofSize l D cI cJ  tB  l4  R1 hR1) gX2_countHoles_X6_ofSize rfl ⟨rfl, rfl⟩ hd_X6_ofSize ⟨Nat.le_of_ble_eq_true rfl, Nat.le_of_ble_eq_true rfl⟩ rfl hl rfl (Nat.le_of_ble_eq_true rfl) dX2_countHoles_19 ⟨Nat.zero_le _, Nat.zero_le _⟩) hA hSt sp (fun H locs hSt => ?_)
      refine lv_land hx hb dX2_countHoles_22 ?_
      obtain ⟨R2, hR2, hf⟩ := Option.bind_eq_some_iff.mp hf
      have sp : Sp (w_X2_countHoles cI cJ h h_counts h_borders h_basis h_basis_rows h_basis_leads g3 g4 v_counts v_borders v_basis_rows v_basis_leads v_basis_leading v_basis_rest v_basis_count) (w_J13_bitCount_95d88 cI cJ) (w_J13_bitCount_95d88 cI cJ) (w_X2_countHoles cI cJ h h_counts h_borders h_basis h_basis_rows h_basis_leads g3 g4 v_counts v_borders v_basis_rows v_basis_leads v_basis_leading v_basis_rest v_basis_count) [] [0, 1, 2, 3, 4, 5] [0, 1, 2, 3, 4, 5] := ⟨rfl, rfl, rfl, by decide, by decide, by decide, by decide⟩
      refine hb_ci (hb_rS (As := [.long (l2 &&& R1)]) (rest := []) C0 hK hA XT.nn hSt sp (c_J13_bitCount_95d88 l D cI cJ   (l2 &&& R1)  R2 hR2) gX2_countHoles_J13_bitCount_95d88 rfl ⟨rfl, rfl⟩ hd_J13_bitCount_95d88 ⟨Nat.le_of_ble_eq_true rfl, Nat.le_of_ble_eq_true rfl⟩ rfl hl rfl (Nat.le_of_ble_eq_true rfl) dX2_countHoles_23 ⟨Nat.zero_le _, Nat.zero_le _⟩) hA hSt sp (fun H locs hSt => ?_)
      refine lv_istore (lv' := [(5, .int R2), (0, .ref h), (1, .int l1), (2, .long l2), (4, .int l4)]) hx hb dX2_countHoles_26 hl (by decide) rfl (fun ls hl => ?_)
      refine lv_aload_n hx hb dX2_countHoles_28 rfl (lv_at hl 1 rfl) ?_
      refine hb_get C0 hK hSt 0 2 0 rfl rfl iu_X2_countHoles_X2 (by decide) fl_X2_countHoles_11 rfl dX2_countHoles_29 ?_
      refine lv_iload_n hx hb dX2_countHoles_32 rfl (lv_at hl 2 rfl) ?_
      refine lv_bipush (v := 7) hx hb dX2_countHoles_33 (by decide) ?_
      refine lv_imul hx hb dX2_countHoles_35 ?_
      refine lv_iload hx hb dX2_countHoles_36 (lv_at hl 4 rfl) ?_
      refine lv_iadd hx hb dX2_countHoles_38 ?_
      refine lv_iload hx hb dX2_countHoles_39 (lv_at hl 0 rfl) ?_
      refine lv_aload_n hx hb dX2_countHoles_41 rfl (lv_at hl 1 rfl) ?_
      refine hb_get C0 hK hSt 0 2 1 rfl rfl iu_X2_countHoles_X2 (by decide) fl_X2_countHoles_15 rfl dX2_countHoles_42 ?_
      refine lv_iload hx hb dX2_countHoles_45 (lv_at hl 4 rfl) ?_
      obtain ⟨hi, hf⟩ := gd_t hf
      refine hb_iald C0 hK hSt 2 rfl hi dX2_countHoles_47 ?_
      refine lv_isub hx hb dX2_countHoles_48 ?_
      refine lv_aload_n hx hb dX2_countHoles_49 rfl (lv_at hl 1 rfl) ?_
      refine hb_get C0 hK hSt 0 2 1 rfl rfl iu_X2_countHoles_X2 (by decide) fl_X2_countHoles_15 rfl dX2_countHoles_50 ?_
      refine lv_iload hx hb dX2_countHoles_53 (lv_at hl 4 rfl) ?_
      refine lv_iconst (v := 1) hx hb dX2_countHoles_55 (by decide) ?_
      refine lv_iadd hx hb dX2_countHoles_56 ?_
      obtain ⟨hi, hf⟩ := gd_t hf
      refine hb_iald C0 hK hSt 2 rfl hi dX2_countHoles_57 ?_
      refine lv_isub hx hb dX2_countHoles_58 ?_
      refine tp_i hf (fun e_3 hf => ?_)
      obtain ⟨hi, hf⟩ := gd_t hf
      refine hb_iast C0 hK hSt 1 rfl hi (w' := w_X2_countHoles cI cJ h h_counts h_borders h_basis h_basis_rows h_basis_leads g3 g4 (upd v_counts ((l1 * (7 : Int32)) + l4).toNatClampNeg e_3) v_borders v_basis_rows v_basis_leads v_basis_leading v_basis_rest v_basis_count) rfl dX2_countHoles_59 (fun H locs hSt => ?_)
      refine lv_iinc (v := l4 + 1) (lv' := [(4, .int (l4 + 1)), (5, .int R2), (0, .ref h), (1, .int l1), (2, .long l2)]) hx hb dX2_countHoles_60 hl (k := 4) rfl rfl (by decide) rfl (fun ls hl => ?_)
      refine lv_goto (tgt := 9) hx hb dX2_countHoles_63 (by decide) ?_
      exact ih l1 l2 (l4 + 1) (upd v_counts ((l1 * (7 : Int32)) + l4).toNatClampNeg e_3) v_borders v_basis_rows v_basis_leads v_basis_leading v_basis_rest v_basis_count _ _ _ hSt (lv_sub hl [2, 3, 4, 0] rfl) hf
def f_X2_countHoles_0   (l1 : Int32) (l2 : Int64) (v_counts : Nat → Int32) (v_borders : Nat → Int32) (v_basis_rows : Nat → Int64) (v_basis_leads : Nat → Int64) (v_basis_leading : Int64) (v_basis_rest : Int64) (v_basis_count : Int32) : Option ((Nat → Int32) × (Nat → Int32) × (Nat → Int64) × (Nat → Int64) × Int64 × Int64 × Int32) := (f_X2_countBorders l1 l2 v_borders v_basis_rows v_basis_leads v_basis_leading v_basis_rest v_basis_count).bind (fun R1 => f_X2_countHoles_9   FU l1 l2 (0 : Int32) v_counts R1.1 R1.2.1 R1.2.2.1 R1.2.2.2.1 R1.2.2.2.2.1 R1.2.2.2.2.2)
set_option maxHeartbeats 4000000 in
set_option maxRecDepth 100000 in
theorem k_X2_countHoles_0 {p : Program} {l : Launch} {e : Env} {s : State} {m : MethodId} {args : Array Value} {below : List Frame} {meth : Method} {c : Code} {A : Nat → Prop} {D : va_G} {cI cJ : ClassId} {h h_counts h_borders h_basis h_basis_rows h_basis_leads : Nat} {g3 g4 : Value} {tB : Nat}  (C0 : Cx p s m args meth c cX2_countHoles wsX2_countHoles RX2 6 none) (hK : va_K D vwCl (tyL cI cJ) s) (hA : ∀ q, s.heap.size ≤ q → A q) (hX : XT (some tB) A s s.heap) {Rr : (Nat → Int32) × (Nat → Int32) × (Nat → Int64) × (Nat → Int64) × Int64 × Int64 × Int32} : ∀ (l1 : Int32) (l2 : Int64) (v_counts : Nat → Int32) (v_borders : Nat → Int32) (v_basis_rows : Nat → Int64) (v_basis_leads : Nat → Int64) (v_basis_leading : Int64) (v_basis_rest : Int64) (v_basis_count : Int32) (H : Heap) (locs : List Loc) (ls : Array Slot), St D A s (w_X2_countHoles cI cJ h h_counts h_borders h_basis h_basis_rows h_basis_leads g3 g4 v_counts v_borders v_basis_rows v_basis_leads v_basis_leading v_basis_rest v_basis_count) H locs → lv_has ls 6 [(0, .ref h), (1, .int l1), (2, .long l2)] → f_X2_countHoles_0 l1 l2 v_counts v_borders v_basis_rows v_basis_leads v_basis_leading v_basis_rest v_basis_count = some Rr → W p l e rm_X2_countHoles s m args below meth c H locs 0 0 (MQ below (QV D cI cJ A (w_X2_countHoles cI cJ h h_counts h_borders h_basis h_basis_rows h_basis_leads g3 g4 Rr.1 Rr.2.1 Rr.2.2.1 Rr.2.2.2.1 Rr.2.2.2.2.1 Rr.2.2.2.2.2.1 Rr.2.2.2.2.2.2)) args s 0 0 A) (F0 m 0 ls []) := by
  have hx := C0.1.1
  have hb := C0.1.2.1
  intro l1 l2 v_counts v_borders v_basis_rows v_basis_leads v_basis_leading v_basis_rest v_basis_count H locs ls hSt hl hf
  unfold f_X2_countHoles_0 at hf
  refine lv_aload_n hx hb dX2_countHoles_0 rfl (lv_at hl 0 rfl) ?_
  refine lv_iload_n hx hb dX2_countHoles_1 rfl (lv_at hl 1 rfl) ?_
  refine lv_lload_n hx hb dX2_countHoles_2 rfl (lv_at hl 2 rfl) ?_
  obtain ⟨R1, hR1, hf⟩ := Option.bind_eq_some_iff.mp hf
  have sp : Sp (w_X2_countHoles cI cJ h h_counts h_borders h_basis h_basis_rows h_basis_leads g3 g4 v_counts v_borders v_basis_rows v_basis_leads v_basis_leading v_basis_rest v_basis_count) (w_X2_countBorders cI cJ h h_borders h_basis h_basis_rows h_basis_leads (.ref h_counts) g3 g4 v_borders v_basis_rows v_basis_leads v_basis_leading v_basis_rest v_basis_count) (w_X2_countBorders cI cJ h h_borders h_basis h_basis_rows h_basis_leads (.ref h_counts) g3 g4 R1.1 R1.2.1 R1.2.2.1 R1.2.2.2.1 R1.2.2.2.2.1 R1.2.2.2.2.2) (w_X2_countHoles cI cJ h h_counts h_borders h_basis h_basis_rows h_basis_leads g3 g4 v_counts R1.1 R1.2.1 R1.2.2.1 R1.2.2.2.1 R1.2.2.2.2.1 R1.2.2.2.2.2) [0, 2, 3, 4, 5] [1] [1, 0, 2, 3, 4, 5] := ⟨rfl, rfl, rfl, by decide, by decide, by decide, by decide⟩
  refine hb_cv (hb_rV (As := [.int l1, .long l2]) (rest := []) C0 hK hA XT.nn hSt sp (c_X2_countBorders l D cI cJ h h_borders h_basis h_basis_rows h_basis_leads (.ref h_counts) g3 g4  l1 l2 v_borders v_basis_rows v_basis_leads v_basis_leading v_basis_rest v_basis_count R1 hR1) gX2_countHoles_X2_countBorders rfl ⟨rfl, rfl⟩ hd_X2_countBorders ⟨Nat.le_of_ble_eq_true rfl, Nat.le_of_ble_eq_true rfl⟩ 0 2 rfl rfl rfl hl rfl (Nat.le_of_ble_eq_true rfl) dX2_countHoles_3 ⟨Nat.zero_le _, Nat.zero_le _⟩) hA hSt sp (fun H locs hSt => ?_)
  refine lv_iconst (v := 0) hx hb dX2_countHoles_6 (by decide) ?_
  refine lv_istore (lv' := [(4, .int (0 : Int32)), (0, .ref h), (1, .int l1), (2, .long l2)]) hx hb dX2_countHoles_7 hl (by decide) rfl (fun ls hl => ?_)
  exact k_X2_countHoles_9 C0 hK hA hX  FU l1 l2 (0 : Int32) v_counts R1.1 R1.2.1 R1.2.2.1 R1.2.2.2.1 R1.2.2.2.2.1 R1.2.2.2.2.2 _ _ _ hSt (lv_sub hl [1, 2, 3, 0] rfl) hf
def f_X2_countHoles  (l1 : Int32) (l2 : Int64) (v_counts : Nat → Int32) (v_borders : Nat → Int32) (v_basis_rows : Nat → Int64) (v_basis_leads : Nat → Int64) (v_basis_leading : Int64) (v_basis_rest : Int64) (v_basis_count : Int32) : Option ((Nat → Int32) × (Nat → Int32) × (Nat → Int64) × (Nat → Int64) × Int64 × Int64 × Int32) := f_X2_countHoles_0 l1 l2 v_counts v_borders v_basis_rows v_basis_leads v_basis_leading v_basis_rest v_basis_count
set_option maxRecDepth 100000 in
theorem c_X2_countHoles (l : Launch) (D : va_G) (cI cJ : ClassId) (h h_counts h_borders h_basis h_basis_rows h_basis_leads : Nat) (g3 g4 : Value) (tB : Nat) (l1 : Int32) (l2 : Int64) (v_counts : Nat → Int32) (v_borders : Nat → Int32) (v_basis_rows : Nat → Int64) (v_basis_leads : Nat → Int64) (v_basis_leading : Int64) (v_basis_rest : Int64) (v_basis_count : Int32) (Rr : (Nat → Int32) × (Nat → Int32) × (Nat → Int64) × (Nat → Int64) × Int64 × Int64 × Int32) (hf : f_X2_countHoles l1 l2 v_counts v_borders v_basis_rows v_basis_leads v_basis_leading v_basis_rest v_basis_count = some Rr) : CtV l yX2_countHoles wsX2_countHoles rm_X2_countHoles D cI cJ (some tB) [.ref h, .int l1, .long l2] (w_X2_countHoles cI cJ h h_counts h_borders h_basis h_basis_rows h_basis_leads g3 g4 v_counts v_borders v_basis_rows v_basis_leads v_basis_leading v_basis_rest v_basis_count) (w_X2_countHoles cI cJ h h_counts h_borders h_basis h_basis_rows h_basis_leads g3 g4 Rr.1 Rr.2.1 Rr.2.2.1 Rr.2.2.2.1 Rr.2.2.2.2.1 Rr.2.2.2.2.2.1 Rr.2.2.2.2.2.2) :=
  fun sz => BodyW.met (av := [.ref h, .int l1, .long l2]) (Qc := fun A => QV D cI cJ A (w_X2_countHoles cI cJ h h_counts h_borders h_basis h_basis_rows h_basis_leads g3 g4 Rr.1 Rr.2.1 Rr.2.2.1 Rr.2.2.2.1 Rr.2.2.2.2.1 Rr.2.2.2.2.2.1 Rr.2.2.2.2.2.2)) (by decide) rfl rfl (Nat.le_of_ble_eq_true rfl) (fun C0 hK hA hX ls hSt hl => k_X2_countHoles_0 C0 hK hA hX l1 l2 v_counts v_borders v_basis_rows v_basis_leads v_basis_leading v_basis_rest v_basis_count _ _ ls hSt hl hf) sz
/-! X2 know -/
abbrev rm_X2_know : Room := { frames := 4, cells := 0, slots := 0, locals := 93 }
abbrev w_X2_know (cI cJ : ClassId) (h : Nat) (h_counts : Nat) (h_borders : Nat) (h_basis : Nat) (h_basis_rows : Nat) (h_basis_leads : Nat)  (v_counts : Nat → Int32) (v_borders : Nat → Int32) (v_basis_rows : Nat → Int64) (v_basis_leads : Nat → Int64) (v_basis_leading : Int64) (v_basis_rest : Int64) (v_basis_count : Int32) (v_knownPoints : Int32) (v_knownFamily : Int64) : va_W := [(h, .inr (2, [.ref h_counts, .ref h_borders, .ref h_basis, .int v_knownPoints, .long v_knownFamily])), (h_counts, .inl (cI, 448, .inl v_counts)), (h_borders, .inl (cI, 8, .inl v_borders)), (h_basis, .inr (0, [.ref h_basis_rows, .ref h_basis_leads, .long v_basis_leading, .long v_basis_rest, .int v_basis_count])), (h_basis_rows, .inl (cJ, 64, .inr (.inl v_basis_rows))), (h_basis_leads, .inl (cJ, 64, .inr (.inl v_basis_leads)))]
theorem iu_X2_know_X2 : ∀ w ∈ wsX20, w ∈ wsX2_know := by decide +kernel
theorem fl_X2_know_25 : Cond.fieldLink RX2 25 (TX2 3).1 (TX2 3).2.1 (TX2 3).2.2.1 ∈ wsX2_know := by decide +kernel
theorem fl_X2_know_29 : Cond.fieldLink RX2 29 (TX2 4).1 (TX2 4).2.1 (TX2 4).2.2.1 ∈ wsX2_know := by decide +kernel
theorem hd_X2_know : yX2_know.cls = RX2 ∧ yX2_know.cls ≠ "java/lang/invoke/MethodHandle" ∧ yX2_know.cls ≠ "java/lang/invoke/VarHandle" ∧ (parseMethodDescriptor yX2_know.desc).map (fun d => d.parameters.length) = some 2 := by decide +kernel
def f_X2_know_31   : Nat → Int32 → Int64 → Int32 → (Nat → Int32) → (Nat → Int32) → (Nat → Int64) → (Nat → Int64) → (Int64) → (Int64) → (Int32) → (Int32) → (Int64) → Option ((Nat → Int32) × (Nat → Int32) × (Nat → Int64) × (Nat → Int64) × Int64 × Int64 × Int32 × Int32 × Int64)
  | 0, _, _, _, _, _, _, _, _, _, _, _, _ => none
  | n + 1, l1, l2, l4, v_counts, v_borders, v_basis_rows, v_basis_leads, v_basis_leading, v_basis_rest, v_basis_count, v_knownPoints, v_knownFamily => if (64 : Int32) ≤ l4 then some (v_counts, v_borders, v_basis_rows, v_basis_leads, v_basis_leading, v_basis_rest, v_basis_count, v_knownPoints, v_knownFamily) else if ((1 : Int32) <<< (l1 &&& 31)) ≤ l4 then some (v_counts, v_borders, v_basis_rows, v_basis_leads, v_basis_leading, v_basis_rest, v_basis_count, v_knownPoints, v_knownFamily) else (f_X6_inside l4).bind (fun R1 => (f_X2_countHoles l4 (l2 &&& R1) v_counts v_borders v_basis_rows v_basis_leads v_basis_leading v_basis_rest v_basis_count).bind (fun R2 => (f_X2_know_31 n) l1 l2 (l4 + 1) R2.1 R2.2.1 R2.2.2.1 R2.2.2.2.1 R2.2.2.2.2.1 R2.2.2.2.2.2.1 R2.2.2.2.2.2.2 v_knownPoints v_knownFamily))
set_option maxHeartbeats 4000000 in
set_option maxRecDepth 100000 in
theorem k_X2_know_31 {p : Program} {l : Launch} {e : Env} {s : State} {m : MethodId} {args : Array Value} {below : List Frame} {meth : Method} {c : Code} {A : Nat → Prop} {D : va_G} {cI cJ : ClassId} {h h_counts h_borders h_basis h_basis_rows h_basis_leads : Nat} {tB : Nat}  (C0 : Cx p s m args meth c cX2_know wsX2_know RX2 5 none) (hK : va_K D vwCl (tyL cI cJ) s) (hA : ∀ q, s.heap.size ≤ q → A q) (hX : XT (some tB) A s s.heap) {Rr : (Nat → Int32) × (Nat → Int32) × (Nat → Int64) × (Nat → Int64) × Int64 × Int64 × Int32 × Int32 × Int64} (n : Nat) : ∀ (l1 : Int32) (l2 : Int64) (l4 : Int32) (v_counts : Nat → Int32) (v_borders : Nat → Int32) (v_basis_rows : Nat → Int64) (v_basis_leads : Nat → Int64) (v_basis_leading : Int64) (v_basis_rest : Int64) (v_basis_count : Int32) (v_knownPoints : Int32) (v_knownFamily : Int64) (H : Heap) (locs : List Loc) (ls : Array Slot), St D A s (w_X2_know cI cJ h h_counts h_borders h_basis h_basis_rows h_basis_leads v_counts v_borders v_basis_rows v_basis_leads v_basis_leading v_basis_rest v_basis_count v_knownPoints v_knownFamily) H locs → lv_has ls 5 [(0, .ref h), (1, .int l1), (2, .long l2), (4, .int l4)] → f_X2_know_31 n l1 l2 l4 v_counts v_borders v_basis_rows v_basis_leads v_basis_leading v_basis_rest v_basis_count v_knownPoints v_knownFamily = some Rr → W p l e rm_X2_know s m args below meth c H locs 0 0 (MQ below (QV D cI cJ A (w_X2_know cI cJ h h_counts h_borders h_basis h_basis_rows h_basis_leads Rr.1 Rr.2.1 Rr.2.2.1 Rr.2.2.2.1 Rr.2.2.2.2.1 Rr.2.2.2.2.2.1 Rr.2.2.2.2.2.2.1 Rr.2.2.2.2.2.2.2.1 Rr.2.2.2.2.2.2.2.2)) args s 0 0 A) (F0 m 31 ls []) := by
  have hx := C0.1.1
  have hb := C0.1.2.1
  induction n with
  | zero => intro l1 l2 l4 v_counts v_borders v_basis_rows v_basis_leads v_basis_leading v_basis_rest v_basis_count v_knownPoints v_knownFamily H locs ls hSt hl hf; exact nomatch (show (none : Option _) = some Rr from hf)
  | succ n ih =>
    intro l1 l2 l4 v_counts v_borders v_basis_rows v_basis_leads v_basis_leading v_basis_rest v_basis_count v_knownPoints v_knownFamily H locs ls hSt hl hf
    unfold f_X2_know_31 at hf
    refine lv_iload hx hb dX2_know_31 (lv_at hl 3 rfl) ?_
    refine lv_bipush (v := 64) hx hb dX2_know_33 (by decide) ?_
    refine lv_icmp_ge (tgt := 65) hx hb dX2_know_35 (by decide) (fun cc => ?_) (fun cc => ?_)
    · have hf := ite_t hf cc
      cases hf
      exact hb_vret C0 hK hSt dX2_know_65
    · have hf := ite_f hf cc
      refine lv_iload hx hb dX2_know_38 (lv_at hl 3 rfl) ?_
      refine lv_iconst (v := 1) hx hb dX2_know_40 (by decide) ?_
      refine lv_iload_n hx hb dX2_know_41 rfl (lv_at hl 1 rfl) ?_
      refine lv_ishl hx hb dX2_know_42 ?_
      refine lv_icmp_ge (tgt := 65) hx hb dX2_know_43 (by decide) (fun cc => ?_) (fun cc => ?_)
      · have hf := ite_t hf cc
        cases hf
        exact hb_vret C0 hK hSt dX2_know_65
      · have hf := ite_f hf cc
        refine lv_aload_n hx hb dX2_know_46 rfl (lv_at hl 0 rfl) ?_
        refine lv_iload hx hb dX2_know_47 (lv_at hl 3 rfl) ?_
        refine lv_lload_n hx hb dX2_know_49 rfl (lv_at hl 2 rfl) ?_
        refine lv_iload hx hb dX2_know_50 (lv_at hl 3 rfl) ?_
        obtain ⟨R1, hR1, hf⟩ := Option.bind_eq_some_iff.mp hf
        have sp : Sp (w_X2_know cI cJ h h_counts h_borders h_basis h_basis_rows h_basis_leads v_counts v_borders v_basis_rows v_basis_leads v_basis_leading v_basis_rest v_basis_count v_knownPoints v_knownFamily) (w_X6_inside cI cJ) (w_X6_inside cI cJ) (w_X2_know cI cJ h h_counts h_borders h_basis h_basis_rows h_basis_leads v_counts v_borders v_basis_rows v_basis_leads v_basis_leading v_basis_rest v_basis_count v_knownPoints v_knownFamily) [] [0, 1, 2, 3, 4, 5] [0, 1, 2, 3, 4, 5] := ⟨rfl, rfl, rfl, by decide, by decide, by decide, by decide⟩
        refine hb_cl (hb_rS (As := [.int l4]) (rest := [.long l2, .int l4, .ref h]) C0 hK hA XT.nn hSt sp (c_X6_inside l D cI cJ   l4  R1 hR1) gX2_know_X6_inside rfl ⟨rfl, rfl⟩ hd_X6_inside ⟨Nat.le_of_ble_eq_true rfl, Nat.le_of_ble_eq_true rfl⟩ rfl hl rfl (Nat.le_of_ble_eq_true rfl) dX2_know_52 ⟨Nat.zero_le _, Nat.zero_le _⟩) hA hSt sp (fun H locs hSt => ?_)
        refine lv_land hx hb dX2_know_55 ?_
        obtain ⟨R2, hR2, hf⟩ := Option.bind_eq_some_iff.mp hf
        have sp : Sp (w_X2_know cI cJ h h_counts h_borders h_basis h_basis_rows h_basis_leads v_counts v_borders v_basis_rows v_basis_leads v_basis_leading v_basis_rest v_basis_count v_knownPoints v_knownFamily) (w_X2_countHoles cI cJ h h_counts h_borders h_basis h_basis_rows h_basis_leads (.int v_knownPoints) (.long v_knownFamily) v_counts v_borders v_basis_rows v_basis_leads v_basis_leading v_basis_rest v_basis_count) (w_X2_countHoles cI cJ h h_counts h_borders h_basis h_basis_rows h_basis_leads (.int v_knownPoints) (.long v_knownFamily) R2.1 R2.2.1 R2.2.2.1 R2.2.2.2.1 R2.2.2.2.2.1 R2.2.2.2.2.2.1 R2.2.2.2.2.2.2) (w_X2_know cI cJ h h_counts h_borders h_basis h_basis_rows h_basis_leads R2.1 R2.2.1 R2.2.2.1 R2.2.2.2.1 R2.2.2.2.2.1 R2.2.2.2.2.2.1 R2.2.2.2.2.2.2 v_knownPoints v_knownFamily) [0, 1, 2, 3, 4, 5] [] [0, 1, 2, 3, 4, 5] := ⟨rfl, rfl, rfl, by decide, by decide, by decide, by decide⟩
        refine hb_cv (hb_rV (As := [.int l4, .long (l2 &&& R1)]) (rest := []) C0 hK hA hX hSt sp (c_X2_countHoles l D cI cJ h h_counts h_borders h_basis h_basis_rows h_basis_leads (.int v_knownPoints) (.long v_knownFamily) tB  l4 (l2 &&& R1) v_counts v_borders v_basis_rows v_basis_leads v_basis_leading v_basis_rest v_basis_count R2 hR2) gX2_know_X2_countHoles rfl ⟨rfl, rfl⟩ hd_X2_countHoles ⟨Nat.le_of_ble_eq_true rfl, Nat.le_of_ble_eq_true rfl⟩ 0 2 rfl rfl rfl hl rfl (Nat.le_of_ble_eq_true rfl) dX2_know_56 ⟨Nat.zero_le _, Nat.zero_le _⟩) hA hSt sp (fun H locs hSt => ?_)
        refine lv_iinc (v := l4 + 1) (lv' := [(4, .int (l4 + 1)), (0, .ref h), (1, .int l1), (2, .long l2)]) hx hb dX2_know_59 hl (k := 3) rfl rfl (by decide) rfl (fun ls hl => ?_)
        refine lv_goto (tgt := 31) hx hb dX2_know_62 (by decide) ?_
        exact ih l1 l2 (l4 + 1) R2.1 R2.2.1 R2.2.2.1 R2.2.2.2.1 R2.2.2.2.2.1 R2.2.2.2.2.2.1 R2.2.2.2.2.2.2 v_knownPoints v_knownFamily _ _ _ hSt (lv_sub hl [1, 2, 3, 0] rfl) hf
def f_X2_know_18   (l1 : Int32) (l2 : Int64) (v_counts : Nat → Int32) (v_borders : Nat → Int32) (v_basis_rows : Nat → Int64) (v_basis_leads : Nat → Int64) (v_basis_leading : Int64) (v_basis_rest : Int64) (v_basis_count : Int32) (v_knownPoints : Int32) (v_knownFamily : Int64) : Option ((Nat → Int32) × (Nat → Int32) × (Nat → Int64) × (Nat → Int64) × Int64 × Int64 × Int32 × Int32 × Int64) := f_X2_know_31   FU l1 l2 (0 : Int32) v_counts v_borders v_basis_rows v_basis_leads v_basis_leading v_basis_rest v_basis_count l1 l2
set_option maxHeartbeats 4000000 in
set_option maxRecDepth 100000 in
theorem k_X2_know_18 {p : Program} {l : Launch} {e : Env} {s : State} {m : MethodId} {args : Array Value} {below : List Frame} {meth : Method} {c : Code} {A : Nat → Prop} {D : va_G} {cI cJ : ClassId} {h h_counts h_borders h_basis h_basis_rows h_basis_leads : Nat} {tB : Nat}  (C0 : Cx p s m args meth c cX2_know wsX2_know RX2 5 none) (hK : va_K D vwCl (tyL cI cJ) s) (hA : ∀ q, s.heap.size ≤ q → A q) (hX : XT (some tB) A s s.heap) {Rr : (Nat → Int32) × (Nat → Int32) × (Nat → Int64) × (Nat → Int64) × Int64 × Int64 × Int32 × Int32 × Int64} : ∀ (l1 : Int32) (l2 : Int64) (v_counts : Nat → Int32) (v_borders : Nat → Int32) (v_basis_rows : Nat → Int64) (v_basis_leads : Nat → Int64) (v_basis_leading : Int64) (v_basis_rest : Int64) (v_basis_count : Int32) (v_knownPoints : Int32) (v_knownFamily : Int64) (H : Heap) (locs : List Loc) (ls : Array Slot), St D A s (w_X2_know cI cJ h h_counts h_borders h_basis h_basis_rows h_basis_leads v_counts v_borders v_basis_rows v_basis_leads v_basis_leading v_basis_rest v_basis_count v_knownPoints v_knownFamily) H locs → lv_has ls 5 [(0, .ref h), (1, .int l1), (2, .long l2)] → f_X2_know_18 l1 l2 v_counts v_borders v_basis_rows v_basis_leads v_basis_leading v_basis_rest v_basis_count v_knownPoints v_knownFamily = some Rr → W p l e rm_X2_know s m args below meth c H locs 0 0 (MQ below (QV D cI cJ A (w_X2_know cI cJ h h_counts h_borders h_basis h_basis_rows h_basis_leads Rr.1 Rr.2.1 Rr.2.2.1 Rr.2.2.2.1 Rr.2.2.2.2.1 Rr.2.2.2.2.2.1 Rr.2.2.2.2.2.2.1 Rr.2.2.2.2.2.2.2.1 Rr.2.2.2.2.2.2.2.2)) args s 0 0 A) (F0 m 18 ls []) := by
  have hx := C0.1.1
  have hb := C0.1.2.1
  intro l1 l2 v_counts v_borders v_basis_rows v_basis_leads v_basis_leading v_basis_rest v_basis_count v_knownPoints v_knownFamily H locs ls hSt hl hf
  unfold f_X2_know_18 at hf
  refine lv_aload_n hx hb dX2_know_18 rfl (lv_at hl 0 rfl) ?_
  refine lv_iload_n hx hb dX2_know_19 rfl (lv_at hl 1 rfl) ?_
  refine hb_put C0 hK hSt 0 2 3 rfl rfl iu_X2_know_X2 tyX2 tyX2_ok nmX2 (by decide) fl_X2_know_25 rfl rfl rfl (Nat.le_of_ble_eq_true rfl) (w' := w_X2_know cI cJ h h_counts h_borders h_basis h_basis_rows h_basis_leads v_counts v_borders v_basis_rows v_basis_leads v_basis_leading v_basis_rest v_basis_count l1 v_knownFamily) rfl dX2_know_20 (fun H locs hSt => ?_)
  refine lv_aload_n hx hb dX2_know_23 rfl (lv_at hl 0 rfl) ?_
  refine lv_lload_n hx hb dX2_know_24 rfl (lv_at hl 2 rfl) ?_
  refine hb_put C0 hK hSt 0 2 4 rfl rfl iu_X2_know_X2 tyX2 tyX2_ok nmX2 (by decide) fl_X2_know_29 rfl rfl rfl (Nat.le_of_ble_eq_true rfl) (w' := w_X2_know cI cJ h h_counts h_borders h_basis h_basis_rows h_basis_leads v_counts v_borders v_basis_rows v_basis_leads v_basis_leading v_basis_rest v_basis_count l1 l2) rfl dX2_know_25 (fun H locs hSt => ?_)
  refine lv_iconst (v := 0) hx hb dX2_know_28 (by decide) ?_
  refine lv_istore (lv' := [(4, .int (0 : Int32)), (0, .ref h), (1, .int l1), (2, .long l2)]) hx hb dX2_know_29 hl (by decide) rfl (fun ls hl => ?_)
  exact k_X2_know_31 C0 hK hA hX  FU l1 l2 (0 : Int32) v_counts v_borders v_basis_rows v_basis_leads v_basis_leading v_basis_rest v_basis_count l1 l2 _ _ _ hSt (lv_sub hl [1, 2, 3, 0] rfl) hf
def f_X2_know_0   (l1 : Int32) (l2 : Int64) (v_counts : Nat → Int32) (v_borders : Nat → Int32) (v_basis_rows : Nat → Int64) (v_basis_leads : Nat → Int64) (v_basis_leading : Int64) (v_basis_rest : Int64) (v_basis_count : Int32) (v_knownPoints : Int32) (v_knownFamily : Int64) : Option ((Nat → Int32) × (Nat → Int32) × (Nat → Int64) × (Nat → Int64) × Int64 × Int64 × Int32 × Int32 × Int64) := if l1 = v_knownPoints then if l2 = v_knownFamily then some (v_counts, v_borders, v_basis_rows, v_basis_leads, v_basis_leading, v_basis_rest, v_basis_count, v_knownPoints, v_knownFamily) else f_X2_know_18   l1 l2 v_counts v_borders v_basis_rows v_basis_leads v_basis_leading v_basis_rest v_basis_count v_knownPoints v_knownFamily else f_X2_know_18   l1 l2 v_counts v_borders v_basis_rows v_basis_leads v_basis_leading v_basis_rest v_basis_count v_knownPoints v_knownFamily
set_option maxHeartbeats 4000000 in
set_option maxRecDepth 100000 in
theorem k_X2_know_0 {p : Program} {l : Launch} {e : Env} {s : State} {m : MethodId} {args : Array Value} {below : List Frame} {meth : Method} {c : Code} {A : Nat → Prop} {D : va_G} {cI cJ : ClassId} {h h_counts h_borders h_basis h_basis_rows h_basis_leads : Nat} {tB : Nat}  (C0 : Cx p s m args meth c cX2_know wsX2_know RX2 5 none) (hK : va_K D vwCl (tyL cI cJ) s) (hA : ∀ q, s.heap.size ≤ q → A q) (hX : XT (some tB) A s s.heap) {Rr : (Nat → Int32) × (Nat → Int32) × (Nat → Int64) × (Nat → Int64) × Int64 × Int64 × Int32 × Int32 × Int64} : ∀ (l1 : Int32) (l2 : Int64) (v_counts : Nat → Int32) (v_borders : Nat → Int32) (v_basis_rows : Nat → Int64) (v_basis_leads : Nat → Int64) (v_basis_leading : Int64) (v_basis_rest : Int64) (v_basis_count : Int32) (v_knownPoints : Int32) (v_knownFamily : Int64) (H : Heap) (locs : List Loc) (ls : Array Slot), St D A s (w_X2_know cI cJ h h_counts h_borders h_basis h_basis_rows h_basis_leads v_counts v_borders v_basis_rows v_basis_leads v_basis_leading v_basis_rest v_basis_count v_knownPoints v_knownFamily) H locs → lv_has ls 5 [(0, .ref h), (1, .int l1), (2, .long l2)] → f_X2_know_0 l1 l2 v_counts v_borders v_basis_rows v_basis_leads v_basis_leading v_basis_rest v_basis_count v_knownPoints v_knownFamily = some Rr → W p l e rm_X2_know s m args below meth c H locs 0 0 (MQ below (QV D cI cJ A (w_X2_know cI cJ h h_counts h_borders h_basis h_basis_rows h_basis_leads Rr.1 Rr.2.1 Rr.2.2.1 Rr.2.2.2.1 Rr.2.2.2.2.1 Rr.2.2.2.2.2.1 Rr.2.2.2.2.2.2.1 Rr.2.2.2.2.2.2.2.1 Rr.2.2.2.2.2.2.2.2)) args s 0 0 A) (F0 m 0 ls []) := by
  have hx := C0.1.1
  have hb := C0.1.2.1
  intro l1 l2 v_counts v_borders v_basis_rows v_basis_leads v_basis_leading v_basis_rest v_basis_count v_knownPoints v_knownFamily H locs ls hSt hl hf
  unfold f_X2_know_0 at hf
  refine lv_iload_n hx hb dX2_know_0 rfl (lv_at hl 1 rfl) ?_
  refine lv_aload_n hx hb dX2_know_1 rfl (lv_at hl 0 rfl) ?_
  refine hb_get C0 hK hSt 0 2 3 rfl rfl iu_X2_know_X2 (by decide) fl_X2_know_25 rfl dX2_know_2 ?_
  refine lv_icmp_ne (tgt := 18) hx hb dX2_know_5 (by decide) (fun cc => ?_) (fun cc => ?_)
  · have hf := ite_f hf cc
    exact k_X2_know_18 C0 hK hA hX  l1 l2 v_counts v_borders v_basis_rows v_basis_leads v_basis_leading v_basis_rest v_basis_count v_knownPoints v_knownFamily _ _ _ hSt (lv_sub hl [0, 1, 2] rfl) hf
  · have hf := ite_t hf cc
    refine lv_lload_n hx hb dX2_know_8 rfl (lv_at hl 2 rfl) ?_
    refine lv_aload_n hx hb dX2_know_9 rfl (lv_at hl 0 rfl) ?_
    refine hb_get C0 hK hSt 0 2 4 rfl rfl iu_X2_know_X2 (by decide) fl_X2_know_29 rfl dX2_know_10 ?_
    refine W.lcmp hx hb dX2_know_13 ?_
    refine lv_if_ne (tgt := 18) hx hb dX2_know_14 (by decide) (fun cc => ?_) (fun cc => ?_)
    · have hf := ite_f hf (lc_f cc)
      exact k_X2_know_18 C0 hK hA hX  l1 l2 v_counts v_borders v_basis_rows v_basis_leads v_basis_leading v_basis_rest v_basis_count v_knownPoints v_knownFamily _ _ _ hSt (lv_sub hl [0, 1, 2] rfl) hf
    · have hf := ite_t hf (lc_t cc)
      cases hf
      exact hb_vret C0 hK hSt dX2_know_17
def f_X2_know  (l1 : Int32) (l2 : Int64) (v_counts : Nat → Int32) (v_borders : Nat → Int32) (v_basis_rows : Nat → Int64) (v_basis_leads : Nat → Int64) (v_basis_leading : Int64) (v_basis_rest : Int64) (v_basis_count : Int32) (v_knownPoints : Int32) (v_knownFamily : Int64) : Option ((Nat → Int32) × (Nat → Int32) × (Nat → Int64) × (Nat → Int64) × Int64 × Int64 × Int32 × Int32 × Int64) := f_X2_know_0 l1 l2 v_counts v_borders v_basis_rows v_basis_leads v_basis_leading v_basis_rest v_basis_count v_knownPoints v_knownFamily
set_option maxRecDepth 100000 in
theorem c_X2_know (l : Launch) (D : va_G) (cI cJ : ClassId) (h h_counts h_borders h_basis h_basis_rows h_basis_leads : Nat) (tB : Nat) (l1 : Int32) (l2 : Int64) (v_counts : Nat → Int32) (v_borders : Nat → Int32) (v_basis_rows : Nat → Int64) (v_basis_leads : Nat → Int64) (v_basis_leading : Int64) (v_basis_rest : Int64) (v_basis_count : Int32) (v_knownPoints : Int32) (v_knownFamily : Int64) (Rr : (Nat → Int32) × (Nat → Int32) × (Nat → Int64) × (Nat → Int64) × Int64 × Int64 × Int32 × Int32 × Int64) (hf : f_X2_know l1 l2 v_counts v_borders v_basis_rows v_basis_leads v_basis_leading v_basis_rest v_basis_count v_knownPoints v_knownFamily = some Rr) : CtV l yX2_know wsX2_know rm_X2_know D cI cJ (some tB) [.ref h, .int l1, .long l2] (w_X2_know cI cJ h h_counts h_borders h_basis h_basis_rows h_basis_leads v_counts v_borders v_basis_rows v_basis_leads v_basis_leading v_basis_rest v_basis_count v_knownPoints v_knownFamily) (w_X2_know cI cJ h h_counts h_borders h_basis h_basis_rows h_basis_leads Rr.1 Rr.2.1 Rr.2.2.1 Rr.2.2.2.1 Rr.2.2.2.2.1 Rr.2.2.2.2.2.1 Rr.2.2.2.2.2.2.1 Rr.2.2.2.2.2.2.2.1 Rr.2.2.2.2.2.2.2.2) :=
  fun sz => BodyW.met (av := [.ref h, .int l1, .long l2]) (Qc := fun A => QV D cI cJ A (w_X2_know cI cJ h h_counts h_borders h_basis h_basis_rows h_basis_leads Rr.1 Rr.2.1 Rr.2.2.1 Rr.2.2.2.1 Rr.2.2.2.2.1 Rr.2.2.2.2.2.1 Rr.2.2.2.2.2.2.1 Rr.2.2.2.2.2.2.2.1 Rr.2.2.2.2.2.2.2.2)) (by decide) rfl rfl (Nat.le_of_ble_eq_true rfl) (fun C0 hK hA hX ls hSt hl => k_X2_know_0 C0 hK hA hX l1 l2 v_counts v_borders v_basis_rows v_basis_leads v_basis_leading v_basis_rest v_basis_count v_knownPoints v_knownFamily _ _ ls hSt hl hf) sz
/-! X2 isDimension -/
abbrev rm_X2_isDimension : Room := { frames := 0, cells := 0, slots := 0, locals := 0 }
abbrev w_X2_isDimension (cI cJ : ClassId)    : va_W := []
theorem hd_X2_isDimension : yX2_isDimension.cls ≠ "java/lang/invoke/MethodHandle" ∧ yX2_isDimension.cls ≠ "java/lang/invoke/VarHandle" ∧ (parseMethodDescriptor yX2_isDimension.desc).map (fun d => d.parameters.length) = some 1 := by decide +kernel
def f_X2_isDimension_0   (l0 : Int32)  : Option (Int32) := if l0 < (-1 : Int32) then some (0 : Int32) else if (5 : Int32) < l0 then some (0 : Int32) else some (1 : Int32)
set_option maxHeartbeats 4000000 in
set_option maxRecDepth 100000 in
theorem k_X2_isDimension_0 {p : Program} {l : Launch} {e : Env} {s : State} {m : MethodId} {args : Array Value} {below : List Frame} {meth : Method} {c : Code} {A : Nat → Prop} {D : va_G} {cI cJ : ClassId}   (C0 : Cx p s m args meth c cX2_isDimension wsX2_isDimension RX2 1 (some .boolean)) (hK : va_K D vwCl (tyL cI cJ) s) (hA : ∀ q, s.heap.size ≤ q → A q) (hX : XT none A s s.heap) {Rr : Int32} : ∀ (l0 : Int32)  (H : Heap) (locs : List Loc) (ls : Array Slot), St D A s (w_X2_isDimension cI cJ) H locs → lv_has ls 1 [(0, .int l0)] → f_X2_isDimension_0 l0 = some Rr → W p l e rm_X2_isDimension s m args below meth c H locs 0 0 (MQ below (QI D cI cJ A (w_X2_isDimension cI cJ) Rr) args s 0 0 A) (F0 m 0 ls []) := by
  have hx := C0.1.1
  have hb := C0.1.2.1
  intro l0 H locs ls hSt hl hf
  unfold f_X2_isDimension_0 at hf
  refine lv_iload_n hx hb dX2_isDimension_0 rfl (lv_at hl 0 rfl) ?_
  refine lv_iconst (v := -1) hx hb dX2_isDimension_1 (by decide) ?_
  refine lv_icmp_lt (tgt := 14) hx hb dX2_isDimension_2 (by decide) (fun cc => ?_) (fun cc => ?_)
  · have hf := ite_t hf cc
    refine lv_iconst (v := 0) hx hb dX2_isDimension_14 (by decide) ?_
    cases hf
    exact hb_zret C0 hK hSt nb0.1 dX2_isDimension_15
  · have hf := ite_f hf cc
    refine lv_iload_n hx hb dX2_isDimension_5 rfl (lv_at hl 0 rfl) ?_
    refine lv_iconst (v := 5) hx hb dX2_isDimension_6 (by decide) ?_
    refine lv_icmp_gt (tgt := 14) hx hb dX2_isDimension_7 (by decide) (fun cc => ?_) (fun cc => ?_)
    · have hf := ite_t hf cc
      refine lv_iconst (v := 0) hx hb dX2_isDimension_14 (by decide) ?_
      cases hf
      exact hb_zret C0 hK hSt nb0.1 dX2_isDimension_15
    · have hf := ite_f hf cc
      refine lv_iconst (v := 1) hx hb dX2_isDimension_10 (by decide) ?_
      refine lv_goto (tgt := 15) hx hb dX2_isDimension_11 (by decide) ?_
      cases hf
      exact hb_zret C0 hK hSt nb1.1 dX2_isDimension_15
def f_X2_isDimension  (l0 : Int32)  : Option (Int32) := f_X2_isDimension_0 l0
set_option maxRecDepth 100000 in
theorem c_X2_isDimension (l : Launch) (D : va_G) (cI cJ : ClassId)  (l0 : Int32)  (Rr : Int32) (hf : f_X2_isDimension l0 = some Rr) : CtI l yX2_isDimension wsX2_isDimension rm_X2_isDimension D cI cJ none [.int l0] (w_X2_isDimension cI cJ) Rr (w_X2_isDimension cI cJ) :=
  fun sz => BodyW.met (av := [.int l0]) (Qc := fun A => QI D cI cJ A (w_X2_isDimension cI cJ) Rr) (by decide) rfl rfl (Nat.le_of_ble_eq_true rfl) (fun C0 hK hA hX ls hSt hl => k_X2_isDimension_0 C0 hK hA hX l0  _ _ ls hSt hl hf) sz
/-! X2 holesOf -/
abbrev rm_X2_holesOf : Room := { frames := 1, cells := 0, slots := 0, locals := 20 }
abbrev w_X2_holesOf (cI cJ : ClassId) (h : Nat) (h_counts : Nat) (g1 : Value) (g2 : Value) (g3 : Value) (g4 : Value) (v_counts : Nat → Int32) : va_W := [(h, .inr (2, [.ref h_counts, g1, g2, g3, g4])), (h_counts, .inl (cI, 448, .inl v_counts))]
theorem iu_X2_holesOf_X2 : ∀ w ∈ wsX20, w ∈ wsX2_holesOf := by decide +kernel
theorem fl_X2_holesOf_11 : Cond.fieldLink RX2 11 (TX2 0).1 (TX2 0).2.1 (TX2 0).2.2.1 ∈ wsX2_holesOf := by decide +kernel
theorem hd_X2_holesOf : yX2_holesOf.cls = RX2 ∧ yX2_holesOf.cls ≠ "java/lang/invoke/MethodHandle" ∧ yX2_holesOf.cls ≠ "java/lang/invoke/VarHandle" ∧ (parseMethodDescriptor yX2_holesOf.desc).map (fun d => d.parameters.length) = some 2 := by decide +kernel
def f_X2_holesOf_22 (v_counts : Nat → Int32)  (l1 : Int32) (l2 : Int32) (s0 : Int32)  : Option (Int32) := if s0 = 0 then some (0 : Int32) else gd (ix (((l1 * (7 : Int32)) + l2) + (1 : Int32)) 448) (some (v_counts (((l1 * (7 : Int32)) + l2) + (1 : Int32)).toNatClampNeg))
set_option maxHeartbeats 4000000 in
set_option maxRecDepth 100000 in
theorem k_X2_holesOf_22 {p : Program} {l : Launch} {e : Env} {s : State} {m : MethodId} {args : Array Value} {below : List Frame} {meth : Method} {c : Code} {A : Nat → Prop} {D : va_G} {cI cJ : ClassId} {h h_counts : Nat} {g1 g2 g3 g4 : Value} {v_counts : Nat → Int32} (C0 : Cx p s m args meth c cX2_holesOf wsX2_holesOf RX2 4 (some .int)) (hK : va_K D vwCl (tyL cI cJ) s) (hA : ∀ q, s.heap.size ≤ q → A q) (hX : XT none A s s.heap) {Rr : Int32} : ∀ (l1 : Int32) (l2 : Int32) (s0 : Int32)  (H : Heap) (locs : List Loc) (ls : Array Slot), St D A s (w_X2_holesOf cI cJ h h_counts g1 g2 g3 g4 v_counts) H locs → lv_has ls 4 [(0, .ref h), (1, .int l1), (2, .int l2)] → f_X2_holesOf_22 v_counts l1 l2 s0 = some Rr → W p l e rm_X2_holesOf s m args below meth c H locs 0 0 (MQ below (QI D cI cJ A (w_X2_holesOf cI cJ h h_counts g1 g2 g3 g4 v_counts) Rr) args s 0 0 A) (F0 m 22 ls [.int s0]) := by
  have hx := C0.1.1
  have hb := C0.1.2.1
  intro l1 l2 s0 H locs ls hSt hl hf
  unfold f_X2_holesOf_22 at hf
  refine lv_istore_n (lv' := [(3, .int s0), (0, .ref h), (1, .int l1), (2, .int l2)]) hx hb dX2_holesOf_22 rfl hl (by decide) rfl (fun ls hl => ?_)
  refine lv_iload_n hx hb dX2_holesOf_23 rfl (lv_at hl 0 rfl) ?_
  refine lv_if_eq (tgt := 43) hx hb dX2_holesOf_24 (by decide) (fun cc => ?_) (fun cc => ?_)
  · have hf := ite_t hf cc
    refine lv_iconst (v := 0) hx hb dX2_holesOf_43 (by decide) ?_
    cases hf
    exact hb_iret C0 hK hSt dX2_holesOf_44
  · have hf := ite_f hf cc
    refine lv_aload_n hx hb dX2_holesOf_27 rfl (lv_at hl 1 rfl) ?_
    refine hb_get C0 hK hSt 0 2 0 rfl rfl iu_X2_holesOf_X2 (by decide) fl_X2_holesOf_11 rfl dX2_holesOf_28 ?_
    refine lv_iload_n hx hb dX2_holesOf_31 rfl (lv_at hl 2 rfl) ?_
    refine lv_bipush (v := 7) hx hb dX2_holesOf_32 (by decide) ?_
    refine lv_imul hx hb dX2_holesOf_34 ?_
    refine lv_iload_n hx hb dX2_holesOf_35 rfl (lv_at hl 3 rfl) ?_
    refine lv_iadd hx hb dX2_holesOf_36 ?_
    refine lv_iconst (v := 1) hx hb dX2_holesOf_37 (by decide) ?_
    refine lv_iadd hx hb dX2_holesOf_38 ?_
    obtain ⟨hi, hf⟩ := gd_t hf
    refine hb_iald C0 hK hSt 1 rfl hi dX2_holesOf_39 ?_
    refine lv_goto (tgt := 44) hx hb dX2_holesOf_40 (by decide) ?_
    cases hf
    exact hb_iret C0 hK hSt dX2_holesOf_44
def f_X2_holesOf_21 (v_counts : Nat → Int32)  (l1 : Int32) (l2 : Int32)  : Option (Int32) := f_X2_holesOf_22 v_counts  l1 l2 (0 : Int32)
set_option maxHeartbeats 4000000 in
set_option maxRecDepth 100000 in
theorem k_X2_holesOf_21 {p : Program} {l : Launch} {e : Env} {s : State} {m : MethodId} {args : Array Value} {below : List Frame} {meth : Method} {c : Code} {A : Nat → Prop} {D : va_G} {cI cJ : ClassId} {h h_counts : Nat} {g1 g2 g3 g4 : Value} {v_counts : Nat → Int32} (C0 : Cx p s m args meth c cX2_holesOf wsX2_holesOf RX2 4 (some .int)) (hK : va_K D vwCl (tyL cI cJ) s) (hA : ∀ q, s.heap.size ≤ q → A q) (hX : XT none A s s.heap) {Rr : Int32} : ∀ (l1 : Int32) (l2 : Int32)  (H : Heap) (locs : List Loc) (ls : Array Slot), St D A s (w_X2_holesOf cI cJ h h_counts g1 g2 g3 g4 v_counts) H locs → lv_has ls 4 [(0, .ref h), (1, .int l1), (2, .int l2)] → f_X2_holesOf_21 v_counts l1 l2 = some Rr → W p l e rm_X2_holesOf s m args below meth c H locs 0 0 (MQ below (QI D cI cJ A (w_X2_holesOf cI cJ h h_counts g1 g2 g3 g4 v_counts) Rr) args s 0 0 A) (F0 m 21 ls []) := by
  have hx := C0.1.1
  have hb := C0.1.2.1
  intro l1 l2 H locs ls hSt hl hf
  unfold f_X2_holesOf_21 at hf
  refine lv_iconst (v := 0) hx hb dX2_holesOf_21 (by decide) ?_
  exact k_X2_holesOf_22 C0 hK hA hX  l1 l2 (0 : Int32) _ _ _ hSt (lv_sub hl [0, 1, 2] rfl) hf
def f_X2_holesOf_0 (v_counts : Nat → Int32)  (l1 : Int32) (l2 : Int32)  : Option (Int32) := if l1 < 0 then f_X2_holesOf_21 v_counts  l1 l2 else if (64 : Int32) ≤ l1 then f_X2_holesOf_21 v_counts  l1 l2 else (f_X2_isDimension l2).bind (fun R1 => if R1 = 0 then f_X2_holesOf_21 v_counts  l1 l2 else f_X2_holesOf_22 v_counts  l1 l2 (1 : Int32))
set_option maxHeartbeats 4000000 in
set_option maxRecDepth 100000 in
theorem k_X2_holesOf_0 {p : Program} {l : Launch} {e : Env} {s : State} {m : MethodId} {args : Array Value} {below : List Frame} {meth : Method} {c : Code} {A : Nat → Prop} {D : va_G} {cI cJ : ClassId} {h h_counts : Nat} {g1 g2 g3 g4 : Value} {v_counts : Nat → Int32} (C0 : Cx p s m args meth c cX2_holesOf wsX2_holesOf RX2 4 (some .int)) (hK : va_K D vwCl (tyL cI cJ) s) (hA : ∀ q, s.heap.size ≤ q → A q) (hX : XT none A s s.heap) {Rr : Int32} : ∀ (l1 : Int32) (l2 : Int32)  (H : Heap) (locs : List Loc) (ls : Array Slot), St D A s (w_X2_holesOf cI cJ h h_counts g1 g2 g3 g4 v_counts) H locs → lv_has ls 4 [(0, .ref h), (1, .int l1), (2, .int l2)] → f_X2_holesOf_0 v_counts l1 l2 = some Rr → W p l e rm_X2_holesOf s m args below meth c H locs 0 0 (MQ below (QI D cI cJ A (w_X2_holesOf cI cJ h h_counts g1 g2 g3 g4 v_counts) Rr) args s 0 0 A) (F0 m 0 ls []) := by
  have hx := C0.1.1
  have hb := C0.1.2.1
  intro l1 l2 H locs ls hSt hl hf
  unfold f_X2_holesOf_0 at hf
  refine lv_iload_n hx hb dX2_holesOf_0 rfl (lv_at hl 1 rfl) ?_
  refine lv_if_lt (tgt := 21) hx hb dX2_holesOf_1 (by decide) (fun cc => ?_) (fun cc => ?_)
  · have hf := ite_t hf cc
    exact k_X2_holesOf_21 C0 hK hA hX  l1 l2 _ _ _ hSt (lv_sub hl [0, 1, 2] rfl) hf
  · have hf := ite_f hf cc
    refine lv_iload_n hx hb dX2_holesOf_4 rfl (lv_at hl 1 rfl) ?_
    refine lv_bipush (v := 64) hx hb dX2_holesOf_5 (by decide) ?_
    refine lv_icmp_ge (tgt := 21) hx hb dX2_holesOf_7 (by decide) (fun cc => ?_) (fun cc => ?_)
    · have hf := ite_t hf cc
      exact k_X2_holesOf_21 C0 hK hA hX  l1 l2 _ _ _ hSt (lv_sub hl [0, 1, 2] rfl) hf
    · have hf := ite_f hf cc
      refine lv_iload_n hx hb dX2_holesOf_10 rfl (lv_at hl 2 rfl) ?_
      obtain ⟨R1, hR1, hf⟩ := Option.bind_eq_some_iff.mp hf
      have sp : Sp (w_X2_holesOf cI cJ h h_counts g1 g2 g3 g4 v_counts) (w_X2_isDimension cI cJ) (w_X2_isDimension cI cJ) (w_X2_holesOf cI cJ h h_counts g1 g2 g3 g4 v_counts) [] [0, 1] [0, 1] := ⟨rfl, rfl, rfl, by decide, by decide, by decide, by decide⟩
      refine hb_ci (hb_rS (As := [.int l2]) (rest := []) C0 hK hA XT.nn hSt sp (c_X2_isDimension l D cI cJ   l2  R1 hR1) gX2_holesOf_X2_isDimension rfl ⟨rfl, rfl⟩ hd_X2_isDimension ⟨Nat.le_of_ble_eq_true rfl, Nat.le_of_ble_eq_true rfl⟩ rfl hl rfl (Nat.le_of_ble_eq_true rfl) dX2_holesOf_11 ⟨Nat.zero_le _, Nat.zero_le _⟩) hA hSt sp (fun H locs hSt => ?_)
      refine lv_if_eq (tgt := 21) hx hb dX2_holesOf_14 (by decide) (fun cc => ?_) (fun cc => ?_)
      · have hf := ite_t hf cc
        exact k_X2_holesOf_21 C0 hK hA hX  l1 l2 _ _ _ hSt (lv_sub hl [0, 1, 2] rfl) hf
      · have hf := ite_f hf cc
        refine lv_iconst (v := 1) hx hb dX2_holesOf_17 (by decide) ?_
        refine lv_goto (tgt := 22) hx hb dX2_holesOf_18 (by decide) ?_
        exact k_X2_holesOf_22 C0 hK hA hX  l1 l2 (1 : Int32) _ _ _ hSt (lv_sub hl [0, 1, 2] rfl) hf
def f_X2_holesOf (v_counts : Nat → Int32) (l1 : Int32) (l2 : Int32)  : Option (Int32) := f_X2_holesOf_0 v_counts l1 l2
set_option maxRecDepth 100000 in
theorem c_X2_holesOf (l : Launch) (D : va_G) (cI cJ : ClassId) (h h_counts : Nat) (g1 g2 g3 g4 : Value) (l1 : Int32) (l2 : Int32) (v_counts : Nat → Int32) (Rr : Int32) (hf : f_X2_holesOf v_counts l1 l2 = some Rr) : CtI l yX2_holesOf wsX2_holesOf rm_X2_holesOf D cI cJ none [.ref h, .int l1, .int l2] (w_X2_holesOf cI cJ h h_counts g1 g2 g3 g4 v_counts) Rr (w_X2_holesOf cI cJ h h_counts g1 g2 g3 g4 v_counts) :=
  fun sz => BodyW.met (av := [.ref h, .int l1, .int l2]) (Qc := fun A => QI D cI cJ A (w_X2_holesOf cI cJ h h_counts g1 g2 g3 g4 v_counts) Rr) (by decide) rfl rfl (Nat.le_of_ble_eq_true rfl) (fun C0 hK hA hX ls hSt hl => k_X2_holesOf_0 C0 hK hA hX l1 l2  _ _ ls hSt hl hf) sz
/-! X4 toldPoints -/
abbrev rm_X4_toldPoints : Room := { frames := 0, cells := 0, slots := 0, locals := 0 }
abbrev w_X4_toldPoints (cI cJ : ClassId) (h : Nat) (g1 : Value) (v_told : Int32) : va_W := [(h, .inr (4, [.int v_told, g1]))]
theorem iu_X4_toldPoints_X4 : ∀ w ∈ wsX40, w ∈ wsX4_toldPoints := by decide +kernel
theorem fl_X4_toldPoints_15 : Cond.fieldLink RX4 15 (TX4 0).1 (TX4 0).2.1 (TX4 0).2.2.1 ∈ wsX4_toldPoints := by decide +kernel
theorem hd_X4_toldPoints : yX4_toldPoints.cls = RX4 ∧ yX4_toldPoints.cls ≠ "java/lang/invoke/MethodHandle" ∧ yX4_toldPoints.cls ≠ "java/lang/invoke/VarHandle" ∧ (parseMethodDescriptor yX4_toldPoints.desc).map (fun d => d.parameters.length) = some 0 := by decide +kernel
def f_X4_toldPoints_0 (v_told : Int32)    : Option (Int32) := some v_told
set_option maxHeartbeats 4000000 in
set_option maxRecDepth 100000 in
theorem k_X4_toldPoints_0 {p : Program} {l : Launch} {e : Env} {s : State} {m : MethodId} {args : Array Value} {below : List Frame} {meth : Method} {c : Code} {A : Nat → Prop} {D : va_G} {cI cJ : ClassId} {h : Nat} {g1 : Value} {v_told : Int32} (C0 : Cx p s m args meth c cX4_toldPoints wsX4_toldPoints RX4 1 (some .int)) (hK : va_K D vwCl (tyL cI cJ) s) (hA : ∀ q, s.heap.size ≤ q → A q) (hX : XT none A s s.heap) {Rr : Int32} : ∀   (H : Heap) (locs : List Loc) (ls : Array Slot), St D A s (w_X4_toldPoints cI cJ h g1 v_told) H locs → lv_has ls 1 [(0, .ref h)] → f_X4_toldPoints_0 v_told = some Rr → W p l e rm_X4_toldPoints s m args below meth c H locs 0 0 (MQ below (QI D cI cJ A (w_X4_toldPoints cI cJ h g1 v_told) Rr) args s 0 0 A) (F0 m 0 ls []) := by
  have hx := C0.1.1
  have hb := C0.1.2.1
  intro H locs ls hSt hl hf
  unfold f_X4_toldPoints_0 at hf
  refine lv_aload_n hx hb dX4_toldPoints_0 rfl (lv_at hl 0 rfl) ?_
  refine hb_get C0 hK hSt 0 4 0 rfl rfl iu_X4_toldPoints_X4 (by decide) fl_X4_toldPoints_15 rfl dX4_toldPoints_1 ?_
  cases hf
  exact hb_iret C0 hK hSt dX4_toldPoints_4
def f_X4_toldPoints (v_told : Int32)   : Option (Int32) := f_X4_toldPoints_0 v_told
set_option maxRecDepth 100000 in
theorem c_X4_toldPoints (l : Launch) (D : va_G) (cI cJ : ClassId) (h : Nat) (g1 : Value)  (v_told : Int32) (Rr : Int32) (hf : f_X4_toldPoints v_told = some Rr) : CtI l yX4_toldPoints wsX4_toldPoints rm_X4_toldPoints D cI cJ none [.ref h] (w_X4_toldPoints cI cJ h g1 v_told) Rr (w_X4_toldPoints cI cJ h g1 v_told) :=
  fun sz => BodyW.met (av := [.ref h]) (Qc := fun A => QI D cI cJ A (w_X4_toldPoints cI cJ h g1 v_told) Rr) (by decide) rfl rfl (Nat.le_of_ble_eq_true rfl) (fun C0 hK hA hX ls hSt hl => k_X4_toldPoints_0 C0 hK hA hX   _ _ ls hSt hl hf) sz
/-! X4 toldFamily -/
abbrev rm_X4_toldFamily : Room := { frames := 0, cells := 0, slots := 0, locals := 0 }
abbrev w_X4_toldFamily (cI cJ : ClassId) (h : Nat) (g0 : Value) (v_toldSets : Int64) : va_W := [(h, .inr (4, [g0, .long v_toldSets]))]
theorem iu_X4_toldFamily_X4 : ∀ w ∈ wsX40, w ∈ wsX4_toldFamily := by decide +kernel
theorem fl_X4_toldFamily_9 : Cond.fieldLink RX4 9 (TX4 1).1 (TX4 1).2.1 (TX4 1).2.2.1 ∈ wsX4_toldFamily := by decide +kernel
theorem hd_X4_toldFamily : yX4_toldFamily.cls = RX4 ∧ yX4_toldFamily.cls ≠ "java/lang/invoke/MethodHandle" ∧ yX4_toldFamily.cls ≠ "java/lang/invoke/VarHandle" ∧ (parseMethodDescriptor yX4_toldFamily.desc).map (fun d => d.parameters.length) = some 0 := by decide +kernel
def f_X4_toldFamily_0 (v_toldSets : Int64)    : Option (Int64) := some v_toldSets
set_option maxHeartbeats 4000000 in
set_option maxRecDepth 100000 in
theorem k_X4_toldFamily_0 {p : Program} {l : Launch} {e : Env} {s : State} {m : MethodId} {args : Array Value} {below : List Frame} {meth : Method} {c : Code} {A : Nat → Prop} {D : va_G} {cI cJ : ClassId} {h : Nat} {g0 : Value} {v_toldSets : Int64} (C0 : Cx p s m args meth c cX4_toldFamily wsX4_toldFamily RX4 1 (some .long)) (hK : va_K D vwCl (tyL cI cJ) s) (hA : ∀ q, s.heap.size ≤ q → A q) (hX : XT none A s s.heap) {Rr : Int64} : ∀   (H : Heap) (locs : List Loc) (ls : Array Slot), St D A s (w_X4_toldFamily cI cJ h g0 v_toldSets) H locs → lv_has ls 1 [(0, .ref h)] → f_X4_toldFamily_0 v_toldSets = some Rr → W p l e rm_X4_toldFamily s m args below meth c H locs 0 0 (MQ below (QL D cI cJ A (w_X4_toldFamily cI cJ h g0 v_toldSets) Rr) args s 0 0 A) (F0 m 0 ls []) := by
  have hx := C0.1.1
  have hb := C0.1.2.1
  intro H locs ls hSt hl hf
  unfold f_X4_toldFamily_0 at hf
  refine lv_aload_n hx hb dX4_toldFamily_0 rfl (lv_at hl 0 rfl) ?_
  refine hb_get C0 hK hSt 0 4 1 rfl rfl iu_X4_toldFamily_X4 (by decide) fl_X4_toldFamily_9 rfl dX4_toldFamily_1 ?_
  cases hf
  exact hb_lret C0 hK hSt dX4_toldFamily_4
def f_X4_toldFamily (v_toldSets : Int64)   : Option (Int64) := f_X4_toldFamily_0 v_toldSets
set_option maxRecDepth 100000 in
theorem c_X4_toldFamily (l : Launch) (D : va_G) (cI cJ : ClassId) (h : Nat) (g0 : Value)  (v_toldSets : Int64) (Rr : Int64) (hf : f_X4_toldFamily v_toldSets = some Rr) : CtL l yX4_toldFamily wsX4_toldFamily rm_X4_toldFamily D cI cJ none [.ref h] (w_X4_toldFamily cI cJ h g0 v_toldSets) Rr (w_X4_toldFamily cI cJ h g0 v_toldSets) :=
  fun sz => BodyW.met (av := [.ref h]) (Qc := fun A => QL D cI cJ A (w_X4_toldFamily cI cJ h g0 v_toldSets) Rr) (by decide) rfl rfl (Nat.le_of_ble_eq_true rfl) (fun C0 hK hA hX ls hSt hl => k_X4_toldFamily_0 C0 hK hA hX   _ _ ls hSt hl hf) sz
/-! X4 isBlank -/
abbrev rm_X4_isBlank : Room := { frames := 0, cells := 0, slots := 0, locals := 0 }
abbrev w_X4_isBlank (cI cJ : ClassId)    : va_W := []
theorem hd_X4_isBlank : yX4_isBlank.cls ≠ "java/lang/invoke/MethodHandle" ∧ yX4_isBlank.cls ≠ "java/lang/invoke/VarHandle" ∧ (parseMethodDescriptor yX4_isBlank.desc).map (fun d => d.parameters.length) = some 1 := by decide +kernel
def f_X4_isBlank_12     : Option (Int32) := some (1 : Int32)
set_option maxHeartbeats 4000000 in
set_option maxRecDepth 100000 in
theorem k_X4_isBlank_12 {p : Program} {l : Launch} {e : Env} {s : State} {m : MethodId} {args : Array Value} {below : List Frame} {meth : Method} {c : Code} {A : Nat → Prop} {D : va_G} {cI cJ : ClassId}   (C0 : Cx p s m args meth c cX4_isBlank wsX4_isBlank RX4 1 (some .boolean)) (hK : va_K D vwCl (tyL cI cJ) s) (hA : ∀ q, s.heap.size ≤ q → A q) (hX : XT none A s s.heap) {Rr : Int32} : ∀   (H : Heap) (locs : List Loc) (ls : Array Slot), St D A s (w_X4_isBlank cI cJ) H locs → lv_has ls 1 [] → f_X4_isBlank_12  = some Rr → W p l e rm_X4_isBlank s m args below meth c H locs 0 0 (MQ below (QI D cI cJ A (w_X4_isBlank cI cJ) Rr) args s 0 0 A) (F0 m 12 ls []) := by
  have hx := C0.1.1
  have hb := C0.1.2.1
  intro H locs ls hSt hl hf
  unfold f_X4_isBlank_12 at hf
  refine lv_iconst (v := 1) hx hb dX4_isBlank_12 (by decide) ?_
  refine lv_goto (tgt := 17) hx hb dX4_isBlank_13 (by decide) ?_
  cases hf
  exact hb_zret C0 hK hSt nb1.1 dX4_isBlank_17
def f_X4_isBlank_0   (l0 : Int32)  : Option (Int32) := if l0 = (32 : Int32) then f_X4_isBlank_12    else if l0 = (10 : Int32) then f_X4_isBlank_12    else some (0 : Int32)
set_option maxHeartbeats 4000000 in
set_option maxRecDepth 100000 in
theorem k_X4_isBlank_0 {p : Program} {l : Launch} {e : Env} {s : State} {m : MethodId} {args : Array Value} {below : List Frame} {meth : Method} {c : Code} {A : Nat → Prop} {D : va_G} {cI cJ : ClassId}   (C0 : Cx p s m args meth c cX4_isBlank wsX4_isBlank RX4 1 (some .boolean)) (hK : va_K D vwCl (tyL cI cJ) s) (hA : ∀ q, s.heap.size ≤ q → A q) (hX : XT none A s s.heap) {Rr : Int32} : ∀ (l0 : Int32)  (H : Heap) (locs : List Loc) (ls : Array Slot), St D A s (w_X4_isBlank cI cJ) H locs → lv_has ls 1 [(0, .int l0)] → f_X4_isBlank_0 l0 = some Rr → W p l e rm_X4_isBlank s m args below meth c H locs 0 0 (MQ below (QI D cI cJ A (w_X4_isBlank cI cJ) Rr) args s 0 0 A) (F0 m 0 ls []) := by
  have hx := C0.1.1
  have hb := C0.1.2.1
  intro l0 H locs ls hSt hl hf
  unfold f_X4_isBlank_0 at hf
  refine lv_iload_n hx hb dX4_isBlank_0 rfl (lv_at hl 0 rfl) ?_
  refine lv_bipush (v := 32) hx hb dX4_isBlank_1 (by decide) ?_
  refine lv_icmp_eq (tgt := 12) hx hb dX4_isBlank_3 (by decide) (fun cc => ?_) (fun cc => ?_)
  · have hf := ite_t hf cc
    exact k_X4_isBlank_12 C0 hK hA hX   _ _ _ hSt (lv_sub hl [] rfl) hf
  · have hf := ite_f hf cc
    refine lv_iload_n hx hb dX4_isBlank_6 rfl (lv_at hl 0 rfl) ?_
    refine lv_bipush (v := 10) hx hb dX4_isBlank_7 (by decide) ?_
    refine lv_icmp_ne (tgt := 16) hx hb dX4_isBlank_9 (by decide) (fun cc => ?_) (fun cc => ?_)
    · have hf := ite_f hf cc
      refine lv_iconst (v := 0) hx hb dX4_isBlank_16 (by decide) ?_
      cases hf
      exact hb_zret C0 hK hSt nb0.1 dX4_isBlank_17
    · have hf := ite_t hf cc
      exact k_X4_isBlank_12 C0 hK hA hX   _ _ _ hSt (lv_sub hl [] rfl) hf
def f_X4_isBlank  (l0 : Int32)  : Option (Int32) := f_X4_isBlank_0 l0
set_option maxRecDepth 100000 in
theorem c_X4_isBlank (l : Launch) (D : va_G) (cI cJ : ClassId)  (l0 : Int32)  (Rr : Int32) (hf : f_X4_isBlank l0 = some Rr) : CtI l yX4_isBlank wsX4_isBlank rm_X4_isBlank D cI cJ none [.int l0] (w_X4_isBlank cI cJ) Rr (w_X4_isBlank cI cJ) :=
  fun sz => BodyW.met (av := [.int l0]) (Qc := fun A => QI D cI cJ A (w_X4_isBlank cI cJ) Rr) (by decide) rfl rfl (Nat.le_of_ble_eq_true rfl) (fun C0 hK hA hX ls hSt hl => k_X4_isBlank_0 C0 hK hA hX l0  _ _ ls hSt hl hf) sz
/-! X4 behindBlanks -/
abbrev rm_X4_behindBlanks : Room := { frames := 1, cells := 0, slots := 0, locals := 21 }
abbrev w_X4_behindBlanks (cI cJ : ClassId) (h : Nat) (h_bytes : Nat)  (v_bytes : Nat → Int32) (v_length : Int32) : va_W := [(h, .inr (5, [.ref h_bytes, .int v_length])), (h_bytes, .inl (cI, 200, .inl v_bytes))]
theorem hd_X4_behindBlanks : yX4_behindBlanks.cls ≠ "java/lang/invoke/MethodHandle" ∧ yX4_behindBlanks.cls ≠ "java/lang/invoke/VarHandle" ∧ (parseMethodDescriptor yX4_behindBlanks.desc).map (fun d => d.parameters.length) = some 2 := by decide +kernel
def f_X4_behindBlanks_2 (v_bytes : Nat → Int32) (v_length : Int32)  : Nat → Int32 → Option (Int32)
  | 0, _ => none
  | n + 1, l2 => (f_X5_size v_length).bind (fun R1 => if R1 ≤ l2 then (f_X5_size v_length).bind (fun R2 => some R2) else (f_X5_at v_bytes v_length l2).bind (fun R3 => (f_X4_isBlank R3).bind (fun R4 => if R4 = 0 then some l2 else (f_X4_behindBlanks_2 v_bytes v_length n) (l2 + 1))))
set_option maxHeartbeats 4000000 in
set_option maxRecDepth 100000 in
theorem k_X4_behindBlanks_2 {p : Program} {l : Launch} {e : Env} {s : State} {m : MethodId} {args : Array Value} {below : List Frame} {meth : Method} {c : Code} {A : Nat → Prop} {D : va_G} {cI cJ : ClassId} {h h_bytes : Nat} {v_bytes : Nat → Int32} {v_length : Int32} (C0 : Cx p s m args meth c cX4_behindBlanks wsX4_behindBlanks RX4 3 (some .int)) (hK : va_K D vwCl (tyL cI cJ) s) (hA : ∀ q, s.heap.size ≤ q → A q) (hX : XT none A s s.heap) {Rr : Int32} (n : Nat) : ∀ (l2 : Int32)  (H : Heap) (locs : List Loc) (ls : Array Slot), St D A s (w_X4_behindBlanks cI cJ h h_bytes v_bytes v_length) H locs → lv_has ls 3 [(0, .ref h), (2, .int l2)] → f_X4_behindBlanks_2 v_bytes v_length n l2 = some Rr → W p l e rm_X4_behindBlanks s m args below meth c H locs 0 0 (MQ below (QI D cI cJ A (w_X4_behindBlanks cI cJ h h_bytes v_bytes v_length) Rr) args s 0 0 A) (F0 m 2 ls []) := by
  have hx := C0.1.1
  have hb := C0.1.2.1
  induction n with
  | zero => intro l2 H locs ls hSt hl hf; exact nomatch (show (none : Option _) = some Rr from hf)
  | succ n ih =>
    intro l2 H locs ls hSt hl hf
    unfold f_X4_behindBlanks_2 at hf
    refine lv_iload_n hx hb dX4_behindBlanks_2 rfl (lv_at hl 1 rfl) ?_
    refine lv_aload_n hx hb dX4_behindBlanks_3 rfl (lv_at hl 0 rfl) ?_
    obtain ⟨R1, hR1, hf⟩ := Option.bind_eq_some_iff.mp hf
    have sp : Sp (w_X4_behindBlanks cI cJ h h_bytes v_bytes v_length) (w_X5_size cI cJ h (.ref h_bytes) v_length) (w_X5_size cI cJ h (.ref h_bytes) v_length) (w_X4_behindBlanks cI cJ h h_bytes v_bytes v_length) [0] [1] [1, 0] := ⟨rfl, rfl, rfl, by decide, by decide, by decide, by decide⟩
    refine hb_ci (hb_rV (As := []) (rest := [.int l2]) C0 hK hA XT.nn hSt sp (c_X5_size l D cI cJ h (.ref h_bytes)   v_length R1 hR1) gX4_behindBlanks_X5_size rfl ⟨rfl, rfl⟩ hd_X5_size ⟨Nat.le_of_ble_eq_true rfl, Nat.le_of_ble_eq_true rfl⟩ 0 5 rfl rfl rfl hl rfl (Nat.le_of_ble_eq_true rfl) dX4_behindBlanks_4 ⟨Nat.zero_le _, Nat.zero_le _⟩) hA hSt sp (fun H locs hSt => ?_)
    refine lv_icmp_ge (tgt := 29) hx hb dX4_behindBlanks_7 (by decide) (fun cc => ?_) (fun cc => ?_)
    · have hf := ite_t hf cc
      refine lv_aload_n hx hb dX4_behindBlanks_29 rfl (lv_at hl 0 rfl) ?_
      obtain ⟨R2, hR2, hf⟩ := Option.bind_eq_some_iff.mp hf
      have sp : Sp (w_X4_behindBlanks cI cJ h h_bytes v_bytes v_length) (w_X5_size cI cJ h (.ref h_bytes) v_length) (w_X5_size cI cJ h (.ref h_bytes) v_length) (w_X4_behindBlanks cI cJ h h_bytes v_bytes v_length) [0] [1] [1, 0] := ⟨rfl, rfl, rfl, by decide, by decide, by decide, by decide⟩
      refine hb_ci (hb_rV (As := []) (rest := []) C0 hK hA XT.nn hSt sp (c_X5_size l D cI cJ h (.ref h_bytes)   v_length R2 hR2) gX4_behindBlanks_X5_size rfl ⟨rfl, rfl⟩ hd_X5_size ⟨Nat.le_of_ble_eq_true rfl, Nat.le_of_ble_eq_true rfl⟩ 0 5 rfl rfl rfl hl rfl (Nat.le_of_ble_eq_true rfl) dX4_behindBlanks_30 ⟨Nat.zero_le _, Nat.zero_le _⟩) hA hSt sp (fun H locs hSt => ?_)
      cases hf
      exact hb_iret C0 hK hSt dX4_behindBlanks_33
    · have hf := ite_f hf cc
      refine lv_aload_n hx hb dX4_behindBlanks_10 rfl (lv_at hl 0 rfl) ?_
      refine lv_iload_n hx hb dX4_behindBlanks_11 rfl (lv_at hl 1 rfl) ?_
      obtain ⟨R3, hR3, hf⟩ := Option.bind_eq_some_iff.mp hf
      have sp : Sp (w_X4_behindBlanks cI cJ h h_bytes v_bytes v_length) (w_X5_at cI cJ h h_bytes v_bytes v_length) (w_X5_at cI cJ h h_bytes v_bytes v_length) (w_X4_behindBlanks cI cJ h h_bytes v_bytes v_length) [0, 1] [] [0, 1] := ⟨rfl, rfl, rfl, by decide, by decide, by decide, by decide⟩
      refine hb_ci (hb_rV (As := [.int l2]) (rest := []) C0 hK hA XT.nn hSt sp (c_X5_at l D cI cJ h h_bytes  l2 v_bytes v_length R3 hR3) gX4_behindBlanks_X5_at rfl ⟨rfl, rfl⟩ hd_X5_at ⟨Nat.le_of_ble_eq_true rfl, Nat.le_of_ble_eq_true rfl⟩ 0 5 rfl rfl rfl hl rfl (Nat.le_of_ble_eq_true rfl) dX4_behindBlanks_12 ⟨Nat.zero_le _, Nat.zero_le _⟩) hA hSt sp (fun H locs hSt => ?_)
      obtain ⟨R4, hR4, hf⟩ := Option.bind_eq_some_iff.mp hf
      have sp : Sp (w_X4_behindBlanks cI cJ h h_bytes v_bytes v_length) (w_X4_isBlank cI cJ) (w_X4_isBlank cI cJ) (w_X4_behindBlanks cI cJ h h_bytes v_bytes v_length) [] [0, 1] [0, 1] := ⟨rfl, rfl, rfl, by decide, by decide, by decide, by decide⟩
      refine hb_ci (hb_rS (As := [.int R3]) (rest := []) C0 hK hA XT.nn hSt sp (c_X4_isBlank l D cI cJ   R3  R4 hR4) gX4_behindBlanks_X4_isBlank rfl ⟨rfl, rfl⟩ hd_X4_isBlank ⟨Nat.le_of_ble_eq_true rfl, Nat.le_of_ble_eq_true rfl⟩ rfl hl rfl (Nat.le_of_ble_eq_true rfl) dX4_behindBlanks_15 ⟨Nat.zero_le _, Nat.zero_le _⟩) hA hSt sp (fun H locs hSt => ?_)
      refine lv_if_ne (tgt := 23) hx hb dX4_behindBlanks_18 (by decide) (fun cc => ?_) (fun cc => ?_)
      · have hf := ite_f hf cc
        refine lv_iinc (v := l2 + 1) (lv' := [(2, .int (l2 + 1)), (0, .ref h)]) hx hb dX4_behindBlanks_23 hl (k := 1) rfl rfl (by decide) rfl (fun ls hl => ?_)
        refine lv_goto (tgt := 2) hx hb dX4_behindBlanks_26 (by decide) ?_
        exact ih (l2 + 1) _ _ _ hSt (lv_sub hl [1, 0] rfl) hf
      · have hf := ite_t hf cc
        refine lv_iload_n hx hb dX4_behindBlanks_21 rfl (lv_at hl 1 rfl) ?_
        cases hf
        exact hb_iret C0 hK hSt dX4_behindBlanks_22
def f_X4_behindBlanks_0 (v_bytes : Nat → Int32) (v_length : Int32)  (l1 : Int32)  : Option (Int32) := f_X4_behindBlanks_2 v_bytes v_length  FU l1
set_option maxHeartbeats 4000000 in
set_option maxRecDepth 100000 in
theorem k_X4_behindBlanks_0 {p : Program} {l : Launch} {e : Env} {s : State} {m : MethodId} {args : Array Value} {below : List Frame} {meth : Method} {c : Code} {A : Nat → Prop} {D : va_G} {cI cJ : ClassId} {h h_bytes : Nat} {v_bytes : Nat → Int32} {v_length : Int32} (C0 : Cx p s m args meth c cX4_behindBlanks wsX4_behindBlanks RX4 3 (some .int)) (hK : va_K D vwCl (tyL cI cJ) s) (hA : ∀ q, s.heap.size ≤ q → A q) (hX : XT none A s s.heap) {Rr : Int32} : ∀ (l1 : Int32)  (H : Heap) (locs : List Loc) (ls : Array Slot), St D A s (w_X4_behindBlanks cI cJ h h_bytes v_bytes v_length) H locs → lv_has ls 3 [(0, .ref h), (1, .int l1)] → f_X4_behindBlanks_0 v_bytes v_length l1 = some Rr → W p l e rm_X4_behindBlanks s m args below meth c H locs 0 0 (MQ below (QI D cI cJ A (w_X4_behindBlanks cI cJ h h_bytes v_bytes v_length) Rr) args s 0 0 A) (F0 m 0 ls []) := by
  have hx := C0.1.1
  have hb := C0.1.2.1
  intro l1 H locs ls hSt hl hf
  unfold f_X4_behindBlanks_0 at hf
  refine lv_iload_n hx hb dX4_behindBlanks_0 rfl (lv_at hl 1 rfl) ?_
  refine lv_istore_n (lv' := [(2, .int l1), (0, .ref h), (1, .int l1)]) hx hb dX4_behindBlanks_1 rfl hl (by decide) rfl (fun ls hl => ?_)
  exact k_X4_behindBlanks_2 C0 hK hA hX  FU l1 _ _ _ hSt (lv_sub hl [1, 0] rfl) hf
def f_X4_behindBlanks (v_bytes : Nat → Int32) (v_length : Int32) (l1 : Int32)  : Option (Int32) := f_X4_behindBlanks_0 v_bytes v_length l1
set_option maxRecDepth 100000 in
theorem c_X4_behindBlanks (l : Launch) (D : va_G) (cI cJ : ClassId) (h h_bytes : Nat) (l1 : Int32) (v_bytes : Nat → Int32) (v_length : Int32) (Rr : Int32) (hf : f_X4_behindBlanks v_bytes v_length l1 = some Rr) : CtI l yX4_behindBlanks wsX4_behindBlanks rm_X4_behindBlanks D cI cJ none [.ref h, .int l1] (w_X4_behindBlanks cI cJ h h_bytes v_bytes v_length) Rr (w_X4_behindBlanks cI cJ h h_bytes v_bytes v_length) :=
  fun sz => BodyW.met (av := [.ref h, .int l1]) (Qc := fun A => QI D cI cJ A (w_X4_behindBlanks cI cJ h h_bytes v_bytes v_length) Rr) (by decide) rfl rfl (Nat.le_of_ble_eq_true rfl) (fun C0 hK hA hX ls hSt hl => k_X4_behindBlanks_0 C0 hK hA hX l1  _ _ ls hSt hl hf) sz
/-! X4 parseFaces -/
abbrev rm_X4_parseFaces : Room := { frames := 2, cells := 0, slots := 0, locals := 44 }
abbrev w_X4_parseFaces (cI cJ : ClassId) (h : Nat) (h1 : Nat) (h1_bytes : Nat)  (v_told : Int32) (v1_bytes : Nat → Int32) (v1_length : Int32) (v_toldSets : Int64) : va_W := [(h, .inr (4, [.int v_told, .long v_toldSets])), (h1, .inr (5, [.ref h1_bytes, .int v1_length])), (h1_bytes, .inl (cI, 200, .inl v1_bytes))]
theorem iu_X4_parseFaces_X4 : ∀ w ∈ wsX40, w ∈ wsX4_parseFaces := by decide +kernel
theorem fl_X4_parseFaces_9 : Cond.fieldLink RX4 9 (TX4 1).1 (TX4 1).2.1 (TX4 1).2.2.1 ∈ wsX4_parseFaces := by decide +kernel
theorem fl_X4_parseFaces_15 : Cond.fieldLink RX4 15 (TX4 0).1 (TX4 0).2.1 (TX4 0).2.2.1 ∈ wsX4_parseFaces := by decide +kernel
theorem hd_X4_parseFaces : yX4_parseFaces.cls = RX4 ∧ yX4_parseFaces.cls ≠ "java/lang/invoke/MethodHandle" ∧ yX4_parseFaces.cls ≠ "java/lang/invoke/VarHandle" ∧ (parseMethodDescriptor yX4_parseFaces.desc).map (fun d => d.parameters.length) = some 2 := by decide +kernel
def f_X4_parseFaces_13 (v_told : Int32) (v1_bytes : Nat → Int32) (v1_length : Int32)  : Nat → Int32 → Int32 → Int32 → (Int64) → Option (Int32 × Int64)
  | 0, _, _, _, _ => none
  | n + 1, l3, l4, l5, v_toldSets => (f_X5_size v1_length).bind (fun R1 => if R1 ≤ l5 then (f_X6_inside l4).bind (fun R2 => some ((-1 : Int32), v_toldSets ||| R2)) else (f_X5_at v1_bytes v1_length l5).bind (fun R3 => (f_X4_isBlank R3).bind (fun R4 => if R4 = 0 then if (R3 - (48 : Int32)) ≤ l3 then some (l5, v_toldSets) else if (R3 - (48 : Int32)) < v_told then bnd (l4 ||| ((1 : Int32) <<< ((R3 - (48 : Int32)) &&& 31))) (fun l4_5 => (f_X4_parseFaces_13 v_told v1_bytes v1_length n) (R3 - (48 : Int32)) l4_5 (l5 + 1) v_toldSets) else some (l5, v_toldSets) else (f_X6_inside l4).bind (fun R6 => (f_X4_parseFaces_13 v_told v1_bytes v1_length n) (-1 : Int32) (0 : Int32) (l5 + 1) (v_toldSets ||| R6)))))
set_option maxHeartbeats 4000000 in
set_option maxRecDepth 100000 in
theorem k_X4_parseFaces_13 {p : Program} {l : Launch} {e : Env} {s : State} {m : MethodId} {args : Array Value} {below : List Frame} {meth : Method} {c : Code} {A : Nat → Prop} {D : va_G} {cI cJ : ClassId} {h h1 h1_bytes : Nat} {v_told : Int32} {v1_bytes : Nat → Int32} {v1_length : Int32} (C0 : Cx p s m args meth c cX4_parseFaces wsX4_parseFaces RX4 8 (some .int)) (hK : va_K D vwCl (tyL cI cJ) s) (hA : ∀ q, s.heap.size ≤ q → A q) (hX : XT none A s s.heap) {Rr : Int32 × Int64} (n : Nat) : ∀ (l3 : Int32) (l4 : Int32) (l5 : Int32) (v_toldSets : Int64) (H : Heap) (locs : List Loc) (ls : Array Slot), St D A s (w_X4_parseFaces cI cJ h h1 h1_bytes v_told v1_bytes v1_length v_toldSets) H locs → lv_has ls 8 [(0, .ref h), (1, .ref h1), (3, .int l3), (4, .int l4), (5, .int l5)] → f_X4_parseFaces_13 v_told v1_bytes v1_length n l3 l4 l5 v_toldSets = some Rr → W p l e rm_X4_parseFaces s m args below meth c H locs 0 0 (MQ below (QI D cI cJ A (w_X4_parseFaces cI cJ h h1 h1_bytes v_told v1_bytes v1_length Rr.2) Rr.1) args s 0 0 A) (F0 m 13 ls []) := by
  have hx := C0.1.1
  have hb := C0.1.2.1
  induction n with
  | zero => intro l3 l4 l5 v_toldSets H locs ls hSt hl hf; exact nomatch (show (none : Option _) = some Rr from hf)
  | succ n ih =>
    intro l3 l4 l5 v_toldSets H locs ls hSt hl hf
    unfold f_X4_parseFaces_13 at hf
    refine lv_iload hx hb dX4_parseFaces_13 (lv_at hl 4 rfl) ?_
    refine lv_aload_n hx hb dX4_parseFaces_15 rfl (lv_at hl 1 rfl) ?_
    obtain ⟨R1, hR1, hf⟩ := Option.bind_eq_some_iff.mp hf
    have sp : Sp (w_X4_parseFaces cI cJ h h1 h1_bytes v_told v1_bytes v1_length v_toldSets) (w_X5_size cI cJ h1 (.ref h1_bytes) v1_length) (w_X5_size cI cJ h1 (.ref h1_bytes) v1_length) (w_X4_parseFaces cI cJ h h1 h1_bytes v_told v1_bytes v1_length v_toldSets) [1] [0, 2] [0, 2, 1] := ⟨rfl, rfl, rfl, by decide, by decide, by decide, by decide⟩
    refine hb_ci (hb_rV (As := []) (rest := [.int l5]) C0 hK hA XT.nn hSt sp (c_X5_size l D cI cJ h1 (.ref h1_bytes)   v1_length R1 hR1) gX4_parseFaces_X5_size rfl ⟨rfl, rfl⟩ hd_X5_size ⟨Nat.le_of_ble_eq_true rfl, Nat.le_of_ble_eq_true rfl⟩ 1 5 rfl rfl rfl hl rfl (Nat.le_of_ble_eq_true rfl) dX4_parseFaces_16 ⟨Nat.zero_le _, Nat.zero_le _⟩) hA hSt sp (fun H locs hSt => ?_)
    refine lv_icmp_ge (tgt := 103) hx hb dX4_parseFaces_19 (by decide) (fun cc => ?_) (fun cc => ?_)
    · have hf := ite_t hf cc
      refine lv_aload_n hx hb dX4_parseFaces_103 rfl (lv_at hl 0 rfl) ?_
      refine lv_dup hx hb dX4_parseFaces_104 rfl ?_
      refine hb_get C0 hK hSt 0 4 1 rfl rfl iu_X4_parseFaces_X4 (by decide) fl_X4_parseFaces_9 rfl dX4_parseFaces_105 ?_
      refine lv_iload hx hb dX4_parseFaces_108 (lv_at hl 3 rfl) ?_
      obtain ⟨R2, hR2, hf⟩ := Option.bind_eq_some_iff.mp hf
      have sp : Sp (w_X4_parseFaces cI cJ h h1 h1_bytes v_told v1_bytes v1_length v_toldSets) (w_X6_inside cI cJ) (w_X6_inside cI cJ) (w_X4_parseFaces cI cJ h h1 h1_bytes v_told v1_bytes v1_length v_toldSets) [] [0, 1, 2] [0, 1, 2] := ⟨rfl, rfl, rfl, by decide, by decide, by decide, by decide⟩
      refine hb_cl (hb_rS (As := [.int l4]) (rest := [.long v_toldSets, .ref h]) C0 hK hA XT.nn hSt sp (c_X6_inside l D cI cJ   l4  R2 hR2) gX4_parseFaces_X6_inside rfl ⟨rfl, rfl⟩ hd_X6_inside ⟨Nat.le_of_ble_eq_true rfl, Nat.le_of_ble_eq_true rfl⟩ rfl hl rfl (Nat.le_of_ble_eq_true rfl) dX4_parseFaces_110 ⟨Nat.zero_le _, Nat.zero_le _⟩) hA hSt sp (fun H locs hSt => ?_)
      refine lv_lor hx hb dX4_parseFaces_113 ?_
      refine hb_put C0 hK hSt 0 4 1 rfl rfl iu_X4_parseFaces_X4 tyX4 tyX4_ok nmX4 (by decide) fl_X4_parseFaces_9 rfl rfl rfl (Nat.le_of_ble_eq_true rfl) (w' := w_X4_parseFaces cI cJ h h1 h1_bytes v_told v1_bytes v1_length (v_toldSets ||| R2)) rfl dX4_parseFaces_114 (fun H locs hSt => ?_)
      refine lv_iconst (v := -1) hx hb dX4_parseFaces_117 (by decide) ?_
      cases hf
      exact hb_iret C0 hK hSt dX4_parseFaces_118
    · have hf := ite_f hf cc
      refine lv_aload_n hx hb dX4_parseFaces_22 rfl (lv_at hl 1 rfl) ?_
      refine lv_iload hx hb dX4_parseFaces_23 (lv_at hl 4 rfl) ?_
      obtain ⟨R3, hR3, hf⟩ := Option.bind_eq_some_iff.mp hf
      have sp : Sp (w_X4_parseFaces cI cJ h h1 h1_bytes v_told v1_bytes v1_length v_toldSets) (w_X5_at cI cJ h1 h1_bytes v1_bytes v1_length) (w_X5_at cI cJ h1 h1_bytes v1_bytes v1_length) (w_X4_parseFaces cI cJ h h1 h1_bytes v_told v1_bytes v1_length v_toldSets) [1, 2] [0] [0, 1, 2] := ⟨rfl, rfl, rfl, by decide, by decide, by decide, by decide⟩
      refine hb_ci (hb_rV (As := [.int l5]) (rest := []) C0 hK hA XT.nn hSt sp (c_X5_at l D cI cJ h1 h1_bytes  l5 v1_bytes v1_length R3 hR3) gX4_parseFaces_X5_at rfl ⟨rfl, rfl⟩ hd_X5_at ⟨Nat.le_of_ble_eq_true rfl, Nat.le_of_ble_eq_true rfl⟩ 1 5 rfl rfl rfl hl rfl (Nat.le_of_ble_eq_true rfl) dX4_parseFaces_25 ⟨Nat.zero_le _, Nat.zero_le _⟩) hA hSt sp (fun H locs hSt => ?_)
      refine lv_istore (lv' := [(6, .int R3), (0, .ref h), (1, .ref h1), (3, .int l3), (4, .int l4), (5, .int l5)]) hx hb dX4_parseFaces_28 hl (by decide) rfl (fun ls hl => ?_)
      refine lv_iload hx hb dX4_parseFaces_30 (lv_at hl 0 rfl) ?_
      obtain ⟨R4, hR4, hf⟩ := Option.bind_eq_some_iff.mp hf
      have sp : Sp (w_X4_parseFaces cI cJ h h1 h1_bytes v_told v1_bytes v1_length v_toldSets) (w_X4_isBlank cI cJ) (w_X4_isBlank cI cJ) (w_X4_parseFaces cI cJ h h1 h1_bytes v_told v1_bytes v1_length v_toldSets) [] [0, 1, 2] [0, 1, 2] := ⟨rfl, rfl, rfl, by decide, by decide, by decide, by decide⟩
      refine hb_ci (hb_rS (As := [.int R3]) (rest := []) C0 hK hA XT.nn hSt sp (c_X4_isBlank l D cI cJ   R3  R4 hR4) gX4_parseFaces_X4_isBlank rfl ⟨rfl, rfl⟩ hd_X4_isBlank ⟨Nat.le_of_ble_eq_true rfl, Nat.le_of_ble_eq_true rfl⟩ rfl hl rfl (Nat.le_of_ble_eq_true rfl) dX4_parseFaces_32 ⟨Nat.zero_le _, Nat.zero_le _⟩) hA hSt sp (fun H locs hSt => ?_)
      refine lv_if_eq (tgt := 60) hx hb dX4_parseFaces_35 (by decide) (fun cc => ?_) (fun cc => ?_)
      · have hf := ite_t hf cc
        refine lv_iload hx hb dX4_parseFaces_60 (lv_at hl 0 rfl) ?_
        refine lv_bipush (v := 48) hx hb dX4_parseFaces_62 (by decide) ?_
        refine lv_isub hx hb dX4_parseFaces_64 ?_
        refine lv_istore (lv' := [(7, .int (R3 - (48 : Int32))), (6, .int R3), (0, .ref h), (1, .ref h1), (3, .int l3), (4, .int l4), (5, .int l5)]) hx hb dX4_parseFaces_65 hl (by decide) rfl (fun ls hl => ?_)
        refine lv_iload hx hb dX4_parseFaces_67 (lv_at hl 0 rfl) ?_
        refine lv_iload_n hx hb dX4_parseFaces_69 rfl (lv_at hl 4 rfl) ?_
        refine lv_icmp_le (tgt := 82) hx hb dX4_parseFaces_70 (by decide) (fun cc => ?_) (fun cc => ?_)
        · have hf := ite_t hf cc
          refine lv_iload hx hb dX4_parseFaces_82 (lv_at hl 6 rfl) ?_
          cases hf
          exact hb_iret C0 hK hSt dX4_parseFaces_84
        · have hf := ite_f hf cc
          refine lv_iload hx hb dX4_parseFaces_73 (lv_at hl 0 rfl) ?_
          refine lv_aload_n hx hb dX4_parseFaces_75 rfl (lv_at hl 2 rfl) ?_
          refine hb_get C0 hK hSt 0 4 0 rfl rfl iu_X4_parseFaces_X4 (by decide) fl_X4_parseFaces_15 rfl dX4_parseFaces_76 ?_
          refine lv_icmp_lt (tgt := 85) hx hb dX4_parseFaces_79 (by decide) (fun cc => ?_) (fun cc => ?_)
          · have hf := ite_t hf cc
            refine lv_iload hx hb dX4_parseFaces_85 (lv_at hl 5 rfl) ?_
            refine lv_iconst (v := 1) hx hb dX4_parseFaces_87 (by decide) ?_
            refine lv_iload hx hb dX4_parseFaces_88 (lv_at hl 0 rfl) ?_
            refine lv_ishl hx hb dX4_parseFaces_90 ?_
            refine lv_ior hx hb dX4_parseFaces_91 ?_
            refine tp_i hf (fun l4_5 hf => ?_)
            refine lv_istore (lv' := [(4, .int l4_5), (7, .int (R3 - (48 : Int32))), (6, .int R3), (0, .ref h), (1, .ref h1), (3, .int l3), (5, .int l5)]) hx hb dX4_parseFaces_92 hl (by decide) rfl (fun ls hl => ?_)
            refine lv_iload hx hb dX4_parseFaces_94 (lv_at hl 1 rfl) ?_
            refine lv_istore_n (lv' := [(3, .int (R3 - (48 : Int32))), (4, .int l4_5), (7, .int (R3 - (48 : Int32))), (6, .int R3), (0, .ref h), (1, .ref h1), (5, .int l5)]) hx hb dX4_parseFaces_96 rfl hl (by decide) rfl (fun ls hl => ?_)
            refine lv_iinc (v := l5 + 1) (lv' := [(5, .int (l5 + 1)), (3, .int (R3 - (48 : Int32))), (4, .int l4_5), (7, .int (R3 - (48 : Int32))), (6, .int R3), (0, .ref h), (1, .ref h1)]) hx hb dX4_parseFaces_97 hl (k := 6) rfl rfl (by decide) rfl (fun ls hl => ?_)
            refine lv_goto (tgt := 13) hx hb dX4_parseFaces_100 (by decide) ?_
            exact ih (R3 - (48 : Int32)) l4_5 (l5 + 1) v_toldSets _ _ _ hSt (lv_sub hl [5, 6, 1, 2, 0] rfl) hf
          · have hf := ite_f hf cc
            refine lv_iload hx hb dX4_parseFaces_82 (lv_at hl 6 rfl) ?_
            cases hf
            exact hb_iret C0 hK hSt dX4_parseFaces_84
      · have hf := ite_f hf cc
        refine lv_aload_n hx hb dX4_parseFaces_38 rfl (lv_at hl 1 rfl) ?_
        refine lv_dup hx hb dX4_parseFaces_39 rfl ?_
        refine hb_get C0 hK hSt 0 4 1 rfl rfl iu_X4_parseFaces_X4 (by decide) fl_X4_parseFaces_9 rfl dX4_parseFaces_40 ?_
        refine lv_iload hx hb dX4_parseFaces_43 (lv_at hl 4 rfl) ?_
        obtain ⟨R6, hR6, hf⟩ := Option.bind_eq_some_iff.mp hf
        have sp : Sp (w_X4_parseFaces cI cJ h h1 h1_bytes v_told v1_bytes v1_length v_toldSets) (w_X6_inside cI cJ) (w_X6_inside cI cJ) (w_X4_parseFaces cI cJ h h1 h1_bytes v_told v1_bytes v1_length v_toldSets) [] [0, 1, 2] [0, 1, 2] := ⟨rfl, rfl, rfl, by decide, by decide, by decide, by decide⟩
        refine hb_cl (hb_rS (As := [.int l4]) (rest := [.long v_toldSets, .ref h]) C0 hK hA XT.nn hSt sp (c_X6_inside l D cI cJ   l4  R6 hR6) gX4_parseFaces_X6_inside rfl ⟨rfl, rfl⟩ hd_X6_inside ⟨Nat.le_of_ble_eq_true rfl, Nat.le_of_ble_eq_true rfl⟩ rfl hl rfl (Nat.le_of_ble_eq_true rfl) dX4_parseFaces_45 ⟨Nat.zero_le _, Nat.zero_le _⟩) hA hSt sp (fun H locs hSt => ?_)
        refine lv_lor hx hb dX4_parseFaces_48 ?_
        refine hb_put C0 hK hSt 0 4 1 rfl rfl iu_X4_parseFaces_X4 tyX4 tyX4_ok nmX4 (by decide) fl_X4_parseFaces_9 rfl rfl rfl (Nat.le_of_ble_eq_true rfl) (w' := w_X4_parseFaces cI cJ h h1 h1_bytes v_told v1_bytes v1_length (v_toldSets ||| R6)) rfl dX4_parseFaces_49 (fun H locs hSt => ?_)
        refine lv_iconst (v := -1) hx hb dX4_parseFaces_52 (by decide) ?_
        refine lv_istore_n (lv' := [(3, .int (-1 : Int32)), (6, .int R3), (0, .ref h), (1, .ref h1), (4, .int l4), (5, .int l5)]) hx hb dX4_parseFaces_53 rfl hl (by decide) rfl (fun ls hl => ?_)
        refine lv_iconst (v := 0) hx hb dX4_parseFaces_54 (by decide) ?_
        refine lv_istore (lv' := [(4, .int (0 : Int32)), (3, .int (-1 : Int32)), (6, .int R3), (0, .ref h), (1, .ref h1), (5, .int l5)]) hx hb dX4_parseFaces_55 hl (by decide) rfl (fun ls hl => ?_)
        refine lv_goto (tgt := 97) hx hb dX4_parseFaces_57 (by decide) ?_
        refine lv_iinc (v := l5 + 1) (lv' := [(5, .int (l5 + 1)), (4, .int (0 : Int32)), (3, .int (-1 : Int32)), (6, .int R3), (0, .ref h), (1, .ref h1)]) hx hb dX4_parseFaces_97 hl (k := 5) rfl rfl (by decide) rfl (fun ls hl => ?_)
        refine lv_goto (tgt := 13) hx hb dX4_parseFaces_100 (by decide) ?_
        exact ih (-1 : Int32) (0 : Int32) (l5 + 1) (v_toldSets ||| R6) _ _ _ hSt (lv_sub hl [4, 5, 2, 1, 0] rfl) hf
def f_X4_parseFaces_0 (v_told : Int32) (v1_bytes : Nat → Int32) (v1_length : Int32)  (l2 : Int32) (v_toldSets : Int64) : Option (Int32 × Int64) := f_X4_parseFaces_13 v_told v1_bytes v1_length  FU (-1 : Int32) (0 : Int32) l2 (1 : Int64)
set_option maxHeartbeats 4000000 in
set_option maxRecDepth 100000 in
theorem k_X4_parseFaces_0 {p : Program} {l : Launch} {e : Env} {s : State} {m : MethodId} {args : Array Value} {below : List Frame} {meth : Method} {c : Code} {A : Nat → Prop} {D : va_G} {cI cJ : ClassId} {h h1 h1_bytes : Nat} {v_told : Int32} {v1_bytes : Nat → Int32} {v1_length : Int32} (C0 : Cx p s m args meth c cX4_parseFaces wsX4_parseFaces RX4 8 (some .int)) (hK : va_K D vwCl (tyL cI cJ) s) (hA : ∀ q, s.heap.size ≤ q → A q) (hX : XT none A s s.heap) {Rr : Int32 × Int64} : ∀ (l2 : Int32) (v_toldSets : Int64) (H : Heap) (locs : List Loc) (ls : Array Slot), St D A s (w_X4_parseFaces cI cJ h h1 h1_bytes v_told v1_bytes v1_length v_toldSets) H locs → lv_has ls 8 [(0, .ref h), (1, .ref h1), (2, .int l2)] → f_X4_parseFaces_0 v_told v1_bytes v1_length l2 v_toldSets = some Rr → W p l e rm_X4_parseFaces s m args below meth c H locs 0 0 (MQ below (QI D cI cJ A (w_X4_parseFaces cI cJ h h1 h1_bytes v_told v1_bytes v1_length Rr.2) Rr.1) args s 0 0 A) (F0 m 0 ls []) := by
  have hx := C0.1.1
  have hb := C0.1.2.1
  intro l2 v_toldSets H locs ls hSt hl hf
  unfold f_X4_parseFaces_0 at hf
  refine lv_aload_n hx hb dX4_parseFaces_0 rfl (lv_at hl 0 rfl) ?_
  refine lv_lconst (v := 1) hx hb dX4_parseFaces_1 (by decide) ?_
  refine hb_put C0 hK hSt 0 4 1 rfl rfl iu_X4_parseFaces_X4 tyX4 tyX4_ok nmX4 (by decide) fl_X4_parseFaces_9 rfl rfl rfl (Nat.le_of_ble_eq_true rfl) (w' := w_X4_parseFaces cI cJ h h1 h1_bytes v_told v1_bytes v1_length (1 : Int64)) rfl dX4_parseFaces_2 (fun H locs hSt => ?_)
  refine lv_iconst (v := -1) hx hb dX4_parseFaces_5 (by decide) ?_
  refine lv_istore_n (lv' := [(3, .int (-1 : Int32)), (0, .ref h), (1, .ref h1), (2, .int l2)]) hx hb dX4_parseFaces_6 rfl hl (by decide) rfl (fun ls hl => ?_)
  refine lv_iconst (v := 0) hx hb dX4_parseFaces_7 (by decide) ?_
  refine lv_istore (lv' := [(4, .int (0 : Int32)), (3, .int (-1 : Int32)), (0, .ref h), (1, .ref h1), (2, .int l2)]) hx hb dX4_parseFaces_8 hl (by decide) rfl (fun ls hl => ?_)
  refine lv_iload_n hx hb dX4_parseFaces_10 rfl (lv_at hl 4 rfl) ?_
  refine lv_istore (lv' := [(5, .int l2), (4, .int (0 : Int32)), (3, .int (-1 : Int32)), (0, .ref h), (1, .ref h1), (2, .int l2)]) hx hb dX4_parseFaces_11 hl (by decide) rfl (fun ls hl => ?_)
  exact k_X4_parseFaces_13 C0 hK hA hX  FU (-1 : Int32) (0 : Int32) l2 (1 : Int64) _ _ _ hSt (lv_sub hl [3, 4, 2, 1, 0] rfl) hf
def f_X4_parseFaces (v_told : Int32) (v1_bytes : Nat → Int32) (v1_length : Int32) (l2 : Int32) (v_toldSets : Int64) : Option (Int32 × Int64) := f_X4_parseFaces_0 v_told v1_bytes v1_length l2 v_toldSets
set_option maxRecDepth 100000 in
theorem c_X4_parseFaces (l : Launch) (D : va_G) (cI cJ : ClassId) (h h1 h1_bytes : Nat) (l2 : Int32) (v_told : Int32) (v1_bytes : Nat → Int32) (v1_length : Int32) (v_toldSets : Int64) (Rr : Int32 × Int64) (hf : f_X4_parseFaces v_told v1_bytes v1_length l2 v_toldSets = some Rr) : CtI l yX4_parseFaces wsX4_parseFaces rm_X4_parseFaces D cI cJ none [.ref h, .ref h1, .int l2] (w_X4_parseFaces cI cJ h h1 h1_bytes v_told v1_bytes v1_length v_toldSets) Rr.1 (w_X4_parseFaces cI cJ h h1 h1_bytes v_told v1_bytes v1_length Rr.2) :=
  fun sz => BodyW.met (av := [.ref h, .ref h1, .int l2]) (Qc := fun A => QI D cI cJ A (w_X4_parseFaces cI cJ h h1 h1_bytes v_told v1_bytes v1_length Rr.2) Rr.1) (by decide) rfl rfl (Nat.le_of_ble_eq_true rfl) (fun C0 hK hA hX ls hSt hl => k_X4_parseFaces_0 C0 hK hA hX l2 v_toldSets _ _ ls hSt hl hf) sz
/-! X4 parse -/
abbrev rm_X4_parse : Room := { frames := 3, cells := 0, slots := 0, locals := 71 }
abbrev w_X4_parse (cI cJ : ClassId) (h : Nat) (h1 : Nat) (h1_bytes : Nat)  (v1_bytes : Nat → Int32) (v1_length : Int32) (v_told : Int32) (v_toldSets : Int64) : va_W := [(h, .inr (4, [.int v_told, .long v_toldSets])), (h1, .inr (5, [.ref h1_bytes, .int v1_length])), (h1_bytes, .inl (cI, 200, .inl v1_bytes))]
theorem iu_X4_parse_X4 : ∀ w ∈ wsX40, w ∈ wsX4_parse := by decide +kernel
theorem fl_X4_parse_15 : Cond.fieldLink RX4 15 (TX4 0).1 (TX4 0).2.1 (TX4 0).2.2.1 ∈ wsX4_parse := by decide +kernel
theorem hd_X4_parse : yX4_parse.cls = RX4 ∧ yX4_parse.cls ≠ "java/lang/invoke/MethodHandle" ∧ yX4_parse.cls ≠ "java/lang/invoke/VarHandle" ∧ (parseMethodDescriptor yX4_parse.desc).map (fun d => d.parameters.length) = some 1 := by decide +kernel
def f_X4_parse_0 (v1_bytes : Nat → Int32) (v1_length : Int32)   (v_told : Int32) (v_toldSets : Int64) : Option (Int32 × Int32 × Int64) := (f_X4_behindBlanks v1_bytes v1_length (0 : Int32)).bind (fun R1 => (f_X5_at v1_bytes v1_length R1).bind (fun R2 => if (R2 - (48 : Int32)) < (1 : Int32) then some (R1, v_told, v_toldSets) else if (R2 - (48 : Int32)) ≤ (6 : Int32) then (f_X4_behindBlanks v1_bytes v1_length (R1 + (1 : Int32))).bind (fun R3 => (f_X5_at v1_bytes v1_length R3).bind (fun R4 => if R4 = (58 : Int32) then (f_X4_parseFaces (R2 - (48 : Int32)) v1_bytes v1_length (R3 + (1 : Int32)) v_toldSets).bind (fun R5 => some (R5.1, R2 - (48 : Int32), R5.2)) else some (R3, v_told, v_toldSets))) else some (R1, v_told, v_toldSets)))
set_option maxHeartbeats 4000000 in
set_option maxRecDepth 100000 in
theorem k_X4_parse_0 {p : Program} {l : Launch} {e : Env} {s : State} {m : MethodId} {args : Array Value} {below : List Frame} {meth : Method} {c : Code} {A : Nat → Prop} {D : va_G} {cI cJ : ClassId} {h h1 h1_bytes : Nat} {v1_bytes : Nat → Int32} {v1_length : Int32} (C0 : Cx p s m args meth c cX4_parse wsX4_parse RX4 4 (some .int)) (hK : va_K D vwCl (tyL cI cJ) s) (hA : ∀ q, s.heap.size ≤ q → A q) (hX : XT none A s s.heap) {Rr : Int32 × Int32 × Int64} : ∀  (v_told : Int32) (v_toldSets : Int64) (H : Heap) (locs : List Loc) (ls : Array Slot), St D A s (w_X4_parse cI cJ h h1 h1_bytes v1_bytes v1_length v_told v_toldSets) H locs → lv_has ls 4 [(0, .ref h), (1, .ref h1)] → f_X4_parse_0 v1_bytes v1_length v_told v_toldSets = some Rr → W p l e rm_X4_parse s m args below meth c H locs 0 0 (MQ below (QI D cI cJ A (w_X4_parse cI cJ h h1 h1_bytes v1_bytes v1_length Rr.2.1 Rr.2.2) Rr.1) args s 0 0 A) (F0 m 0 ls []) := by
  have hx := C0.1.1
  have hb := C0.1.2.1
  intro v_told v_toldSets H locs ls hSt hl hf
  unfold f_X4_parse_0 at hf
  refine lv_aload_n hx hb dX4_parse_0 rfl (lv_at hl 1 rfl) ?_
  refine lv_iconst (v := 0) hx hb dX4_parse_1 (by decide) ?_
  obtain ⟨R1, hR1, hf⟩ := Option.bind_eq_some_iff.mp hf
  have sp : Sp (w_X4_parse cI cJ h h1 h1_bytes v1_bytes v1_length v_told v_toldSets) (w_X4_behindBlanks cI cJ h1 h1_bytes v1_bytes v1_length) (w_X4_behindBlanks cI cJ h1 h1_bytes v1_bytes v1_length) (w_X4_parse cI cJ h h1 h1_bytes v1_bytes v1_length v_told v_toldSets) [1, 2] [0] [0, 1, 2] := ⟨rfl, rfl, rfl, by decide, by decide, by decide, by decide⟩
  refine hb_ci (hb_rS (As := [.ref h1, .int (0 : Int32)]) (rest := []) C0 hK hA XT.nn hSt sp (c_X4_behindBlanks l D cI cJ h1 h1_bytes  (0 : Int32) v1_bytes v1_length R1 hR1) gX4_parse_X4_behindBlanks rfl ⟨rfl, rfl⟩ hd_X4_behindBlanks ⟨Nat.le_of_ble_eq_true rfl, Nat.le_of_ble_eq_true rfl⟩ rfl hl rfl (Nat.le_of_ble_eq_true rfl) dX4_parse_2 ⟨Nat.zero_le _, Nat.zero_le _⟩) hA hSt sp (fun H locs hSt => ?_)
  refine lv_istore_n (lv' := [(2, .int R1), (0, .ref h), (1, .ref h1)]) hx hb dX4_parse_5 rfl hl (by decide) rfl (fun ls hl => ?_)
  refine lv_aload_n hx hb dX4_parse_6 rfl (lv_at hl 2 rfl) ?_
  refine lv_iload_n hx hb dX4_parse_7 rfl (lv_at hl 0 rfl) ?_
  obtain ⟨R2, hR2, hf⟩ := Option.bind_eq_some_iff.mp hf
  have sp : Sp (w_X4_parse cI cJ h h1 h1_bytes v1_bytes v1_length v_told v_toldSets) (w_X5_at cI cJ h1 h1_bytes v1_bytes v1_length) (w_X5_at cI cJ h1 h1_bytes v1_bytes v1_length) (w_X4_parse cI cJ h h1 h1_bytes v1_bytes v1_length v_told v_toldSets) [1, 2] [0] [0, 1, 2] := ⟨rfl, rfl, rfl, by decide, by decide, by decide, by decide⟩
  refine hb_ci (hb_rV (As := [.int R1]) (rest := []) C0 hK hA XT.nn hSt sp (c_X5_at l D cI cJ h1 h1_bytes  R1 v1_bytes v1_length R2 hR2) gX4_parse_X5_at rfl ⟨rfl, rfl⟩ hd_X5_at ⟨Nat.le_of_ble_eq_true rfl, Nat.le_of_ble_eq_true rfl⟩ 1 5 rfl rfl rfl hl rfl (Nat.le_of_ble_eq_true rfl) dX4_parse_8 ⟨Nat.zero_le _, Nat.zero_le _⟩) hA hSt sp (fun H locs hSt => ?_)
  refine lv_bipush (v := 48) hx hb dX4_parse_11 (by decide) ?_
  refine lv_isub hx hb dX4_parse_13 ?_
  refine lv_istore_n (lv' := [(3, .int (R2 - (48 : Int32))), (2, .int R1), (0, .ref h), (1, .ref h1)]) hx hb dX4_parse_14 rfl hl (by decide) rfl (fun ls hl => ?_)
  refine lv_iload_n hx hb dX4_parse_15 rfl (lv_at hl 0 rfl) ?_
  refine lv_iconst (v := 1) hx hb dX4_parse_16 (by decide) ?_
  refine lv_icmp_lt (tgt := 26) hx hb dX4_parse_17 (by decide) (fun cc => ?_) (fun cc => ?_)
  · have hf := ite_t hf cc
    refine lv_iload_n hx hb dX4_parse_26 rfl (lv_at hl 1 rfl) ?_
    cases hf
    exact hb_iret C0 hK hSt dX4_parse_27
  · have hf := ite_f hf cc
    refine lv_iload_n hx hb dX4_parse_20 rfl (lv_at hl 0 rfl) ?_
    refine lv_bipush (v := 6) hx hb dX4_parse_21 (by decide) ?_
    refine lv_icmp_le (tgt := 28) hx hb dX4_parse_23 (by decide) (fun cc => ?_) (fun cc => ?_)
    · have hf := ite_t hf cc
      refine lv_aload_n hx hb dX4_parse_28 rfl (lv_at hl 3 rfl) ?_
      refine lv_iload_n hx hb dX4_parse_29 rfl (lv_at hl 1 rfl) ?_
      refine lv_iconst (v := 1) hx hb dX4_parse_30 (by decide) ?_
      refine lv_iadd hx hb dX4_parse_31 ?_
      obtain ⟨R3, hR3, hf⟩ := Option.bind_eq_some_iff.mp hf
      have sp : Sp (w_X4_parse cI cJ h h1 h1_bytes v1_bytes v1_length v_told v_toldSets) (w_X4_behindBlanks cI cJ h1 h1_bytes v1_bytes v1_length) (w_X4_behindBlanks cI cJ h1 h1_bytes v1_bytes v1_length) (w_X4_parse cI cJ h h1 h1_bytes v1_bytes v1_length v_told v_toldSets) [1, 2] [0] [0, 1, 2] := ⟨rfl, rfl, rfl, by decide, by decide, by decide, by decide⟩
      refine hb_ci (hb_rS (As := [.ref h1, .int (R1 + (1 : Int32))]) (rest := []) C0 hK hA XT.nn hSt sp (c_X4_behindBlanks l D cI cJ h1 h1_bytes  (R1 + (1 : Int32)) v1_bytes v1_length R3 hR3) gX4_parse_X4_behindBlanks rfl ⟨rfl, rfl⟩ hd_X4_behindBlanks ⟨Nat.le_of_ble_eq_true rfl, Nat.le_of_ble_eq_true rfl⟩ rfl hl rfl (Nat.le_of_ble_eq_true rfl) dX4_parse_32 ⟨Nat.zero_le _, Nat.zero_le _⟩) hA hSt sp (fun H locs hSt => ?_)
      refine lv_istore_n (lv' := [(2, .int R3), (3, .int (R2 - (48 : Int32))), (0, .ref h), (1, .ref h1)]) hx hb dX4_parse_35 rfl hl (by decide) rfl (fun ls hl => ?_)
      refine lv_aload_n hx hb dX4_parse_36 rfl (lv_at hl 3 rfl) ?_
      refine lv_iload_n hx hb dX4_parse_37 rfl (lv_at hl 0 rfl) ?_
      obtain ⟨R4, hR4, hf⟩ := Option.bind_eq_some_iff.mp hf
      have sp : Sp (w_X4_parse cI cJ h h1 h1_bytes v1_bytes v1_length v_told v_toldSets) (w_X5_at cI cJ h1 h1_bytes v1_bytes v1_length) (w_X5_at cI cJ h1 h1_bytes v1_bytes v1_length) (w_X4_parse cI cJ h h1 h1_bytes v1_bytes v1_length v_told v_toldSets) [1, 2] [0] [0, 1, 2] := ⟨rfl, rfl, rfl, by decide, by decide, by decide, by decide⟩
      refine hb_ci (hb_rV (As := [.int R3]) (rest := []) C0 hK hA XT.nn hSt sp (c_X5_at l D cI cJ h1 h1_bytes  R3 v1_bytes v1_length R4 hR4) gX4_parse_X5_at rfl ⟨rfl, rfl⟩ hd_X5_at ⟨Nat.le_of_ble_eq_true rfl, Nat.le_of_ble_eq_true rfl⟩ 1 5 rfl rfl rfl hl rfl (Nat.le_of_ble_eq_true rfl) dX4_parse_38 ⟨Nat.zero_le _, Nat.zero_le _⟩) hA hSt sp (fun H locs hSt => ?_)
      refine lv_bipush (v := 58) hx hb dX4_parse_41 (by decide) ?_
      refine lv_icmp_eq (tgt := 48) hx hb dX4_parse_43 (by decide) (fun cc => ?_) (fun cc => ?_)
      · have hf := ite_t hf cc
        refine lv_aload_n hx hb dX4_parse_48 rfl (lv_at hl 2 rfl) ?_
        refine lv_iload_n hx hb dX4_parse_49 rfl (lv_at hl 1 rfl) ?_
        refine hb_put C0 hK hSt 0 4 0 rfl rfl iu_X4_parse_X4 tyX4 tyX4_ok nmX4 (by decide) fl_X4_parse_15 rfl rfl rfl (Nat.le_of_ble_eq_true rfl) (w' := w_X4_parse cI cJ h h1 h1_bytes v1_bytes v1_length (R2 - (48 : Int32)) v_toldSets) rfl dX4_parse_50 (fun H locs hSt => ?_)
        refine lv_aload_n hx hb dX4_parse_53 rfl (lv_at hl 2 rfl) ?_
        refine lv_aload_n hx hb dX4_parse_54 rfl (lv_at hl 3 rfl) ?_
        refine lv_iload_n hx hb dX4_parse_55 rfl (lv_at hl 0 rfl) ?_
        refine lv_iconst (v := 1) hx hb dX4_parse_56 (by decide) ?_
        refine lv_iadd hx hb dX4_parse_57 ?_
        obtain ⟨R5, hR5, hf⟩ := Option.bind_eq_some_iff.mp hf
        have sp : Sp (w_X4_parse cI cJ h h1 h1_bytes v1_bytes v1_length (R2 - (48 : Int32)) v_toldSets) (w_X4_parseFaces cI cJ h h1 h1_bytes (R2 - (48 : Int32)) v1_bytes v1_length v_toldSets) (w_X4_parseFaces cI cJ h h1 h1_bytes (R2 - (48 : Int32)) v1_bytes v1_length R5.2) (w_X4_parse cI cJ h h1 h1_bytes v1_bytes v1_length (R2 - (48 : Int32)) R5.2) [0, 1, 2] [] [0, 1, 2] := ⟨rfl, rfl, rfl, by decide, by decide, by decide, by decide⟩
        refine hb_ci (hb_rV (As := [.ref h1, .int (R3 + (1 : Int32))]) (rest := []) C0 hK hA XT.nn hSt sp (c_X4_parseFaces l D cI cJ h h1 h1_bytes  (R3 + (1 : Int32)) (R2 - (48 : Int32)) v1_bytes v1_length v_toldSets R5 hR5) gX4_parse_X4_parseFaces rfl ⟨rfl, rfl⟩ hd_X4_parseFaces ⟨Nat.le_of_ble_eq_true rfl, Nat.le_of_ble_eq_true rfl⟩ 0 4 rfl rfl rfl hl rfl (Nat.le_of_ble_eq_true rfl) dX4_parse_58 ⟨Nat.zero_le _, Nat.zero_le _⟩) hA hSt sp (fun H locs hSt => ?_)
        cases hf
        exact hb_iret C0 hK hSt dX4_parse_61
      · have hf := ite_f hf cc
        refine lv_iload_n hx hb dX4_parse_46 rfl (lv_at hl 0 rfl) ?_
        cases hf
        exact hb_iret C0 hK hSt dX4_parse_47
    · have hf := ite_f hf cc
      refine lv_iload_n hx hb dX4_parse_26 rfl (lv_at hl 1 rfl) ?_
      cases hf
      exact hb_iret C0 hK hSt dX4_parse_27
def f_X4_parse (v1_bytes : Nat → Int32) (v1_length : Int32)  (v_told : Int32) (v_toldSets : Int64) : Option (Int32 × Int32 × Int64) := f_X4_parse_0 v1_bytes v1_length v_told v_toldSets
set_option maxRecDepth 100000 in
theorem c_X4_parse (l : Launch) (D : va_G) (cI cJ : ClassId) (h h1 h1_bytes : Nat)  (v1_bytes : Nat → Int32) (v1_length : Int32) (v_told : Int32) (v_toldSets : Int64) (Rr : Int32 × Int32 × Int64) (hf : f_X4_parse v1_bytes v1_length v_told v_toldSets = some Rr) : CtI l yX4_parse wsX4_parse rm_X4_parse D cI cJ none [.ref h, .ref h1] (w_X4_parse cI cJ h h1 h1_bytes v1_bytes v1_length v_told v_toldSets) Rr.1 (w_X4_parse cI cJ h h1 h1_bytes v1_bytes v1_length Rr.2.1 Rr.2.2) :=
  fun sz => BodyW.met (av := [.ref h, .ref h1]) (Qc := fun A => QI D cI cJ A (w_X4_parse cI cJ h h1 h1_bytes v1_bytes v1_length Rr.2.1 Rr.2.2) Rr.1) (by decide) rfl rfl (Nat.le_of_ble_eq_true rfl) (fun C0 hK hA hX ls hSt hl => k_X4_parse_0 C0 hK hA hX  v_told v_toldSets _ _ ls hSt hl hf) sz
/-! X7 fits -/
abbrev rm_X7_fits : Room := { frames := 1, cells := 0, slots := 0, locals := 22 }
abbrev w_X7_fits (cI cJ : ClassId) (h : Nat) (h_images : Nat) (g1 : Value) (g2 : Value) (g4 : Value) (v_knownFamily : Int64) (v_images : Nat → Int32) : va_W := [(h, .inr (6, [.ref h_images, g1, g2, .long v_knownFamily, g4])), (h_images, .inl (cI, 64, .inl v_images))]
theorem iu_X7_fits_X7 : ∀ w ∈ wsX70, w ∈ wsX7_fits := by decide +kernel
theorem fl_X7_fits_9 : Cond.fieldLink RX7 9 (TX7 0).1 (TX7 0).2.1 (TX7 0).2.2.1 ∈ wsX7_fits := by decide +kernel
theorem fl_X7_fits_22 : Cond.fieldLink RX7 22 (TX7 3).1 (TX7 3).2.1 (TX7 3).2.2.1 ∈ wsX7_fits := by decide +kernel
theorem hd_X7_fits : yX7_fits.cls = RX7 ∧ yX7_fits.cls ≠ "java/lang/invoke/MethodHandle" ∧ yX7_fits.cls ≠ "java/lang/invoke/VarHandle" ∧ (parseMethodDescriptor yX7_fits.desc).map (fun d => d.parameters.length) = some 2 := by decide +kernel
def f_X7_fits_7 (v_knownFamily : Int64)  : Nat → Int32 → Int32 → Int32 → (Nat → Int32) → Option (Int32 × (Nat → Int32))
  | 0, _, _, _, _ => none
  | n + 1, l2, l3, l4, v_images => if l3 ≤ l4 then some ((1 : Int32), v_images) else if (64 : Int32) ≤ (l4 + l3) then some ((1 : Int32), v_images) else gd (ix l4 64) (bnd ((v_images l4.toNatClampNeg) ||| ((1 : Int32) <<< (l2 &&& 31))) (fun l5_1 => (f_X6_holds v_knownFamily (l4 + l3)).bind (fun R2 => (f_X6_holds v_knownFamily l5_1).bind (fun R3 => if R2 = R3 then gd (ix (l4 + l3) 64) ((f_X7_fits_7 v_knownFamily n) l2 l3 (l4 + 1) (upd v_images (l4 + l3).toNatClampNeg l5_1)) else some ((0 : Int32), v_images)))))
set_option maxHeartbeats 4000000 in
set_option maxRecDepth 100000 in
theorem k_X7_fits_7 {p : Program} {l : Launch} {e : Env} {s : State} {m : MethodId} {args : Array Value} {below : List Frame} {meth : Method} {c : Code} {A : Nat → Prop} {D : va_G} {cI cJ : ClassId} {h h_images : Nat} {g1 g2 g4 : Value} {v_knownFamily : Int64} (C0 : Cx p s m args meth c cX7_fits wsX7_fits RX7 6 (some .boolean)) (hK : va_K D vwCl (tyL cI cJ) s) (hA : ∀ q, s.heap.size ≤ q → A q) (hX : XT none A s s.heap) {Rr : Int32 × (Nat → Int32)} (n : Nat) : ∀ (l2 : Int32) (l3 : Int32) (l4 : Int32) (v_images : Nat → Int32) (H : Heap) (locs : List Loc) (ls : Array Slot), St D A s (w_X7_fits cI cJ h h_images g1 g2 g4 v_knownFamily v_images) H locs → lv_has ls 6 [(0, .ref h), (2, .int l2), (3, .int l3), (4, .int l4)] → f_X7_fits_7 v_knownFamily n l2 l3 l4 v_images = some Rr → W p l e rm_X7_fits s m args below meth c H locs 0 0 (MQ below (QI D cI cJ A (w_X7_fits cI cJ h h_images g1 g2 g4 v_knownFamily Rr.2) Rr.1) args s 0 0 A) (F0 m 7 ls []) := by
  have hx := C0.1.1
  have hb := C0.1.2.1
  induction n with
  | zero => intro l2 l3 l4 v_images H locs ls hSt hl hf; exact nomatch (show (none : Option _) = some Rr from hf)
  | succ n ih =>
    intro l2 l3 l4 v_images H locs ls hSt hl hf
    unfold f_X7_fits_7 at hf
    refine lv_iload hx hb dX7_fits_7 (lv_at hl 3 rfl) ?_
    refine lv_iload_n hx hb dX7_fits_9 rfl (lv_at hl 2 rfl) ?_
    refine lv_icmp_ge (tgt := 77) hx hb dX7_fits_10 (by decide) (fun cc => ?_) (fun cc => ?_)
    · have hf := ite_t hf cc
      refine lv_iconst (v := 1) hx hb dX7_fits_77 (by decide) ?_
      cases hf
      exact hb_zret C0 hK hSt nb1.1 dX7_fits_78
    · have hf := ite_f hf cc
      refine lv_iload hx hb dX7_fits_13 (lv_at hl 3 rfl) ?_
      refine lv_iload_n hx hb dX7_fits_15 rfl (lv_at hl 2 rfl) ?_
      refine lv_iadd hx hb dX7_fits_16 ?_
      refine lv_bipush (v := 64) hx hb dX7_fits_17 (by decide) ?_
      refine lv_icmp_ge (tgt := 77) hx hb dX7_fits_19 (by decide) (fun cc => ?_) (fun cc => ?_)
      · have hf := ite_t hf cc
        refine lv_iconst (v := 1) hx hb dX7_fits_77 (by decide) ?_
        cases hf
        exact hb_zret C0 hK hSt nb1.1 dX7_fits_78
      · have hf := ite_f hf cc
        refine lv_aload_n hx hb dX7_fits_22 rfl (lv_at hl 0 rfl) ?_
        refine hb_get C0 hK hSt 0 6 0 rfl rfl iu_X7_fits_X7 (by decide) fl_X7_fits_9 rfl dX7_fits_23 ?_
        refine lv_iload hx hb dX7_fits_26 (lv_at hl 3 rfl) ?_
        obtain ⟨hi, hf⟩ := gd_t hf
        refine hb_iald C0 hK hSt 1 rfl hi dX7_fits_28 ?_
        refine lv_iconst (v := 1) hx hb dX7_fits_29 (by decide) ?_
        refine lv_iload_n hx hb dX7_fits_30 rfl (lv_at hl 1 rfl) ?_
        refine lv_ishl hx hb dX7_fits_31 ?_
        refine lv_ior hx hb dX7_fits_32 ?_
        refine tp_i hf (fun l5_1 hf => ?_)
        refine lv_istore (lv' := [(5, .int l5_1), (0, .ref h), (2, .int l2), (3, .int l3), (4, .int l4)]) hx hb dX7_fits_33 hl (by decide) rfl (fun ls hl => ?_)
        refine lv_aload_n hx hb dX7_fits_35 rfl (lv_at hl 1 rfl) ?_
        refine hb_get C0 hK hSt 0 6 3 rfl rfl iu_X7_fits_X7 (by decide) fl_X7_fits_22 rfl dX7_fits_36 ?_
        refine lv_iload hx hb dX7_fits_39 (lv_at hl 4 rfl) ?_
        refine lv_iload_n hx hb dX7_fits_41 rfl (lv_at hl 3 rfl) ?_
        refine lv_iadd hx hb dX7_fits_42 ?_
        obtain ⟨R2, hR2, hf⟩ := Option.bind_eq_some_iff.mp hf
        have sp : Sp (w_X7_fits cI cJ h h_images g1 g2 g4 v_knownFamily v_images) (w_X6_holds cI cJ) (w_X6_holds cI cJ) (w_X7_fits cI cJ h h_images g1 g2 g4 v_knownFamily v_images) [] [0, 1] [0, 1] := ⟨rfl, rfl, rfl, by decide, by decide, by decide, by decide⟩
        refine hb_ci (hb_rS (As := [.long v_knownFamily, .int (l4 + l3)]) (rest := []) C0 hK hA XT.nn hSt sp (c_X6_holds l D cI cJ   v_knownFamily (l4 + l3)  R2 hR2) gX7_fits_X6_holds rfl ⟨rfl, rfl⟩ hd_X6_holds ⟨Nat.le_of_ble_eq_true rfl, Nat.le_of_ble_eq_true rfl⟩ rfl hl rfl (Nat.le_of_ble_eq_true rfl) dX7_fits_43 ⟨Nat.zero_le _, Nat.zero_le _⟩) hA hSt sp (fun H locs hSt => ?_)
        refine lv_aload_n hx hb dX7_fits_46 rfl (lv_at hl 1 rfl) ?_
        refine hb_get C0 hK hSt 0 6 3 rfl rfl iu_X7_fits_X7 (by decide) fl_X7_fits_22 rfl dX7_fits_47 ?_
        refine lv_iload hx hb dX7_fits_50 (lv_at hl 0 rfl) ?_
        obtain ⟨R3, hR3, hf⟩ := Option.bind_eq_some_iff.mp hf
        have sp : Sp (w_X7_fits cI cJ h h_images g1 g2 g4 v_knownFamily v_images) (w_X6_holds cI cJ) (w_X6_holds cI cJ) (w_X7_fits cI cJ h h_images g1 g2 g4 v_knownFamily v_images) [] [0, 1] [0, 1] := ⟨rfl, rfl, rfl, by decide, by decide, by decide, by decide⟩
        refine hb_ci (hb_rS (As := [.long v_knownFamily, .int l5_1]) (rest := [.int R2]) C0 hK hA XT.nn hSt sp (c_X6_holds l D cI cJ   v_knownFamily l5_1  R3 hR3) gX7_fits_X6_holds rfl ⟨rfl, rfl⟩ hd_X6_holds ⟨Nat.le_of_ble_eq_true rfl, Nat.le_of_ble_eq_true rfl⟩ rfl hl rfl (Nat.le_of_ble_eq_true rfl) dX7_fits_52 ⟨Nat.zero_le _, Nat.zero_le _⟩) hA hSt sp (fun H locs hSt => ?_)
        refine lv_icmp_eq (tgt := 60) hx hb dX7_fits_55 (by decide) (fun cc => ?_) (fun cc => ?_)
        · have hf := ite_t hf cc
          refine lv_aload_n hx hb dX7_fits_60 rfl (lv_at hl 1 rfl) ?_
          refine hb_get C0 hK hSt 0 6 0 rfl rfl iu_X7_fits_X7 (by decide) fl_X7_fits_9 rfl dX7_fits_61 ?_
          refine lv_iload hx hb dX7_fits_64 (lv_at hl 4 rfl) ?_
          refine lv_iload_n hx hb dX7_fits_66 rfl (lv_at hl 3 rfl) ?_
          refine lv_iadd hx hb dX7_fits_67 ?_
          refine lv_iload hx hb dX7_fits_68 (lv_at hl 0 rfl) ?_
          obtain ⟨hi, hf⟩ := gd_t hf
          refine hb_iast C0 hK hSt 1 rfl hi (w' := w_X7_fits cI cJ h h_images g1 g2 g4 v_knownFamily (upd v_images (l4 + l3).toNatClampNeg l5_1)) rfl dX7_fits_70 (fun H locs hSt => ?_)
          refine lv_iinc (v := l4 + 1) (lv' := [(4, .int (l4 + 1)), (5, .int l5_1), (0, .ref h), (2, .int l2), (3, .int l3)]) hx hb dX7_fits_71 hl (k := 4) rfl rfl (by decide) rfl (fun ls hl => ?_)
          refine lv_goto (tgt := 7) hx hb dX7_fits_74 (by decide) ?_
          exact ih l2 l3 (l4 + 1) (upd v_images (l4 + l3).toNatClampNeg l5_1) _ _ _ hSt (lv_sub hl [2, 3, 4, 0] rfl) hf
        · have hf := ite_f hf cc
          refine lv_iconst (v := 0) hx hb dX7_fits_58 (by decide) ?_
          cases hf
          exact hb_zret C0 hK hSt nb0.1 dX7_fits_59
def f_X7_fits_0 (v_knownFamily : Int64)  (l1 : Int32) (l2 : Int32) (v_images : Nat → Int32) : Option (Int32 × (Nat → Int32)) := f_X7_fits_7 v_knownFamily  FU l2 ((1 : Int32) <<< (l1 &&& 31)) (0 : Int32) v_images
set_option maxHeartbeats 4000000 in
set_option maxRecDepth 100000 in
theorem k_X7_fits_0 {p : Program} {l : Launch} {e : Env} {s : State} {m : MethodId} {args : Array Value} {below : List Frame} {meth : Method} {c : Code} {A : Nat → Prop} {D : va_G} {cI cJ : ClassId} {h h_images : Nat} {g1 g2 g4 : Value} {v_knownFamily : Int64} (C0 : Cx p s m args meth c cX7_fits wsX7_fits RX7 6 (some .boolean)) (hK : va_K D vwCl (tyL cI cJ) s) (hA : ∀ q, s.heap.size ≤ q → A q) (hX : XT none A s s.heap) {Rr : Int32 × (Nat → Int32)} : ∀ (l1 : Int32) (l2 : Int32) (v_images : Nat → Int32) (H : Heap) (locs : List Loc) (ls : Array Slot), St D A s (w_X7_fits cI cJ h h_images g1 g2 g4 v_knownFamily v_images) H locs → lv_has ls 6 [(0, .ref h), (1, .int l1), (2, .int l2)] → f_X7_fits_0 v_knownFamily l1 l2 v_images = some Rr → W p l e rm_X7_fits s m args below meth c H locs 0 0 (MQ below (QI D cI cJ A (w_X7_fits cI cJ h h_images g1 g2 g4 v_knownFamily Rr.2) Rr.1) args s 0 0 A) (F0 m 0 ls []) := by
  have hx := C0.1.1
  have hb := C0.1.2.1
  intro l1 l2 v_images H locs ls hSt hl hf
  unfold f_X7_fits_0 at hf
  refine lv_iconst (v := 1) hx hb dX7_fits_0 (by decide) ?_
  refine lv_iload_n hx hb dX7_fits_1 rfl (lv_at hl 1 rfl) ?_
  refine lv_ishl hx hb dX7_fits_2 ?_
  refine lv_istore_n (lv' := [(3, .int ((1 : Int32) <<< (l1 &&& 31))), (0, .ref h), (1, .int l1), (2, .int l2)]) hx hb dX7_fits_3 rfl hl (by decide) rfl (fun ls hl => ?_)
  refine lv_iconst (v := 0) hx hb dX7_fits_4 (by decide) ?_
  refine lv_istore (lv' := [(4, .int (0 : Int32)), (3, .int ((1 : Int32) <<< (l1 &&& 31))), (0, .ref h), (1, .int l1), (2, .int l2)]) hx hb dX7_fits_5 hl (by decide) rfl (fun ls hl => ?_)
  exact k_X7_fits_7 C0 hK hA hX  FU l2 ((1 : Int32) <<< (l1 &&& 31)) (0 : Int32) v_images _ _ _ hSt (lv_sub hl [2, 4, 1, 0] rfl) hf
def f_X7_fits (v_knownFamily : Int64) (l1 : Int32) (l2 : Int32) (v_images : Nat → Int32) : Option (Int32 × (Nat → Int32)) := f_X7_fits_0 v_knownFamily l1 l2 v_images
set_option maxRecDepth 100000 in
theorem c_X7_fits (l : Launch) (D : va_G) (cI cJ : ClassId) (h h_images : Nat) (g1 g2 g4 : Value) (l1 : Int32) (l2 : Int32) (v_knownFamily : Int64) (v_images : Nat → Int32) (Rr : Int32 × (Nat → Int32)) (hf : f_X7_fits v_knownFamily l1 l2 v_images = some Rr) : CtI l yX7_fits wsX7_fits rm_X7_fits D cI cJ none [.ref h, .int l1, .int l2] (w_X7_fits cI cJ h h_images g1 g2 g4 v_knownFamily v_images) Rr.1 (w_X7_fits cI cJ h h_images g1 g2 g4 v_knownFamily Rr.2) :=
  fun sz => BodyW.met (av := [.ref h, .int l1, .int l2]) (Qc := fun A => QI D cI cJ A (w_X7_fits cI cJ h h_images g1 g2 g4 v_knownFamily Rr.2) Rr.1) (by decide) rfl rfl (Nat.le_of_ble_eq_true rfl) (fun C0 hK hA hX ls hSt hl => k_X7_fits_0 C0 hK hA hX l1 l2 v_images _ _ ls hSt hl hf) sz
/-! X7 tally -/
abbrev rm_X7_tally : Room := { frames := 0, cells := 0, slots := 0, locals := 0 }
abbrev w_X7_tally (cI cJ : ClassId) (h : Nat) (h_images : Nat) (h_reached : Nat) (g3 : Value) (v_images : Nat → Int32) (v_knownPoints : Int32) (v_reached : Nat → Int32) (v_count : Int32) : va_W := [(h, .inr (6, [.ref h_images, .ref h_reached, .int v_knownPoints, g3, .int v_count])), (h_images, .inl (cI, 64, .inl v_images)), (h_reached, .inl (cI, 6, .inl v_reached))]
theorem iu_X7_tally_X7 : ∀ w ∈ wsX70, w ∈ wsX7_tally := by decide +kernel
theorem fl_X7_tally_9 : Cond.fieldLink RX7 9 (TX7 0).1 (TX7 0).2.1 (TX7 0).2.2.1 ∈ wsX7_tally := by decide +kernel
theorem fl_X7_tally_15 : Cond.fieldLink RX7 15 (TX7 1).1 (TX7 1).2.1 (TX7 1).2.2.1 ∈ wsX7_tally := by decide +kernel
theorem fl_X7_tally_18 : Cond.fieldLink RX7 18 (TX7 2).1 (TX7 2).2.1 (TX7 2).2.2.1 ∈ wsX7_tally := by decide +kernel
theorem fl_X7_tally_26 : Cond.fieldLink RX7 26 (TX7 4).1 (TX7 4).2.1 (TX7 4).2.2.1 ∈ wsX7_tally := by decide +kernel
theorem hd_X7_tally : yX7_tally.cls = RX7 ∧ yX7_tally.cls ≠ "java/lang/invoke/MethodHandle" ∧ yX7_tally.cls ≠ "java/lang/invoke/VarHandle" ∧ (parseMethodDescriptor yX7_tally.desc).map (fun d => d.parameters.length) = some 0 := by decide +kernel
def f_X7_tally_12 (v_images : Nat → Int32) (v_knownPoints : Int32)  : Nat → Int32 → (Nat → Int32) → (Int32) → Option ((Nat → Int32) × Int32)
  | 0, _, _, _ => none
  | n + 1, l1, v_reached, v_count => if v_knownPoints ≤ l1 then some (v_reached, v_count) else if (6 : Int32) ≤ l1 then some (v_reached, v_count) else gd (ix l1 6) (gd (ix ((1 : Int32) <<< (l1 &&& 31)) 64) (bnd ((v_reached l1.toNatClampNeg) ||| (v_images ((1 : Int32) <<< (l1 &&& 31)).toNatClampNeg)) (fun e_1 => gd (ix l1 6) ((f_X7_tally_12 v_images v_knownPoints n) (l1 + 1) (upd v_reached l1.toNatClampNeg e_1) v_count))))
set_option maxHeartbeats 4000000 in
set_option maxRecDepth 100000 in
theorem k_X7_tally_12 {p : Program} {l : Launch} {e : Env} {s : State} {m : MethodId} {args : Array Value} {below : List Frame} {meth : Method} {c : Code} {A : Nat → Prop} {D : va_G} {cI cJ : ClassId} {h h_images h_reached : Nat} {g3 : Value} {v_images : Nat → Int32} {v_knownPoints : Int32} (C0 : Cx p s m args meth c cX7_tally wsX7_tally RX7 2 none) (hK : va_K D vwCl (tyL cI cJ) s) (hA : ∀ q, s.heap.size ≤ q → A q) (hX : XT none A s s.heap) {Rr : (Nat → Int32) × Int32} (n : Nat) : ∀ (l1 : Int32) (v_reached : Nat → Int32) (v_count : Int32) (H : Heap) (locs : List Loc) (ls : Array Slot), St D A s (w_X7_tally cI cJ h h_images h_reached g3 v_images v_knownPoints v_reached v_count) H locs → lv_has ls 2 [(0, .ref h), (1, .int l1)] → f_X7_tally_12 v_images v_knownPoints n l1 v_reached v_count = some Rr → W p l e rm_X7_tally s m args below meth c H locs 0 0 (MQ below (QV D cI cJ A (w_X7_tally cI cJ h h_images h_reached g3 v_images v_knownPoints Rr.1 Rr.2)) args s 0 0 A) (F0 m 12 ls []) := by
  have hx := C0.1.1
  have hb := C0.1.2.1
  induction n with
  | zero => intro l1 v_reached v_count H locs ls hSt hl hf; exact nomatch (show (none : Option _) = some Rr from hf)
  | succ n ih =>
    intro l1 v_reached v_count H locs ls hSt hl hf
    unfold f_X7_tally_12 at hf
    refine lv_iload_n hx hb dX7_tally_12 rfl (lv_at hl 1 rfl) ?_
    refine lv_aload_n hx hb dX7_tally_13 rfl (lv_at hl 0 rfl) ?_
    refine hb_get C0 hK hSt 0 6 2 rfl rfl iu_X7_tally_X7 (by decide) fl_X7_tally_18 rfl dX7_tally_14 ?_
    refine lv_icmp_ge (tgt := 49) hx hb dX7_tally_17 (by decide) (fun cc => ?_) (fun cc => ?_)
    · have hf := ite_t hf cc
      cases hf
      exact hb_vret C0 hK hSt dX7_tally_49
    · have hf := ite_f hf cc
      refine lv_iload_n hx hb dX7_tally_20 rfl (lv_at hl 1 rfl) ?_
      refine lv_bipush (v := 6) hx hb dX7_tally_21 (by decide) ?_
      refine lv_icmp_ge (tgt := 49) hx hb dX7_tally_23 (by decide) (fun cc => ?_) (fun cc => ?_)
      · have hf := ite_t hf cc
        cases hf
        exact hb_vret C0 hK hSt dX7_tally_49
      · have hf := ite_f hf cc
        refine lv_aload_n hx hb dX7_tally_26 rfl (lv_at hl 0 rfl) ?_
        refine hb_get C0 hK hSt 0 6 1 rfl rfl iu_X7_tally_X7 (by decide) fl_X7_tally_15 rfl dX7_tally_27 ?_
        refine lv_iload_n hx hb dX7_tally_30 rfl (lv_at hl 1 rfl) ?_
        refine lv_dup2_11 hx hb dX7_tally_31 rfl rfl ?_
        obtain ⟨hi, hf⟩ := gd_t hf
        refine hb_iald C0 hK hSt 2 rfl hi dX7_tally_32 ?_
        refine lv_aload_n hx hb dX7_tally_33 rfl (lv_at hl 0 rfl) ?_
        refine hb_get C0 hK hSt 0 6 0 rfl rfl iu_X7_tally_X7 (by decide) fl_X7_tally_9 rfl dX7_tally_34 ?_
        refine lv_iconst (v := 1) hx hb dX7_tally_37 (by decide) ?_
        refine lv_iload_n hx hb dX7_tally_38 rfl (lv_at hl 1 rfl) ?_
        refine lv_ishl hx hb dX7_tally_39 ?_
        obtain ⟨hi, hf⟩ := gd_t hf
        refine hb_iald C0 hK hSt 1 rfl hi dX7_tally_40 ?_
        refine lv_ior hx hb dX7_tally_41 ?_
        refine tp_i hf (fun e_1 hf => ?_)
        obtain ⟨hi, hf⟩ := gd_t hf
        refine hb_iast C0 hK hSt 2 rfl hi (w' := w_X7_tally cI cJ h h_images h_reached g3 v_images v_knownPoints (upd v_reached l1.toNatClampNeg e_1) v_count) rfl dX7_tally_42 (fun H locs hSt => ?_)
        refine lv_iinc (v := l1 + 1) (lv' := [(1, .int (l1 + 1)), (0, .ref h)]) hx hb dX7_tally_43 hl (k := 1) rfl rfl (by decide) rfl (fun ls hl => ?_)
        refine lv_goto (tgt := 12) hx hb dX7_tally_46 (by decide) ?_
        exact ih (l1 + 1) (upd v_reached l1.toNatClampNeg e_1) v_count _ _ _ hSt (lv_sub hl [1, 0] rfl) hf
def f_X7_tally_0 (v_images : Nat → Int32) (v_knownPoints : Int32)   (v_reached : Nat → Int32) (v_count : Int32) : Option ((Nat → Int32) × Int32) := f_X7_tally_12 v_images v_knownPoints  FU (0 : Int32) v_reached (v_count + (1 : Int32))
set_option maxHeartbeats 4000000 in
set_option maxRecDepth 100000 in
theorem k_X7_tally_0 {p : Program} {l : Launch} {e : Env} {s : State} {m : MethodId} {args : Array Value} {below : List Frame} {meth : Method} {c : Code} {A : Nat → Prop} {D : va_G} {cI cJ : ClassId} {h h_images h_reached : Nat} {g3 : Value} {v_images : Nat → Int32} {v_knownPoints : Int32} (C0 : Cx p s m args meth c cX7_tally wsX7_tally RX7 2 none) (hK : va_K D vwCl (tyL cI cJ) s) (hA : ∀ q, s.heap.size ≤ q → A q) (hX : XT none A s s.heap) {Rr : (Nat → Int32) × Int32} : ∀  (v_reached : Nat → Int32) (v_count : Int32) (H : Heap) (locs : List Loc) (ls : Array Slot), St D A s (w_X7_tally cI cJ h h_images h_reached g3 v_images v_knownPoints v_reached v_count) H locs → lv_has ls 2 [(0, .ref h)] → f_X7_tally_0 v_images v_knownPoints v_reached v_count = some Rr → W p l e rm_X7_tally s m args below meth c H locs 0 0 (MQ below (QV D cI cJ A (w_X7_tally cI cJ h h_images h_reached g3 v_images v_knownPoints Rr.1 Rr.2)) args s 0 0 A) (F0 m 0 ls []) := by
  have hx := C0.1.1
  have hb := C0.1.2.1
  intro v_reached v_count H locs ls hSt hl hf
  unfold f_X7_tally_0 at hf
  refine lv_aload_n hx hb dX7_tally_0 rfl (lv_at hl 0 rfl) ?_
  refine lv_dup hx hb dX7_tally_1 rfl ?_
  refine hb_get C0 hK hSt 0 6 4 rfl rfl iu_X7_tally_X7 (by decide) fl_X7_tally_26 rfl dX7_tally_2 ?_
  refine lv_iconst (v := 1) hx hb dX7_tally_5 (by decide) ?_
  refine lv_iadd hx hb dX7_tally_6 ?_
  refine hb_put C0 hK hSt 0 6 4 rfl rfl iu_X7_tally_X7 tyX7 tyX7_ok nmX7 (by decide) fl_X7_tally_26 rfl rfl rfl (Nat.le_of_ble_eq_true rfl) (w' := w_X7_tally cI cJ h h_images h_reached g3 v_images v_knownPoints v_reached (v_count + (1 : Int32))) rfl dX7_tally_7 (fun H locs hSt => ?_)
  refine lv_iconst (v := 0) hx hb dX7_tally_10 (by decide) ?_
  refine lv_istore_n (lv' := [(1, .int (0 : Int32)), (0, .ref h)]) hx hb dX7_tally_11 rfl hl (by decide) rfl (fun ls hl => ?_)
  exact k_X7_tally_12 C0 hK hA hX  FU (0 : Int32) v_reached (v_count + (1 : Int32)) _ _ _ hSt (lv_sub hl [1, 0] rfl) hf
def f_X7_tally (v_images : Nat → Int32) (v_knownPoints : Int32)  (v_reached : Nat → Int32) (v_count : Int32) : Option ((Nat → Int32) × Int32) := f_X7_tally_0 v_images v_knownPoints v_reached v_count
set_option maxRecDepth 100000 in
theorem c_X7_tally (l : Launch) (D : va_G) (cI cJ : ClassId) (h h_images h_reached : Nat) (g3 : Value)  (v_images : Nat → Int32) (v_knownPoints : Int32) (v_reached : Nat → Int32) (v_count : Int32) (Rr : (Nat → Int32) × Int32) (hf : f_X7_tally v_images v_knownPoints v_reached v_count = some Rr) : CtV l yX7_tally wsX7_tally rm_X7_tally D cI cJ none [.ref h] (w_X7_tally cI cJ h h_images h_reached g3 v_images v_knownPoints v_reached v_count) (w_X7_tally cI cJ h h_images h_reached g3 v_images v_knownPoints Rr.1 Rr.2) :=
  fun sz => BodyW.met (av := [.ref h]) (Qc := fun A => QV D cI cJ A (w_X7_tally cI cJ h h_images h_reached g3 v_images v_knownPoints Rr.1 Rr.2)) (by decide) rfl rfl (Nat.le_of_ble_eq_true rfl) (fun C0 hK hA hX ls hSt hl => k_X7_tally_0 C0 hK hA hX  v_reached v_count _ _ ls hSt hl hf) sz
/-! X7 place -/
abbrev rm_X7_place (d : Nat) : Room := { frames := 2 + d, cells := 0, slots := 0, locals := 47 + d * 23 }
abbrev w_X7_place (cI cJ : ClassId) (h : Nat) (h_images : Nat) (h_reached : Nat)  (v_knownPoints : Int32) (v_knownFamily : Int64) (v_images : Nat → Int32) (v_reached : Nat → Int32) (v_count : Int32) : va_W := [(h, .inr (6, [.ref h_images, .ref h_reached, .int v_knownPoints, .long v_knownFamily, .int v_count])), (h_images, .inl (cI, 64, .inl v_images)), (h_reached, .inl (cI, 6, .inl v_reached))]
theorem iu_X7_place_X7 : ∀ w ∈ wsX70, w ∈ wsX7_place := by decide +kernel
theorem fl_X7_place_18 : Cond.fieldLink RX7 18 (TX7 2).1 (TX7 2).2.1 (TX7 2).2.2.1 ∈ wsX7_place := by decide +kernel
theorem hd_X7_place : yX7_place.cls ≠ "java/lang/invoke/MethodHandle" ∧ yX7_place.cls ≠ "java/lang/invoke/VarHandle" ∧ (parseMethodDescriptor yX7_place.desc).map (fun d => d.parameters.length) = some 3 := by decide +kernel
def f_X7_place_14 (v_knownPoints : Int32) (v_knownFamily : Int64) (kr : Int32 → Int32 → (Nat → Int32) → (Nat → Int32) → (Int32) → Option ((Nat → Int32) × (Nat → Int32) × Int32))   (v_images : Nat → Int32) (v_reached : Nat → Int32) (v_count : Int32) : Option ((Nat → Int32) × (Nat → Int32) × Int32) := (f_X7_tally v_images v_knownPoints v_reached v_count).bind (fun R1 => some (v_images, R1.1, R1.2))
set_option maxHeartbeats 4000000 in
set_option maxRecDepth 100000 in
theorem k_X7_place_14 {p : Program} {l : Launch} {e : Env} {s : State} {m : MethodId} {args : Array Value} {below : List Frame} {meth : Method} {c : Code} {A : Nat → Prop} {D : va_G} {cI cJ : ClassId} {h h_images h_reached : Nat} {v_knownPoints : Int32} {v_knownFamily : Int64} (C0 : Cx p s m args meth c cX7_place wsX7_place RX7 4 none) (hK : va_K D vwCl (tyL cI cJ) s) (hA : ∀ q, s.heap.size ≤ q → A q) (hX : XT none A s s.heap) {Rr : (Nat → Int32) × (Nat → Int32) × Int32} {d : Nat} {kr : Int32 → Int32 → (Nat → Int32) → (Nat → Int32) → (Int32) → Option ((Nat → Int32) × (Nat → Int32) × Int32)} (hkr : ∀ (l1 : Int32) (l2 : Int32) (v_images : Nat → Int32) (v_reached : Nat → Int32) (v_count : Int32) (Rr : (Nat → Int32) × (Nat → Int32) × Int32), kr l1 l2 v_images v_reached v_count = some Rr → CtV l yX7_place wsX7_place (rm_X7_place d) D cI cJ none [.ref h, .int l1, .int l2] (w_X7_place cI cJ h h_images h_reached v_knownPoints v_knownFamily v_images v_reached v_count) (w_X7_place cI cJ h h_images h_reached v_knownPoints v_knownFamily Rr.1 Rr.2.1 Rr.2.2)) : ∀  (v_images : Nat → Int32) (v_reached : Nat → Int32) (v_count : Int32) (H : Heap) (locs : List Loc) (ls : Array Slot), St D A s (w_X7_place cI cJ h h_images h_reached v_knownPoints v_knownFamily v_images v_reached v_count) H locs → lv_has ls 4 [(0, .ref h)] → f_X7_place_14 v_knownPoints v_knownFamily kr v_images v_reached v_count = some Rr → W p l e (rm_X7_place (d + 1)) s m args below meth c H locs 0 0 (MQ below (QV D cI cJ A (w_X7_place cI cJ h h_images h_reached v_knownPoints v_knownFamily Rr.1 Rr.2.1 Rr.2.2)) args s 0 0 A) (F0 m 14 ls []) := by
  have hx := C0.1.1
  have hb := C0.1.2.1
  intro v_images v_reached v_count H locs ls hSt hl hf
  unfold f_X7_place_14 at hf
  refine lv_aload_n hx hb dX7_place_14 rfl (lv_at hl 0 rfl) ?_
  obtain ⟨R1, hR1, hf⟩ := Option.bind_eq_some_iff.mp hf
  have sp : Sp (w_X7_place cI cJ h h_images h_reached v_knownPoints v_knownFamily v_images v_reached v_count) (w_X7_tally cI cJ h h_images h_reached (.long v_knownFamily) v_images v_knownPoints v_reached v_count) (w_X7_tally cI cJ h h_images h_reached (.long v_knownFamily) v_images v_knownPoints R1.1 R1.2) (w_X7_place cI cJ h h_images h_reached v_knownPoints v_knownFamily v_images R1.1 R1.2) [0, 1, 2] [] [0, 1, 2] := ⟨rfl, rfl, rfl, by decide, by decide, by decide, by decide⟩
  refine hb_cv (hb_rV (As := []) (rest := []) C0 hK hA XT.nn hSt sp (c_X7_tally l D cI cJ h h_images h_reached (.long v_knownFamily)   v_images v_knownPoints v_reached v_count R1 hR1) gX7_place_X7_tally rfl ⟨rfl, rfl⟩ hd_X7_tally ⟨by dsimp only [rm_X7_place, rm_X7_tally]; omega, by dsimp only [rm_X7_place, rm_X7_tally]; omega⟩ 0 6 rfl rfl rfl hl rfl (Nat.le_of_ble_eq_true rfl) dX7_place_15 ⟨Nat.zero_le _, Nat.zero_le _⟩) hA hSt sp (fun H locs hSt => ?_)
  cases hf
  exact hb_vret C0 hK hSt dX7_place_18
def f_X7_place_21 (v_knownPoints : Int32) (v_knownFamily : Int64) (kr : Int32 → Int32 → (Nat → Int32) → (Nat → Int32) → (Int32) → Option ((Nat → Int32) × (Nat → Int32) × Int32))  : Nat → Int32 → Int32 → Int32 → (Nat → Int32) → (Nat → Int32) → (Int32) → Option ((Nat → Int32) × (Nat → Int32) × Int32)
  | 0, _, _, _, _, _, _ => none
  | n + 1, l1, l2, l3, v_images, v_reached, v_count => if v_knownPoints ≤ l3 then some (v_images, v_reached, v_count) else (f_X6_hasPoint l2 l3).bind (fun R1 => if R1 = 0 then (f_X7_fits v_knownFamily l1 l3 v_images).bind (fun R2 => if R2.1 = 0 then (f_X7_place_21 v_knownPoints v_knownFamily kr n) l1 l2 (l3 + 1) R2.2 v_reached v_count else (kr (l1 + (1 : Int32)) (l2 ||| ((1 : Int32) <<< (l3 &&& 31))) R2.2 v_reached v_count).bind (fun R3 => (f_X7_place_21 v_knownPoints v_knownFamily kr n) l1 l2 (l3 + 1) R3.1 R3.2.1 R3.2.2)) else (f_X7_place_21 v_knownPoints v_knownFamily kr n) l1 l2 (l3 + 1) v_images v_reached v_count)
set_option maxHeartbeats 4000000 in
set_option maxRecDepth 100000 in
theorem k_X7_place_21 {p : Program} {l : Launch} {e : Env} {s : State} {m : MethodId} {args : Array Value} {below : List Frame} {meth : Method} {c : Code} {A : Nat → Prop} {D : va_G} {cI cJ : ClassId} {h h_images h_reached : Nat} {v_knownPoints : Int32} {v_knownFamily : Int64} (C0 : Cx p s m args meth c cX7_place wsX7_place RX7 4 none) (hK : va_K D vwCl (tyL cI cJ) s) (hA : ∀ q, s.heap.size ≤ q → A q) (hX : XT none A s s.heap) {Rr : (Nat → Int32) × (Nat → Int32) × Int32} {d : Nat} {kr : Int32 → Int32 → (Nat → Int32) → (Nat → Int32) → (Int32) → Option ((Nat → Int32) × (Nat → Int32) × Int32)} (hkr : ∀ (l1 : Int32) (l2 : Int32) (v_images : Nat → Int32) (v_reached : Nat → Int32) (v_count : Int32) (Rr : (Nat → Int32) × (Nat → Int32) × Int32), kr l1 l2 v_images v_reached v_count = some Rr → CtV l yX7_place wsX7_place (rm_X7_place d) D cI cJ none [.ref h, .int l1, .int l2] (w_X7_place cI cJ h h_images h_reached v_knownPoints v_knownFamily v_images v_reached v_count) (w_X7_place cI cJ h h_images h_reached v_knownPoints v_knownFamily Rr.1 Rr.2.1 Rr.2.2)) (n : Nat) : ∀ (l1 : Int32) (l2 : Int32) (l3 : Int32) (v_images : Nat → Int32) (v_reached : Nat → Int32) (v_count : Int32) (H : Heap) (locs : List Loc) (ls : Array Slot), St D A s (w_X7_place cI cJ h h_images h_reached v_knownPoints v_knownFamily v_images v_reached v_count) H locs → lv_has ls 4 [(0, .ref h), (1, .int l1), (2, .int l2), (3, .int l3)] → f_X7_place_21 v_knownPoints v_knownFamily kr n l1 l2 l3 v_images v_reached v_count = some Rr → W p l e (rm_X7_place (d + 1)) s m args below meth c H locs 0 0 (MQ below (QV D cI cJ A (w_X7_place cI cJ h h_images h_reached v_knownPoints v_knownFamily Rr.1 Rr.2.1 Rr.2.2)) args s 0 0 A) (F0 m 21 ls []) := by
  have hx := C0.1.1
  have hb := C0.1.2.1
  induction n with
  | zero => intro l1 l2 l3 v_images v_reached v_count H locs ls hSt hl hf; exact nomatch (show (none : Option _) = some Rr from hf)
  | succ n ih =>
    intro l1 l2 l3 v_images v_reached v_count H locs ls hSt hl hf
    unfold f_X7_place_21 at hf
    refine lv_iload_n hx hb dX7_place_21 rfl (lv_at hl 3 rfl) ?_
    refine lv_aload_n hx hb dX7_place_22 rfl (lv_at hl 0 rfl) ?_
    refine hb_get C0 hK hSt 0 6 2 rfl rfl iu_X7_place_X7 (by decide) fl_X7_place_18 rfl dX7_place_23 ?_
    refine lv_icmp_ge (tgt := 64) hx hb dX7_place_26 (by decide) (fun cc => ?_) (fun cc => ?_)
    · have hf := ite_t hf cc
      cases hf
      exact hb_vret C0 hK hSt dX7_place_64
    · have hf := ite_f hf cc
      refine lv_iload_n hx hb dX7_place_29 rfl (lv_at hl 2 rfl) ?_
      refine lv_iload_n hx hb dX7_place_30 rfl (lv_at hl 3 rfl) ?_
      obtain ⟨R1, hR1, hf⟩ := Option.bind_eq_some_iff.mp hf
      have sp : Sp (w_X7_place cI cJ h h_images h_reached v_knownPoints v_knownFamily v_images v_reached v_count) (w_X6_hasPoint cI cJ) (w_X6_hasPoint cI cJ) (w_X7_place cI cJ h h_images h_reached v_knownPoints v_knownFamily v_images v_reached v_count) [] [0, 1, 2] [0, 1, 2] := ⟨rfl, rfl, rfl, by decide, by decide, by decide, by decide⟩
      refine hb_ci (hb_rS (As := [.int l2, .int l3]) (rest := []) C0 hK hA XT.nn hSt sp (c_X6_hasPoint l D cI cJ   l2 l3  R1 hR1) gX7_place_X6_hasPoint rfl ⟨rfl, rfl⟩ hd_X6_hasPoint ⟨by dsimp only [rm_X7_place, rm_X6_hasPoint]; omega, by dsimp only [rm_X7_place, rm_X6_hasPoint]; omega⟩ rfl hl rfl (Nat.le_of_ble_eq_true rfl) dX7_place_31 ⟨Nat.zero_le _, Nat.zero_le _⟩) hA hSt sp (fun H locs hSt => ?_)
      refine lv_if_ne (tgt := 58) hx hb dX7_place_34 (by decide) (fun cc => ?_) (fun cc => ?_)
      · have hf := ite_f hf cc
        refine lv_iinc (v := l3 + 1) (lv' := [(3, .int (l3 + 1)), (0, .ref h), (1, .int l1), (2, .int l2)]) hx hb dX7_place_58 hl (k := 3) rfl rfl (by decide) rfl (fun ls hl => ?_)
        refine lv_goto (tgt := 21) hx hb dX7_place_61 (by decide) ?_
        exact ih l1 l2 (l3 + 1) v_images v_reached v_count _ _ _ hSt (lv_sub hl [1, 2, 3, 0] rfl) hf
      · have hf := ite_t hf cc
        refine lv_aload_n hx hb dX7_place_37 rfl (lv_at hl 0 rfl) ?_
        refine lv_iload_n hx hb dX7_place_38 rfl (lv_at hl 1 rfl) ?_
        refine lv_iload_n hx hb dX7_place_39 rfl (lv_at hl 3 rfl) ?_
        obtain ⟨R2, hR2, hf⟩ := Option.bind_eq_some_iff.mp hf
        have sp : Sp (w_X7_place cI cJ h h_images h_reached v_knownPoints v_knownFamily v_images v_reached v_count) (w_X7_fits cI cJ h h_images (.ref h_reached) (.int v_knownPoints) (.int v_count) v_knownFamily v_images) (w_X7_fits cI cJ h h_images (.ref h_reached) (.int v_knownPoints) (.int v_count) v_knownFamily R2.2) (w_X7_place cI cJ h h_images h_reached v_knownPoints v_knownFamily R2.2 v_reached v_count) [0, 1] [2] [1, 2, 0] := ⟨rfl, rfl, rfl, by decide, by decide, by decide, by decide⟩
        refine hb_ci (hb_rV (As := [.int l1, .int l3]) (rest := []) C0 hK hA XT.nn hSt sp (c_X7_fits l D cI cJ h h_images (.ref h_reached) (.int v_knownPoints) (.int v_count)  l1 l3 v_knownFamily v_images R2 hR2) gX7_place_X7_fits rfl ⟨rfl, rfl⟩ hd_X7_fits ⟨by dsimp only [rm_X7_place, rm_X7_fits]; omega, by dsimp only [rm_X7_place, rm_X7_fits]; omega⟩ 0 6 rfl rfl rfl hl rfl (Nat.le_of_ble_eq_true rfl) dX7_place_40 ⟨Nat.zero_le _, Nat.zero_le _⟩) hA hSt sp (fun H locs hSt => ?_)
        refine lv_if_eq (tgt := 58) hx hb dX7_place_43 (by decide) (fun cc => ?_) (fun cc => ?_)
        · have hf := ite_t hf cc
          refine lv_iinc (v := l3 + 1) (lv' := [(3, .int (l3 + 1)), (0, .ref h), (1, .int l1), (2, .int l2)]) hx hb dX7_place_58 hl (k := 3) rfl rfl (by decide) rfl (fun ls hl => ?_)
          refine lv_goto (tgt := 21) hx hb dX7_place_61 (by decide) ?_
          exact ih l1 l2 (l3 + 1) R2.2 v_reached v_count _ _ _ hSt (lv_sub hl [1, 2, 3, 0] rfl) hf
        · have hf := ite_f hf cc
          refine lv_aload_n hx hb dX7_place_46 rfl (lv_at hl 0 rfl) ?_
          refine lv_iload_n hx hb dX7_place_47 rfl (lv_at hl 1 rfl) ?_
          refine lv_iconst (v := 1) hx hb dX7_place_48 (by decide) ?_
          refine lv_iadd hx hb dX7_place_49 ?_
          refine lv_iload_n hx hb dX7_place_50 rfl (lv_at hl 2 rfl) ?_
          refine lv_iconst (v := 1) hx hb dX7_place_51 (by decide) ?_
          refine lv_iload_n hx hb dX7_place_52 rfl (lv_at hl 3 rfl) ?_
          refine lv_ishl hx hb dX7_place_53 ?_
          refine lv_ior hx hb dX7_place_54 ?_
          obtain ⟨R3, hR3, hf⟩ := Option.bind_eq_some_iff.mp hf
          have sp : Sp (w_X7_place cI cJ h h_images h_reached v_knownPoints v_knownFamily R2.2 v_reached v_count) (w_X7_place cI cJ h h_images h_reached v_knownPoints v_knownFamily R2.2 v_reached v_count) (w_X7_place cI cJ h h_images h_reached v_knownPoints v_knownFamily R3.1 R3.2.1 R3.2.2) (w_X7_place cI cJ h h_images h_reached v_knownPoints v_knownFamily R3.1 R3.2.1 R3.2.2) [0, 1, 2] [] [0, 1, 2] := ⟨rfl, rfl, rfl, by decide, by decide, by decide, by decide⟩
          refine hb_cv (hb_rS (As := [.ref h, .int (l1 + (1 : Int32)), .int (l2 ||| ((1 : Int32) <<< (l3 &&& 31)))]) (rest := []) C0 hK hA XT.nn hSt sp (hkr (l1 + (1 : Int32)) (l2 ||| ((1 : Int32) <<< (l3 &&& 31))) R2.2 v_reached v_count R3 hR3) gX7_place_X7_place rfl ⟨rfl, rfl⟩ hd_X7_place ⟨by dsimp only [rm_X7_place, rm_X7_place]; omega, by dsimp only [rm_X7_place, rm_X7_place]; omega⟩ rfl hl rfl (Nat.le_of_ble_eq_true rfl) dX7_place_55 ⟨Nat.zero_le _, Nat.zero_le _⟩) hA hSt sp (fun H locs hSt => ?_)
          refine lv_iinc (v := l3 + 1) (lv' := [(3, .int (l3 + 1)), (0, .ref h), (1, .int l1), (2, .int l2)]) hx hb dX7_place_58 hl (k := 3) rfl rfl (by decide) rfl (fun ls hl => ?_)
          refine lv_goto (tgt := 21) hx hb dX7_place_61 (by decide) ?_
          exact ih l1 l2 (l3 + 1) R3.1 R3.2.1 R3.2.2 _ _ _ hSt (lv_sub hl [1, 2, 3, 0] rfl) hf
def f_X7_place_0 (v_knownPoints : Int32) (v_knownFamily : Int64) (kr : Int32 → Int32 → (Nat → Int32) → (Nat → Int32) → (Int32) → Option ((Nat → Int32) × (Nat → Int32) × Int32))  (l1 : Int32) (l2 : Int32) (v_images : Nat → Int32) (v_reached : Nat → Int32) (v_count : Int32) : Option ((Nat → Int32) × (Nat → Int32) × Int32) := if v_knownPoints ≤ l1 then f_X7_place_14 v_knownPoints v_knownFamily kr  v_images v_reached v_count else if l1 < (6 : Int32) then f_X7_place_21 v_knownPoints v_knownFamily kr  FU l1 l2 (0 : Int32) v_images v_reached v_count else f_X7_place_14 v_knownPoints v_knownFamily kr  v_images v_reached v_count
set_option maxHeartbeats 4000000 in
set_option maxRecDepth 100000 in
theorem k_X7_place_0 {p : Program} {l : Launch} {e : Env} {s : State} {m : MethodId} {args : Array Value} {below : List Frame} {meth : Method} {c : Code} {A : Nat → Prop} {D : va_G} {cI cJ : ClassId} {h h_images h_reached : Nat} {v_knownPoints : Int32} {v_knownFamily : Int64} (C0 : Cx p s m args meth c cX7_place wsX7_place RX7 4 none) (hK : va_K D vwCl (tyL cI cJ) s) (hA : ∀ q, s.heap.size ≤ q → A q) (hX : XT none A s s.heap) {Rr : (Nat → Int32) × (Nat → Int32) × Int32} {d : Nat} {kr : Int32 → Int32 → (Nat → Int32) → (Nat → Int32) → (Int32) → Option ((Nat → Int32) × (Nat → Int32) × Int32)} (hkr : ∀ (l1 : Int32) (l2 : Int32) (v_images : Nat → Int32) (v_reached : Nat → Int32) (v_count : Int32) (Rr : (Nat → Int32) × (Nat → Int32) × Int32), kr l1 l2 v_images v_reached v_count = some Rr → CtV l yX7_place wsX7_place (rm_X7_place d) D cI cJ none [.ref h, .int l1, .int l2] (w_X7_place cI cJ h h_images h_reached v_knownPoints v_knownFamily v_images v_reached v_count) (w_X7_place cI cJ h h_images h_reached v_knownPoints v_knownFamily Rr.1 Rr.2.1 Rr.2.2)) : ∀ (l1 : Int32) (l2 : Int32) (v_images : Nat → Int32) (v_reached : Nat → Int32) (v_count : Int32) (H : Heap) (locs : List Loc) (ls : Array Slot), St D A s (w_X7_place cI cJ h h_images h_reached v_knownPoints v_knownFamily v_images v_reached v_count) H locs → lv_has ls 4 [(0, .ref h), (1, .int l1), (2, .int l2)] → f_X7_place_0 v_knownPoints v_knownFamily kr l1 l2 v_images v_reached v_count = some Rr → W p l e (rm_X7_place (d + 1)) s m args below meth c H locs 0 0 (MQ below (QV D cI cJ A (w_X7_place cI cJ h h_images h_reached v_knownPoints v_knownFamily Rr.1 Rr.2.1 Rr.2.2)) args s 0 0 A) (F0 m 0 ls []) := by
  have hx := C0.1.1
  have hb := C0.1.2.1
  intro l1 l2 v_images v_reached v_count H locs ls hSt hl hf
  unfold f_X7_place_0 at hf
  refine lv_iload_n hx hb dX7_place_0 rfl (lv_at hl 1 rfl) ?_
  refine lv_aload_n hx hb dX7_place_1 rfl (lv_at hl 0 rfl) ?_
  refine hb_get C0 hK hSt 0 6 2 rfl rfl iu_X7_place_X7 (by decide) fl_X7_place_18 rfl dX7_place_2 ?_
  refine lv_icmp_ge (tgt := 14) hx hb dX7_place_5 (by decide) (fun cc => ?_) (fun cc => ?_)
  · have hf := ite_t hf cc
    exact k_X7_place_14 C0 hK hA hX hkr  v_images v_reached v_count _ _ _ hSt (lv_sub hl [0] rfl) hf
  · have hf := ite_f hf cc
    refine lv_iload_n hx hb dX7_place_8 rfl (lv_at hl 1 rfl) ?_
    refine lv_bipush (v := 6) hx hb dX7_place_9 (by decide) ?_
    refine lv_icmp_lt (tgt := 19) hx hb dX7_place_11 (by decide) (fun cc => ?_) (fun cc => ?_)
    · have hf := ite_t hf cc
      refine lv_iconst (v := 0) hx hb dX7_place_19 (by decide) ?_
      refine lv_istore_n (lv' := [(3, .int (0 : Int32)), (0, .ref h), (1, .int l1), (2, .int l2)]) hx hb dX7_place_20 rfl hl (by decide) rfl (fun ls hl => ?_)
      exact k_X7_place_21 C0 hK hA hX hkr  FU l1 l2 (0 : Int32) v_images v_reached v_count _ _ _ hSt (lv_sub hl [1, 2, 3, 0] rfl) hf
    · have hf := ite_f hf cc
      exact k_X7_place_14 C0 hK hA hX hkr  v_images v_reached v_count _ _ _ hSt (lv_sub hl [0] rfl) hf
def f_X7_place (v_knownPoints : Int32) (v_knownFamily : Int64) : Nat → Int32 → Int32 → (Nat → Int32) → (Nat → Int32) → (Int32) → Option ((Nat → Int32) × (Nat → Int32) × Int32)
  | 0, _, _, _, _, _ => none
  | d + 1, l1, l2, v_images, v_reached, v_count => f_X7_place_0 v_knownPoints v_knownFamily (f_X7_place v_knownPoints v_knownFamily d) l1 l2 v_images v_reached v_count
set_option maxRecDepth 100000 in
theorem c_X7_place (l : Launch) (D : va_G) (cI cJ : ClassId) (h h_images h_reached : Nat) (v_knownPoints : Int32) (v_knownFamily : Int64) (d : Nat) : ∀ (l1 : Int32) (l2 : Int32) (v_images : Nat → Int32) (v_reached : Nat → Int32) (v_count : Int32) (Rr : (Nat → Int32) × (Nat → Int32) × Int32) (hf : f_X7_place v_knownPoints v_knownFamily d l1 l2 v_images v_reached v_count = some Rr), CtV l yX7_place wsX7_place (rm_X7_place d) D cI cJ none [.ref h, .int l1, .int l2] (w_X7_place cI cJ h h_images h_reached v_knownPoints v_knownFamily v_images v_reached v_count) (w_X7_place cI cJ h h_images h_reached v_knownPoints v_knownFamily Rr.1 Rr.2.1 Rr.2.2) := by
  induction d with
  | zero => intro l1 l2 v_images v_reached v_count Rr hf; exact nomatch (show (none : Option _) = some Rr from hf)
  | succ d ih =>
    intro l1 l2 v_images v_reached v_count Rr hf
    exact fun sz => BodyW.met (av := [.ref h, .int l1, .int l2]) (Qc := fun A => QV D cI cJ A (w_X7_place cI cJ h h_images h_reached v_knownPoints v_knownFamily Rr.1 Rr.2.1 Rr.2.2)) (by decide) rfl rfl (Nat.le_of_ble_eq_true rfl) (fun C0 hK hA hX ls hSt hl => k_X7_place_0 C0 hK hA hX ih l1 l2 v_images v_reached v_count _ _ ls hSt hl hf) sz
/-! X7 know -/
abbrev rm_X7_know : Room := { frames := 11, cells := 0, slots := 0, locals := 254 }
abbrev w_X7_know (cI cJ : ClassId) (h : Nat) (h_images : Nat) (h_reached : Nat)  (v_images : Nat → Int32) (v_reached : Nat → Int32) (v_knownPoints : Int32) (v_knownFamily : Int64) (v_count : Int32) : va_W := [(h, .inr (6, [.ref h_images, .ref h_reached, .int v_knownPoints, .long v_knownFamily, .int v_count])), (h_images, .inl (cI, 64, .inl v_images)), (h_reached, .inl (cI, 6, .inl v_reached))]
theorem iu_X7_know_X7 : ∀ w ∈ wsX70, w ∈ wsX7_know := by decide +kernel
theorem fl_X7_know_15 : Cond.fieldLink RX7 15 (TX7 1).1 (TX7 1).2.1 (TX7 1).2.2.1 ∈ wsX7_know := by decide +kernel
theorem fl_X7_know_18 : Cond.fieldLink RX7 18 (TX7 2).1 (TX7 2).2.1 (TX7 2).2.2.1 ∈ wsX7_know := by decide +kernel
theorem fl_X7_know_22 : Cond.fieldLink RX7 22 (TX7 3).1 (TX7 3).2.1 (TX7 3).2.2.1 ∈ wsX7_know := by decide +kernel
theorem fl_X7_know_26 : Cond.fieldLink RX7 26 (TX7 4).1 (TX7 4).2.1 (TX7 4).2.2.1 ∈ wsX7_know := by decide +kernel
theorem hd_X7_know : yX7_know.cls = RX7 ∧ yX7_know.cls ≠ "java/lang/invoke/MethodHandle" ∧ yX7_know.cls ≠ "java/lang/invoke/VarHandle" ∧ (parseMethodDescriptor yX7_know.desc).map (fun d => d.parameters.length) = some 2 := by decide +kernel
def f_X7_know_36   : Nat → Int32 → (Nat → Int32) → (Nat → Int32) → (Int32) → (Int64) → (Int32) → Option ((Nat → Int32) × (Nat → Int32) × Int32 × Int64 × Int32)
  | 0, _, _, _, _, _, _ => none
  | n + 1, l4, v_images, v_reached, v_knownPoints, v_knownFamily, v_count => if (6 : Int32) ≤ l4 then (f_X7_place v_knownPoints v_knownFamily 8 (0 : Int32) (0 : Int32) v_images v_reached v_count).bind (fun R1 => some (R1.1, R1.2.1, v_knownPoints, v_knownFamily, R1.2.2)) else gd (ix l4 6) ((f_X7_know_36 n) (l4 + 1) v_images (upd v_reached l4.toNatClampNeg (0 : Int32)) v_knownPoints v_knownFamily v_count)
set_option maxHeartbeats 4000000 in
set_option maxRecDepth 100000 in
theorem k_X7_know_36 {p : Program} {l : Launch} {e : Env} {s : State} {m : MethodId} {args : Array Value} {below : List Frame} {meth : Method} {c : Code} {A : Nat → Prop} {D : va_G} {cI cJ : ClassId} {h h_images h_reached : Nat}  (C0 : Cx p s m args meth c cX7_know wsX7_know RX7 5 none) (hK : va_K D vwCl (tyL cI cJ) s) (hA : ∀ q, s.heap.size ≤ q → A q) (hX : XT none A s s.heap) {Rr : (Nat → Int32) × (Nat → Int32) × Int32 × Int64 × Int32} (n : Nat) : ∀ (l4 : Int32) (v_images : Nat → Int32) (v_reached : Nat → Int32) (v_knownPoints : Int32) (v_knownFamily : Int64) (v_count : Int32) (H : Heap) (locs : List Loc) (ls : Array Slot), St D A s (w_X7_know cI cJ h h_images h_reached v_images v_reached v_knownPoints v_knownFamily v_count) H locs → lv_has ls 5 [(0, .ref h), (4, .int l4)] → f_X7_know_36 n l4 v_images v_reached v_knownPoints v_knownFamily v_count = some Rr → W p l e rm_X7_know s m args below meth c H locs 0 0 (MQ below (QV D cI cJ A (w_X7_know cI cJ h h_images h_reached Rr.1 Rr.2.1 Rr.2.2.1 Rr.2.2.2.1 Rr.2.2.2.2)) args s 0 0 A) (F0 m 36 ls []) := by
  have hx := C0.1.1
  have hb := C0.1.2.1
  induction n with
  | zero => intro l4 v_images v_reached v_knownPoints v_knownFamily v_count H locs ls hSt hl hf; exact nomatch (show (none : Option _) = some Rr from hf)
  | succ n ih =>
    intro l4 v_images v_reached v_knownPoints v_knownFamily v_count H locs ls hSt hl hf
    unfold f_X7_know_36 at hf
    refine lv_iload hx hb dX7_know_36 (lv_at hl 1 rfl) ?_
    refine lv_bipush (v := 6) hx hb dX7_know_38 (by decide) ?_
    refine lv_icmp_ge (tgt := 57) hx hb dX7_know_40 (by decide) (fun cc => ?_) (fun cc => ?_)
    · have hf := ite_t hf cc
      refine lv_aload_n hx hb dX7_know_57 rfl (lv_at hl 0 rfl) ?_
      refine lv_iconst (v := 0) hx hb dX7_know_58 (by decide) ?_
      refine lv_iconst (v := 0) hx hb dX7_know_59 (by decide) ?_
      obtain ⟨R1, hR1, hf⟩ := Option.bind_eq_some_iff.mp hf
      have sp : Sp (w_X7_know cI cJ h h_images h_reached v_images v_reached v_knownPoints v_knownFamily v_count) (w_X7_place cI cJ h h_images h_reached v_knownPoints v_knownFamily v_images v_reached v_count) (w_X7_place cI cJ h h_images h_reached v_knownPoints v_knownFamily R1.1 R1.2.1 R1.2.2) (w_X7_know cI cJ h h_images h_reached R1.1 R1.2.1 v_knownPoints v_knownFamily R1.2.2) [0, 1, 2] [] [0, 1, 2] := ⟨rfl, rfl, rfl, by decide, by decide, by decide, by decide⟩
      refine hb_cv (hb_rS (As := [.ref h, .int (0 : Int32), .int (0 : Int32)]) (rest := []) C0 hK hA XT.nn hSt sp (c_X7_place l D cI cJ h h_images h_reached  v_knownPoints v_knownFamily 8 (0 : Int32) (0 : Int32) v_images v_reached v_count R1 hR1) gX7_know_X7_place rfl ⟨rfl, rfl⟩ hd_X7_place ⟨Nat.le_of_ble_eq_true rfl, Nat.le_of_ble_eq_true rfl⟩ rfl hl rfl (Nat.le_of_ble_eq_true rfl) dX7_know_60 ⟨Nat.zero_le _, Nat.zero_le _⟩) hA hSt sp (fun H locs hSt => ?_)
      cases hf
      exact hb_vret C0 hK hSt dX7_know_63
    · have hf := ite_f hf cc
      refine lv_aload_n hx hb dX7_know_43 rfl (lv_at hl 0 rfl) ?_
      refine hb_get C0 hK hSt 0 6 1 rfl rfl iu_X7_know_X7 (by decide) fl_X7_know_15 rfl dX7_know_44 ?_
      refine lv_iload hx hb dX7_know_47 (lv_at hl 1 rfl) ?_
      refine lv_iconst (v := 0) hx hb dX7_know_49 (by decide) ?_
      obtain ⟨hi, hf⟩ := gd_t hf
      refine hb_iast C0 hK hSt 2 rfl hi (w' := w_X7_know cI cJ h h_images h_reached v_images (upd v_reached l4.toNatClampNeg (0 : Int32)) v_knownPoints v_knownFamily v_count) rfl dX7_know_50 (fun H locs hSt => ?_)
      refine lv_iinc (v := l4 + 1) (lv' := [(4, .int (l4 + 1)), (0, .ref h)]) hx hb dX7_know_51 hl (k := 1) rfl rfl (by decide) rfl (fun ls hl => ?_)
      refine lv_goto (tgt := 36) hx hb dX7_know_54 (by decide) ?_
      exact ih (l4 + 1) v_images (upd v_reached l4.toNatClampNeg (0 : Int32)) v_knownPoints v_knownFamily v_count _ _ _ hSt (lv_sub hl [1, 0] rfl) hf
def f_X7_know_18   (l1 : Int32) (l2 : Int64) (v_images : Nat → Int32) (v_reached : Nat → Int32) (v_knownPoints : Int32) (v_knownFamily : Int64) (v_count : Int32) : Option ((Nat → Int32) × (Nat → Int32) × Int32 × Int64 × Int32) := f_X7_know_36   FU (0 : Int32) v_images v_reached l1 l2 (0 : Int32)
set_option maxHeartbeats 4000000 in
set_option maxRecDepth 100000 in
theorem k_X7_know_18 {p : Program} {l : Launch} {e : Env} {s : State} {m : MethodId} {args : Array Value} {below : List Frame} {meth : Method} {c : Code} {A : Nat → Prop} {D : va_G} {cI cJ : ClassId} {h h_images h_reached : Nat}  (C0 : Cx p s m args meth c cX7_know wsX7_know RX7 5 none) (hK : va_K D vwCl (tyL cI cJ) s) (hA : ∀ q, s.heap.size ≤ q → A q) (hX : XT none A s s.heap) {Rr : (Nat → Int32) × (Nat → Int32) × Int32 × Int64 × Int32} : ∀ (l1 : Int32) (l2 : Int64) (v_images : Nat → Int32) (v_reached : Nat → Int32) (v_knownPoints : Int32) (v_knownFamily : Int64) (v_count : Int32) (H : Heap) (locs : List Loc) (ls : Array Slot), St D A s (w_X7_know cI cJ h h_images h_reached v_images v_reached v_knownPoints v_knownFamily v_count) H locs → lv_has ls 5 [(0, .ref h), (1, .int l1), (2, .long l2)] → f_X7_know_18 l1 l2 v_images v_reached v_knownPoints v_knownFamily v_count = some Rr → W p l e rm_X7_know s m args below meth c H locs 0 0 (MQ below (QV D cI cJ A (w_X7_know cI cJ h h_images h_reached Rr.1 Rr.2.1 Rr.2.2.1 Rr.2.2.2.1 Rr.2.2.2.2)) args s 0 0 A) (F0 m 18 ls []) := by
  have hx := C0.1.1
  have hb := C0.1.2.1
  intro l1 l2 v_images v_reached v_knownPoints v_knownFamily v_count H locs ls hSt hl hf
  unfold f_X7_know_18 at hf
  refine lv_aload_n hx hb dX7_know_18 rfl (lv_at hl 0 rfl) ?_
  refine lv_iload_n hx hb dX7_know_19 rfl (lv_at hl 1 rfl) ?_
  refine hb_put C0 hK hSt 0 6 2 rfl rfl iu_X7_know_X7 tyX7 tyX7_ok nmX7 (by decide) fl_X7_know_18 rfl rfl rfl (Nat.le_of_ble_eq_true rfl) (w' := w_X7_know cI cJ h h_images h_reached v_images v_reached l1 v_knownFamily v_count) rfl dX7_know_20 (fun H locs hSt => ?_)
  refine lv_aload_n hx hb dX7_know_23 rfl (lv_at hl 0 rfl) ?_
  refine lv_lload_n hx hb dX7_know_24 rfl (lv_at hl 2 rfl) ?_
  refine hb_put C0 hK hSt 0 6 3 rfl rfl iu_X7_know_X7 tyX7 tyX7_ok nmX7 (by decide) fl_X7_know_22 rfl rfl rfl (Nat.le_of_ble_eq_true rfl) (w' := w_X7_know cI cJ h h_images h_reached v_images v_reached l1 l2 v_count) rfl dX7_know_25 (fun H locs hSt => ?_)
  refine lv_aload_n hx hb dX7_know_28 rfl (lv_at hl 0 rfl) ?_
  refine lv_iconst (v := 0) hx hb dX7_know_29 (by decide) ?_
  refine hb_put C0 hK hSt 0 6 4 rfl rfl iu_X7_know_X7 tyX7 tyX7_ok nmX7 (by decide) fl_X7_know_26 rfl rfl rfl (Nat.le_of_ble_eq_true rfl) (w' := w_X7_know cI cJ h h_images h_reached v_images v_reached l1 l2 (0 : Int32)) rfl dX7_know_30 (fun H locs hSt => ?_)
  refine lv_iconst (v := 0) hx hb dX7_know_33 (by decide) ?_
  refine lv_istore (lv' := [(4, .int (0 : Int32)), (0, .ref h), (1, .int l1), (2, .long l2)]) hx hb dX7_know_34 hl (by decide) rfl (fun ls hl => ?_)
  exact k_X7_know_36 C0 hK hA hX  FU (0 : Int32) v_images v_reached l1 l2 (0 : Int32) _ _ _ hSt (lv_sub hl [1, 0] rfl) hf
def f_X7_know_0   (l1 : Int32) (l2 : Int64) (v_images : Nat → Int32) (v_reached : Nat → Int32) (v_knownPoints : Int32) (v_knownFamily : Int64) (v_count : Int32) : Option ((Nat → Int32) × (Nat → Int32) × Int32 × Int64 × Int32) := if l1 = v_knownPoints then if l2 = v_knownFamily then some (v_images, v_reached, v_knownPoints, v_knownFamily, v_count) else f_X7_know_18   l1 l2 v_images v_reached v_knownPoints v_knownFamily v_count else f_X7_know_18   l1 l2 v_images v_reached v_knownPoints v_knownFamily v_count
set_option maxHeartbeats 4000000 in
set_option maxRecDepth 100000 in
theorem k_X7_know_0 {p : Program} {l : Launch} {e : Env} {s : State} {m : MethodId} {args : Array Value} {below : List Frame} {meth : Method} {c : Code} {A : Nat → Prop} {D : va_G} {cI cJ : ClassId} {h h_images h_reached : Nat}  (C0 : Cx p s m args meth c cX7_know wsX7_know RX7 5 none) (hK : va_K D vwCl (tyL cI cJ) s) (hA : ∀ q, s.heap.size ≤ q → A q) (hX : XT none A s s.heap) {Rr : (Nat → Int32) × (Nat → Int32) × Int32 × Int64 × Int32} : ∀ (l1 : Int32) (l2 : Int64) (v_images : Nat → Int32) (v_reached : Nat → Int32) (v_knownPoints : Int32) (v_knownFamily : Int64) (v_count : Int32) (H : Heap) (locs : List Loc) (ls : Array Slot), St D A s (w_X7_know cI cJ h h_images h_reached v_images v_reached v_knownPoints v_knownFamily v_count) H locs → lv_has ls 5 [(0, .ref h), (1, .int l1), (2, .long l2)] → f_X7_know_0 l1 l2 v_images v_reached v_knownPoints v_knownFamily v_count = some Rr → W p l e rm_X7_know s m args below meth c H locs 0 0 (MQ below (QV D cI cJ A (w_X7_know cI cJ h h_images h_reached Rr.1 Rr.2.1 Rr.2.2.1 Rr.2.2.2.1 Rr.2.2.2.2)) args s 0 0 A) (F0 m 0 ls []) := by
  have hx := C0.1.1
  have hb := C0.1.2.1
  intro l1 l2 v_images v_reached v_knownPoints v_knownFamily v_count H locs ls hSt hl hf
  unfold f_X7_know_0 at hf
  refine lv_iload_n hx hb dX7_know_0 rfl (lv_at hl 1 rfl) ?_
  refine lv_aload_n hx hb dX7_know_1 rfl (lv_at hl 0 rfl) ?_
  refine hb_get C0 hK hSt 0 6 2 rfl rfl iu_X7_know_X7 (by decide) fl_X7_know_18 rfl dX7_know_2 ?_
  refine lv_icmp_ne (tgt := 18) hx hb dX7_know_5 (by decide) (fun cc => ?_) (fun cc => ?_)
  · have hf := ite_f hf cc
    exact k_X7_know_18 C0 hK hA hX  l1 l2 v_images v_reached v_knownPoints v_knownFamily v_count _ _ _ hSt (lv_sub hl [0, 1, 2] rfl) hf
  · have hf := ite_t hf cc
    refine lv_lload_n hx hb dX7_know_8 rfl (lv_at hl 2 rfl) ?_
    refine lv_aload_n hx hb dX7_know_9 rfl (lv_at hl 0 rfl) ?_
    refine hb_get C0 hK hSt 0 6 3 rfl rfl iu_X7_know_X7 (by decide) fl_X7_know_22 rfl dX7_know_10 ?_
    refine W.lcmp hx hb dX7_know_13 ?_
    refine lv_if_ne (tgt := 18) hx hb dX7_know_14 (by decide) (fun cc => ?_) (fun cc => ?_)
    · have hf := ite_f hf (lc_f cc)
      exact k_X7_know_18 C0 hK hA hX  l1 l2 v_images v_reached v_knownPoints v_knownFamily v_count _ _ _ hSt (lv_sub hl [0, 1, 2] rfl) hf
    · have hf := ite_t hf (lc_t cc)
      cases hf
      exact hb_vret C0 hK hSt dX7_know_17
def f_X7_know  (l1 : Int32) (l2 : Int64) (v_images : Nat → Int32) (v_reached : Nat → Int32) (v_knownPoints : Int32) (v_knownFamily : Int64) (v_count : Int32) : Option ((Nat → Int32) × (Nat → Int32) × Int32 × Int64 × Int32) := f_X7_know_0 l1 l2 v_images v_reached v_knownPoints v_knownFamily v_count
set_option maxRecDepth 100000 in
theorem c_X7_know (l : Launch) (D : va_G) (cI cJ : ClassId) (h h_images h_reached : Nat) (l1 : Int32) (l2 : Int64) (v_images : Nat → Int32) (v_reached : Nat → Int32) (v_knownPoints : Int32) (v_knownFamily : Int64) (v_count : Int32) (Rr : (Nat → Int32) × (Nat → Int32) × Int32 × Int64 × Int32) (hf : f_X7_know l1 l2 v_images v_reached v_knownPoints v_knownFamily v_count = some Rr) : CtV l yX7_know wsX7_know rm_X7_know D cI cJ none [.ref h, .int l1, .long l2] (w_X7_know cI cJ h h_images h_reached v_images v_reached v_knownPoints v_knownFamily v_count) (w_X7_know cI cJ h h_images h_reached Rr.1 Rr.2.1 Rr.2.2.1 Rr.2.2.2.1 Rr.2.2.2.2) :=
  fun sz => BodyW.met (av := [.ref h, .int l1, .long l2]) (Qc := fun A => QV D cI cJ A (w_X7_know cI cJ h h_images h_reached Rr.1 Rr.2.1 Rr.2.2.1 Rr.2.2.2.1 Rr.2.2.2.2)) (by decide) rfl rfl (Nat.le_of_ble_eq_true rfl) (fun C0 hK hA hX ls hSt hl => k_X7_know_0 C0 hK hA hX l1 l2 v_images v_reached v_knownPoints v_knownFamily v_count _ _ ls hSt hl hf) sz
/-! X7 howMany -/
abbrev rm_X7_howMany : Room := { frames := 0, cells := 0, slots := 0, locals := 0 }
abbrev w_X7_howMany (cI cJ : ClassId) (h : Nat) (g0 : Value) (g1 : Value) (g2 : Value) (g3 : Value) (v_count : Int32) : va_W := [(h, .inr (6, [g0, g1, g2, g3, .int v_count]))]
theorem iu_X7_howMany_X7 : ∀ w ∈ wsX70, w ∈ wsX7_howMany := by decide +kernel
theorem fl_X7_howMany_26 : Cond.fieldLink RX7 26 (TX7 4).1 (TX7 4).2.1 (TX7 4).2.2.1 ∈ wsX7_howMany := by decide +kernel
theorem hd_X7_howMany : yX7_howMany.cls = RX7 ∧ yX7_howMany.cls ≠ "java/lang/invoke/MethodHandle" ∧ yX7_howMany.cls ≠ "java/lang/invoke/VarHandle" ∧ (parseMethodDescriptor yX7_howMany.desc).map (fun d => d.parameters.length) = some 0 := by decide +kernel
def f_X7_howMany_0 (v_count : Int32)    : Option (Int32) := some v_count
set_option maxHeartbeats 4000000 in
set_option maxRecDepth 100000 in
theorem k_X7_howMany_0 {p : Program} {l : Launch} {e : Env} {s : State} {m : MethodId} {args : Array Value} {below : List Frame} {meth : Method} {c : Code} {A : Nat → Prop} {D : va_G} {cI cJ : ClassId} {h : Nat} {g0 g1 g2 g3 : Value} {v_count : Int32} (C0 : Cx p s m args meth c cX7_howMany wsX7_howMany RX7 1 (some .int)) (hK : va_K D vwCl (tyL cI cJ) s) (hA : ∀ q, s.heap.size ≤ q → A q) (hX : XT none A s s.heap) {Rr : Int32} : ∀   (H : Heap) (locs : List Loc) (ls : Array Slot), St D A s (w_X7_howMany cI cJ h g0 g1 g2 g3 v_count) H locs → lv_has ls 1 [(0, .ref h)] → f_X7_howMany_0 v_count = some Rr → W p l e rm_X7_howMany s m args below meth c H locs 0 0 (MQ below (QI D cI cJ A (w_X7_howMany cI cJ h g0 g1 g2 g3 v_count) Rr) args s 0 0 A) (F0 m 0 ls []) := by
  have hx := C0.1.1
  have hb := C0.1.2.1
  intro H locs ls hSt hl hf
  unfold f_X7_howMany_0 at hf
  refine lv_aload_n hx hb dX7_howMany_0 rfl (lv_at hl 0 rfl) ?_
  refine hb_get C0 hK hSt 0 6 4 rfl rfl iu_X7_howMany_X7 (by decide) fl_X7_howMany_26 rfl dX7_howMany_1 ?_
  cases hf
  exact hb_iret C0 hK hSt dX7_howMany_4
def f_X7_howMany (v_count : Int32)   : Option (Int32) := f_X7_howMany_0 v_count
set_option maxRecDepth 100000 in
theorem c_X7_howMany (l : Launch) (D : va_G) (cI cJ : ClassId) (h : Nat) (g0 g1 g2 g3 : Value)  (v_count : Int32) (Rr : Int32) (hf : f_X7_howMany v_count = some Rr) : CtI l yX7_howMany wsX7_howMany rm_X7_howMany D cI cJ none [.ref h] (w_X7_howMany cI cJ h g0 g1 g2 g3 v_count) Rr (w_X7_howMany cI cJ h g0 g1 g2 g3 v_count) :=
  fun sz => BodyW.met (av := [.ref h]) (Qc := fun A => QI D cI cJ A (w_X7_howMany cI cJ h g0 g1 g2 g3 v_count) Rr) (by decide) rfl rfl (Nat.le_of_ble_eq_true rfl) (fun C0 hK hA hX ls hSt hl => k_X7_howMany_0 C0 hK hA hX   _ _ ls hSt hl hf) sz
/-! X7 bring -/
abbrev rm_X7_bring : Room := { frames := 1, cells := 0, slots := 0, locals := 21 }
abbrev w_X7_bring (cI cJ : ClassId) (h : Nat) (h_reached : Nat) (g0 : Value) (g2 : Value) (g3 : Value) (g4 : Value) (v_reached : Nat → Int32) : va_W := [(h, .inr (6, [g0, .ref h_reached, g2, g3, g4])), (h_reached, .inl (cI, 6, .inl v_reached))]
theorem iu_X7_bring_X7 : ∀ w ∈ wsX70, w ∈ wsX7_bring := by decide +kernel
theorem fl_X7_bring_15 : Cond.fieldLink RX7 15 (TX7 1).1 (TX7 1).2.1 (TX7 1).2.2.1 ∈ wsX7_bring := by decide +kernel
theorem hd_X7_bring : yX7_bring.cls = RX7 ∧ yX7_bring.cls ≠ "java/lang/invoke/MethodHandle" ∧ yX7_bring.cls ≠ "java/lang/invoke/VarHandle" ∧ (parseMethodDescriptor yX7_bring.desc).map (fun d => d.parameters.length) = some 2 := by decide +kernel
def f_X7_bring_0 (v_reached : Nat → Int32)  (l1 : Int32) (l2 : Int32)  : Option (Int32) := if l1 < 0 then some (0 : Int32) else if (6 : Int32) ≤ l1 then some (0 : Int32) else if l2 < 0 then some (0 : Int32) else if (6 : Int32) ≤ l2 then some (0 : Int32) else gd (ix l1 6) ((f_X6_hasPoint (v_reached l1.toNatClampNeg) l2).bind (fun R1 => if R1 = 0 then some (0 : Int32) else some (1 : Int32)))
set_option maxHeartbeats 4000000 in
set_option maxRecDepth 100000 in
theorem k_X7_bring_0 {p : Program} {l : Launch} {e : Env} {s : State} {m : MethodId} {args : Array Value} {below : List Frame} {meth : Method} {c : Code} {A : Nat → Prop} {D : va_G} {cI cJ : ClassId} {h h_reached : Nat} {g0 g2 g3 g4 : Value} {v_reached : Nat → Int32} (C0 : Cx p s m args meth c cX7_bring wsX7_bring RX7 3 (some .boolean)) (hK : va_K D vwCl (tyL cI cJ) s) (hA : ∀ q, s.heap.size ≤ q → A q) (hX : XT none A s s.heap) {Rr : Int32} : ∀ (l1 : Int32) (l2 : Int32)  (H : Heap) (locs : List Loc) (ls : Array Slot), St D A s (w_X7_bring cI cJ h h_reached g0 g2 g3 g4 v_reached) H locs → lv_has ls 3 [(0, .ref h), (1, .int l1), (2, .int l2)] → f_X7_bring_0 v_reached l1 l2 = some Rr → W p l e rm_X7_bring s m args below meth c H locs 0 0 (MQ below (QI D cI cJ A (w_X7_bring cI cJ h h_reached g0 g2 g3 g4 v_reached) Rr) args s 0 0 A) (F0 m 0 ls []) := by
  have hx := C0.1.1
  have hb := C0.1.2.1
  intro l1 l2 H locs ls hSt hl hf
  unfold f_X7_bring_0 at hf
  refine lv_iload_n hx hb dX7_bring_0 rfl (lv_at hl 1 rfl) ?_
  refine lv_if_lt (tgt := 37) hx hb dX7_bring_1 (by decide) (fun cc => ?_) (fun cc => ?_)
  · have hf := ite_t hf cc
    refine lv_iconst (v := 0) hx hb dX7_bring_37 (by decide) ?_
    cases hf
    exact hb_zret C0 hK hSt nb0.1 dX7_bring_38
  · have hf := ite_f hf cc
    refine lv_iload_n hx hb dX7_bring_4 rfl (lv_at hl 1 rfl) ?_
    refine lv_bipush (v := 6) hx hb dX7_bring_5 (by decide) ?_
    refine lv_icmp_ge (tgt := 37) hx hb dX7_bring_7 (by decide) (fun cc => ?_) (fun cc => ?_)
    · have hf := ite_t hf cc
      refine lv_iconst (v := 0) hx hb dX7_bring_37 (by decide) ?_
      cases hf
      exact hb_zret C0 hK hSt nb0.1 dX7_bring_38
    · have hf := ite_f hf cc
      refine lv_iload_n hx hb dX7_bring_10 rfl (lv_at hl 2 rfl) ?_
      refine lv_if_lt (tgt := 37) hx hb dX7_bring_11 (by decide) (fun cc => ?_) (fun cc => ?_)
      · have hf := ite_t hf cc
        refine lv_iconst (v := 0) hx hb dX7_bring_37 (by decide) ?_
        cases hf
        exact hb_zret C0 hK hSt nb0.1 dX7_bring_38
      · have hf := ite_f hf cc
        refine lv_iload_n hx hb dX7_bring_14 rfl (lv_at hl 2 rfl) ?_
        refine lv_bipush (v := 6) hx hb dX7_bring_15 (by decide) ?_
        refine lv_icmp_ge (tgt := 37) hx hb dX7_bring_17 (by decide) (fun cc => ?_) (fun cc => ?_)
        · have hf := ite_t hf cc
          refine lv_iconst (v := 0) hx hb dX7_bring_37 (by decide) ?_
          cases hf
          exact hb_zret C0 hK hSt nb0.1 dX7_bring_38
        · have hf := ite_f hf cc
          refine lv_aload_n hx hb dX7_bring_20 rfl (lv_at hl 0 rfl) ?_
          refine hb_get C0 hK hSt 0 6 1 rfl rfl iu_X7_bring_X7 (by decide) fl_X7_bring_15 rfl dX7_bring_21 ?_
          refine lv_iload_n hx hb dX7_bring_24 rfl (lv_at hl 1 rfl) ?_
          obtain ⟨hi, hf⟩ := gd_t hf
          refine hb_iald C0 hK hSt 1 rfl hi dX7_bring_25 ?_
          refine lv_iload_n hx hb dX7_bring_26 rfl (lv_at hl 2 rfl) ?_
          obtain ⟨R1, hR1, hf⟩ := Option.bind_eq_some_iff.mp hf
          have sp : Sp (w_X7_bring cI cJ h h_reached g0 g2 g3 g4 v_reached) (w_X6_hasPoint cI cJ) (w_X6_hasPoint cI cJ) (w_X7_bring cI cJ h h_reached g0 g2 g3 g4 v_reached) [] [0, 1] [0, 1] := ⟨rfl, rfl, rfl, by decide, by decide, by decide, by decide⟩
          refine hb_ci (hb_rS (As := [.int (v_reached l1.toNatClampNeg), .int l2]) (rest := []) C0 hK hA XT.nn hSt sp (c_X6_hasPoint l D cI cJ   (v_reached l1.toNatClampNeg) l2  R1 hR1) gX7_bring_X6_hasPoint rfl ⟨rfl, rfl⟩ hd_X6_hasPoint ⟨Nat.le_of_ble_eq_true rfl, Nat.le_of_ble_eq_true rfl⟩ rfl hl rfl (Nat.le_of_ble_eq_true rfl) dX7_bring_27 ⟨Nat.zero_le _, Nat.zero_le _⟩) hA hSt sp (fun H locs hSt => ?_)
          refine lv_if_eq (tgt := 37) hx hb dX7_bring_30 (by decide) (fun cc => ?_) (fun cc => ?_)
          · have hf := ite_t hf cc
            refine lv_iconst (v := 0) hx hb dX7_bring_37 (by decide) ?_
            cases hf
            exact hb_zret C0 hK hSt nb0.1 dX7_bring_38
          · have hf := ite_f hf cc
            refine lv_iconst (v := 1) hx hb dX7_bring_33 (by decide) ?_
            refine lv_goto (tgt := 38) hx hb dX7_bring_34 (by decide) ?_
            cases hf
            exact hb_zret C0 hK hSt nb1.1 dX7_bring_38
def f_X7_bring (v_reached : Nat → Int32) (l1 : Int32) (l2 : Int32)  : Option (Int32) := f_X7_bring_0 v_reached l1 l2
set_option maxRecDepth 100000 in
theorem c_X7_bring (l : Launch) (D : va_G) (cI cJ : ClassId) (h h_reached : Nat) (g0 g2 g3 g4 : Value) (l1 : Int32) (l2 : Int32) (v_reached : Nat → Int32) (Rr : Int32) (hf : f_X7_bring v_reached l1 l2 = some Rr) : CtI l yX7_bring wsX7_bring rm_X7_bring D cI cJ none [.ref h, .int l1, .int l2] (w_X7_bring cI cJ h h_reached g0 g2 g3 g4 v_reached) Rr (w_X7_bring cI cJ h h_reached g0 g2 g3 g4 v_reached) :=
  fun sz => BodyW.met (av := [.ref h, .int l1, .int l2]) (Qc := fun A => QI D cI cJ A (w_X7_bring cI cJ h h_reached g0 g2 g3 g4 v_reached) Rr) (by decide) rfl rfl (Nat.le_of_ble_eq_true rfl) (fun C0 hK hA hX ls hSt hl => k_X7_bring_0 C0 hK hA hX l1 l2  _ _ ls hSt hl hf) sz
/-! X7 classes -/
abbrev rm_X7_classes : Room := { frames := 0, cells := 0, slots := 0, locals := 0 }
abbrev w_X7_classes (cI cJ : ClassId) (h : Nat) (h_reached : Nat) (g0 : Value) (g3 : Value) (g4 : Value) (v_reached : Nat → Int32) (v_knownPoints : Int32) : va_W := [(h, .inr (6, [g0, .ref h_reached, .int v_knownPoints, g3, g4])), (h_reached, .inl (cI, 6, .inl v_reached))]
theorem iu_X7_classes_X7 : ∀ w ∈ wsX70, w ∈ wsX7_classes := by decide +kernel
theorem fl_X7_classes_15 : Cond.fieldLink RX7 15 (TX7 1).1 (TX7 1).2.1 (TX7 1).2.2.1 ∈ wsX7_classes := by decide +kernel
theorem fl_X7_classes_18 : Cond.fieldLink RX7 18 (TX7 2).1 (TX7 2).2.1 (TX7 2).2.2.1 ∈ wsX7_classes := by decide +kernel
theorem hd_X7_classes : yX7_classes.cls = RX7 ∧ yX7_classes.cls ≠ "java/lang/invoke/MethodHandle" ∧ yX7_classes.cls ≠ "java/lang/invoke/VarHandle" ∧ (parseMethodDescriptor yX7_classes.desc).map (fun d => d.parameters.length) = some 0 := by decide +kernel
def f_X7_classes_4 (v_reached : Nat → Int32) (v_knownPoints : Int32)  : Nat → Int32 → Int32 → Option (Int32)
  | 0, _, _ => none
  | n + 1, l1, l2 => if v_knownPoints ≤ l2 then some l1 else if (6 : Int32) ≤ l2 then some l1 else gd (ix l2 6) (if ((v_reached l2.toNatClampNeg) &&& (((1 : Int32) <<< (l2 &&& 31)) - (1 : Int32))) = 0 then (f_X7_classes_4 v_reached v_knownPoints n) (l1 + 1) (l2 + 1) else (f_X7_classes_4 v_reached v_knownPoints n) l1 (l2 + 1))
set_option maxHeartbeats 4000000 in
set_option maxRecDepth 100000 in
theorem k_X7_classes_4 {p : Program} {l : Launch} {e : Env} {s : State} {m : MethodId} {args : Array Value} {below : List Frame} {meth : Method} {c : Code} {A : Nat → Prop} {D : va_G} {cI cJ : ClassId} {h h_reached : Nat} {g0 g3 g4 : Value} {v_reached : Nat → Int32} {v_knownPoints : Int32} (C0 : Cx p s m args meth c cX7_classes wsX7_classes RX7 3 (some .int)) (hK : va_K D vwCl (tyL cI cJ) s) (hA : ∀ q, s.heap.size ≤ q → A q) (hX : XT none A s s.heap) {Rr : Int32} (n : Nat) : ∀ (l1 : Int32) (l2 : Int32)  (H : Heap) (locs : List Loc) (ls : Array Slot), St D A s (w_X7_classes cI cJ h h_reached g0 g3 g4 v_reached v_knownPoints) H locs → lv_has ls 3 [(0, .ref h), (1, .int l1), (2, .int l2)] → f_X7_classes_4 v_reached v_knownPoints n l1 l2 = some Rr → W p l e rm_X7_classes s m args below meth c H locs 0 0 (MQ below (QI D cI cJ A (w_X7_classes cI cJ h h_reached g0 g3 g4 v_reached v_knownPoints) Rr) args s 0 0 A) (F0 m 4 ls []) := by
  have hx := C0.1.1
  have hb := C0.1.2.1
  induction n with
  | zero => intro l1 l2 H locs ls hSt hl hf; exact nomatch (show (none : Option _) = some Rr from hf)
  | succ n ih =>
    intro l1 l2 H locs ls hSt hl hf
    unfold f_X7_classes_4 at hf
    refine lv_iload_n hx hb dX7_classes_4 rfl (lv_at hl 2 rfl) ?_
    refine lv_aload_n hx hb dX7_classes_5 rfl (lv_at hl 0 rfl) ?_
    refine hb_get C0 hK hSt 0 6 2 rfl rfl iu_X7_classes_X7 (by decide) fl_X7_classes_18 rfl dX7_classes_6 ?_
    refine lv_icmp_ge (tgt := 42) hx hb dX7_classes_9 (by decide) (fun cc => ?_) (fun cc => ?_)
    · have hf := ite_t hf cc
      refine lv_iload_n hx hb dX7_classes_42 rfl (lv_at hl 1 rfl) ?_
      cases hf
      exact hb_iret C0 hK hSt dX7_classes_43
    · have hf := ite_f hf cc
      refine lv_iload_n hx hb dX7_classes_12 rfl (lv_at hl 2 rfl) ?_
      refine lv_bipush (v := 6) hx hb dX7_classes_13 (by decide) ?_
      refine lv_icmp_ge (tgt := 42) hx hb dX7_classes_15 (by decide) (fun cc => ?_) (fun cc => ?_)
      · have hf := ite_t hf cc
        refine lv_iload_n hx hb dX7_classes_42 rfl (lv_at hl 1 rfl) ?_
        cases hf
        exact hb_iret C0 hK hSt dX7_classes_43
      · have hf := ite_f hf cc
        refine lv_aload_n hx hb dX7_classes_18 rfl (lv_at hl 0 rfl) ?_
        refine hb_get C0 hK hSt 0 6 1 rfl rfl iu_X7_classes_X7 (by decide) fl_X7_classes_15 rfl dX7_classes_19 ?_
        refine lv_iload_n hx hb dX7_classes_22 rfl (lv_at hl 2 rfl) ?_
        obtain ⟨hi, hf⟩ := gd_t hf
        refine hb_iald C0 hK hSt 1 rfl hi dX7_classes_23 ?_
        refine lv_iconst (v := 1) hx hb dX7_classes_24 (by decide) ?_
        refine lv_iload_n hx hb dX7_classes_25 rfl (lv_at hl 2 rfl) ?_
        refine lv_ishl hx hb dX7_classes_26 ?_
        refine lv_iconst (v := 1) hx hb dX7_classes_27 (by decide) ?_
        refine lv_isub hx hb dX7_classes_28 ?_
        refine lv_iand hx hb dX7_classes_29 ?_
        refine lv_if_ne (tgt := 36) hx hb dX7_classes_30 (by decide) (fun cc => ?_) (fun cc => ?_)
        · have hf := ite_f hf cc
          refine lv_iinc (v := l2 + 1) (lv' := [(2, .int (l2 + 1)), (0, .ref h), (1, .int l1)]) hx hb dX7_classes_36 hl (k := 2) rfl rfl (by decide) rfl (fun ls hl => ?_)
          refine lv_goto (tgt := 4) hx hb dX7_classes_39 (by decide) ?_
          exact ih l1 (l2 + 1) _ _ _ hSt (lv_sub hl [1, 2, 0] rfl) hf
        · have hf := ite_t hf cc
          refine lv_iinc (v := l1 + 1) (lv' := [(1, .int (l1 + 1)), (0, .ref h), (2, .int l2)]) hx hb dX7_classes_33 hl (k := 1) rfl rfl (by decide) rfl (fun ls hl => ?_)
          refine lv_iinc (v := l2 + 1) (lv' := [(2, .int (l2 + 1)), (1, .int (l1 + 1)), (0, .ref h)]) hx hb dX7_classes_36 hl (k := 2) rfl rfl (by decide) rfl (fun ls hl => ?_)
          refine lv_goto (tgt := 4) hx hb dX7_classes_39 (by decide) ?_
          exact ih (l1 + 1) (l2 + 1) _ _ _ hSt (lv_sub hl [2, 1, 0] rfl) hf
def f_X7_classes_0 (v_reached : Nat → Int32) (v_knownPoints : Int32)    : Option (Int32) := f_X7_classes_4 v_reached v_knownPoints  FU (0 : Int32) (0 : Int32)
set_option maxHeartbeats 4000000 in
set_option maxRecDepth 100000 in
theorem k_X7_classes_0 {p : Program} {l : Launch} {e : Env} {s : State} {m : MethodId} {args : Array Value} {below : List Frame} {meth : Method} {c : Code} {A : Nat → Prop} {D : va_G} {cI cJ : ClassId} {h h_reached : Nat} {g0 g3 g4 : Value} {v_reached : Nat → Int32} {v_knownPoints : Int32} (C0 : Cx p s m args meth c cX7_classes wsX7_classes RX7 3 (some .int)) (hK : va_K D vwCl (tyL cI cJ) s) (hA : ∀ q, s.heap.size ≤ q → A q) (hX : XT none A s s.heap) {Rr : Int32} : ∀   (H : Heap) (locs : List Loc) (ls : Array Slot), St D A s (w_X7_classes cI cJ h h_reached g0 g3 g4 v_reached v_knownPoints) H locs → lv_has ls 3 [(0, .ref h)] → f_X7_classes_0 v_reached v_knownPoints = some Rr → W p l e rm_X7_classes s m args below meth c H locs 0 0 (MQ below (QI D cI cJ A (w_X7_classes cI cJ h h_reached g0 g3 g4 v_reached v_knownPoints) Rr) args s 0 0 A) (F0 m 0 ls []) := by
  have hx := C0.1.1
  have hb := C0.1.2.1
  intro H locs ls hSt hl hf
  unfold f_X7_classes_0 at hf
  refine lv_iconst (v := 0) hx hb dX7_classes_0 (by decide) ?_
  refine lv_istore_n (lv' := [(1, .int (0 : Int32)), (0, .ref h)]) hx hb dX7_classes_1 rfl hl (by decide) rfl (fun ls hl => ?_)
  refine lv_iconst (v := 0) hx hb dX7_classes_2 (by decide) ?_
  refine lv_istore_n (lv' := [(2, .int (0 : Int32)), (1, .int (0 : Int32)), (0, .ref h)]) hx hb dX7_classes_3 rfl hl (by decide) rfl (fun ls hl => ?_)
  exact k_X7_classes_4 C0 hK hA hX  FU (0 : Int32) (0 : Int32) _ _ _ hSt (lv_sub hl [2, 1, 0] rfl) hf
def f_X7_classes (v_reached : Nat → Int32) (v_knownPoints : Int32)   : Option (Int32) := f_X7_classes_0 v_reached v_knownPoints
set_option maxRecDepth 100000 in
theorem c_X7_classes (l : Launch) (D : va_G) (cI cJ : ClassId) (h h_reached : Nat) (g0 g3 g4 : Value)  (v_reached : Nat → Int32) (v_knownPoints : Int32) (Rr : Int32) (hf : f_X7_classes v_reached v_knownPoints = some Rr) : CtI l yX7_classes wsX7_classes rm_X7_classes D cI cJ none [.ref h] (w_X7_classes cI cJ h h_reached g0 g3 g4 v_reached v_knownPoints) Rr (w_X7_classes cI cJ h h_reached g0 g3 g4 v_reached v_knownPoints) :=
  fun sz => BodyW.met (av := [.ref h]) (Qc := fun A => QI D cI cJ A (w_X7_classes cI cJ h h_reached g0 g3 g4 v_reached v_knownPoints) Rr) (by decide) rfl rfl (Nat.le_of_ble_eq_true rfl) (fun C0 hK hA hX ls hSt hl => k_X7_classes_0 C0 hK hA hX   _ _ ls hSt hl hf) sz
