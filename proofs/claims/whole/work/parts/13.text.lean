def f_X3_add (p1 : Int64) (p3 : Int32) (t_length : Int32) (t_bytes : Nat → Int32) : Option (Int32 × (Nat → Int32)) :=
  loop3 (fun B5 (x2 : Int32) (x3 : Int32) (x4 : Nat → Int32) => (if x2 < 0 then some (x3, x4) else (if (300 : Int32) ≤ x3 then some (x3, x4) else gd (inb x3 300) (B5 (x2 + (-1 : Int32)) (x3 + (1 : Int32)) (upd x4 x3.toNatClampNeg (vp_nar .byte (((p1 >>> (((8 : Int32) * x2).toInt64 &&& 63)).toInt32).toInt8.toInt32))))))) FU (p3 - (1 : Int32)) t_length t_bytes
theorem hd_X3_add : yX3_add.cls = RX3 ∧ yX3_add.cls ≠ "java/lang/invoke/MethodHandle" ∧ yX3_add.cls ≠ "java/lang/invoke/VarHandle" ∧ (parseMethodDescriptor yX3_add.desc).map (fun d => d.parameters.length) = some 2 := by decide +kernel
set_option maxHeartbeats 4000000 in
set_option maxRecDepth 100000 in
theorem c_X3_add (l : Launch) (dC : Nat → ClassId) (dI : Nat → Nat → Nat) (cI cB cZ : ClassId) (aK aV : Nat → Nat) (a_t a_t_bytes : Nat) (sz : Nat) (t_length : Int32) (t_token : Int32) (t_place : Int32) (t_after : Int32) (t_value : Int32) (t_bytes : Nat → Int32) (p1 : Int64) (p3 : Int32) (q0 : Int32) (q1 : Nat → Int32) (hf : f_X3_add p1 p3 t_length t_bytes = some (q0, q1)) : Met l yX3_add wsX3_add ({ frames := 0, cells := 0, slots := 0, locals := 0 } : Jvm.Room) (va_Pc [.ref a_t, .long p1, .int p3] (preW (dC, dI) (tyL cI cB cZ) aK aV sz [(a_t, .inr (3, [.ref a_t_bytes, .int t_length, .int t_token, .int t_place, .int t_after, .int t_value])), (a_t_bytes, .inl (cB, 300, .inl t_bytes))])) (va_Qv (fun (_ : Unit) => True) (postW (dC, dI) (tyL cI cB cZ) (va_A [(a_t, .inr (3, [.ref a_t_bytes, .int t_length, .int t_token, .int t_place, .int t_after, .int t_value])), (a_t_bytes, .inl (cB, 300, .inl t_bytes))] sz) [(a_t, .inr (3, [.ref a_t_bytes, .int q0, .int t_token, .int t_place, .int t_after, .int t_value])), (a_t_bytes, .inl (cB, 300, .inl q1))]) (va_A [(a_t, .inr (3, [.ref a_t_bytes, .int t_length, .int t_token, .int t_place, .int t_after, .int t_value])), (a_t_bytes, .inl (cB, 300, .inl t_bytes))] sz)) 0 0 (va_A [(a_t, .inr (3, [.ref a_t_bytes, .int t_length, .int t_token, .int t_place, .int t_after, .int t_value])), (a_t_bytes, .inl (cB, 300, .inl t_bytes))] sz) := by
  refine met_v (cc := cX3_add) (maxL := 5) (own := RX3) (by decide) rfl (Nat.le_of_ble_eq_true rfl) rfl (fun p e s m args below meth c Q A E hret ls H locs hl hw => ?_)
  obtain ⟨⟨hx, hb, hml, hown, hts⟩, hK, hN, hA, hX⟩ := id E
  have hl : lv_has ls 5 [(0, .ref a_t), (1, .long p1), (3, .int p3)] := hl
  have iX3 : ∀ w ∈ wsX30, w ∈ wsX3_add := by decide +kernel
  have kf15 := hts (.fieldLink RX3 15 "FiveThings$Text" "length" "I") (by decide +kernel)
  have kf9 := hts (.fieldLink RX3 9 "FiveThings$Text" "bytes" "[B") (by decide +kernel)
  unfold f_X3_add at hf
  refine lv_iload_n hx hb dX3_add_0 rfl (lv_at hl 2 rfl) ?_
  refine lv_iconst (v := (1 : Int32)) hx hb dX3_add_1 rfl ?_
  refine lv_isub hx hb dX3_add_2 ?_
  refine lv_istore (lv' := [(4, .int (p3 - (1 : Int32))), (0, .ref a_t), (1, .long p1), (3, .int p3)]) hx hb dX3_add_3 hl (by decide) rfl (fun ls hl => ?_)
  refine (loop3_sound (r := (q0, q1)) (P := fun (x2 : Int32) (x3 : Int32) (x4 : Nat → Int32) => ∀ (ls : Array Slot) (H : Heap) (locs : List Loc), lv_has ls 5 [(4, .int x2), (0, .ref a_t), (1, .long p1)] → Wd A s.heap (dC, dI) [(a_t, .inr (3, [.ref a_t_bytes, .int x3, .int t_token, .int t_place, .int t_after, .int t_value])), (a_t_bytes, .inl (cB, 300, .inl x4))] H locs → W p l e ({ frames := 0, cells := 0, slots := 0, locals := 0 } : Jvm.Room) s m args below meth c H locs 0 0 Q (F0 m 5 ls [])) (fun B5 x2 x3 x4 ih5 hf => ?_) _ (p3 - (1 : Int32)) t_length t_bytes hf) ls H locs (lv_sub hl [0, 1, 2] rfl) hw
  intro ls H locs hl hw
  refine lv_iload hx hb dX3_add_5 (lv_at hl 0 rfl) ?_
  refine lv_if_lt (tgt := 54) hx hb dX3_add_7 (by decide) (fun kc => ?_) (fun kc => ?_)
  · have hf := if_t hf kc
    obtain ⟨rfl, rfl⟩ := sm2 hf
    exact hret H locs ls 54 hw dX3_add_54
  · have hf := if_f hf kc
    refine lv_aload_n hx hb dX3_add_10 rfl (lv_at hl 1 rfl) ?_
    refine r_get E hw iX3 0 1 rfl rfl (by decide) kf15 rfl rfl dX3_add_11 ?_
    refine lv_sipush (v := (300 : Int32)) hx hb dX3_add_14 rfl ?_
    refine lv_icmp_ge (tgt := 54) hx hb dX3_add_17 (by decide) (fun kc => ?_) (fun kc => ?_)
    · have hf := if_t hf kc
      obtain ⟨rfl, rfl⟩ := sm2 hf
      exact hret H locs ls 54 hw dX3_add_54
    · have hf := if_f hf kc
      refine lv_aload_n hx hb dX3_add_20 rfl (lv_at hl 1 rfl) ?_
      refine r_get E hw iX3 0 0 rfl rfl (by decide) kf9 rfl rfl dX3_add_21 ?_
      refine lv_aload_n hx hb dX3_add_24 rfl (lv_at hl 1 rfl) ?_
      refine r_get E hw iX3 0 1 rfl rfl (by decide) kf15 rfl rfl dX3_add_25 ?_
      refine lv_lload_n hx hb dX3_add_28 rfl (lv_at hl 2 rfl) ?_
      refine lv_bipush (v := (8 : Int32)) hx hb dX3_add_29 rfl ?_
      refine lv_iload hx hb dX3_add_31 (lv_at hl 0 rfl) ?_
      refine lv_imul hx hb dX3_add_33 ?_
      refine lv_lshr hx hb dX3_add_34 rfl ?_
      refine lv_l2i hx hb dX3_add_35 rfl ?_
      refine lv_i2b hx hb dX3_add_36 rfl ?_
      obtain ⟨g5, hf⟩ := gd_some hf
      refine r_bast E hw 1 rfl g5 [(a_t, .inr (3, [.ref a_t_bytes, .int x3, .int t_token, .int t_place, .int t_after, .int t_value])), (a_t_bytes, .inl (cB, 300, .inl (upd x4 x3.toNatClampNeg (vp_nar .byte (((p1 >>> (((8 : Int32) * x2).toInt64 &&& 63)).toInt32).toInt8.toInt32)))))] rfl dX3_add_37 (fun H locs hw => ?_)
      refine lv_aload_n hx hb dX3_add_38 rfl (lv_at hl 1 rfl) ?_
      refine lv_dup hx hb dX3_add_39 rfl ?_
      refine r_get E hw iX3 0 1 rfl rfl (by decide) kf15 rfl rfl dX3_add_40 ?_
      refine lv_iconst (v := (1 : Int32)) hx hb dX3_add_43 rfl ?_
      refine lv_iadd hx hb dX3_add_44 ?_
      refine r_put E hw iX3 tyX3_ok nmX3 0 1 rfl rfl (by decide) kf15 rfl rfl rfl rfl (Nat.le_of_ble_eq_true rfl) [(a_t, .inr (3, [.ref a_t_bytes, .int (x3 + (1 : Int32)), .int t_token, .int t_place, .int t_after, .int t_value])), (a_t_bytes, .inl (cB, 300, .inl (upd x4 x3.toNatClampNeg (vp_nar .byte (((p1 >>> (((8 : Int32) * x2).toInt64 &&& 63)).toInt32).toInt8.toInt32)))))] rfl dX3_add_45 (fun H locs hw => ?_)
      refine lv_iinc (v := (x2 + (-1 : Int32))) (lv' := [(4, .int (x2 + (-1 : Int32))), (0, .ref a_t), (1, .long p1)]) hx hb dX3_add_48 hl (k := 0) rfl rfl (by decide) rfl (fun ls hl => ?_)
      refine lv_goto (tgt := 5) hx hb dX3_add_51 (by decide) ?_
      exact ih5 (x2 + (-1 : Int32)) (x3 + (1 : Int32)) (upd x4 x3.toNatClampNeg (vp_nar .byte (((p1 >>> (((8 : Int32) * x2).toInt64 &&& 63)).toInt32).toInt8.toInt32))) hf ls H locs (lv_sub hl [0, 1, 2] rfl) hw
def f_X3_empty : Option (Int32) :=
  some ((0 : Int32))
theorem hd_X3_empty : yX3_empty.cls = RX3 ∧ yX3_empty.cls ≠ "java/lang/invoke/MethodHandle" ∧ yX3_empty.cls ≠ "java/lang/invoke/VarHandle" ∧ (parseMethodDescriptor yX3_empty.desc).map (fun d => d.parameters.length) = some 0 := by decide +kernel
set_option maxHeartbeats 4000000 in
set_option maxRecDepth 100000 in
theorem c_X3_empty (l : Launch) (dC : Nat → ClassId) (dI : Nat → Nat → Nat) (cI cB cZ : ClassId) (aK aV : Nat → Nat) (a_t a_t_bytes : Nat) (sz : Nat) (t_length : Int32) (t_token : Int32) (t_place : Int32) (t_after : Int32) (t_value : Int32) (q0 : Int32) (hf : f_X3_empty  = some q0) : Met l yX3_empty wsX3_empty ({ frames := 0, cells := 0, slots := 0, locals := 0 } : Jvm.Room) (va_Pc [.ref a_t] (preW (dC, dI) (tyL cI cB cZ) aK aV sz [(a_t, .inr (3, [.ref a_t_bytes, .int t_length, .int t_token, .int t_place, .int t_after, .int t_value]))])) (va_Qv (fun (_ : Unit) => True) (postW (dC, dI) (tyL cI cB cZ) (va_A [(a_t, .inr (3, [.ref a_t_bytes, .int t_length, .int t_token, .int t_place, .int t_after, .int t_value]))] sz) [(a_t, .inr (3, [.ref a_t_bytes, .int q0, .int t_token, .int t_place, .int t_after, .int t_value]))]) (va_A [(a_t, .inr (3, [.ref a_t_bytes, .int t_length, .int t_token, .int t_place, .int t_after, .int t_value]))] sz)) 0 0 (va_A [(a_t, .inr (3, [.ref a_t_bytes, .int t_length, .int t_token, .int t_place, .int t_after, .int t_value]))] sz) := by
  refine met_v (cc := cX3_empty) (maxL := 1) (own := RX3) (by decide) rfl (Nat.le_of_ble_eq_true rfl) rfl (fun p e s m args below meth c Q A E hret ls H locs hl hw => ?_)
  obtain ⟨⟨hx, hb, hml, hown, hts⟩, hK, hN, hA, hX⟩ := id E
  have hl : lv_has ls 1 [(0, .ref a_t)] := hl
  have iX3 : ∀ w ∈ wsX30, w ∈ wsX3_empty := by decide +kernel
  have kf15 := hts (.fieldLink RX3 15 "FiveThings$Text" "length" "I") (by decide +kernel)
  unfold f_X3_empty at hf
  refine lv_aload_n hx hb dX3_empty_0 rfl (lv_at hl 0 rfl) ?_
  refine lv_iconst (v := (0 : Int32)) hx hb dX3_empty_1 rfl ?_
  refine r_put E hw iX3 tyX3_ok nmX3 0 1 rfl rfl (by decide) kf15 rfl rfl rfl rfl (Nat.le_of_ble_eq_true rfl) [(a_t, .inr (3, [.ref a_t_bytes, .int (0 : Int32), .int t_token, .int t_place, .int t_after, .int t_value]))] rfl dX3_empty_2 (fun H locs hw => ?_)
  obtain rfl := sm1 hf
  exact hret H locs ls 5 hw dX3_empty_5
def f_X3_endOfRun (p1 : Int32) (p2 : Int32) (p3 : Int32) (t_length : Int32) (t_bytes : Nat → Int32) : Option (Int32) :=
  loop1 (fun B3 (x3 : Int32) => (if x3 < 0 then some (x3) else (if t_length ≤ x3 then some (x3) else gd (inb x3 300) ((if (t_bytes x3.toNatClampNeg) < p2 then some (x3) else gd (inb x3 300) ((if p3 < (t_bytes x3.toNatClampNeg) then some (x3) else B3 (x3 + (1 : Int32))))))))) FU p1
theorem hd_X3_endOfRun : yX3_endOfRun.cls = RX3 ∧ yX3_endOfRun.cls ≠ "java/lang/invoke/MethodHandle" ∧ yX3_endOfRun.cls ≠ "java/lang/invoke/VarHandle" ∧ (parseMethodDescriptor yX3_endOfRun.desc).map (fun d => d.parameters.length) = some 3 := by decide +kernel
set_option maxHeartbeats 4000000 in
set_option maxRecDepth 100000 in
theorem c_X3_endOfRun (l : Launch) (dC : Nat → ClassId) (dI : Nat → Nat → Nat) (cI cB cZ : ClassId) (aK aV : Nat → Nat) (a_t a_t_bytes : Nat) (sz : Nat) (t_length : Int32) (t_token : Int32) (t_place : Int32) (t_after : Int32) (t_value : Int32) (t_bytes : Nat → Int32) (p1 : Int32) (p2 : Int32) (p3 : Int32) (r : Int32) (hf : f_X3_endOfRun p1 p2 p3 t_length t_bytes = some r) : Met l yX3_endOfRun wsX3_endOfRun ({ frames := 0, cells := 0, slots := 0, locals := 0 } : Jvm.Room) (va_Pc [.ref a_t, .int p1, .int p2, .int p3] (preW (dC, dI) (tyL cI cB cZ) aK aV sz [(a_t, .inr (3, [.ref a_t_bytes, .int t_length, .int t_token, .int t_place, .int t_after, .int t_value])), (a_t_bytes, .inl (cB, 300, .inl t_bytes))])) (va_Qi (fun v (_ : Unit) => v = r) (postW (dC, dI) (tyL cI cB cZ) (va_A [(a_t, .inr (3, [.ref a_t_bytes, .int t_length, .int t_token, .int t_place, .int t_after, .int t_value])), (a_t_bytes, .inl (cB, 300, .inl t_bytes))] sz) [(a_t, .inr (3, [.ref a_t_bytes, .int t_length, .int t_token, .int t_place, .int t_after, .int t_value])), (a_t_bytes, .inl (cB, 300, .inl t_bytes))]) (va_A [(a_t, .inr (3, [.ref a_t_bytes, .int t_length, .int t_token, .int t_place, .int t_after, .int t_value])), (a_t_bytes, .inl (cB, 300, .inl t_bytes))] sz)) 0 0 (va_A [(a_t, .inr (3, [.ref a_t_bytes, .int t_length, .int t_token, .int t_place, .int t_after, .int t_value])), (a_t_bytes, .inl (cB, 300, .inl t_bytes))] sz) := by
  refine met_i (cc := cX3_endOfRun) (maxL := 5) (own := RX3) (by decide) rfl (Nat.le_of_ble_eq_true rfl) rfl (fun p e s m args below meth c Q A E hret ls H locs hl hw => ?_)
  obtain ⟨⟨hx, hb, hml, hown, hts⟩, hK, hN, hA, hX⟩ := id E
  have hl : lv_has ls 5 [(0, .ref a_t), (1, .int p1), (2, .int p2), (3, .int p3)] := hl
  have iX3 : ∀ w ∈ wsX30, w ∈ wsX3_endOfRun := by decide +kernel
  have kf15 := hts (.fieldLink RX3 15 "FiveThings$Text" "length" "I") (by decide +kernel)
  have kf9 := hts (.fieldLink RX3 9 "FiveThings$Text" "bytes" "[B") (by decide +kernel)
  unfold f_X3_endOfRun at hf
  refine lv_iload_n hx hb dX3_endOfRun_0 rfl (lv_at hl 1 rfl) ?_
  refine lv_istore (lv' := [(4, .int p1), (0, .ref a_t), (1, .int p1), (2, .int p2), (3, .int p3)]) hx hb dX3_endOfRun_1 hl (by decide) rfl (fun ls hl => ?_)
  refine (loop1_sound (r := r) (P := fun (x3 : Int32) => ∀ (ls : Array Slot) (H : Heap) (locs : List Loc), lv_has ls 5 [(4, .int x3), (0, .ref a_t), (2, .int p2), (3, .int p3)] → Wd A s.heap (dC, dI) [(a_t, .inr (3, [.ref a_t_bytes, .int t_length, .int t_token, .int t_place, .int t_after, .int t_value])), (a_t_bytes, .inl (cB, 300, .inl t_bytes))] H locs → W p l e ({ frames := 0, cells := 0, slots := 0, locals := 0 } : Jvm.Room) s m args below meth c H locs 0 0 Q (F0 m 3 ls [])) (fun B3 x3 ih3 hf => ?_) _ p1 hf) ls H locs (lv_sub hl [0, 1, 3, 4] rfl) hw
  intro ls H locs hl hw
  refine lv_iload hx hb dX3_endOfRun_3 (lv_at hl 0 rfl) ?_
  refine lv_if_lt (tgt := 45) hx hb dX3_endOfRun_5 (by decide) (fun kc => ?_) (fun kc => ?_)
  · have hf := if_t hf kc
    refine lv_iload hx hb dX3_endOfRun_45 (lv_at hl 0 rfl) ?_
    obtain rfl := sm1 hf
    exact hret H locs ls 47 hw dX3_endOfRun_47
  · have hf := if_f hf kc
    refine lv_iload hx hb dX3_endOfRun_8 (lv_at hl 0 rfl) ?_
    refine lv_aload_n hx hb dX3_endOfRun_10 rfl (lv_at hl 1 rfl) ?_
    refine r_get E hw iX3 0 1 rfl rfl (by decide) kf15 rfl rfl dX3_endOfRun_11 ?_
    refine lv_icmp_ge (tgt := 45) hx hb dX3_endOfRun_14 (by decide) (fun kc => ?_) (fun kc => ?_)
    · have hf := if_t hf kc
      refine lv_iload hx hb dX3_endOfRun_45 (lv_at hl 0 rfl) ?_
      obtain rfl := sm1 hf
      exact hret H locs ls 47 hw dX3_endOfRun_47
    · have hf := if_f hf kc
      refine lv_aload_n hx hb dX3_endOfRun_17 rfl (lv_at hl 1 rfl) ?_
      refine r_get E hw iX3 0 0 rfl rfl (by decide) kf9 rfl rfl dX3_endOfRun_18 ?_
      refine lv_iload hx hb dX3_endOfRun_21 (lv_at hl 0 rfl) ?_
      obtain ⟨g4, hf⟩ := gd_some hf
      refine r_bald E hw 1 rfl g4 dX3_endOfRun_23 ?_
      refine lv_iload_n hx hb dX3_endOfRun_24 rfl (lv_at hl 2 rfl) ?_
      refine lv_icmp_lt (tgt := 45) hx hb dX3_endOfRun_25 (by decide) (fun kc => ?_) (fun kc => ?_)
      · have hf := if_t hf kc
        refine lv_iload hx hb dX3_endOfRun_45 (lv_at hl 0 rfl) ?_
        obtain rfl := sm1 hf
        exact hret H locs ls 47 hw dX3_endOfRun_47
      · have hf := if_f hf kc
        refine lv_aload_n hx hb dX3_endOfRun_28 rfl (lv_at hl 1 rfl) ?_
        refine r_get E hw iX3 0 0 rfl rfl (by decide) kf9 rfl rfl dX3_endOfRun_29 ?_
        refine lv_iload hx hb dX3_endOfRun_32 (lv_at hl 0 rfl) ?_
        obtain ⟨g5, hf⟩ := gd_some hf
        refine r_bald E hw 1 rfl g5 dX3_endOfRun_34 ?_
        refine lv_iload_n hx hb dX3_endOfRun_35 rfl (lv_at hl 3 rfl) ?_
        refine lv_icmp_gt (tgt := 45) hx hb dX3_endOfRun_36 (by decide) (fun kc => ?_) (fun kc => ?_)
        · have hf := if_t hf kc
          refine lv_iload hx hb dX3_endOfRun_45 (lv_at hl 0 rfl) ?_
          obtain rfl := sm1 hf
          exact hret H locs ls 47 hw dX3_endOfRun_47
        · have hf := if_f hf kc
          refine lv_iinc (v := (x3 + (1 : Int32))) (lv' := [(4, .int (x3 + (1 : Int32))), (0, .ref a_t), (2, .int p2), (3, .int p3)]) hx hb dX3_endOfRun_39 hl (k := 0) rfl rfl (by decide) rfl (fun ls hl => ?_)
          refine lv_goto (tgt := 3) hx hb dX3_endOfRun_42 (by decide) ?_
          exact ih3 (x3 + (1 : Int32)) hf ls H locs (lv_sub hl [0, 1, 2, 3] rfl) hw
def f_X3_takeNumber  (t_place : Int32) (t_after : Int32) (t_value : Int32) (t_bytes : Nat → Int32) : Option (Int32 × Int32) :=
  jn (some ((4 : Int32), t_value)) (fun J34 => (if (2 : Int32) < (t_after - t_place) then J34 else jn (loop2 (fun B55 (x3 : Int32) (x4 : Int32) => (if t_after ≤ x3 then some ((2 : Int32), x4) else gd (inb x3 300) (B55 (x3 + (1 : Int32)) ((((10 : Int32) * x4) + (t_bytes x3.toNatClampNeg)) - (48 : Int32))))) FU t_place (0 : Int32)) (fun J40 => (if (t_after - t_place) = (2 : Int32) then gd (inb t_place 300) ((if (t_bytes t_place.toNatClampNeg) = (48 : Int32) then J34 else J40)) else J40))))
theorem hd_X3_takeNumber : yX3_takeNumber.cls = RX3 ∧ yX3_takeNumber.cls ≠ "java/lang/invoke/MethodHandle" ∧ yX3_takeNumber.cls ≠ "java/lang/invoke/VarHandle" ∧ (parseMethodDescriptor yX3_takeNumber.desc).map (fun d => d.parameters.length) = some 0 := by decide +kernel
set_option maxHeartbeats 4000000 in
set_option maxRecDepth 100000 in
theorem c_X3_takeNumber (l : Launch) (dC : Nat → ClassId) (dI : Nat → Nat → Nat) (cI cB cZ : ClassId) (aK aV : Nat → Nat) (a_t a_t_bytes : Nat) (sz : Nat) (t_length : Int32) (t_token : Int32) (t_place : Int32) (t_after : Int32) (t_value : Int32) (t_bytes : Nat → Int32) (q0 : Int32) (q1 : Int32) (hf : f_X3_takeNumber t_place t_after t_value t_bytes = some (q0, q1)) : Met l yX3_takeNumber wsX3_takeNumber ({ frames := 0, cells := 0, slots := 0, locals := 0 } : Jvm.Room) (va_Pc [.ref a_t] (preW (dC, dI) (tyL cI cB cZ) aK aV sz [(a_t, .inr (3, [.ref a_t_bytes, .int t_length, .int t_token, .int t_place, .int t_after, .int t_value])), (a_t_bytes, .inl (cB, 300, .inl t_bytes))])) (va_Qv (fun (_ : Unit) => True) (postW (dC, dI) (tyL cI cB cZ) (va_A [(a_t, .inr (3, [.ref a_t_bytes, .int t_length, .int t_token, .int t_place, .int t_after, .int t_value])), (a_t_bytes, .inl (cB, 300, .inl t_bytes))] sz) [(a_t, .inr (3, [.ref a_t_bytes, .int t_length, .int q0, .int t_place, .int t_after, .int q1])), (a_t_bytes, .inl (cB, 300, .inl t_bytes))]) (va_A [(a_t, .inr (3, [.ref a_t_bytes, .int t_length, .int t_token, .int t_place, .int t_after, .int t_value])), (a_t_bytes, .inl (cB, 300, .inl t_bytes))] sz)) 0 0 (va_A [(a_t, .inr (3, [.ref a_t_bytes, .int t_length, .int t_token, .int t_place, .int t_after, .int t_value])), (a_t_bytes, .inl (cB, 300, .inl t_bytes))] sz) := by
  refine met_v (cc := cX3_takeNumber) (maxL := 3) (own := RX3) (by decide) rfl (Nat.le_of_ble_eq_true rfl) rfl (fun p e s m args below meth c Q A E hret ls H locs hl hw => ?_)
  obtain ⟨⟨hx, hb, hml, hown, hts⟩, hK, hN, hA, hX⟩ := id E
  have hl : lv_has ls 3 [(0, .ref a_t)] := hl
  have iX3 : ∀ w ∈ wsX30, w ∈ wsX3_takeNumber := by decide +kernel
  have kf25 := hts (.fieldLink RX3 25 "FiveThings$Text" "after" "I") (by decide +kernel)
  have kf22 := hts (.fieldLink RX3 22 "FiveThings$Text" "place" "I") (by decide +kernel)
  have kf9 := hts (.fieldLink RX3 9 "FiveThings$Text" "bytes" "[B") (by decide +kernel)
  have kf19 := hts (.fieldLink RX3 19 "FiveThings$Text" "token" "I") (by decide +kernel)
  have kf28 := hts (.fieldLink RX3 28 "FiveThings$Text" "value" "I") (by decide +kernel)
  unfold f_X3_takeNumber at hf
  refine lv_aload_n hx hb dX3_takeNumber_0 rfl (lv_at hl 0 rfl) ?_
  refine r_get E hw iX3 0 4 rfl rfl (by decide) kf25 rfl rfl dX3_takeNumber_1 ?_
  refine lv_aload_n hx hb dX3_takeNumber_4 rfl (lv_at hl 0 rfl) ?_
  refine r_get E hw iX3 0 3 rfl rfl (by decide) kf22 rfl rfl dX3_takeNumber_5 ?_
  refine lv_isub hx hb dX3_takeNumber_8 ?_
  refine lv_istore_n (lv' := [(1, .int (t_after - t_place)), (0, .ref a_t)]) hx hb dX3_takeNumber_9 rfl hl (by decide) rfl (fun ls hl => ?_)
  refine lv_iload_n hx hb dX3_takeNumber_10 rfl (lv_at hl 0 rfl) ?_
  refine lv_iconst (v := (2 : Int32)) hx hb dX3_takeNumber_11 rfl ?_
  refine jn_sound (P := fun J => ∀ (ls : Array Slot) (H : Heap) (locs : List Loc), J = some (q0, q1) → lv_has ls 3 [(0, .ref a_t)] → Wd A s.heap (dC, dI) [(a_t, .inr (3, [.ref a_t_bytes, .int t_length, .int t_token, .int t_place, .int t_after, .int t_value])), (a_t_bytes, .inl (cB, 300, .inl t_bytes))] H locs → W p l e ({ frames := 0, cells := 0, slots := 0, locals := 0 } : Jvm.Room) s m args below meth c H locs 0 0 Q (F0 m 34 ls [])) hf ?_ ?_
  · intro ls H locs hf hl hw
    refine lv_aload_n hx hb dX3_takeNumber_34 rfl (lv_at hl 0 rfl) ?_
    refine lv_iconst (v := (4 : Int32)) hx hb dX3_takeNumber_35 rfl ?_
    refine r_put E hw iX3 tyX3_ok nmX3 0 2 rfl rfl (by decide) kf19 rfl rfl rfl rfl (Nat.le_of_ble_eq_true rfl) [(a_t, .inr (3, [.ref a_t_bytes, .int t_length, .int (4 : Int32), .int t_place, .int t_after, .int t_value])), (a_t_bytes, .inl (cB, 300, .inl t_bytes))] rfl dX3_takeNumber_36 (fun H locs hw => ?_)
    obtain ⟨rfl, rfl⟩ := sm2 hf
    exact hret H locs ls 39 hw dX3_takeNumber_39
  · intro J34 hJ34 hf
    refine lv_icmp_gt (tgt := 34) hx hb dX3_takeNumber_12 (by decide) (fun kc => ?_) (fun kc => ?_)
    · have hf := if_t hf kc
      exact hJ34 ls H locs hf (lv_sub hl [1] rfl) hw
    · have hf := if_f hf kc
      refine lv_iload_n hx hb dX3_takeNumber_15 rfl (lv_at hl 0 rfl) ?_
      refine lv_iconst (v := (2 : Int32)) hx hb dX3_takeNumber_16 rfl ?_
      refine jn_sound (P := fun J => ∀ (ls : Array Slot) (H : Heap) (locs : List Loc), J = some (q0, q1) → lv_has ls 3 [(0, .ref a_t)] → Wd A s.heap (dC, dI) [(a_t, .inr (3, [.ref a_t_bytes, .int t_length, .int t_token, .int t_place, .int t_after, .int t_value])), (a_t_bytes, .inl (cB, 300, .inl t_bytes))] H locs → W p l e ({ frames := 0, cells := 0, slots := 0, locals := 0 } : Jvm.Room) s m args below meth c H locs 0 0 Q (F0 m 40 ls [])) hf ?_ ?_
      · intro ls H locs hf hl hw
        refine lv_aload_n hx hb dX3_takeNumber_40 rfl (lv_at hl 0 rfl) ?_
        refine lv_iconst (v := (2 : Int32)) hx hb dX3_takeNumber_41 rfl ?_
        refine r_put E hw iX3 tyX3_ok nmX3 0 2 rfl rfl (by decide) kf19 rfl rfl rfl rfl (Nat.le_of_ble_eq_true rfl) [(a_t, .inr (3, [.ref a_t_bytes, .int t_length, .int (2 : Int32), .int t_place, .int t_after, .int t_value])), (a_t_bytes, .inl (cB, 300, .inl t_bytes))] rfl dX3_takeNumber_42 (fun H locs hw => ?_)
        refine lv_aload_n hx hb dX3_takeNumber_45 rfl (lv_at hl 0 rfl) ?_
        refine lv_iconst (v := (0 : Int32)) hx hb dX3_takeNumber_46 rfl ?_
        refine r_put E hw iX3 tyX3_ok nmX3 0 5 rfl rfl (by decide) kf28 rfl rfl rfl rfl (Nat.le_of_ble_eq_true rfl) [(a_t, .inr (3, [.ref a_t_bytes, .int t_length, .int (2 : Int32), .int t_place, .int t_after, .int (0 : Int32)])), (a_t_bytes, .inl (cB, 300, .inl t_bytes))] rfl dX3_takeNumber_47 (fun H locs hw => ?_)
        refine lv_aload_n hx hb dX3_takeNumber_50 rfl (lv_at hl 0 rfl) ?_
        refine r_get E hw iX3 0 3 rfl rfl (by decide) kf22 rfl rfl dX3_takeNumber_51 ?_
        refine lv_istore_n (lv' := [(2, .int t_place), (0, .ref a_t)]) hx hb dX3_takeNumber_54 rfl hl (by decide) rfl (fun ls hl => ?_)
        refine (loop2_sound (r := (q0, q1)) (P := fun (x3 : Int32) (x4 : Int32) => ∀ (ls : Array Slot) (H : Heap) (locs : List Loc), lv_has ls 3 [(2, .int x3), (0, .ref a_t)] → Wd A s.heap (dC, dI) [(a_t, .inr (3, [.ref a_t_bytes, .int t_length, .int (2 : Int32), .int t_place, .int t_after, .int x4])), (a_t_bytes, .inl (cB, 300, .inl t_bytes))] H locs → W p l e ({ frames := 0, cells := 0, slots := 0, locals := 0 } : Jvm.Room) s m args below meth c H locs 0 0 Q (F0 m 55 ls [])) (fun B55 x3 x4 ih55 hf => ?_) _ t_place (0 : Int32) hf) ls H locs (lv_sub hl [0, 1] rfl) hw
        intro ls H locs hl hw
        refine lv_iload_n hx hb dX3_takeNumber_55 rfl (lv_at hl 0 rfl) ?_
        refine lv_aload_n hx hb dX3_takeNumber_56 rfl (lv_at hl 1 rfl) ?_
        refine r_get E hw iX3 0 4 rfl rfl (by decide) kf25 rfl rfl dX3_takeNumber_57 ?_
        refine lv_icmp_ge (tgt := 90) hx hb dX3_takeNumber_60 (by decide) (fun kc => ?_) (fun kc => ?_)
        · have hf := if_t hf kc
          obtain ⟨rfl, rfl⟩ := sm2 hf
          exact hret H locs ls 90 hw dX3_takeNumber_90
        · have hf := if_f hf kc
          refine lv_aload_n hx hb dX3_takeNumber_63 rfl (lv_at hl 1 rfl) ?_
          refine lv_bipush (v := (10 : Int32)) hx hb dX3_takeNumber_64 rfl ?_
          refine lv_aload_n hx hb dX3_takeNumber_66 rfl (lv_at hl 1 rfl) ?_
          refine r_get E hw iX3 0 5 rfl rfl (by decide) kf28 rfl rfl dX3_takeNumber_67 ?_
          refine lv_imul hx hb dX3_takeNumber_70 ?_
          refine lv_aload_n hx hb dX3_takeNumber_71 rfl (lv_at hl 1 rfl) ?_
          refine r_get E hw iX3 0 0 rfl rfl (by decide) kf9 rfl rfl dX3_takeNumber_72 ?_
          refine lv_iload_n hx hb dX3_takeNumber_75 rfl (lv_at hl 0 rfl) ?_
          obtain ⟨g5, hf⟩ := gd_some hf
          refine r_bald E hw 1 rfl g5 dX3_takeNumber_76 ?_
          refine lv_iadd hx hb dX3_takeNumber_77 ?_
          refine lv_bipush (v := (48 : Int32)) hx hb dX3_takeNumber_78 rfl ?_
          refine lv_isub hx hb dX3_takeNumber_80 ?_
          refine r_put E hw iX3 tyX3_ok nmX3 0 5 rfl rfl (by decide) kf28 rfl rfl rfl rfl (Nat.le_of_ble_eq_true rfl) [(a_t, .inr (3, [.ref a_t_bytes, .int t_length, .int (2 : Int32), .int t_place, .int t_after, .int ((((10 : Int32) * x4) + (t_bytes x3.toNatClampNeg)) - (48 : Int32))])), (a_t_bytes, .inl (cB, 300, .inl t_bytes))] rfl dX3_takeNumber_81 (fun H locs hw => ?_)
          refine lv_iinc (v := (x3 + (1 : Int32))) (lv' := [(2, .int (x3 + (1 : Int32))), (0, .ref a_t)]) hx hb dX3_takeNumber_84 hl (k := 0) rfl rfl (by decide) rfl (fun ls hl => ?_)
          refine lv_goto (tgt := 55) hx hb dX3_takeNumber_87 (by decide) ?_
          exact ih55 (x3 + (1 : Int32)) ((((10 : Int32) * x4) + (t_bytes x3.toNatClampNeg)) - (48 : Int32)) hf ls H locs (lv_sub hl [0, 1] rfl) hw
      · intro J40 hJ40 hf
        refine lv_icmp_ne (tgt := 40) hx hb dX3_takeNumber_17 (by decide) (fun kc => ?_) (fun kc => ?_)
        · have hf := if_f hf kc
          exact hJ40 ls H locs hf (lv_sub hl [1] rfl) hw
        · have hf := if_t hf kc
          refine lv_aload_n hx hb dX3_takeNumber_20 rfl (lv_at hl 1 rfl) ?_
          refine r_get E hw iX3 0 0 rfl rfl (by decide) kf9 rfl rfl dX3_takeNumber_21 ?_
          refine lv_aload_n hx hb dX3_takeNumber_24 rfl (lv_at hl 1 rfl) ?_
          refine r_get E hw iX3 0 3 rfl rfl (by decide) kf22 rfl rfl dX3_takeNumber_25 ?_
          obtain ⟨g1, hf⟩ := gd_some hf
          refine r_bald E hw 1 rfl g1 dX3_takeNumber_28 ?_
          refine lv_bipush (v := (48 : Int32)) hx hb dX3_takeNumber_29 rfl ?_
          refine lv_icmp_ne (tgt := 40) hx hb dX3_takeNumber_31 (by decide) (fun kc => ?_) (fun kc => ?_)
          · have hf := if_f hf kc
            exact hJ40 ls H locs hf (lv_sub hl [1] rfl) hw
          · have hf := if_t hf kc
            exact hJ34 ls H locs hf (lv_sub hl [1] rfl) hw
def f_X3_toNext  (t_length : Int32) (t_after : Int32) (t_value : Int32) (t_bytes : Nat → Int32) : Option (Int32 × Int32 × Int32 × Int32) :=
  bd1 (f_X3_endOfRun t_after (32 : Int32) (32 : Int32) t_length t_bytes) (fun r1 => bd1 (f_X3_endOfRun r1 (97 : Int32) (122 : Int32) t_length t_bytes) (fun r3 => bd1 (f_X3_endOfRun r1 (48 : Int32) (57 : Int32) t_length t_bytes) (fun r5 => (if r1 < t_length then (if r3 ≤ r1 then (if r5 ≤ r1 then gd (inb r1 300) ((if (t_bytes r1.toNatClampNeg) = (59 : Int32) then some ((3 : Int32), r1, (r1 + (1 : Int32)), t_value) else some ((4 : Int32), r1, t_after, t_value))) else bd2 (f_X3_takeNumber r1 r5 t_value t_bytes) (fun u8 u9 => some (u8, r1, r5, u9))) else some ((1 : Int32), r1, r3, t_value)) else some ((0 : Int32), r1, t_after, t_value)))))
theorem hd_X3_toNext : yX3_toNext.cls = RX3 ∧ yX3_toNext.cls ≠ "java/lang/invoke/MethodHandle" ∧ yX3_toNext.cls ≠ "java/lang/invoke/VarHandle" ∧ (parseMethodDescriptor yX3_toNext.desc).map (fun d => d.parameters.length) = some 0 := by decide +kernel
set_option maxHeartbeats 4000000 in
set_option maxRecDepth 100000 in
theorem c_X3_toNext (l : Launch) (dC : Nat → ClassId) (dI : Nat → Nat → Nat) (cI cB cZ : ClassId) (aK aV : Nat → Nat) (a_t a_t_bytes : Nat) (sz : Nat) (t_length : Int32) (t_token : Int32) (t_place : Int32) (t_after : Int32) (t_value : Int32) (t_bytes : Nat → Int32) (q0 : Int32) (q1 : Int32) (q2 : Int32) (q3 : Int32) (hf : f_X3_toNext t_length t_after t_value t_bytes = some (q0, q1, q2, q3)) : Met l yX3_toNext wsX3_toNext ({ frames := 1, cells := 0, slots := 0, locals := 24 } : Jvm.Room) (va_Pc [.ref a_t] (preW (dC, dI) (tyL cI cB cZ) aK aV sz [(a_t, .inr (3, [.ref a_t_bytes, .int t_length, .int t_token, .int t_place, .int t_after, .int t_value])), (a_t_bytes, .inl (cB, 300, .inl t_bytes))])) (va_Qv (fun (_ : Unit) => True) (postW (dC, dI) (tyL cI cB cZ) (va_A [(a_t, .inr (3, [.ref a_t_bytes, .int t_length, .int t_token, .int t_place, .int t_after, .int t_value])), (a_t_bytes, .inl (cB, 300, .inl t_bytes))] sz) [(a_t, .inr (3, [.ref a_t_bytes, .int t_length, .int q0, .int q1, .int q2, .int q3])), (a_t_bytes, .inl (cB, 300, .inl t_bytes))]) (va_A [(a_t, .inr (3, [.ref a_t_bytes, .int t_length, .int t_token, .int t_place, .int t_after, .int t_value])), (a_t_bytes, .inl (cB, 300, .inl t_bytes))] sz)) 0 0 (va_A [(a_t, .inr (3, [.ref a_t_bytes, .int t_length, .int t_token, .int t_place, .int t_after, .int t_value])), (a_t_bytes, .inl (cB, 300, .inl t_bytes))] sz) := by
  refine met_v (cc := cX3_toNext) (maxL := 3) (own := RX3) (by decide) rfl (Nat.le_of_ble_eq_true rfl) rfl (fun p e s m args below meth c Q A E hret ls H locs hl hw => ?_)
  obtain ⟨⟨hx, hb, hml, hown, hts⟩, hK, hN, hA, hX⟩ := id E
  have hl : lv_has ls 3 [(0, .ref a_t)] := hl
  have iX3 : ∀ w ∈ wsX30, w ∈ wsX3_toNext := by decide +kernel
  have kf25 := hts (.fieldLink RX3 25 "FiveThings$Text" "after" "I") (by decide +kernel)
  have kf22 := hts (.fieldLink RX3 22 "FiveThings$Text" "place" "I") (by decide +kernel)
  have kf15 := hts (.fieldLink RX3 15 "FiveThings$Text" "length" "I") (by decide +kernel)
  have kf9 := hts (.fieldLink RX3 9 "FiveThings$Text" "bytes" "[B") (by decide +kernel)
  have kf19 := hts (.fieldLink RX3 19 "FiveThings$Text" "token" "I") (by decide +kernel)
  unfold f_X3_toNext at hf
  refine lv_aload_n hx hb dX3_toNext_0 rfl (lv_at hl 0 rfl) ?_
  refine lv_aload_n hx hb dX3_toNext_1 rfl (lv_at hl 0 rfl) ?_
  refine lv_aload_n hx hb dX3_toNext_2 rfl (lv_at hl 0 rfl) ?_
  refine r_get E hw iX3 0 4 rfl rfl (by decide) kf25 rfl rfl dX3_toNext_3 ?_
  refine lv_bipush (v := (32 : Int32)) hx hb dX3_toNext_6 rfl ?_
  refine lv_bipush (v := (32 : Int32)) hx hb dX3_toNext_8 rfl ?_
  obtain ⟨r1, hu2, hf⟩ := bd1_some hf
  refine cl_i (wr := []) (w2 := [(a_t, .inr (3, [.ref a_t_bytes, .int t_length, .int t_token, .int t_place, .int t_after, .int t_value])), (a_t_bytes, .inl (cB, 300, .inl t_bytes))]) E hw [0, 1] [] [0, 1] (va_runV (As := [.int t_after, .int (32 : Int32), .int (32 : Int32)]) (rest := [.ref a_t]) E.1 (c_X3_endOfRun l dC dI cI cB cZ aK aV a_t a_t_bytes H.size t_length t_token t_place t_after t_value t_bytes t_after (32 : Int32) (32 : Int32) r1 hu2) (cwV 3 hts gX3_toNext_X3_endOfRun rfl rfl rfl hd_X3_endOfRun ⟨Nat.le_of_ble_eq_true rfl, Nat.le_of_ble_eq_true rfl⟩) (pre_V E hw [0, 1] rfl rfl rfl rfl) rfl rfl hl.1 rfl (lv_room (Nat.le_of_ble_eq_true rfl)) dX3_toNext_10 ⟨Nat.zero_le _, Nat.zero_le _⟩) rfl rfl rfl (by decide) rfl rfl (fun H locs hw => ?_)
  refine r_put E hw iX3 tyX3_ok nmX3 0 3 rfl rfl (by decide) kf22 rfl rfl rfl rfl (Nat.le_of_ble_eq_true rfl) [(a_t, .inr (3, [.ref a_t_bytes, .int t_length, .int t_token, .int r1, .int t_after, .int t_value])), (a_t_bytes, .inl (cB, 300, .inl t_bytes))] rfl dX3_toNext_13 (fun H locs hw => ?_)
  refine lv_aload_n hx hb dX3_toNext_16 rfl (lv_at hl 0 rfl) ?_
  refine lv_aload_n hx hb dX3_toNext_17 rfl (lv_at hl 0 rfl) ?_
  refine r_get E hw iX3 0 3 rfl rfl (by decide) kf22 rfl rfl dX3_toNext_18 ?_
  refine lv_bipush (v := (97 : Int32)) hx hb dX3_toNext_21 rfl ?_
  refine lv_bipush (v := (122 : Int32)) hx hb dX3_toNext_23 rfl ?_
  obtain ⟨r3, hu4, hf⟩ := bd1_some hf
  refine cl_i (wr := []) (w2 := [(a_t, .inr (3, [.ref a_t_bytes, .int t_length, .int t_token, .int r1, .int t_after, .int t_value])), (a_t_bytes, .inl (cB, 300, .inl t_bytes))]) E hw [0, 1] [] [0, 1] (va_runV (As := [.int r1, .int (97 : Int32), .int (122 : Int32)]) (rest := []) E.1 (c_X3_endOfRun l dC dI cI cB cZ aK aV a_t a_t_bytes H.size t_length t_token r1 t_after t_value t_bytes r1 (97 : Int32) (122 : Int32) r3 hu4) (cwV 3 hts gX3_toNext_X3_endOfRun rfl rfl rfl hd_X3_endOfRun ⟨Nat.le_of_ble_eq_true rfl, Nat.le_of_ble_eq_true rfl⟩) (pre_V E hw [0, 1] rfl rfl rfl rfl) rfl rfl hl.1 rfl (lv_room (Nat.le_of_ble_eq_true rfl)) dX3_toNext_25 ⟨Nat.zero_le _, Nat.zero_le _⟩) rfl rfl rfl (by decide) rfl rfl (fun H locs hw => ?_)
  refine lv_istore_n (lv' := [(1, .int r3), (0, .ref a_t)]) hx hb dX3_toNext_28 rfl hl (by decide) rfl (fun ls hl => ?_)
  refine lv_aload_n hx hb dX3_toNext_29 rfl (lv_at hl 1 rfl) ?_
  refine lv_aload_n hx hb dX3_toNext_30 rfl (lv_at hl 1 rfl) ?_
  refine r_get E hw iX3 0 3 rfl rfl (by decide) kf22 rfl rfl dX3_toNext_31 ?_
  refine lv_bipush (v := (48 : Int32)) hx hb dX3_toNext_34 rfl ?_
  refine lv_bipush (v := (57 : Int32)) hx hb dX3_toNext_36 rfl ?_
  obtain ⟨r5, hu6, hf⟩ := bd1_some hf
  refine cl_i (wr := []) (w2 := [(a_t, .inr (3, [.ref a_t_bytes, .int t_length, .int t_token, .int r1, .int t_after, .int t_value])), (a_t_bytes, .inl (cB, 300, .inl t_bytes))]) E hw [0, 1] [] [0, 1] (va_runV (As := [.int r1, .int (48 : Int32), .int (57 : Int32)]) (rest := []) E.1 (c_X3_endOfRun l dC dI cI cB cZ aK aV a_t a_t_bytes H.size t_length t_token r1 t_after t_value t_bytes r1 (48 : Int32) (57 : Int32) r5 hu6) (cwV 3 hts gX3_toNext_X3_endOfRun rfl rfl rfl hd_X3_endOfRun ⟨Nat.le_of_ble_eq_true rfl, Nat.le_of_ble_eq_true rfl⟩) (pre_V E hw [0, 1] rfl rfl rfl rfl) rfl rfl hl.1 rfl (lv_room (Nat.le_of_ble_eq_true rfl)) dX3_toNext_38 ⟨Nat.zero_le _, Nat.zero_le _⟩) rfl rfl rfl (by decide) rfl rfl (fun H locs hw => ?_)
  refine lv_istore_n (lv' := [(2, .int r5), (1, .int r3), (0, .ref a_t)]) hx hb dX3_toNext_41 rfl hl (by decide) rfl (fun ls hl => ?_)
  refine lv_aload_n hx hb dX3_toNext_42 rfl (lv_at hl 2 rfl) ?_
  refine r_get E hw iX3 0 3 rfl rfl (by decide) kf22 rfl rfl dX3_toNext_43 ?_
  refine lv_aload_n hx hb dX3_toNext_46 rfl (lv_at hl 2 rfl) ?_
  refine r_get E hw iX3 0 1 rfl rfl (by decide) kf15 rfl rfl dX3_toNext_47 ?_
  refine lv_icmp_lt (tgt := 61) hx hb dX3_toNext_50 (by decide) (fun kc => ?_) (fun kc => ?_)
  · have hf := if_t hf kc
    refine lv_iload_n hx hb dX3_toNext_61 rfl (lv_at hl 1 rfl) ?_
    refine lv_aload_n hx hb dX3_toNext_62 rfl (lv_at hl 2 rfl) ?_
    refine r_get E hw iX3 0 3 rfl rfl (by decide) kf22 rfl rfl dX3_toNext_63 ?_
    refine lv_icmp_le (tgt := 82) hx hb dX3_toNext_66 (by decide) (fun kc => ?_) (fun kc => ?_)
    · have hf := if_t hf kc
      refine lv_iload_n hx hb dX3_toNext_82 rfl (lv_at hl 0 rfl) ?_
      refine lv_aload_n hx hb dX3_toNext_83 rfl (lv_at hl 2 rfl) ?_
      refine r_get E hw iX3 0 3 rfl rfl (by decide) kf22 rfl rfl dX3_toNext_84 ?_
      refine lv_icmp_le (tgt := 102) hx hb dX3_toNext_87 (by decide) (fun kc => ?_) (fun kc => ?_)
      · have hf := if_t hf kc
        refine lv_aload_n hx hb dX3_toNext_102 rfl (lv_at hl 2 rfl) ?_
        refine r_get E hw iX3 0 0 rfl rfl (by decide) kf9 rfl rfl dX3_toNext_103 ?_
        refine lv_aload_n hx hb dX3_toNext_106 rfl (lv_at hl 2 rfl) ?_
        refine r_get E hw iX3 0 3 rfl rfl (by decide) kf22 rfl rfl dX3_toNext_107 ?_
        obtain ⟨g7, hf⟩ := gd_some hf
        refine r_bald E hw 1 rfl g7 dX3_toNext_110 ?_
        refine lv_bipush (v := (59 : Int32)) hx hb dX3_toNext_111 rfl ?_
        refine lv_icmp_ne (tgt := 134) hx hb dX3_toNext_113 (by decide) (fun kc => ?_) (fun kc => ?_)
        · have hf := if_f hf kc
          refine lv_aload_n hx hb dX3_toNext_134 rfl (lv_at hl 2 rfl) ?_
          refine lv_iconst (v := (4 : Int32)) hx hb dX3_toNext_135 rfl ?_
          refine r_put E hw iX3 tyX3_ok nmX3 0 2 rfl rfl (by decide) kf19 rfl rfl rfl rfl (Nat.le_of_ble_eq_true rfl) [(a_t, .inr (3, [.ref a_t_bytes, .int t_length, .int (4 : Int32), .int r1, .int t_after, .int t_value])), (a_t_bytes, .inl (cB, 300, .inl t_bytes))] rfl dX3_toNext_136 (fun H locs hw => ?_)
          obtain ⟨rfl, rfl, rfl, rfl⟩ := sm4 hf
          exact hret H locs ls 139 hw dX3_toNext_139
        · have hf := if_t hf kc
          refine lv_aload_n hx hb dX3_toNext_116 rfl (lv_at hl 2 rfl) ?_
          refine lv_iconst (v := (3 : Int32)) hx hb dX3_toNext_117 rfl ?_
          refine r_put E hw iX3 tyX3_ok nmX3 0 2 rfl rfl (by decide) kf19 rfl rfl rfl rfl (Nat.le_of_ble_eq_true rfl) [(a_t, .inr (3, [.ref a_t_bytes, .int t_length, .int (3 : Int32), .int r1, .int t_after, .int t_value])), (a_t_bytes, .inl (cB, 300, .inl t_bytes))] rfl dX3_toNext_118 (fun H locs hw => ?_)
          refine lv_aload_n hx hb dX3_toNext_121 rfl (lv_at hl 2 rfl) ?_
          refine lv_aload_n hx hb dX3_toNext_122 rfl (lv_at hl 2 rfl) ?_
          refine r_get E hw iX3 0 3 rfl rfl (by decide) kf22 rfl rfl dX3_toNext_123 ?_
          refine lv_iconst (v := (1 : Int32)) hx hb dX3_toNext_126 rfl ?_
          refine lv_iadd hx hb dX3_toNext_127 ?_
          refine r_put E hw iX3 tyX3_ok nmX3 0 4 rfl rfl (by decide) kf25 rfl rfl rfl rfl (Nat.le_of_ble_eq_true rfl) [(a_t, .inr (3, [.ref a_t_bytes, .int t_length, .int (3 : Int32), .int r1, .int (r1 + (1 : Int32)), .int t_value])), (a_t_bytes, .inl (cB, 300, .inl t_bytes))] rfl dX3_toNext_128 (fun H locs hw => ?_)
          refine lv_goto (tgt := 139) hx hb dX3_toNext_131 (by decide) ?_
          obtain ⟨rfl, rfl, rfl, rfl⟩ := sm4 hf
          exact hret H locs ls 139 hw dX3_toNext_139
      · have hf := if_f hf kc
        refine lv_aload_n hx hb dX3_toNext_90 rfl (lv_at hl 2 rfl) ?_
        refine lv_iload_n hx hb dX3_toNext_91 rfl (lv_at hl 0 rfl) ?_
        refine r_put E hw iX3 tyX3_ok nmX3 0 4 rfl rfl (by decide) kf25 rfl rfl rfl rfl (Nat.le_of_ble_eq_true rfl) [(a_t, .inr (3, [.ref a_t_bytes, .int t_length, .int t_token, .int r1, .int r5, .int t_value])), (a_t_bytes, .inl (cB, 300, .inl t_bytes))] rfl dX3_toNext_92 (fun H locs hw => ?_)
        refine lv_aload_n hx hb dX3_toNext_95 rfl (lv_at hl 2 rfl) ?_
        obtain ⟨u8, u9, hu10, hf⟩ := bd2_some hf
        refine cl_v (wr := []) (w2 := [(a_t, .inr (3, [.ref a_t_bytes, .int t_length, .int u8, .int r1, .int r5, .int u9])), (a_t_bytes, .inl (cB, 300, .inl t_bytes))]) E hw [0, 1] [] [0, 1] (va_runV (As := []) (rest := []) E.1 (c_X3_takeNumber l dC dI cI cB cZ aK aV a_t a_t_bytes H.size t_length t_token r1 r5 t_value t_bytes u8 u9 hu10) (cwV 0 hts gX3_toNext_X3_takeNumber rfl rfl rfl hd_X3_takeNumber ⟨Nat.le_of_ble_eq_true rfl, Nat.le_of_ble_eq_true rfl⟩) (pre_V E hw [0, 1] rfl rfl rfl rfl) rfl rfl hl.1 rfl (lv_room (Nat.le_of_ble_eq_true rfl)) dX3_toNext_96 ⟨Nat.zero_le _, Nat.zero_le _⟩) rfl rfl rfl (by decide) rfl rfl (fun H locs hw => ?_)
        refine lv_goto (tgt := 139) hx hb dX3_toNext_99 (by decide) ?_
        obtain ⟨rfl, rfl, rfl, rfl⟩ := sm4 hf
        exact hret H locs ls 139 hw dX3_toNext_139
    · have hf := if_f hf kc
      refine lv_aload_n hx hb dX3_toNext_69 rfl (lv_at hl 2 rfl) ?_
      refine lv_iconst (v := (1 : Int32)) hx hb dX3_toNext_70 rfl ?_
      refine r_put E hw iX3 tyX3_ok nmX3 0 2 rfl rfl (by decide) kf19 rfl rfl rfl rfl (Nat.le_of_ble_eq_true rfl) [(a_t, .inr (3, [.ref a_t_bytes, .int t_length, .int (1 : Int32), .int r1, .int t_after, .int t_value])), (a_t_bytes, .inl (cB, 300, .inl t_bytes))] rfl dX3_toNext_71 (fun H locs hw => ?_)
      refine lv_aload_n hx hb dX3_toNext_74 rfl (lv_at hl 2 rfl) ?_
      refine lv_iload_n hx hb dX3_toNext_75 rfl (lv_at hl 1 rfl) ?_
      refine r_put E hw iX3 tyX3_ok nmX3 0 4 rfl rfl (by decide) kf25 rfl rfl rfl rfl (Nat.le_of_ble_eq_true rfl) [(a_t, .inr (3, [.ref a_t_bytes, .int t_length, .int (1 : Int32), .int r1, .int r3, .int t_value])), (a_t_bytes, .inl (cB, 300, .inl t_bytes))] rfl dX3_toNext_76 (fun H locs hw => ?_)
      refine lv_goto (tgt := 139) hx hb dX3_toNext_79 (by decide) ?_
      obtain ⟨rfl, rfl, rfl, rfl⟩ := sm4 hf
      exact hret H locs ls 139 hw dX3_toNext_139
  · have hf := if_f hf kc
    refine lv_aload_n hx hb dX3_toNext_53 rfl (lv_at hl 2 rfl) ?_
    refine lv_iconst (v := (0 : Int32)) hx hb dX3_toNext_54 rfl ?_
    refine r_put E hw iX3 tyX3_ok nmX3 0 2 rfl rfl (by decide) kf19 rfl rfl rfl rfl (Nat.le_of_ble_eq_true rfl) [(a_t, .inr (3, [.ref a_t_bytes, .int t_length, .int (0 : Int32), .int r1, .int t_after, .int t_value])), (a_t_bytes, .inl (cB, 300, .inl t_bytes))] rfl dX3_toNext_55 (fun H locs hw => ?_)
    refine lv_goto (tgt := 139) hx hb dX3_toNext_58 (by decide) ?_
    obtain ⟨rfl, rfl, rfl, rfl⟩ := sm4 hf
    exact hret H locs ls 139 hw dX3_toNext_139
def f_X3_toFirst  (t_length : Int32) (t_value : Int32) (t_bytes : Nat → Int32) : Option (Int32 × Int32 × Int32 × Int32) :=
  bd4 (f_X3_toNext t_length (0 : Int32) t_value t_bytes) (fun u1 u2 u3 u4 => some (u1, u2, u3, u4))
theorem hd_X3_toFirst : yX3_toFirst.cls = RX3 ∧ yX3_toFirst.cls ≠ "java/lang/invoke/MethodHandle" ∧ yX3_toFirst.cls ≠ "java/lang/invoke/VarHandle" ∧ (parseMethodDescriptor yX3_toFirst.desc).map (fun d => d.parameters.length) = some 0 := by decide +kernel
set_option maxHeartbeats 4000000 in
set_option maxRecDepth 100000 in
theorem c_X3_toFirst (l : Launch) (dC : Nat → ClassId) (dI : Nat → Nat → Nat) (cI cB cZ : ClassId) (aK aV : Nat → Nat) (a_t a_t_bytes : Nat) (sz : Nat) (t_length : Int32) (t_token : Int32) (t_place : Int32) (t_after : Int32) (t_value : Int32) (t_bytes : Nat → Int32) (q0 : Int32) (q1 : Int32) (q2 : Int32) (q3 : Int32) (hf : f_X3_toFirst t_length t_value t_bytes = some (q0, q1, q2, q3)) : Met l yX3_toFirst wsX3_toFirst ({ frames := 2, cells := 0, slots := 0, locals := 46 } : Jvm.Room) (va_Pc [.ref a_t] (preW (dC, dI) (tyL cI cB cZ) aK aV sz [(a_t, .inr (3, [.ref a_t_bytes, .int t_length, .int t_token, .int t_place, .int t_after, .int t_value])), (a_t_bytes, .inl (cB, 300, .inl t_bytes))])) (va_Qv (fun (_ : Unit) => True) (postW (dC, dI) (tyL cI cB cZ) (va_A [(a_t, .inr (3, [.ref a_t_bytes, .int t_length, .int t_token, .int t_place, .int t_after, .int t_value])), (a_t_bytes, .inl (cB, 300, .inl t_bytes))] sz) [(a_t, .inr (3, [.ref a_t_bytes, .int t_length, .int q0, .int q1, .int q2, .int q3])), (a_t_bytes, .inl (cB, 300, .inl t_bytes))]) (va_A [(a_t, .inr (3, [.ref a_t_bytes, .int t_length, .int t_token, .int t_place, .int t_after, .int t_value])), (a_t_bytes, .inl (cB, 300, .inl t_bytes))] sz)) 0 0 (va_A [(a_t, .inr (3, [.ref a_t_bytes, .int t_length, .int t_token, .int t_place, .int t_after, .int t_value])), (a_t_bytes, .inl (cB, 300, .inl t_bytes))] sz) := by
  refine met_v (cc := cX3_toFirst) (maxL := 1) (own := RX3) (by decide) rfl (Nat.le_of_ble_eq_true rfl) rfl (fun p e s m args below meth c Q A E hret ls H locs hl hw => ?_)
  obtain ⟨⟨hx, hb, hml, hown, hts⟩, hK, hN, hA, hX⟩ := id E
  have hl : lv_has ls 1 [(0, .ref a_t)] := hl
  have iX3 : ∀ w ∈ wsX30, w ∈ wsX3_toFirst := by decide +kernel
  have kf25 := hts (.fieldLink RX3 25 "FiveThings$Text" "after" "I") (by decide +kernel)
  unfold f_X3_toFirst at hf
  refine lv_aload_n hx hb dX3_toFirst_0 rfl (lv_at hl 0 rfl) ?_
  refine lv_iconst (v := (0 : Int32)) hx hb dX3_toFirst_1 rfl ?_
  refine r_put E hw iX3 tyX3_ok nmX3 0 4 rfl rfl (by decide) kf25 rfl rfl rfl rfl (Nat.le_of_ble_eq_true rfl) [(a_t, .inr (3, [.ref a_t_bytes, .int t_length, .int t_token, .int t_place, .int (0 : Int32), .int t_value])), (a_t_bytes, .inl (cB, 300, .inl t_bytes))] rfl dX3_toFirst_2 (fun H locs hw => ?_)
  refine lv_aload_n hx hb dX3_toFirst_5 rfl (lv_at hl 0 rfl) ?_
  obtain ⟨u1, u2, u3, u4, hu5, hf⟩ := bd4_some hf
  refine cl_v (wr := []) (w2 := [(a_t, .inr (3, [.ref a_t_bytes, .int t_length, .int u1, .int u2, .int u3, .int u4])), (a_t_bytes, .inl (cB, 300, .inl t_bytes))]) E hw [0, 1] [] [0, 1] (va_runV (As := []) (rest := []) E.1 (c_X3_toNext l dC dI cI cB cZ aK aV a_t a_t_bytes H.size t_length t_token t_place (0 : Int32) t_value t_bytes u1 u2 u3 u4 hu5) (cwV 0 hts gX3_toFirst_X3_toNext rfl rfl rfl hd_X3_toNext ⟨Nat.le_of_ble_eq_true rfl, Nat.le_of_ble_eq_true rfl⟩) (pre_V E hw [0, 1] rfl rfl rfl rfl) rfl rfl hl.1 rfl (lv_room (Nat.le_of_ble_eq_true rfl)) dX3_toFirst_6 ⟨Nat.zero_le _, Nat.zero_le _⟩) rfl rfl rfl (by decide) rfl rfl (fun H locs hw => ?_)
  obtain ⟨rfl, rfl, rfl, rfl⟩ := sm4 hf
  exact hret H locs ls 9 hw dX3_toFirst_9
def f_X3_isNumber (p1 : Int32) (p2 : Int32) (t_token : Int32) (t_value : Int32) : Option (Int32) :=
  jn (some ((0 : Int32))) (fun J28 => (if t_token = (2 : Int32) then (if t_value < p1 then J28 else (if p2 < t_value then J28 else some ((1 : Int32)))) else J28))
theorem hd_X3_isNumber : yX3_isNumber.cls = RX3 ∧ yX3_isNumber.cls ≠ "java/lang/invoke/MethodHandle" ∧ yX3_isNumber.cls ≠ "java/lang/invoke/VarHandle" ∧ (parseMethodDescriptor yX3_isNumber.desc).map (fun d => d.parameters.length) = some 2 := by decide +kernel
set_option maxHeartbeats 4000000 in
set_option maxRecDepth 100000 in
theorem c_X3_isNumber (l : Launch) (dC : Nat → ClassId) (dI : Nat → Nat → Nat) (cI cB cZ : ClassId) (aK aV : Nat → Nat) (a_t a_t_bytes : Nat) (sz : Nat) (t_length : Int32) (t_token : Int32) (t_place : Int32) (t_after : Int32) (t_value : Int32) (p1 : Int32) (p2 : Int32) (r : Int32) (hf : f_X3_isNumber p1 p2 t_token t_value = some r) : Met l yX3_isNumber wsX3_isNumber ({ frames := 0, cells := 0, slots := 0, locals := 0 } : Jvm.Room) (va_Pc [.ref a_t, .int p1, .int p2] (preW (dC, dI) (tyL cI cB cZ) aK aV sz [(a_t, .inr (3, [.ref a_t_bytes, .int t_length, .int t_token, .int t_place, .int t_after, .int t_value]))])) (va_Qi (fun v (_ : Unit) => v = r) (postW (dC, dI) (tyL cI cB cZ) (va_A [(a_t, .inr (3, [.ref a_t_bytes, .int t_length, .int t_token, .int t_place, .int t_after, .int t_value]))] sz) [(a_t, .inr (3, [.ref a_t_bytes, .int t_length, .int t_token, .int t_place, .int t_after, .int t_value]))]) (va_A [(a_t, .inr (3, [.ref a_t_bytes, .int t_length, .int t_token, .int t_place, .int t_after, .int t_value]))] sz)) 0 0 (va_A [(a_t, .inr (3, [.ref a_t_bytes, .int t_length, .int t_token, .int t_place, .int t_after, .int t_value]))] sz) := by
  refine met_z (cc := cX3_isNumber) (maxL := 3) (own := RX3) (by decide) rfl (Nat.le_of_ble_eq_true rfl) rfl (fun p e s m args below meth c Q A E hret ls H locs hl hw => ?_)
  obtain ⟨⟨hx, hb, hml, hown, hts⟩, hK, hN, hA, hX⟩ := id E
  have hl : lv_has ls 3 [(0, .ref a_t), (1, .int p1), (2, .int p2)] := hl
  have iX3 : ∀ w ∈ wsX30, w ∈ wsX3_isNumber := by decide +kernel
  have kf19 := hts (.fieldLink RX3 19 "FiveThings$Text" "token" "I") (by decide +kernel)
  have kf28 := hts (.fieldLink RX3 28 "FiveThings$Text" "value" "I") (by decide +kernel)
  unfold f_X3_isNumber at hf
  refine lv_aload_n hx hb dX3_isNumber_0 rfl (lv_at hl 0 rfl) ?_
  refine r_get E hw iX3 0 2 rfl rfl (by decide) kf19 rfl rfl dX3_isNumber_1 ?_
  refine lv_iconst (v := (2 : Int32)) hx hb dX3_isNumber_4 rfl ?_
  refine jn_sound (P := fun J => ∀ (ls : Array Slot) (H : Heap) (locs : List Loc), J = some r → lv_has ls 3 [] → Wd A s.heap (dC, dI) [(a_t, .inr (3, [.ref a_t_bytes, .int t_length, .int t_token, .int t_place, .int t_after, .int t_value]))] H locs → W p l e ({ frames := 0, cells := 0, slots := 0, locals := 0 } : Jvm.Room) s m args below meth c H locs 0 0 Q (F0 m 28 ls [])) hf ?_ ?_
  · intro ls H locs hf hl hw
    refine lv_iconst (v := (0 : Int32)) hx hb dX3_isNumber_28 rfl ?_
    obtain rfl := sm1 hf
    exact hret H locs ls 29 hw (Or.inl rfl) dX3_isNumber_29
  · intro J28 hJ28 hf
    refine lv_icmp_ne (tgt := 28) hx hb dX3_isNumber_5 (by decide) (fun kc => ?_) (fun kc => ?_)
    · have hf := if_f hf kc
      exact hJ28 ls H locs hf (lv_sub hl [] rfl) hw
    · have hf := if_t hf kc
      refine lv_aload_n hx hb dX3_isNumber_8 rfl (lv_at hl 0 rfl) ?_
      refine r_get E hw iX3 0 5 rfl rfl (by decide) kf28 rfl rfl dX3_isNumber_9 ?_
      refine lv_iload_n hx hb dX3_isNumber_12 rfl (lv_at hl 1 rfl) ?_
      refine lv_icmp_lt (tgt := 28) hx hb dX3_isNumber_13 (by decide) (fun kc => ?_) (fun kc => ?_)
      · have hf := if_t hf kc
        exact hJ28 ls H locs hf (lv_sub hl [] rfl) hw
      · have hf := if_f hf kc
        refine lv_aload_n hx hb dX3_isNumber_16 rfl (lv_at hl 0 rfl) ?_
        refine r_get E hw iX3 0 5 rfl rfl (by decide) kf28 rfl rfl dX3_isNumber_17 ?_
        refine lv_iload_n hx hb dX3_isNumber_20 rfl (lv_at hl 2 rfl) ?_
        refine lv_icmp_gt (tgt := 28) hx hb dX3_isNumber_21 (by decide) (fun kc => ?_) (fun kc => ?_)
        · have hf := if_t hf kc
          exact hJ28 ls H locs hf (lv_sub hl [] rfl) hw
        · have hf := if_f hf kc
          refine lv_iconst (v := (1 : Int32)) hx hb dX3_isNumber_24 rfl ?_
          refine lv_goto (tgt := 29) hx hb dX3_isNumber_25 (by decide) ?_
          obtain rfl := sm1 hf
          exact hret H locs ls 29 hw (Or.inr rfl) dX3_isNumber_29
def f_X3_isWord (p1 : Nat) (t_length : Int32) (t_token : Int32) (t_place : Int32) (t_after : Int32) (t_bytes : Nat → Int32) : Option (Int32) :=
  (if t_token = (1 : Int32) then bd1 (f_strLen p1) (fun r1 => (if (t_after - t_place) = r1 then loop1 (fun B28 (x8 : Int32) => bd1 (f_strLen p1) (fun r9 => (if r9 ≤ x8 then some ((1 : Int32)) else (if t_length ≤ (t_place + x8) then some ((1 : Int32)) else gd (inb (t_place + x8) 300) (bd1 (f_strCh p1 x8) (fun r12 => (if (t_bytes (t_place + x8).toNatClampNeg) = r12 then B28 (x8 + (1 : Int32)) else some ((0 : Int32))))))))) FU (0 : Int32) else some ((0 : Int32)))) else some ((0 : Int32)))
theorem hd_X3_isWord : yX3_isWord.cls = RX3 ∧ yX3_isWord.cls ≠ "java/lang/invoke/MethodHandle" ∧ yX3_isWord.cls ≠ "java/lang/invoke/VarHandle" ∧ (parseMethodDescriptor yX3_isWord.desc).map (fun d => d.parameters.length) = some 1 := by decide +kernel
set_option maxHeartbeats 4000000 in
set_option maxRecDepth 100000 in
theorem c_X3_isWord (l : Launch) (dC : Nat → ClassId) (dI : Nat → Nat → Nat) (cI cB cZ : ClassId) (aK aV : Nat → Nat) (a_t a_t_bytes : Nat) (sz : Nat) (t_length : Int32) (t_token : Int32) (t_place : Int32) (t_after : Int32) (t_value : Int32) (t_bytes : Nat → Int32) (p1 : Nat) (r : Int32) (hs_p1 : p1 < 4) (hf : f_X3_isWord p1 t_length t_token t_place t_after t_bytes = some r) : Met l yX3_isWord wsX3_isWord ({ frames := 4, cells := 0, slots := 0, locals := 85 } : Jvm.Room) (va_Pc [.ref a_t, .ref (aK p1)] (preW (dC, dI) (tyL cI cB cZ) aK aV sz [(a_t, .inr (3, [.ref a_t_bytes, .int t_length, .int t_token, .int t_place, .int t_after, .int t_value])), (a_t_bytes, .inl (cB, 300, .inl t_bytes))])) (va_Qi (fun v (_ : Unit) => v = r) (postW (dC, dI) (tyL cI cB cZ) (va_A [(a_t, .inr (3, [.ref a_t_bytes, .int t_length, .int t_token, .int t_place, .int t_after, .int t_value])), (a_t_bytes, .inl (cB, 300, .inl t_bytes))] sz) [(a_t, .inr (3, [.ref a_t_bytes, .int t_length, .int t_token, .int t_place, .int t_after, .int t_value])), (a_t_bytes, .inl (cB, 300, .inl t_bytes))]) (va_A [(a_t, .inr (3, [.ref a_t_bytes, .int t_length, .int t_token, .int t_place, .int t_after, .int t_value])), (a_t_bytes, .inl (cB, 300, .inl t_bytes))] sz)) 0 0 (va_A [(a_t, .inr (3, [.ref a_t_bytes, .int t_length, .int t_token, .int t_place, .int t_after, .int t_value])), (a_t_bytes, .inl (cB, 300, .inl t_bytes))] sz) := by
  refine met_z (cc := cX3_isWord) (maxL := 3) (own := RX3) (by decide) rfl (Nat.le_of_ble_eq_true rfl) rfl (fun p e s m args below meth c Q A E hret ls H locs hl hw => ?_)
  obtain ⟨⟨hx, hb, hml, hown, hts⟩, hK, hN, hA, hX⟩ := id E
  have hl : lv_has ls 3 [(0, .ref a_t), (1, .ref (aK p1))] := hl
  have iX3 : ∀ w ∈ wsX30, w ∈ wsX3_isWord := by decide +kernel
  have kf19 := hts (.fieldLink RX3 19 "FiveThings$Text" "token" "I") (by decide +kernel)
  have kf25 := hts (.fieldLink RX3 25 "FiveThings$Text" "after" "I") (by decide +kernel)
  have kf22 := hts (.fieldLink RX3 22 "FiveThings$Text" "place" "I") (by decide +kernel)
  have kf15 := hts (.fieldLink RX3 15 "FiveThings$Text" "length" "I") (by decide +kernel)
  have kf9 := hts (.fieldLink RX3 9 "FiveThings$Text" "bytes" "[B") (by decide +kernel)
  unfold f_X3_isWord at hf
  refine lv_aload_n hx hb dX3_isWord_0 rfl (lv_at hl 0 rfl) ?_
  refine r_get E hw iX3 0 2 rfl rfl (by decide) kf19 rfl rfl dX3_isWord_1 ?_
  refine lv_iconst (v := (1 : Int32)) hx hb dX3_isWord_4 rfl ?_
  refine lv_icmp_ne (tgt := 24) hx hb dX3_isWord_5 (by decide) (fun kc => ?_) (fun kc => ?_)
  · have hf := if_f hf kc
    refine lv_iconst (v := (0 : Int32)) hx hb dX3_isWord_24 rfl ?_
    obtain rfl := sm1 hf
    exact hret H locs ls 25 hw (Or.inl rfl) dX3_isWord_25
  · have hf := if_t hf kc
    refine lv_aload_n hx hb dX3_isWord_8 rfl (lv_at hl 0 rfl) ?_
    refine r_get E hw iX3 0 4 rfl rfl (by decide) kf25 rfl rfl dX3_isWord_9 ?_
    refine lv_aload_n hx hb dX3_isWord_12 rfl (lv_at hl 0 rfl) ?_
    refine r_get E hw iX3 0 3 rfl rfl (by decide) kf22 rfl rfl dX3_isWord_13 ?_
    refine lv_isub hx hb dX3_isWord_16 ?_
    refine lv_aload_n hx hb dX3_isWord_17 rfl (lv_at hl 1 rfl) ?_
    obtain ⟨r1, hu2, hf⟩ := bd1_some hf
    refine cl_i (wr := [(a_t, .inr (3, [.ref a_t_bytes, .int t_length, .int t_token, .int t_place, .int t_after, .int t_value])), (a_t_bytes, .inl (cB, 300, .inl t_bytes))]) (w2 := [(a_t, .inr (3, [.ref a_t_bytes, .int t_length, .int t_token, .int t_place, .int t_after, .int t_value])), (a_t_bytes, .inl (cB, 300, .inl t_bytes))]) E hw [] [0, 1] [0, 1] (va_runV (As := []) (rest := [.int (t_after - t_place)]) E.1 (c_strLen l dC dI cI cB cZ aK aV H.size p1 r1 hs_p1 hu2) (cwV 0 hts gX3_isWord_J0_length_8abf5 rfl rfl rfl hd_J0_length_8abf5 ⟨Nat.le_of_ble_eq_true rfl, Nat.le_of_ble_eq_true rfl⟩) (pre_Vs E hw hs_p1) rfl rfl hl.1 rfl (lv_room (Nat.le_of_ble_eq_true rfl)) dX3_isWord_18 ⟨Nat.zero_le _, Nat.zero_le _⟩) rfl rfl rfl (by decide) rfl rfl (fun H locs hw => ?_)
    refine lv_icmp_eq (tgt := 26) hx hb dX3_isWord_21 (by decide) (fun kc => ?_) (fun kc => ?_)
    · have hf := if_t hf kc
      refine lv_iconst (v := (0 : Int32)) hx hb dX3_isWord_26 rfl ?_
      refine lv_istore_n (lv' := [(2, .int (0 : Int32)), (0, .ref a_t), (1, .ref (aK p1))]) hx hb dX3_isWord_27 rfl hl (by decide) rfl (fun ls hl => ?_)
      refine (loop1_sound (r := r) (P := fun (x8 : Int32) => ∀ (ls : Array Slot) (H : Heap) (locs : List Loc), lv_has ls 3 [(2, .int x8), (0, .ref a_t), (1, .ref (aK p1))] → Wd A s.heap (dC, dI) [(a_t, .inr (3, [.ref a_t_bytes, .int t_length, .int t_token, .int t_place, .int t_after, .int t_value])), (a_t_bytes, .inl (cB, 300, .inl t_bytes))] H locs → W p l e ({ frames := 4, cells := 0, slots := 0, locals := 85 } : Jvm.Room) s m args below meth c H locs 0 0 Q (F0 m 28 ls [])) (fun B28 x8 ih28 hf => ?_) _ (0 : Int32) hf) ls H locs (lv_sub hl [0, 1, 2] rfl) hw
      intro ls H locs hl hw
      refine lv_iload_n hx hb dX3_isWord_28 rfl (lv_at hl 0 rfl) ?_
      refine lv_aload_n hx hb dX3_isWord_29 rfl (lv_at hl 2 rfl) ?_
      obtain ⟨r9, hu10, hf⟩ := bd1_some hf
      refine cl_i (wr := [(a_t, .inr (3, [.ref a_t_bytes, .int t_length, .int t_token, .int t_place, .int t_after, .int t_value])), (a_t_bytes, .inl (cB, 300, .inl t_bytes))]) (w2 := [(a_t, .inr (3, [.ref a_t_bytes, .int t_length, .int t_token, .int t_place, .int t_after, .int t_value])), (a_t_bytes, .inl (cB, 300, .inl t_bytes))]) E hw [] [0, 1] [0, 1] (va_runV (As := []) (rest := [.int x8]) E.1 (c_strLen l dC dI cI cB cZ aK aV H.size p1 r9 hs_p1 hu10) (cwV 0 hts gX3_isWord_J0_length_8abf5 rfl rfl rfl hd_J0_length_8abf5 ⟨Nat.le_of_ble_eq_true rfl, Nat.le_of_ble_eq_true rfl⟩) (pre_Vs E hw hs_p1) rfl rfl hl.1 rfl (lv_room (Nat.le_of_ble_eq_true rfl)) dX3_isWord_30 ⟨Nat.zero_le _, Nat.zero_le _⟩) rfl rfl rfl (by decide) rfl rfl (fun H locs hw => ?_)
      refine lv_icmp_ge (tgt := 76) hx hb dX3_isWord_33 (by decide) (fun kc => ?_) (fun kc => ?_)
      · have hf := if_t hf kc
        refine lv_iconst (v := (1 : Int32)) hx hb dX3_isWord_76 rfl ?_
        obtain rfl := sm1 hf
        exact hret H locs ls 77 hw (Or.inr rfl) dX3_isWord_77
      · have hf := if_f hf kc
        refine lv_aload_n hx hb dX3_isWord_36 rfl (lv_at hl 1 rfl) ?_
        refine r_get E hw iX3 0 3 rfl rfl (by decide) kf22 rfl rfl dX3_isWord_37 ?_
        refine lv_iload_n hx hb dX3_isWord_40 rfl (lv_at hl 0 rfl) ?_
        refine lv_iadd hx hb dX3_isWord_41 ?_
        refine lv_aload_n hx hb dX3_isWord_42 rfl (lv_at hl 1 rfl) ?_
        refine r_get E hw iX3 0 1 rfl rfl (by decide) kf15 rfl rfl dX3_isWord_43 ?_
        refine lv_icmp_ge (tgt := 76) hx hb dX3_isWord_46 (by decide) (fun kc => ?_) (fun kc => ?_)
        · have hf := if_t hf kc
          refine lv_iconst (v := (1 : Int32)) hx hb dX3_isWord_76 rfl ?_
          obtain rfl := sm1 hf
          exact hret H locs ls 77 hw (Or.inr rfl) dX3_isWord_77
        · have hf := if_f hf kc
          refine lv_aload_n hx hb dX3_isWord_49 rfl (lv_at hl 1 rfl) ?_
          refine r_get E hw iX3 0 0 rfl rfl (by decide) kf9 rfl rfl dX3_isWord_50 ?_
          refine lv_aload_n hx hb dX3_isWord_53 rfl (lv_at hl 1 rfl) ?_
          refine r_get E hw iX3 0 3 rfl rfl (by decide) kf22 rfl rfl dX3_isWord_54 ?_
          refine lv_iload_n hx hb dX3_isWord_57 rfl (lv_at hl 0 rfl) ?_
          refine lv_iadd hx hb dX3_isWord_58 ?_
          obtain ⟨g11, hf⟩ := gd_some hf
          refine r_bald E hw 1 rfl g11 dX3_isWord_59 ?_
          refine lv_aload_n hx hb dX3_isWord_60 rfl (lv_at hl 2 rfl) ?_
          refine lv_iload_n hx hb dX3_isWord_61 rfl (lv_at hl 0 rfl) ?_
          obtain ⟨r12, hu13, hf⟩ := bd1_some hf
          refine cl_i (wr := [(a_t, .inr (3, [.ref a_t_bytes, .int t_length, .int t_token, .int t_place, .int t_after, .int t_value])), (a_t_bytes, .inl (cB, 300, .inl t_bytes))]) (w2 := [(a_t, .inr (3, [.ref a_t_bytes, .int t_length, .int t_token, .int t_place, .int t_after, .int t_value])), (a_t_bytes, .inl (cB, 300, .inl t_bytes))]) E hw [] [0, 1] [0, 1] (va_runV (As := [.int x8]) (rest := [.int (t_bytes (t_place + x8).toNatClampNeg)]) E.1 (c_strCh l dC dI cI cB cZ aK aV H.size p1 x8 r12 hs_p1 hu13) (cwV 1 hts gX3_isWord_J0_charAt_5068e rfl rfl rfl hd_J0_charAt_5068e ⟨Nat.le_of_ble_eq_true rfl, Nat.le_of_ble_eq_true rfl⟩) (pre_Vs E hw hs_p1) rfl rfl hl.1 rfl (lv_room (Nat.le_of_ble_eq_true rfl)) dX3_isWord_62 ⟨Nat.zero_le _, Nat.zero_le _⟩) rfl rfl rfl (by decide) rfl rfl (fun H locs hw => ?_)
          refine lv_icmp_eq (tgt := 70) hx hb dX3_isWord_65 (by decide) (fun kc => ?_) (fun kc => ?_)
          · have hf := if_t hf kc
            refine lv_iinc (v := (x8 + (1 : Int32))) (lv' := [(2, .int (x8 + (1 : Int32))), (0, .ref a_t), (1, .ref (aK p1))]) hx hb dX3_isWord_70 hl (k := 0) rfl rfl (by decide) rfl (fun ls hl => ?_)
            refine lv_goto (tgt := 28) hx hb dX3_isWord_73 (by decide) ?_
            exact ih28 (x8 + (1 : Int32)) hf ls H locs (lv_sub hl [0, 1, 2] rfl) hw
          · have hf := if_f hf kc
            refine lv_iconst (v := (0 : Int32)) hx hb dX3_isWord_68 rfl ?_
            obtain rfl := sm1 hf
            exact hret H locs ls 69 hw (Or.inl rfl) dX3_isWord_69
    · have hf := if_f hf kc
      refine lv_iconst (v := (0 : Int32)) hx hb dX3_isWord_24 rfl ?_
      obtain rfl := sm1 hf
      exact hret H locs ls 25 hw (Or.inl rfl) dX3_isWord_25
