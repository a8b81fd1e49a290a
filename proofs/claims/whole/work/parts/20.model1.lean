def f_X7_in (p0 : Int32) (p1 : Int32) (p2 : Int32) : Option (Int32) :=
  jn (some ((0 : Int32))) (fun J14 => (if p0 < p1 then J14 else (if p2 < p0 then J14 else some ((1 : Int32)))))
theorem hd_X7_in : yX7_in.cls ≠ "java/lang/invoke/MethodHandle" ∧ yX7_in.cls ≠ "java/lang/invoke/VarHandle" ∧ (parseMethodDescriptor yX7_in.desc).map (fun d => d.parameters.length) = some 3 := by decide +kernel
set_option maxHeartbeats 4000000 in
set_option maxRecDepth 100000 in
theorem c_X7_in (l : Launch) (dC : Nat → ClassId) (dI : Nat → Nat → Nat) (cI cB cZ : ClassId) (aK aV : Nat → Nat) (sz : Nat) (p0 : Int32) (p1 : Int32) (p2 : Int32) (r : Int32) (hf : f_X7_in p0 p1 p2 = some r) : Met l yX7_in wsX7_in ({ frames := 0, cells := 0, slots := 0, locals := 0 } : Jvm.Room) (va_Pc [.int p0, .int p1, .int p2] (preW (dC, dI) (tyL cI cB cZ) aK aV sz [])) (va_Qi (fun v (_ : Unit) => v = r) (postW (dC, dI) (tyL cI cB cZ) (va_A [] sz) []) (va_A [] sz)) 0 0 (va_A [] sz) := by
  refine met_z (cc := cX7_in) (maxL := 3) (own := RX7) (by decide) rfl (Nat.le_of_ble_eq_true rfl) rfl (fun p e s m args below meth c Q A E hret ls H locs hl hw => ?_)
  obtain ⟨⟨hx, hb, hml, hown, hts⟩, hK, hN, hA, hX⟩ := id E
  have hl : lv_has ls 3 [(0, .int p0), (1, .int p1), (2, .int p2)] := hl
  unfold f_X7_in at hf
  refine lv_iload_n hx hb dX7_in_0 rfl (lv_at hl 0 rfl) ?_
  refine lv_iload_n hx hb dX7_in_1 rfl (lv_at hl 1 rfl) ?_
  refine jn_sound (P := fun J => ∀ (ls : Array Slot) (H : Heap) (locs : List Loc), J = some r → lv_has ls 3 [] → Wd A s.heap (dC, dI) [] H locs → W p l e ({ frames := 0, cells := 0, slots := 0, locals := 0 } : Jvm.Room) s m args below meth c H locs 0 0 Q (F0 m 14 ls [])) hf ?_ ?_
  · intro ls H locs hf hl hw
    refine lv_iconst (v := (0 : Int32)) hx hb dX7_in_14 rfl ?_
    obtain rfl := sm1 hf
    exact hret H locs ls 15 hw (Or.inl rfl) dX7_in_15
  · intro J14 hJ14 hf
    refine lv_icmp_lt (tgt := 14) hx hb dX7_in_2 (by decide) (fun kc => ?_) (fun kc => ?_)
    · have hf := if_t hf kc
      exact hJ14 ls H locs hf (lv_sub hl [] rfl) hw
    · have hf := if_f hf kc
      refine lv_iload_n hx hb dX7_in_5 rfl (lv_at hl 0 rfl) ?_
      refine lv_iload_n hx hb dX7_in_6 rfl (lv_at hl 2 rfl) ?_
      refine lv_icmp_gt (tgt := 14) hx hb dX7_in_7 (by decide) (fun kc => ?_) (fun kc => ?_)
      · have hf := if_t hf kc
        exact hJ14 ls H locs hf (lv_sub hl [] rfl) hw
      · have hf := if_f hf kc
        refine lv_iconst (v := (1 : Int32)) hx hb dX7_in_10 rfl ?_
        refine lv_goto (tgt := 15) hx hb dX7_in_11 (by decide) ?_
        obtain rfl := sm1 hf
        exact hret H locs ls 15 hw (Or.inr rfl) dX7_in_15
def f_X7_greater (p0 : Int32) (p1 : Int32) : Option (Int32) :=
  (if p0 ≤ p1 then some (p1) else some (p0))
theorem hd_X7_greater : yX7_greater.cls ≠ "java/lang/invoke/MethodHandle" ∧ yX7_greater.cls ≠ "java/lang/invoke/VarHandle" ∧ (parseMethodDescriptor yX7_greater.desc).map (fun d => d.parameters.length) = some 2 := by decide +kernel
set_option maxHeartbeats 4000000 in
set_option maxRecDepth 100000 in
theorem c_X7_greater (l : Launch) (dC : Nat → ClassId) (dI : Nat → Nat → Nat) (cI cB cZ : ClassId) (aK aV : Nat → Nat) (sz : Nat) (p0 : Int32) (p1 : Int32) (r : Int32) (hf : f_X7_greater p0 p1 = some r) : Met l yX7_greater wsX7_greater ({ frames := 0, cells := 0, slots := 0, locals := 0 } : Jvm.Room) (va_Pc [.int p0, .int p1] (preW (dC, dI) (tyL cI cB cZ) aK aV sz [])) (va_Qi (fun v (_ : Unit) => v = r) (postW (dC, dI) (tyL cI cB cZ) (va_A [] sz) []) (va_A [] sz)) 0 0 (va_A [] sz) := by
  refine met_i (cc := cX7_greater) (maxL := 2) (own := RX7) (by decide) rfl (Nat.le_of_ble_eq_true rfl) rfl (fun p e s m args below meth c Q A E hret ls H locs hl hw => ?_)
  obtain ⟨⟨hx, hb, hml, hown, hts⟩, hK, hN, hA, hX⟩ := id E
  have hl : lv_has ls 2 [(0, .int p0), (1, .int p1)] := hl
  unfold f_X7_greater at hf
  refine lv_iload_n hx hb dX7_greater_0 rfl (lv_at hl 0 rfl) ?_
  refine lv_iload_n hx hb dX7_greater_1 rfl (lv_at hl 1 rfl) ?_
  refine lv_icmp_le (tgt := 9) hx hb dX7_greater_2 (by decide) (fun kc => ?_) (fun kc => ?_)
  · have hf := if_t hf kc
    refine lv_iload_n hx hb dX7_greater_9 rfl (lv_at hl 1 rfl) ?_
    obtain rfl := sm1 hf
    exact hret H locs ls 10 hw dX7_greater_10
  · have hf := if_f hf kc
    refine lv_iload_n hx hb dX7_greater_5 rfl (lv_at hl 0 rfl) ?_
    refine lv_goto (tgt := 10) hx hb dX7_greater_6 (by decide) ?_
    obtain rfl := sm1 hf
    exact hret H locs ls 10 hw dX7_greater_10
def f_X7_type (p1 : Int64) (p3 : Int32) (m_typed : Int32) (m_text : Nat → Int32) : Option (Int32 × Int32 × Int32 × (Nat → Int32)) :=
  bd1 (f_X7_in p3 (1 : Int32) (8 : Int32)) (fun r1 => (if r1 = 0 then some ((-1 : Int32), (0 : Int32), m_typed, m_text) else (if (m_typed + p3) ≤ (300 : Int32) then loop3 (fun B37 (x4 : Int32) (x5 : Int32) (x6 : Nat → Int32) => (if x4 < 0 then some (x5, (0 : Int32), x5, x6) else gd (inb x5 300) (B37 (x4 + (-1 : Int32)) (x5 + (1 : Int32)) (upd x6 x5.toNatClampNeg (((p1 >>> (((8 : Int32) * x4).toInt64 &&& 63)) &&& (255 : Int64)).toInt32))))) FU (p3 - (1 : Int32)) m_typed m_text else some ((-3 : Int32), (0 : Int32), m_typed, m_text))))
theorem hd_X7_type : yX7_type.cls = RX7 ∧ yX7_type.cls ≠ "java/lang/invoke/MethodHandle" ∧ yX7_type.cls ≠ "java/lang/invoke/VarHandle" ∧ (parseMethodDescriptor yX7_type.desc).map (fun d => d.parameters.length) = some 2 := by decide +kernel
set_option maxHeartbeats 4000000 in
set_option maxRecDepth 100000 in
theorem c_X7_type (l : Launch) (dC : Nat → ClassId) (dI : Nat → Nat → Nat) (cI cB cZ : ClassId) (aK aV : Nat → Nat) (a_m a_m_text a_m_lifts a_m_price a_m_stood a_m_hands a_m_wanted a_m_s a_m_kept a_m_isKept a_m_due a_m_cost a_m_then a_m_by : Nat) (sz : Nat) (m_thrown : Int32) (m_trace : Int64) (m_typed : Int32) (m_next : Int32) (m_token : Int32) (m_place : Int32) (m_value : Int32) (m_fault : Int32) (m_rooms : Int32) (m_people : Int32) (m_things : Int32) (m_draftRooms : Int32) (m_draftPeople : Int32) (m_draftThings : Int32) (m_dueMany : Int32) (m_text : Nat → Int32) (p1 : Int64) (p3 : Int32) (r : Int32) (q0 : Int32) (q1 : Int32) (q2 : Nat → Int32) (hf : f_X7_type p1 p3 m_typed m_text = some (r, q0, q1, q2)) : Met l yX7_type wsX7_type ({ frames := 1, cells := 0, slots := 0, locals := 22 } : Jvm.Room) (va_Pc [.ref a_m, .long p1, .int p3] (preW (dC, dI) (tyL cI cB cZ) aK aV sz [(a_m, .inr (7, [.int m_thrown, .long m_trace, .ref a_m_text, .int m_typed, .int m_next, .int m_token, .int m_place, .int m_value, .int m_fault, .ref a_m_lifts, .ref a_m_price, .ref a_m_stood, .ref a_m_hands, .ref a_m_wanted, .int m_rooms, .int m_people, .int m_things, .int m_draftRooms, .int m_draftPeople, .int m_draftThings, .ref a_m_s, .ref a_m_kept, .ref a_m_isKept, .ref a_m_due, .int m_dueMany, .ref a_m_cost, .ref a_m_then, .ref a_m_by])), (a_m_text, .inl (cI, 300, .inl m_text))])) (va_Qi (fun v (_ : Unit) => v = r) (postW (dC, dI) (tyL cI cB cZ) (va_A [(a_m, .inr (7, [.int m_thrown, .long m_trace, .ref a_m_text, .int m_typed, .int m_next, .int m_token, .int m_place, .int m_value, .int m_fault, .ref a_m_lifts, .ref a_m_price, .ref a_m_stood, .ref a_m_hands, .ref a_m_wanted, .int m_rooms, .int m_people, .int m_things, .int m_draftRooms, .int m_draftPeople, .int m_draftThings, .ref a_m_s, .ref a_m_kept, .ref a_m_isKept, .ref a_m_due, .int m_dueMany, .ref a_m_cost, .ref a_m_then, .ref a_m_by])), (a_m_text, .inl (cI, 300, .inl m_text))] sz) [(a_m, .inr (7, [.int q0, .long m_trace, .ref a_m_text, .int q1, .int m_next, .int m_token, .int m_place, .int m_value, .int m_fault, .ref a_m_lifts, .ref a_m_price, .ref a_m_stood, .ref a_m_hands, .ref a_m_wanted, .int m_rooms, .int m_people, .int m_things, .int m_draftRooms, .int m_draftPeople, .int m_draftThings, .ref a_m_s, .ref a_m_kept, .ref a_m_isKept, .ref a_m_due, .int m_dueMany, .ref a_m_cost, .ref a_m_then, .ref a_m_by])), (a_m_text, .inl (cI, 300, .inl q2))]) (va_A [(a_m, .inr (7, [.int m_thrown, .long m_trace, .ref a_m_text, .int m_typed, .int m_next, .int m_token, .int m_place, .int m_value, .int m_fault, .ref a_m_lifts, .ref a_m_price, .ref a_m_stood, .ref a_m_hands, .ref a_m_wanted, .int m_rooms, .int m_people, .int m_things, .int m_draftRooms, .int m_draftPeople, .int m_draftThings, .ref a_m_s, .ref a_m_kept, .ref a_m_isKept, .ref a_m_due, .int m_dueMany, .ref a_m_cost, .ref a_m_then, .ref a_m_by])), (a_m_text, .inl (cI, 300, .inl m_text))] sz)) 0 0 (va_A [(a_m, .inr (7, [.int m_thrown, .long m_trace, .ref a_m_text, .int m_typed, .int m_next, .int m_token, .int m_place, .int m_value, .int m_fault, .ref a_m_lifts, .ref a_m_price, .ref a_m_stood, .ref a_m_hands, .ref a_m_wanted, .int m_rooms, .int m_people, .int m_things, .int m_draftRooms, .int m_draftPeople, .int m_draftThings, .ref a_m_s, .ref a_m_kept, .ref a_m_isKept, .ref a_m_due, .int m_dueMany, .ref a_m_cost, .ref a_m_then, .ref a_m_by])), (a_m_text, .inl (cI, 300, .inl m_text))] sz) := by
  refine met_i (cc := cX7_type) (maxL := 5) (own := RX7) (by decide) rfl (Nat.le_of_ble_eq_true rfl) rfl (fun p e s m args below meth c Q A E hret ls H locs hl hw => ?_)
  obtain ⟨⟨hx, hb, hml, hown, hts⟩, hK, hN, hA, hX⟩ := id E
  have hl : lv_has ls 5 [(0, .ref a_m), (1, .long p1), (3, .int p3)] := hl
  have iX7 : ∀ w ∈ wsX70, w ∈ wsX7_type := by decide +kernel
  have kf57 := hts (.fieldLink RX7 57 "FiveThingsModel" "thrown" "I") (by decide +kernel)
  have kf64 := hts (.fieldLink RX7 64 "FiveThingsModel" "typed" "I") (by decide +kernel)
  have kf7 := hts (.fieldLink RX7 7 "FiveThingsModel" "text" "[I") (by decide +kernel)
  have kc67 := hts (.constantLong RX7 67 (255)) (by decide +kernel)
  unfold f_X7_type at hf
  refine lv_aload_n hx hb dX7_type_0 rfl (lv_at hl 0 rfl) ?_
  refine lv_iconst (v := (0 : Int32)) hx hb dX7_type_1 rfl ?_
  refine r_put E hw iX7 tyX7_ok nmX7 0 0 rfl rfl (by decide) kf57 rfl rfl rfl rfl (Nat.le_of_ble_eq_true rfl) [(a_m, .inr (7, [.int (0 : Int32), .long m_trace, .ref a_m_text, .int m_typed, .int m_next, .int m_token, .int m_place, .int m_value, .int m_fault, .ref a_m_lifts, .ref a_m_price, .ref a_m_stood, .ref a_m_hands, .ref a_m_wanted, .int m_rooms, .int m_people, .int m_things, .int m_draftRooms, .int m_draftPeople, .int m_draftThings, .ref a_m_s, .ref a_m_kept, .ref a_m_isKept, .ref a_m_due, .int m_dueMany, .ref a_m_cost, .ref a_m_then, .ref a_m_by])), (a_m_text, .inl (cI, 300, .inl m_text))] rfl dX7_type_2 (fun H locs hw => ?_)
  refine lv_iload_n hx hb dX7_type_5 rfl (lv_at hl 2 rfl) ?_
  refine lv_iconst (v := (1 : Int32)) hx hb dX7_type_6 rfl ?_
  refine lv_bipush (v := (8 : Int32)) hx hb dX7_type_7 rfl ?_
  obtain ⟨r1, hu2, hf⟩ := bd1_some hf
  refine cl_i (wr := [(a_m, .inr (7, [.int (0 : Int32), .long m_trace, .ref a_m_text, .int m_typed, .int m_next, .int m_token, .int m_place, .int m_value, .int m_fault, .ref a_m_lifts, .ref a_m_price, .ref a_m_stood, .ref a_m_hands, .ref a_m_wanted, .int m_rooms, .int m_people, .int m_things, .int m_draftRooms, .int m_draftPeople, .int m_draftThings, .ref a_m_s, .ref a_m_kept, .ref a_m_isKept, .ref a_m_due, .int m_dueMany, .ref a_m_cost, .ref a_m_then, .ref a_m_by])), (a_m_text, .inl (cI, 300, .inl m_text))]) (w2 := [(a_m, .inr (7, [.int (0 : Int32), .long m_trace, .ref a_m_text, .int m_typed, .int m_next, .int m_token, .int m_place, .int m_value, .int m_fault, .ref a_m_lifts, .ref a_m_price, .ref a_m_stood, .ref a_m_hands, .ref a_m_wanted, .int m_rooms, .int m_people, .int m_things, .int m_draftRooms, .int m_draftPeople, .int m_draftThings, .ref a_m_s, .ref a_m_kept, .ref a_m_isKept, .ref a_m_due, .int m_dueMany, .ref a_m_cost, .ref a_m_then, .ref a_m_by])), (a_m_text, .inl (cI, 300, .inl m_text))]) E hw [] [0, 1] [0, 1] (va_runS (As := [.int p3, .int (1 : Int32), .int (8 : Int32)]) (rest := []) E.1 (c_X7_in l dC dI cI cB cZ aK aV H.size p3 (1 : Int32) (8 : Int32) r1 hu2) (va_cwS 3 hts gX7_type_X7_in rfl rfl rfl hd_X7_in ⟨Nat.le_of_ble_eq_true rfl, Nat.le_of_ble_eq_true rfl⟩) (pre_S E hw [] rfl rfl) rfl rfl hl.1 rfl (lv_room (Nat.le_of_ble_eq_true rfl)) dX7_type_9 ⟨Nat.zero_le _, Nat.zero_le _⟩) rfl rfl rfl (by decide) rfl rfl (fun H locs hw => ?_)
  refine lv_if_ne (tgt := 17) hx hb dX7_type_12 (by decide) (fun kc => ?_) (fun kc => ?_)
  · have hf := if_f hf kc
    refine lv_aload_n hx hb dX7_type_17 rfl (lv_at hl 0 rfl) ?_
    refine r_get E hw iX7 0 3 rfl rfl (by decide) kf64 rfl rfl dX7_type_18 ?_
    refine lv_iload_n hx hb dX7_type_21 rfl (lv_at hl 2 rfl) ?_
    refine lv_iadd hx hb dX7_type_22 ?_
    refine lv_sipush (v := (300 : Int32)) hx hb dX7_type_23 rfl ?_
    refine lv_icmp_le (tgt := 32) hx hb dX7_type_26 (by decide) (fun kc => ?_) (fun kc => ?_)
    · have hf := if_t hf kc
      refine lv_iload_n hx hb dX7_type_32 rfl (lv_at hl 2 rfl) ?_
      refine lv_iconst (v := (1 : Int32)) hx hb dX7_type_33 rfl ?_
      refine lv_isub hx hb dX7_type_34 ?_
      refine lv_istore (lv' := [(4, .int (p3 - (1 : Int32))), (0, .ref a_m), (1, .long p1), (3, .int p3)]) hx hb dX7_type_35 hl (by decide) rfl (fun ls hl => ?_)
      refine (loop3_sound (r := (r, q0, q1, q2)) (P := fun (x4 : Int32) (x5 : Int32) (x6 : Nat → Int32) => ∀ (ls : Array Slot) (H : Heap) (locs : List Loc), lv_has ls 5 [(4, .int x4), (0, .ref a_m), (1, .long p1)] → Wd A s.heap (dC, dI) [(a_m, .inr (7, [.int (0 : Int32), .long m_trace, .ref a_m_text, .int x5, .int m_next, .int m_token, .int m_place, .int m_value, .int m_fault, .ref a_m_lifts, .ref a_m_price, .ref a_m_stood, .ref a_m_hands, .ref a_m_wanted, .int m_rooms, .int m_people, .int m_things, .int m_draftRooms, .int m_draftPeople, .int m_draftThings, .ref a_m_s, .ref a_m_kept, .ref a_m_isKept, .ref a_m_due, .int m_dueMany, .ref a_m_cost, .ref a_m_then, .ref a_m_by])), (a_m_text, .inl (cI, 300, .inl x6))] H locs → W p l e ({ frames := 1, cells := 0, slots := 0, locals := 22 } : Jvm.Room) s m args below meth c H locs 0 0 Q (F0 m 37 ls [])) (fun B37 x4 x5 x6 ih37 hf => ?_) _ (p3 - (1 : Int32)) m_typed m_text hf) ls H locs (lv_sub hl [0, 1, 2] rfl) hw
      intro ls H locs hl hw
      refine lv_iload hx hb dX7_type_37 (lv_at hl 0 rfl) ?_
      refine lv_if_lt (tgt := 79) hx hb dX7_type_39 (by decide) (fun kc => ?_) (fun kc => ?_)
      · have hf := if_t hf kc
        refine lv_aload_n hx hb dX7_type_79 rfl (lv_at hl 1 rfl) ?_
        refine r_get E hw iX7 0 3 rfl rfl (by decide) kf64 rfl rfl dX7_type_80 ?_
        obtain ⟨rfl, rfl, rfl, rfl⟩ := sm4 hf
        exact hret H locs ls 83 hw dX7_type_83
      · have hf := if_f hf kc
        refine lv_aload_n hx hb dX7_type_42 rfl (lv_at hl 1 rfl) ?_
        refine r_get E hw iX7 0 2 rfl rfl (by decide) kf7 rfl rfl dX7_type_43 ?_
        refine lv_aload_n hx hb dX7_type_46 rfl (lv_at hl 1 rfl) ?_
        refine r_get E hw iX7 0 3 rfl rfl (by decide) kf64 rfl rfl dX7_type_47 ?_
        refine lv_lload_n hx hb dX7_type_50 rfl (lv_at hl 2 rfl) ?_
        refine lv_bipush (v := (8 : Int32)) hx hb dX7_type_51 rfl ?_
        refine lv_iload hx hb dX7_type_53 (lv_at hl 0 rfl) ?_
        refine lv_imul hx hb dX7_type_55 ?_
        refine lv_lshr hx hb dX7_type_56 rfl ?_
        refine lv_ldc2 hx hb hown kc67 dX7_type_57 ?_
        refine lv_land hx hb dX7_type_60 ?_
        refine lv_l2i hx hb dX7_type_61 rfl ?_
        obtain ⟨g7, hf⟩ := gd_some hf
        refine r_iast E hw 1 rfl g7 [(a_m, .inr (7, [.int (0 : Int32), .long m_trace, .ref a_m_text, .int x5, .int m_next, .int m_token, .int m_place, .int m_value, .int m_fault, .ref a_m_lifts, .ref a_m_price, .ref a_m_stood, .ref a_m_hands, .ref a_m_wanted, .int m_rooms, .int m_people, .int m_things, .int m_draftRooms, .int m_draftPeople, .int m_draftThings, .ref a_m_s, .ref a_m_kept, .ref a_m_isKept, .ref a_m_due, .int m_dueMany, .ref a_m_cost, .ref a_m_then, .ref a_m_by])), (a_m_text, .inl (cI, 300, .inl (upd x6 x5.toNatClampNeg (((p1 >>> (((8 : Int32) * x4).toInt64 &&& 63)) &&& (255 : Int64)).toInt32))))] rfl dX7_type_62 (fun H locs hw => ?_)
        refine lv_aload_n hx hb dX7_type_63 rfl (lv_at hl 1 rfl) ?_
        refine lv_dup hx hb dX7_type_64 rfl ?_
        refine r_get E hw iX7 0 3 rfl rfl (by decide) kf64 rfl rfl dX7_type_65 ?_
        refine lv_iconst (v := (1 : Int32)) hx hb dX7_type_68 rfl ?_
        refine lv_iadd hx hb dX7_type_69 ?_
        refine r_put E hw iX7 tyX7_ok nmX7 0 3 rfl rfl (by decide) kf64 rfl rfl rfl rfl (Nat.le_of_ble_eq_true rfl) [(a_m, .inr (7, [.int (0 : Int32), .long m_trace, .ref a_m_text, .int (x5 + (1 : Int32)), .int m_next, .int m_token, .int m_place, .int m_value, .int m_fault, .ref a_m_lifts, .ref a_m_price, .ref a_m_stood, .ref a_m_hands, .ref a_m_wanted, .int m_rooms, .int m_people, .int m_things, .int m_draftRooms, .int m_draftPeople, .int m_draftThings, .ref a_m_s, .ref a_m_kept, .ref a_m_isKept, .ref a_m_due, .int m_dueMany, .ref a_m_cost, .ref a_m_then, .ref a_m_by])), (a_m_text, .inl (cI, 300, .inl (upd x6 x5.toNatClampNeg (((p1 >>> (((8 : Int32) * x4).toInt64 &&& 63)) &&& (255 : Int64)).toInt32))))] rfl dX7_type_70 (fun H locs hw => ?_)
        refine lv_iinc (v := (x4 + (-1 : Int32))) (lv' := [(4, .int (x4 + (-1 : Int32))), (0, .ref a_m), (1, .long p1)]) hx hb dX7_type_73 hl (k := 0) rfl rfl (by decide) rfl (fun ls hl => ?_)
        refine lv_goto (tgt := 37) hx hb dX7_type_76 (by decide) ?_
        exact ih37 (x4 + (-1 : Int32)) (x5 + (1 : Int32)) (upd x6 x5.toNatClampNeg (((p1 >>> (((8 : Int32) * x4).toInt64 &&& 63)) &&& (255 : Int64)).toInt32)) hf ls H locs (lv_sub hl [0, 1, 2] rfl) hw
    · have hf := if_f hf kc
      refine lv_bipush (v := (-3 : Int32)) hx hb dX7_type_29 rfl ?_
      obtain ⟨rfl, rfl, rfl, rfl⟩ := sm4 hf
      exact hret H locs ls 31 hw dX7_type_31
  · have hf := if_t hf kc
    refine lv_iconst (v := (-1 : Int32)) hx hb dX7_type_15 rfl ?_
    obtain ⟨rfl, rfl, rfl, rfl⟩ := sm4 hf
    exact hret H locs ls 16 hw dX7_type_16
def f_X7_clear  (m_typed : Int32) : Option (Int32 × Int32 × Int32) :=
  some (m_typed, (0 : Int32), (0 : Int32))
theorem hd_X7_clear : yX7_clear.cls = RX7 ∧ yX7_clear.cls ≠ "java/lang/invoke/MethodHandle" ∧ yX7_clear.cls ≠ "java/lang/invoke/VarHandle" ∧ (parseMethodDescriptor yX7_clear.desc).map (fun d => d.parameters.length) = some 0 := by decide +kernel
set_option maxHeartbeats 4000000 in
set_option maxRecDepth 100000 in
theorem c_X7_clear (l : Launch) (dC : Nat → ClassId) (dI : Nat → Nat → Nat) (cI cB cZ : ClassId) (aK aV : Nat → Nat) (a_m a_m_text a_m_lifts a_m_price a_m_stood a_m_hands a_m_wanted a_m_s a_m_kept a_m_isKept a_m_due a_m_cost a_m_then a_m_by : Nat) (sz : Nat) (m_thrown : Int32) (m_trace : Int64) (m_typed : Int32) (m_next : Int32) (m_token : Int32) (m_place : Int32) (m_value : Int32) (m_fault : Int32) (m_rooms : Int32) (m_people : Int32) (m_things : Int32) (m_draftRooms : Int32) (m_draftPeople : Int32) (m_draftThings : Int32) (m_dueMany : Int32) (r : Int32) (q0 : Int32) (q1 : Int32) (hf : f_X7_clear m_typed = some (r, q0, q1)) : Met l yX7_clear wsX7_clear ({ frames := 0, cells := 0, slots := 0, locals := 0 } : Jvm.Room) (va_Pc [.ref a_m] (preW (dC, dI) (tyL cI cB cZ) aK aV sz [(a_m, .inr (7, [.int m_thrown, .long m_trace, .ref a_m_text, .int m_typed, .int m_next, .int m_token, .int m_place, .int m_value, .int m_fault, .ref a_m_lifts, .ref a_m_price, .ref a_m_stood, .ref a_m_hands, .ref a_m_wanted, .int m_rooms, .int m_people, .int m_things, .int m_draftRooms, .int m_draftPeople, .int m_draftThings, .ref a_m_s, .ref a_m_kept, .ref a_m_isKept, .ref a_m_due, .int m_dueMany, .ref a_m_cost, .ref a_m_then, .ref a_m_by]))])) (va_Qi (fun v (_ : Unit) => v = r) (postW (dC, dI) (tyL cI cB cZ) (va_A [(a_m, .inr (7, [.int m_thrown, .long m_trace, .ref a_m_text, .int m_typed, .int m_next, .int m_token, .int m_place, .int m_value, .int m_fault, .ref a_m_lifts, .ref a_m_price, .ref a_m_stood, .ref a_m_hands, .ref a_m_wanted, .int m_rooms, .int m_people, .int m_things, .int m_draftRooms, .int m_draftPeople, .int m_draftThings, .ref a_m_s, .ref a_m_kept, .ref a_m_isKept, .ref a_m_due, .int m_dueMany, .ref a_m_cost, .ref a_m_then, .ref a_m_by]))] sz) [(a_m, .inr (7, [.int q0, .long m_trace, .ref a_m_text, .int q1, .int m_next, .int m_token, .int m_place, .int m_value, .int m_fault, .ref a_m_lifts, .ref a_m_price, .ref a_m_stood, .ref a_m_hands, .ref a_m_wanted, .int m_rooms, .int m_people, .int m_things, .int m_draftRooms, .int m_draftPeople, .int m_draftThings, .ref a_m_s, .ref a_m_kept, .ref a_m_isKept, .ref a_m_due, .int m_dueMany, .ref a_m_cost, .ref a_m_then, .ref a_m_by]))]) (va_A [(a_m, .inr (7, [.int m_thrown, .long m_trace, .ref a_m_text, .int m_typed, .int m_next, .int m_token, .int m_place, .int m_value, .int m_fault, .ref a_m_lifts, .ref a_m_price, .ref a_m_stood, .ref a_m_hands, .ref a_m_wanted, .int m_rooms, .int m_people, .int m_things, .int m_draftRooms, .int m_draftPeople, .int m_draftThings, .ref a_m_s, .ref a_m_kept, .ref a_m_isKept, .ref a_m_due, .int m_dueMany, .ref a_m_cost, .ref a_m_then, .ref a_m_by]))] sz)) 0 0 (va_A [(a_m, .inr (7, [.int m_thrown, .long m_trace, .ref a_m_text, .int m_typed, .int m_next, .int m_token, .int m_place, .int m_value, .int m_fault, .ref a_m_lifts, .ref a_m_price, .ref a_m_stood, .ref a_m_hands, .ref a_m_wanted, .int m_rooms, .int m_people, .int m_things, .int m_draftRooms, .int m_draftPeople, .int m_draftThings, .ref a_m_s, .ref a_m_kept, .ref a_m_isKept, .ref a_m_due, .int m_dueMany, .ref a_m_cost, .ref a_m_then, .ref a_m_by]))] sz) := by
  refine met_i (cc := cX7_clear) (maxL := 2) (own := RX7) (by decide) rfl (Nat.le_of_ble_eq_true rfl) rfl (fun p e s m args below meth c Q A E hret ls H locs hl hw => ?_)
  obtain ⟨⟨hx, hb, hml, hown, hts⟩, hK, hN, hA, hX⟩ := id E
  have hl : lv_has ls 2 [(0, .ref a_m)] := hl
  have iX7 : ∀ w ∈ wsX70, w ∈ wsX7_clear := by decide +kernel
  have kf57 := hts (.fieldLink RX7 57 "FiveThingsModel" "thrown" "I") (by decide +kernel)
  have kf64 := hts (.fieldLink RX7 64 "FiveThingsModel" "typed" "I") (by decide +kernel)
  unfold f_X7_clear at hf
  refine lv_aload_n hx hb dX7_clear_0 rfl (lv_at hl 0 rfl) ?_
  refine lv_iconst (v := (0 : Int32)) hx hb dX7_clear_1 rfl ?_
  refine r_put E hw iX7 tyX7_ok nmX7 0 0 rfl rfl (by decide) kf57 rfl rfl rfl rfl (Nat.le_of_ble_eq_true rfl) [(a_m, .inr (7, [.int (0 : Int32), .long m_trace, .ref a_m_text, .int m_typed, .int m_next, .int m_token, .int m_place, .int m_value, .int m_fault, .ref a_m_lifts, .ref a_m_price, .ref a_m_stood, .ref a_m_hands, .ref a_m_wanted, .int m_rooms, .int m_people, .int m_things, .int m_draftRooms, .int m_draftPeople, .int m_draftThings, .ref a_m_s, .ref a_m_kept, .ref a_m_isKept, .ref a_m_due, .int m_dueMany, .ref a_m_cost, .ref a_m_then, .ref a_m_by]))] rfl dX7_clear_2 (fun H locs hw => ?_)
  refine lv_aload_n hx hb dX7_clear_5 rfl (lv_at hl 0 rfl) ?_
  refine r_get E hw iX7 0 3 rfl rfl (by decide) kf64 rfl rfl dX7_clear_6 ?_
  refine lv_istore_n (lv' := [(1, .int m_typed), (0, .ref a_m)]) hx hb dX7_clear_9 rfl hl (by decide) rfl (fun ls hl => ?_)
  refine lv_aload_n hx hb dX7_clear_10 rfl (lv_at hl 1 rfl) ?_
  refine lv_iconst (v := (0 : Int32)) hx hb dX7_clear_11 rfl ?_
  refine r_put E hw iX7 tyX7_ok nmX7 0 3 rfl rfl (by decide) kf64 rfl rfl rfl rfl (Nat.le_of_ble_eq_true rfl) [(a_m, .inr (7, [.int (0 : Int32), .long m_trace, .ref a_m_text, .int (0 : Int32), .int m_next, .int m_token, .int m_place, .int m_value, .int m_fault, .ref a_m_lifts, .ref a_m_price, .ref a_m_stood, .ref a_m_hands, .ref a_m_wanted, .int m_rooms, .int m_people, .int m_things, .int m_draftRooms, .int m_draftPeople, .int m_draftThings, .ref a_m_s, .ref a_m_kept, .ref a_m_isKept, .ref a_m_due, .int m_dueMany, .ref a_m_cost, .ref a_m_then, .ref a_m_by]))] rfl dX7_clear_12 (fun H locs hw => ?_)
  refine lv_iload_n hx hb dX7_clear_15 rfl (lv_at hl 0 rfl) ?_
  obtain ⟨rfl, rfl, rfl⟩ := sm3 hf
  exact hret H locs ls 16 hw dX7_clear_16
def f_X7_byteAt (p1 : Int32) (m_typed : Int32) (m_text : Nat → Int32) : Option (Int32) :=
  (if m_typed ≤ p1 then some ((-1 : Int32)) else gd (inb p1 300) (some ((m_text p1.toNatClampNeg))))
theorem hd_X7_byteAt : yX7_byteAt.cls = RX7 ∧ yX7_byteAt.cls ≠ "java/lang/invoke/MethodHandle" ∧ yX7_byteAt.cls ≠ "java/lang/invoke/VarHandle" ∧ (parseMethodDescriptor yX7_byteAt.desc).map (fun d => d.parameters.length) = some 1 := by decide +kernel
set_option maxHeartbeats 4000000 in
set_option maxRecDepth 100000 in
theorem c_X7_byteAt (l : Launch) (dC : Nat → ClassId) (dI : Nat → Nat → Nat) (cI cB cZ : ClassId) (aK aV : Nat → Nat) (a_m a_m_text a_m_lifts a_m_price a_m_stood a_m_hands a_m_wanted a_m_s a_m_kept a_m_isKept a_m_due a_m_cost a_m_then a_m_by : Nat) (sz : Nat) (m_thrown : Int32) (m_trace : Int64) (m_typed : Int32) (m_next : Int32) (m_token : Int32) (m_place : Int32) (m_value : Int32) (m_fault : Int32) (m_rooms : Int32) (m_people : Int32) (m_things : Int32) (m_draftRooms : Int32) (m_draftPeople : Int32) (m_draftThings : Int32) (m_dueMany : Int32) (m_text : Nat → Int32) (p1 : Int32) (r : Int32) (hf : f_X7_byteAt p1 m_typed m_text = some r) : Met l yX7_byteAt wsX7_byteAt ({ frames := 0, cells := 0, slots := 0, locals := 0 } : Jvm.Room) (va_Pc [.ref a_m, .int p1] (preW (dC, dI) (tyL cI cB cZ) aK aV sz [(a_m, .inr (7, [.int m_thrown, .long m_trace, .ref a_m_text, .int m_typed, .int m_next, .int m_token, .int m_place, .int m_value, .int m_fault, .ref a_m_lifts, .ref a_m_price, .ref a_m_stood, .ref a_m_hands, .ref a_m_wanted, .int m_rooms, .int m_people, .int m_things, .int m_draftRooms, .int m_draftPeople, .int m_draftThings, .ref a_m_s, .ref a_m_kept, .ref a_m_isKept, .ref a_m_due, .int m_dueMany, .ref a_m_cost, .ref a_m_then, .ref a_m_by])), (a_m_text, .inl (cI, 300, .inl m_text))])) (va_Qi (fun v (_ : Unit) => v = r) (postW (dC, dI) (tyL cI cB cZ) (va_A [(a_m, .inr (7, [.int m_thrown, .long m_trace, .ref a_m_text, .int m_typed, .int m_next, .int m_token, .int m_place, .int m_value, .int m_fault, .ref a_m_lifts, .ref a_m_price, .ref a_m_stood, .ref a_m_hands, .ref a_m_wanted, .int m_rooms, .int m_people, .int m_things, .int m_draftRooms, .int m_draftPeople, .int m_draftThings, .ref a_m_s, .ref a_m_kept, .ref a_m_isKept, .ref a_m_due, .int m_dueMany, .ref a_m_cost, .ref a_m_then, .ref a_m_by])), (a_m_text, .inl (cI, 300, .inl m_text))] sz) [(a_m, .inr (7, [.int m_thrown, .long m_trace, .ref a_m_text, .int m_typed, .int m_next, .int m_token, .int m_place, .int m_value, .int m_fault, .ref a_m_lifts, .ref a_m_price, .ref a_m_stood, .ref a_m_hands, .ref a_m_wanted, .int m_rooms, .int m_people, .int m_things, .int m_draftRooms, .int m_draftPeople, .int m_draftThings, .ref a_m_s, .ref a_m_kept, .ref a_m_isKept, .ref a_m_due, .int m_dueMany, .ref a_m_cost, .ref a_m_then, .ref a_m_by])), (a_m_text, .inl (cI, 300, .inl m_text))]) (va_A [(a_m, .inr (7, [.int m_thrown, .long m_trace, .ref a_m_text, .int m_typed, .int m_next, .int m_token, .int m_place, .int m_value, .int m_fault, .ref a_m_lifts, .ref a_m_price, .ref a_m_stood, .ref a_m_hands, .ref a_m_wanted, .int m_rooms, .int m_people, .int m_things, .int m_draftRooms, .int m_draftPeople, .int m_draftThings, .ref a_m_s, .ref a_m_kept, .ref a_m_isKept, .ref a_m_due, .int m_dueMany, .ref a_m_cost, .ref a_m_then, .ref a_m_by])), (a_m_text, .inl (cI, 300, .inl m_text))] sz)) 0 0 (va_A [(a_m, .inr (7, [.int m_thrown, .long m_trace, .ref a_m_text, .int m_typed, .int m_next, .int m_token, .int m_place, .int m_value, .int m_fault, .ref a_m_lifts, .ref a_m_price, .ref a_m_stood, .ref a_m_hands, .ref a_m_wanted, .int m_rooms, .int m_people, .int m_things, .int m_draftRooms, .int m_draftPeople, .int m_draftThings, .ref a_m_s, .ref a_m_kept, .ref a_m_isKept, .ref a_m_due, .int m_dueMany, .ref a_m_cost, .ref a_m_then, .ref a_m_by])), (a_m_text, .inl (cI, 300, .inl m_text))] sz) := by
  refine met_i (cc := cX7_byteAt) (maxL := 2) (own := RX7) (by decide) rfl (Nat.le_of_ble_eq_true rfl) rfl (fun p e s m args below meth c Q A E hret ls H locs hl hw => ?_)
  obtain ⟨⟨hx, hb, hml, hown, hts⟩, hK, hN, hA, hX⟩ := id E
  have hl : lv_has ls 2 [(0, .ref a_m), (1, .int p1)] := hl
  have iX7 : ∀ w ∈ wsX70, w ∈ wsX7_byteAt := by decide +kernel
  have kf64 := hts (.fieldLink RX7 64 "FiveThingsModel" "typed" "I") (by decide +kernel)
  have kf7 := hts (.fieldLink RX7 7 "FiveThingsModel" "text" "[I") (by decide +kernel)
  unfold f_X7_byteAt at hf
  refine lv_iload_n hx hb dX7_byteAt_0 rfl (lv_at hl 1 rfl) ?_
  refine lv_aload_n hx hb dX7_byteAt_1 rfl (lv_at hl 0 rfl) ?_
  refine r_get E hw iX7 0 3 rfl rfl (by decide) kf64 rfl rfl dX7_byteAt_2 ?_
  refine lv_icmp_ge (tgt := 17) hx hb dX7_byteAt_5 (by decide) (fun kc => ?_) (fun kc => ?_)
  · have hf := if_t hf kc
    refine lv_iconst (v := (-1 : Int32)) hx hb dX7_byteAt_17 rfl ?_
    obtain rfl := sm1 hf
    exact hret H locs ls 18 hw dX7_byteAt_18
  · have hf := if_f hf kc
    refine lv_aload_n hx hb dX7_byteAt_8 rfl (lv_at hl 0 rfl) ?_
    refine r_get E hw iX7 0 2 rfl rfl (by decide) kf7 rfl rfl dX7_byteAt_9 ?_
    refine lv_iload_n hx hb dX7_byteAt_12 rfl (lv_at hl 1 rfl) ?_
    obtain ⟨g1, hf⟩ := gd_some hf
    refine r_iald E hw 1 rfl g1 dX7_byteAt_13 ?_
    refine lv_goto (tgt := 18) hx hb dX7_byteAt_14 (by decide) ?_
    obtain rfl := sm1 hf
    exact hret H locs ls 18 hw dX7_byteAt_18
def f_X7_add (p0 : Int64) (p2 : Int32) : Option (Int64) :=
  (if p2 = 0 then some (p0) else some ((((256 : Int64) * p0) + (p2.toInt64))))
theorem hd_X7_add : yX7_add.cls ≠ "java/lang/invoke/MethodHandle" ∧ yX7_add.cls ≠ "java/lang/invoke/VarHandle" ∧ (parseMethodDescriptor yX7_add.desc).map (fun d => d.parameters.length) = some 2 := by decide +kernel
set_option maxHeartbeats 4000000 in
set_option maxRecDepth 100000 in
theorem c_X7_add (l : Launch) (dC : Nat → ClassId) (dI : Nat → Nat → Nat) (cI cB cZ : ClassId) (aK aV : Nat → Nat) (sz : Nat) (p0 : Int64) (p2 : Int32) (r : Int64) (hf : f_X7_add p0 p2 = some r) : Met l yX7_add wsX7_add ({ frames := 0, cells := 0, slots := 0, locals := 0 } : Jvm.Room) (va_Pc [.long p0, .int p2] (preW (dC, dI) (tyL cI cB cZ) aK aV sz [])) (va_Ql (fun v (_ : Unit) => v = r) (postW (dC, dI) (tyL cI cB cZ) (va_A [] sz) []) (va_A [] sz)) 0 0 (va_A [] sz) := by
  refine met_l (cc := cX7_add) (maxL := 3) (own := RX7) (by decide) rfl (Nat.le_of_ble_eq_true rfl) rfl (fun p e s m args below meth c Q A E hret ls H locs hl hw => ?_)
  obtain ⟨⟨hx, hb, hml, hown, hts⟩, hK, hN, hA, hX⟩ := id E
  have hl : lv_has ls 3 [(0, .long p0), (2, .int p2)] := hl
  have kc69 := hts (.constantLong RX7 69 (256)) (by decide +kernel)
  unfold f_X7_add at hf
  refine lv_iload_n hx hb dX7_add_0 rfl (lv_at hl 1 rfl) ?_
  refine lv_if_ne (tgt := 8) hx hb dX7_add_1 (by decide) (fun kc => ?_) (fun kc => ?_)
  · have hf := if_f hf kc
    refine lv_ldc2 hx hb hown kc69 dX7_add_8 ?_
    refine lv_lload_n hx hb dX7_add_11 rfl (lv_at hl 0 rfl) ?_
    refine lv_lmul hx hb dX7_add_12 ?_
    refine lv_iload_n hx hb dX7_add_13 rfl (lv_at hl 1 rfl) ?_
    refine lv_i2l hx hb dX7_add_14 rfl ?_
    refine lv_ladd hx hb dX7_add_15 ?_
    obtain rfl := sm1 hf
    exact hret H locs ls 16 hw dX7_add_16
  · have hf := if_t hf kc
    refine lv_lload_n hx hb dX7_add_4 rfl (lv_at hl 0 rfl) ?_
    refine lv_goto (tgt := 16) hx hb dX7_add_5 (by decide) ?_
    obtain rfl := sm1 hf
    exact hret H locs ls 16 hw dX7_add_16
def f_X7_named (p0 : Int32) (p1 : Int32) (p2 : Int32) (p3 : Int32) (p4 : Int32) (p5 : Int32) : Option (Int64) :=
  bd1 (f_X7_add (0 : Int64) p0) (fun r1 => bd1 (f_X7_add r1 p1) (fun r3 => bd1 (f_X7_add r3 p2) (fun r5 => bd1 (f_X7_add r5 p3) (fun r7 => bd1 (f_X7_add r7 p4) (fun r9 => bd1 (f_X7_add r9 p5) (fun r11 => some (r11)))))))
theorem hd_X7_named : yX7_named.cls ≠ "java/lang/invoke/MethodHandle" ∧ yX7_named.cls ≠ "java/lang/invoke/VarHandle" ∧ (parseMethodDescriptor yX7_named.desc).map (fun d => d.parameters.length) = some 6 := by decide +kernel
set_option maxHeartbeats 4000000 in
set_option maxRecDepth 100000 in
theorem c_X7_named (l : Launch) (dC : Nat → ClassId) (dI : Nat → Nat → Nat) (cI cB cZ : ClassId) (aK aV : Nat → Nat) (sz : Nat) (p0 : Int32) (p1 : Int32) (p2 : Int32) (p3 : Int32) (p4 : Int32) (p5 : Int32) (r : Int64) (hf : f_X7_named p0 p1 p2 p3 p4 p5 = some r) : Met l yX7_named wsX7_named ({ frames := 1, cells := 0, slots := 0, locals := 22 } : Jvm.Room) (va_Pc [.int p0, .int p1, .int p2, .int p3, .int p4, .int p5] (preW (dC, dI) (tyL cI cB cZ) aK aV sz [])) (va_Ql (fun v (_ : Unit) => v = r) (postW (dC, dI) (tyL cI cB cZ) (va_A [] sz) []) (va_A [] sz)) 0 0 (va_A [] sz) := by
  refine met_l (cc := cX7_named) (maxL := 6) (own := RX7) (by decide) rfl (Nat.le_of_ble_eq_true rfl) rfl (fun p e s m args below meth c Q A E hret ls H locs hl hw => ?_)
  obtain ⟨⟨hx, hb, hml, hown, hts⟩, hK, hN, hA, hX⟩ := id E
  have hl : lv_has ls 6 [(0, .int p0), (1, .int p1), (2, .int p2), (3, .int p3), (4, .int p4), (5, .int p5)] := hl
  unfold f_X7_named at hf
  refine lv_lconst (v := (0 : Int64)) hx hb dX7_named_0 rfl ?_
  refine lv_iload_n hx hb dX7_named_1 rfl (lv_at hl 0 rfl) ?_
  obtain ⟨r1, hu2, hf⟩ := bd1_some hf
  refine cl_l (wr := []) (w2 := []) E hw [] [] [] (va_runS (As := [.long (0 : Int64), .int p0]) (rest := []) E.1 (c_X7_add l dC dI cI cB cZ aK aV H.size (0 : Int64) p0 r1 hu2) (va_cwS 2 hts gX7_named_X7_add rfl rfl rfl hd_X7_add ⟨Nat.le_of_ble_eq_true rfl, Nat.le_of_ble_eq_true rfl⟩) (pre_S E hw [] rfl rfl) rfl rfl hl.1 rfl (lv_room (Nat.le_of_ble_eq_true rfl)) dX7_named_2 ⟨Nat.zero_le _, Nat.zero_le _⟩) rfl rfl rfl (by decide) rfl rfl (fun H locs hw => ?_)
  refine lv_iload_n hx hb dX7_named_5 rfl (lv_at hl 1 rfl) ?_
  obtain ⟨r3, hu4, hf⟩ := bd1_some hf
  refine cl_l (wr := []) (w2 := []) E hw [] [] [] (va_runS (As := [.long r1, .int p1]) (rest := []) E.1 (c_X7_add l dC dI cI cB cZ aK aV H.size r1 p1 r3 hu4) (va_cwS 2 hts gX7_named_X7_add rfl rfl rfl hd_X7_add ⟨Nat.le_of_ble_eq_true rfl, Nat.le_of_ble_eq_true rfl⟩) (pre_S E hw [] rfl rfl) rfl rfl hl.1 rfl (lv_room (Nat.le_of_ble_eq_true rfl)) dX7_named_6 ⟨Nat.zero_le _, Nat.zero_le _⟩) rfl rfl rfl (by decide) rfl rfl (fun H locs hw => ?_)
  refine lv_iload_n hx hb dX7_named_9 rfl (lv_at hl 2 rfl) ?_
  obtain ⟨r5, hu6, hf⟩ := bd1_some hf
  refine cl_l (wr := []) (w2 := []) E hw [] [] [] (va_runS (As := [.long r3, .int p2]) (rest := []) E.1 (c_X7_add l dC dI cI cB cZ aK aV H.size r3 p2 r5 hu6) (va_cwS 2 hts gX7_named_X7_add rfl rfl rfl hd_X7_add ⟨Nat.le_of_ble_eq_true rfl, Nat.le_of_ble_eq_true rfl⟩) (pre_S E hw [] rfl rfl) rfl rfl hl.1 rfl (lv_room (Nat.le_of_ble_eq_true rfl)) dX7_named_10 ⟨Nat.zero_le _, Nat.zero_le _⟩) rfl rfl rfl (by decide) rfl rfl (fun H locs hw => ?_)
  refine lv_iload_n hx hb dX7_named_13 rfl (lv_at hl 3 rfl) ?_
  obtain ⟨r7, hu8, hf⟩ := bd1_some hf
  refine cl_l (wr := []) (w2 := []) E hw [] [] [] (va_runS (As := [.long r5, .int p3]) (rest := []) E.1 (c_X7_add l dC dI cI cB cZ aK aV H.size r5 p3 r7 hu8) (va_cwS 2 hts gX7_named_X7_add rfl rfl rfl hd_X7_add ⟨Nat.le_of_ble_eq_true rfl, Nat.le_of_ble_eq_true rfl⟩) (pre_S E hw [] rfl rfl) rfl rfl hl.1 rfl (lv_room (Nat.le_of_ble_eq_true rfl)) dX7_named_14 ⟨Nat.zero_le _, Nat.zero_le _⟩) rfl rfl rfl (by decide) rfl rfl (fun H locs hw => ?_)
  refine lv_iload hx hb dX7_named_17 (lv_at hl 4 rfl) ?_
  obtain ⟨r9, hu10, hf⟩ := bd1_some hf
  refine cl_l (wr := []) (w2 := []) E hw [] [] [] (va_runS (As := [.long r7, .int p4]) (rest := []) E.1 (c_X7_add l dC dI cI cB cZ aK aV H.size r7 p4 r9 hu10) (va_cwS 2 hts gX7_named_X7_add rfl rfl rfl hd_X7_add ⟨Nat.le_of_ble_eq_true rfl, Nat.le_of_ble_eq_true rfl⟩) (pre_S E hw [] rfl rfl) rfl rfl hl.1 rfl (lv_room (Nat.le_of_ble_eq_true rfl)) dX7_named_19 ⟨Nat.zero_le _, Nat.zero_le _⟩) rfl rfl rfl (by decide) rfl rfl (fun H locs hw => ?_)
  refine lv_iload hx hb dX7_named_22 (lv_at hl 5 rfl) ?_
  obtain ⟨r11, hu12, hf⟩ := bd1_some hf
  refine cl_l (wr := []) (w2 := []) E hw [] [] [] (va_runS (As := [.long r9, .int p5]) (rest := []) E.1 (c_X7_add l dC dI cI cB cZ aK aV H.size r9 p5 r11 hu12) (va_cwS 2 hts gX7_named_X7_add rfl rfl rfl hd_X7_add ⟨Nat.le_of_ble_eq_true rfl, Nat.le_of_ble_eq_true rfl⟩) (pre_S E hw [] rfl rfl) rfl rfl hl.1 rfl (lv_room (Nat.le_of_ble_eq_true rfl)) dX7_named_24 ⟨Nat.zero_le _, Nat.zero_le _⟩) rfl rfl rfl (by decide) rfl rfl (fun H locs hw => ?_)
  obtain rfl := sm1 hf
  exact hret H locs ls 27 hw dX7_named_27
def f_X7_wordOf (p0 : Int64) : Option (Int32) :=
  bd1 (f_X7_named (114 : Int32) (111 : Int32) (111 : Int32) (109 : Int32) (115 : Int32) (0 : Int32)) (fun r1 => jn (fun (x5 : Int32) => (if x5 = (-9 : Int32) then bd1 (f_X7_named (116 : Int32) (104 : Int32) (105 : Int32) (110 : Int32) (103 : Int32) (0 : Int32)) (fun r6 => (if (lg_cmp p0 r6) = 0 then some ((2 : Int32)) else bd1 (f_X7_named (116 : Int32) (97 : Int32) (115 : Int32) (107 : Int32) (0 : Int32) (0 : Int32)) (fun r8 => (if (lg_cmp p0 r8) = 0 then some ((3 : Int32)) else some ((-9 : Int32)))))) else some (x5))) (fun J49 => (if (lg_cmp p0 r1) = 0 then J49 (0 : Int32) else bd1 (f_X7_named (112 : Int32) (101 : Int32) (114 : Int32) (115 : Int32) (111 : Int32) (110 : Int32)) (fun r3 => (if (lg_cmp p0 r3) = 0 then J49 (1 : Int32) else J49 (-9 : Int32))))))
theorem hd_X7_wordOf : yX7_wordOf.cls ≠ "java/lang/invoke/MethodHandle" ∧ yX7_wordOf.cls ≠ "java/lang/invoke/VarHandle" ∧ (parseMethodDescriptor yX7_wordOf.desc).map (fun d => d.parameters.length) = some 1 := by decide +kernel
set_option maxHeartbeats 4000000 in
set_option maxRecDepth 100000 in
theorem c_X7_wordOf (l : Launch) (dC : Nat → ClassId) (dI : Nat → Nat → Nat) (cI cB cZ : ClassId) (aK aV : Nat → Nat) (sz : Nat) (p0 : Int64) (r : Int32) (hf : f_X7_wordOf p0 = some r) : Met l yX7_wordOf wsX7_wordOf ({ frames := 2, cells := 0, slots := 0, locals := 47 } : Jvm.Room) (va_Pc [.long p0] (preW (dC, dI) (tyL cI cB cZ) aK aV sz [])) (va_Qi (fun v (_ : Unit) => v = r) (postW (dC, dI) (tyL cI cB cZ) (va_A [] sz) []) (va_A [] sz)) 0 0 (va_A [] sz) := by
  refine met_i (cc := cX7_wordOf) (maxL := 3) (own := RX7) (by decide) rfl (Nat.le_of_ble_eq_true rfl) rfl (fun p e s m args below meth c Q A E hret ls H locs hl hw => ?_)
  obtain ⟨⟨hx, hb, hml, hown, hts⟩, hK, hN, hA, hX⟩ := id E
  have hl : lv_has ls 3 [(0, .long p0)] := hl
  unfold f_X7_wordOf at hf
  refine lv_lload_n hx hb dX7_wordOf_0 rfl (lv_at hl 0 rfl) ?_
  refine lv_bipush (v := (114 : Int32)) hx hb dX7_wordOf_1 rfl ?_
  refine lv_bipush (v := (111 : Int32)) hx hb dX7_wordOf_3 rfl ?_
  refine lv_bipush (v := (111 : Int32)) hx hb dX7_wordOf_5 rfl ?_
  refine lv_bipush (v := (109 : Int32)) hx hb dX7_wordOf_7 rfl ?_
  refine lv_bipush (v := (115 : Int32)) hx hb dX7_wordOf_9 rfl ?_
  refine lv_iconst (v := (0 : Int32)) hx hb dX7_wordOf_11 rfl ?_
  obtain ⟨r1, hu2, hf⟩ := bd1_some hf
  refine cl_l (wr := []) (w2 := []) E hw [] [] [] (va_runS (As := [.int (114 : Int32), .int (111 : Int32), .int (111 : Int32), .int (109 : Int32), .int (115 : Int32), .int (0 : Int32)]) (rest := [.long p0]) E.1 (c_X7_named l dC dI cI cB cZ aK aV H.size (114 : Int32) (111 : Int32) (111 : Int32) (109 : Int32) (115 : Int32) (0 : Int32) r1 hu2) (va_cwS 6 hts gX7_wordOf_X7_named rfl rfl rfl hd_X7_named ⟨Nat.le_of_ble_eq_true rfl, Nat.le_of_ble_eq_true rfl⟩) (pre_S E hw [] rfl rfl) rfl rfl hl.1 rfl (lv_room (Nat.le_of_ble_eq_true rfl)) dX7_wordOf_12 ⟨Nat.zero_le _, Nat.zero_le _⟩) rfl rfl rfl (by decide) rfl rfl (fun H locs hw => ?_)
  refine W.lcmp hx hb dX7_wordOf_15 ?_
  refine jn_sound (P := fun J => ∀ (x5 : Int32) (ls : Array Slot) (H : Heap) (locs : List Loc), J x5 = some r → lv_has ls 3 [(0, .long p0)] → Wd A s.heap (dC, dI) [] H locs → W p l e ({ frames := 2, cells := 0, slots := 0, locals := 47 } : Jvm.Room) s m args below meth c H locs 0 0 Q (F0 m 49 ls [.int x5])) hf ?_ ?_
  · intro x5 ls H locs hf hl hw
    refine lv_istore_n (lv' := [(2, .int x5), (0, .long p0)]) hx hb dX7_wordOf_49 rfl hl (by decide) rfl (fun ls hl => ?_)
    refine lv_iload_n hx hb dX7_wordOf_50 rfl (lv_at hl 0 rfl) ?_
    refine lv_bipush (v := (-9 : Int32)) hx hb dX7_wordOf_51 rfl ?_
    refine lv_icmp_eq (tgt := 60) hx hb dX7_wordOf_53 (by decide) (fun kc => ?_) (fun kc => ?_)
    · have hf := if_t hf kc
      refine lv_lload_n hx hb dX7_wordOf_60 rfl (lv_at hl 1 rfl) ?_
      refine lv_bipush (v := (116 : Int32)) hx hb dX7_wordOf_61 rfl ?_
      refine lv_bipush (v := (104 : Int32)) hx hb dX7_wordOf_63 rfl ?_
      refine lv_bipush (v := (105 : Int32)) hx hb dX7_wordOf_65 rfl ?_
      refine lv_bipush (v := (110 : Int32)) hx hb dX7_wordOf_67 rfl ?_
      refine lv_bipush (v := (103 : Int32)) hx hb dX7_wordOf_69 rfl ?_
      refine lv_iconst (v := (0 : Int32)) hx hb dX7_wordOf_71 rfl ?_
      obtain ⟨r6, hu7, hf⟩ := bd1_some hf
      refine cl_l (wr := []) (w2 := []) E hw [] [] [] (va_runS (As := [.int (116 : Int32), .int (104 : Int32), .int (105 : Int32), .int (110 : Int32), .int (103 : Int32), .int (0 : Int32)]) (rest := [.long p0]) E.1 (c_X7_named l dC dI cI cB cZ aK aV H.size (116 : Int32) (104 : Int32) (105 : Int32) (110 : Int32) (103 : Int32) (0 : Int32) r6 hu7) (va_cwS 6 hts gX7_wordOf_X7_named rfl rfl rfl hd_X7_named ⟨Nat.le_of_ble_eq_true rfl, Nat.le_of_ble_eq_true rfl⟩) (pre_S E hw [] rfl rfl) rfl rfl hl.1 rfl (lv_room (Nat.le_of_ble_eq_true rfl)) dX7_wordOf_72 ⟨Nat.zero_le _, Nat.zero_le _⟩) rfl rfl rfl (by decide) rfl rfl (fun H locs hw => ?_)
      refine W.lcmp hx hb dX7_wordOf_75 ?_
      refine lv_if_ne (tgt := 83) hx hb dX7_wordOf_76 (by decide) (fun kc => ?_) (fun kc => ?_)
      · have hf := if_f hf kc
        refine lv_lload_n hx hb dX7_wordOf_83 rfl (lv_at hl 1 rfl) ?_
        refine lv_bipush (v := (116 : Int32)) hx hb dX7_wordOf_84 rfl ?_
        refine lv_bipush (v := (97 : Int32)) hx hb dX7_wordOf_86 rfl ?_
        refine lv_bipush (v := (115 : Int32)) hx hb dX7_wordOf_88 rfl ?_
        refine lv_bipush (v := (107 : Int32)) hx hb dX7_wordOf_90 rfl ?_
        refine lv_iconst (v := (0 : Int32)) hx hb dX7_wordOf_92 rfl ?_
        refine lv_iconst (v := (0 : Int32)) hx hb dX7_wordOf_93 rfl ?_
        obtain ⟨r8, hu9, hf⟩ := bd1_some hf
        refine cl_l (wr := []) (w2 := []) E hw [] [] [] (va_runS (As := [.int (116 : Int32), .int (97 : Int32), .int (115 : Int32), .int (107 : Int32), .int (0 : Int32), .int (0 : Int32)]) (rest := [.long p0]) E.1 (c_X7_named l dC dI cI cB cZ aK aV H.size (116 : Int32) (97 : Int32) (115 : Int32) (107 : Int32) (0 : Int32) (0 : Int32) r8 hu9) (va_cwS 6 hts gX7_wordOf_X7_named rfl rfl rfl hd_X7_named ⟨Nat.le_of_ble_eq_true rfl, Nat.le_of_ble_eq_true rfl⟩) (pre_S E hw [] rfl rfl) rfl rfl hl.1 rfl (lv_room (Nat.le_of_ble_eq_true rfl)) dX7_wordOf_94 ⟨Nat.zero_le _, Nat.zero_le _⟩) rfl rfl rfl (by decide) rfl rfl (fun H locs hw => ?_)
        refine W.lcmp hx hb dX7_wordOf_97 ?_
        refine lv_if_ne (tgt := 105) hx hb dX7_wordOf_98 (by decide) (fun kc => ?_) (fun kc => ?_)
        · have hf := if_f hf kc
          refine lv_bipush (v := (-9 : Int32)) hx hb dX7_wordOf_105 rfl ?_
          obtain rfl := sm1 hf
          exact hret H locs ls 107 hw dX7_wordOf_107
        · have hf := if_t hf kc
          refine lv_iconst (v := (3 : Int32)) hx hb dX7_wordOf_101 rfl ?_
          refine lv_goto (tgt := 107) hx hb dX7_wordOf_102 (by decide) ?_
          obtain rfl := sm1 hf
          exact hret H locs ls 107 hw dX7_wordOf_107
      · have hf := if_t hf kc
        refine lv_iconst (v := (2 : Int32)) hx hb dX7_wordOf_79 rfl ?_
        refine lv_goto (tgt := 107) hx hb dX7_wordOf_80 (by decide) ?_
        obtain rfl := sm1 hf
        exact hret H locs ls 107 hw dX7_wordOf_107
    · have hf := if_f hf kc
      refine lv_iload_n hx hb dX7_wordOf_56 rfl (lv_at hl 0 rfl) ?_
      refine lv_goto (tgt := 107) hx hb dX7_wordOf_57 (by decide) ?_
      obtain rfl := sm1 hf
      exact hret H locs ls 107 hw dX7_wordOf_107
  · intro J49 hJ49 hf
    refine lv_if_ne (tgt := 23) hx hb dX7_wordOf_16 (by decide) (fun kc => ?_) (fun kc => ?_)
    · have hf := if_f hf kc
      refine lv_lload_n hx hb dX7_wordOf_23 rfl (lv_at hl 0 rfl) ?_
      refine lv_bipush (v := (112 : Int32)) hx hb dX7_wordOf_24 rfl ?_
      refine lv_bipush (v := (101 : Int32)) hx hb dX7_wordOf_26 rfl ?_
      refine lv_bipush (v := (114 : Int32)) hx hb dX7_wordOf_28 rfl ?_
      refine lv_bipush (v := (115 : Int32)) hx hb dX7_wordOf_30 rfl ?_
      refine lv_bipush (v := (111 : Int32)) hx hb dX7_wordOf_32 rfl ?_
      refine lv_bipush (v := (110 : Int32)) hx hb dX7_wordOf_34 rfl ?_
      obtain ⟨r3, hu4, hf⟩ := bd1_some hf
      refine cl_l (wr := []) (w2 := []) E hw [] [] [] (va_runS (As := [.int (112 : Int32), .int (101 : Int32), .int (114 : Int32), .int (115 : Int32), .int (111 : Int32), .int (110 : Int32)]) (rest := [.long p0]) E.1 (c_X7_named l dC dI cI cB cZ aK aV H.size (112 : Int32) (101 : Int32) (114 : Int32) (115 : Int32) (111 : Int32) (110 : Int32) r3 hu4) (va_cwS 6 hts gX7_wordOf_X7_named rfl rfl rfl hd_X7_named ⟨Nat.le_of_ble_eq_true rfl, Nat.le_of_ble_eq_true rfl⟩) (pre_S E hw [] rfl rfl) rfl rfl hl.1 rfl (lv_room (Nat.le_of_ble_eq_true rfl)) dX7_wordOf_36 ⟨Nat.zero_le _, Nat.zero_le _⟩) rfl rfl rfl (by decide) rfl rfl (fun H locs hw => ?_)
      refine W.lcmp hx hb dX7_wordOf_39 ?_
      refine lv_if_ne (tgt := 47) hx hb dX7_wordOf_40 (by decide) (fun kc => ?_) (fun kc => ?_)
      · have hf := if_f hf kc
        refine lv_bipush (v := (-9 : Int32)) hx hb dX7_wordOf_47 rfl ?_
        exact hJ49 (-9 : Int32) ls H locs hf hl hw
      · have hf := if_t hf kc
        refine lv_iconst (v := (1 : Int32)) hx hb dX7_wordOf_43 rfl ?_
        refine lv_goto (tgt := 49) hx hb dX7_wordOf_44 (by decide) ?_
        exact hJ49 (1 : Int32) ls H locs hf hl hw
    · have hf := if_t hf kc
      refine lv_iconst (v := (0 : Int32)) hx hb dX7_wordOf_19 rfl ?_
      refine lv_goto (tgt := 49) hx hb dX7_wordOf_20 (by decide) ?_
      exact hJ49 (0 : Int32) ls H locs hf hl hw
def f_X7_advances  (m_typed : Int32) (m_next : Int32) (m_value : Int32) (m_text : Nat → Int32) : Option (Int32 × Int32 × Int32 × Int32) :=
  loop1 (fun B0 (x54 : Int32) => bd1 (f_X7_byteAt x54 m_typed m_text) (fun r55 => (if r55 = (32 : Int32) then B0 (x54 + (1 : Int32)) else bd1 (f_X7_byteAt x54 m_typed m_text) (fun r57 => (if 0 ≤ r57 then bd1 (f_X7_in r57 (97 : Int32) (122 : Int32)) (fun r59 => (if r59 = 0 then bd1 (f_X7_in r57 (48 : Int32) (57 : Int32)) (fun r61 => (if r61 = 0 then jn (fun (x63 : Int32) => some ((x54 + (1 : Int32)), x63, x54, m_value)) (fun J307 => (if r57 = (59 : Int32) then J307 (3 : Int32) else J307 (4 : Int32))) else loop2 (fun B175 (x72 : Int32) (x73 : Int32) => bd1 (f_X7_byteAt x72 m_typed m_text) (fun r74 => bd1 (f_X7_in r74 (48 : Int32) (57 : Int32)) (fun r76 => (if r76 = 0 then jn (fun (x78 : Int32) => some (x72, x78, x54, x73)) (fun J279 => jn (J279 (4 : Int32)) (fun J274 => (if (99 : Int32) < x73 then J274 else jn (J279 (2 : Int32)) (fun J278 => (if r57 = (48 : Int32) then (if (x72 - x54) ≤ (1 : Int32) then J278 else J274) else J278))))) else jn (fun (x81 : Int32) => B175 (x72 + (1 : Int32)) x81) (fun J229 => (if x73 ≤ (99 : Int32) then bd1 (f_X7_byteAt x72 m_typed m_text) (fun r79 => J229 ((((10 : Int32) * x73) + r79) - (48 : Int32))) else J229 x73)))))) FU x54 (0 : Int32))) else loop2 (fun B68 (x94 : Int64) (x95 : Int32) => bd1 (f_X7_byteAt x95 m_typed m_text) (fun r96 => bd1 (f_X7_in r96 (97 : Int32) (122 : Int32)) (fun r98 => (if r98 = 0 then bd1 (f_X7_wordOf x94) (fun r100 => jn (fun (x102 : Int32) => some (x95, x102, x54, r100)) (fun J153 => (if r100 = (-9 : Int32) then J153 (4 : Int32) else J153 (1 : Int32)))) else jn (fun (x107 : Int64) => B68 x107 (x95 + (1 : Int32))) (fun J116 => (if (7 : Int32) ≤ (x95 - x54) then J116 x94 else bd1 (f_X7_byteAt x95 m_typed m_text) (fun r103 => bd1 (f_X7_add x94 r103) (fun r105 => J116 r105)))))))) FU (0 : Int64) x54)) else some (x54, (0 : Int32), x54, m_value)))))) FU m_next
theorem hd_X7_advances : yX7_advances.cls = RX7 ∧ yX7_advances.cls ≠ "java/lang/invoke/MethodHandle" ∧ yX7_advances.cls ≠ "java/lang/invoke/VarHandle" ∧ (parseMethodDescriptor yX7_advances.desc).map (fun d => d.parameters.length) = some 0 := by decide +kernel
set_option maxHeartbeats 4000000 in
set_option maxRecDepth 100000 in
theorem c_X7_advances (l : Launch) (dC : Nat → ClassId) (dI : Nat → Nat → Nat) (cI cB cZ : ClassId) (aK aV : Nat → Nat) (a_m a_m_text a_m_lifts a_m_price a_m_stood a_m_hands a_m_wanted a_m_s a_m_kept a_m_isKept a_m_due a_m_cost a_m_then a_m_by : Nat) (sz : Nat) (m_thrown : Int32) (m_trace : Int64) (m_typed : Int32) (m_next : Int32) (m_token : Int32) (m_place : Int32) (m_value : Int32) (m_fault : Int32) (m_rooms : Int32) (m_people : Int32) (m_things : Int32) (m_draftRooms : Int32) (m_draftPeople : Int32) (m_draftThings : Int32) (m_dueMany : Int32) (m_text : Nat → Int32) (q0 : Int32) (q1 : Int32) (q2 : Int32) (q3 : Int32) (hf : f_X7_advances m_typed m_next m_value m_text = some (q0, q1, q2, q3)) : Met l yX7_advances wsX7_advances ({ frames := 3, cells := 0, slots := 0, locals := 69 } : Jvm.Room) (va_Pc [.ref a_m] (preW (dC, dI) (tyL cI cB cZ) aK aV sz [(a_m, .inr (7, [.int m_thrown, .long m_trace, .ref a_m_text, .int m_typed, .int m_next, .int m_token, .int m_place, .int m_value, .int m_fault, .ref a_m_lifts, .ref a_m_price, .ref a_m_stood, .ref a_m_hands, .ref a_m_wanted, .int m_rooms, .int m_people, .int m_things, .int m_draftRooms, .int m_draftPeople, .int m_draftThings, .ref a_m_s, .ref a_m_kept, .ref a_m_isKept, .ref a_m_due, .int m_dueMany, .ref a_m_cost, .ref a_m_then, .ref a_m_by])), (a_m_text, .inl (cI, 300, .inl m_text))])) (va_Qv (fun (_ : Unit) => True) (postW (dC, dI) (tyL cI cB cZ) (va_A [(a_m, .inr (7, [.int m_thrown, .long m_trace, .ref a_m_text, .int m_typed, .int m_next, .int m_token, .int m_place, .int m_value, .int m_fault, .ref a_m_lifts, .ref a_m_price, .ref a_m_stood, .ref a_m_hands, .ref a_m_wanted, .int m_rooms, .int m_people, .int m_things, .int m_draftRooms, .int m_draftPeople, .int m_draftThings, .ref a_m_s, .ref a_m_kept, .ref a_m_isKept, .ref a_m_due, .int m_dueMany, .ref a_m_cost, .ref a_m_then, .ref a_m_by])), (a_m_text, .inl (cI, 300, .inl m_text))] sz) [(a_m, .inr (7, [.int m_thrown, .long m_trace, .ref a_m_text, .int m_typed, .int q0, .int q1, .int q2, .int q3, .int m_fault, .ref a_m_lifts, .ref a_m_price, .ref a_m_stood, .ref a_m_hands, .ref a_m_wanted, .int m_rooms, .int m_people, .int m_things, .int m_draftRooms, .int m_draftPeople, .int m_draftThings, .ref a_m_s, .ref a_m_kept, .ref a_m_isKept, .ref a_m_due, .int m_dueMany, .ref a_m_cost, .ref a_m_then, .ref a_m_by])), (a_m_text, .inl (cI, 300, .inl m_text))]) (va_A [(a_m, .inr (7, [.int m_thrown, .long m_trace, .ref a_m_text, .int m_typed, .int m_next, .int m_token, .int m_place, .int m_value, .int m_fault, .ref a_m_lifts, .ref a_m_price, .ref a_m_stood, .ref a_m_hands, .ref a_m_wanted, .int m_rooms, .int m_people, .int m_things, .int m_draftRooms, .int m_draftPeople, .int m_draftThings, .ref a_m_s, .ref a_m_kept, .ref a_m_isKept, .ref a_m_due, .int m_dueMany, .ref a_m_cost, .ref a_m_then, .ref a_m_by])), (a_m_text, .inl (cI, 300, .inl m_text))] sz)) 0 0 (va_A [(a_m, .inr (7, [.int m_thrown, .long m_trace, .ref a_m_text, .int m_typed, .int m_next, .int m_token, .int m_place, .int m_value, .int m_fault, .ref a_m_lifts, .ref a_m_price, .ref a_m_stood, .ref a_m_hands, .ref a_m_wanted, .int m_rooms, .int m_people, .int m_things, .int m_draftRooms, .int m_draftPeople, .int m_draftThings, .ref a_m_s, .ref a_m_kept, .ref a_m_isKept, .ref a_m_due, .int m_dueMany, .ref a_m_cost, .ref a_m_then, .ref a_m_by])), (a_m_text, .inl (cI, 300, .inl m_text))] sz) := by
  refine met_v (cc := cX7_advances) (maxL := 4) (own := RX7) (by decide) rfl (Nat.le_of_ble_eq_true rfl) rfl (fun p e s m args below meth c Q A E hret ls H locs hl hw => ?_)
  obtain ⟨⟨hx, hb, hml, hown, hts⟩, hK, hN, hA, hX⟩ := id E
  have hl : lv_has ls 4 [(0, .ref a_m)] := hl
  have iX7 : ∀ w ∈ wsX70, w ∈ wsX7_advances := by decide +kernel
  have kf79 := hts (.fieldLink RX7 79 "FiveThingsModel" "next" "I") (by decide +kernel)
  have kf86 := hts (.fieldLink RX7 86 "FiveThingsModel" "place" "I") (by decide +kernel)
  have kf89 := hts (.fieldLink RX7 89 "FiveThingsModel" "token" "I") (by decide +kernel)
  have kf96 := hts (.fieldLink RX7 96 "FiveThingsModel" "value" "I") (by decide +kernel)
  unfold f_X7_advances at hf
  refine (loop1_sound (r := (q0, q1, q2, q3)) (P := fun (x54 : Int32) => ∀ (ls : Array Slot) (H : Heap) (locs : List Loc), lv_has ls 4 [(0, .ref a_m)] → Wd A s.heap (dC, dI) [(a_m, .inr (7, [.int m_thrown, .long m_trace, .ref a_m_text, .int m_typed, .int x54, .int m_token, .int m_place, .int m_value, .int m_fault, .ref a_m_lifts, .ref a_m_price, .ref a_m_stood, .ref a_m_hands, .ref a_m_wanted, .int m_rooms, .int m_people, .int m_things, .int m_draftRooms, .int m_draftPeople, .int m_draftThings, .ref a_m_s, .ref a_m_kept, .ref a_m_isKept, .ref a_m_due, .int m_dueMany, .ref a_m_cost, .ref a_m_then, .ref a_m_by])), (a_m_text, .inl (cI, 300, .inl m_text))] H locs → W p l e ({ frames := 3, cells := 0, slots := 0, locals := 69 } : Jvm.Room) s m args below meth c H locs 0 0 Q (F0 m 0 ls [])) (fun B0 x54 ih0 hf => ?_) _ m_next hf) ls H locs hl hw
  intro ls H locs hl hw
  refine lv_aload_n hx hb dX7_advances_0 rfl (lv_at hl 0 rfl) ?_
  refine lv_aload_n hx hb dX7_advances_1 rfl (lv_at hl 0 rfl) ?_
  refine r_get E hw iX7 0 4 rfl rfl (by decide) kf79 rfl rfl dX7_advances_2 ?_
  obtain ⟨r55, hu56, hf⟩ := bd1_some hf
  refine cl_i (wr := []) (w2 := [(a_m, .inr (7, [.int m_thrown, .long m_trace, .ref a_m_text, .int m_typed, .int x54, .int m_token, .int m_place, .int m_value, .int m_fault, .ref a_m_lifts, .ref a_m_price, .ref a_m_stood, .ref a_m_hands, .ref a_m_wanted, .int m_rooms, .int m_people, .int m_things, .int m_draftRooms, .int m_draftPeople, .int m_draftThings, .ref a_m_s, .ref a_m_kept, .ref a_m_isKept, .ref a_m_due, .int m_dueMany, .ref a_m_cost, .ref a_m_then, .ref a_m_by])), (a_m_text, .inl (cI, 300, .inl m_text))]) E hw [0, 1] [] [0, 1] (va_runV (As := [.int x54]) (rest := []) E.1 (c_X7_byteAt l dC dI cI cB cZ aK aV a_m a_m_text a_m_lifts a_m_price a_m_stood a_m_hands a_m_wanted a_m_s a_m_kept a_m_isKept a_m_due a_m_cost a_m_then a_m_by H.size m_thrown m_trace m_typed x54 m_token m_place m_value m_fault m_rooms m_people m_things m_draftRooms m_draftPeople m_draftThings m_dueMany m_text x54 r55 hu56) (cwV 1 hts gX7_advances_X7_byteAt rfl rfl rfl hd_X7_byteAt ⟨Nat.le_of_ble_eq_true rfl, Nat.le_of_ble_eq_true rfl⟩) (pre_V E hw [0, 1] rfl rfl rfl rfl) rfl rfl hl.1 rfl (lv_room (Nat.le_of_ble_eq_true rfl)) dX7_advances_5 ⟨Nat.zero_le _, Nat.zero_le _⟩) rfl rfl rfl (by decide) rfl rfl (fun H locs hw => ?_)
  refine lv_bipush (v := (32 : Int32)) hx hb dX7_advances_8 rfl ?_
  refine lv_icmp_ne (tgt := 26) hx hb dX7_advances_10 (by decide) (fun kc => ?_) (fun kc => ?_)
  · have hf := if_f hf kc
    refine lv_aload_n hx hb dX7_advances_26 rfl (lv_at hl 0 rfl) ?_
    refine lv_aload_n hx hb dX7_advances_27 rfl (lv_at hl 0 rfl) ?_
    refine r_get E hw iX7 0 4 rfl rfl (by decide) kf79 rfl rfl dX7_advances_28 ?_
    refine r_put E hw iX7 tyX7_ok nmX7 0 6 rfl rfl (by decide) kf86 rfl rfl rfl rfl (Nat.le_of_ble_eq_true rfl) [(a_m, .inr (7, [.int m_thrown, .long m_trace, .ref a_m_text, .int m_typed, .int x54, .int m_token, .int x54, .int m_value, .int m_fault, .ref a_m_lifts, .ref a_m_price, .ref a_m_stood, .ref a_m_hands, .ref a_m_wanted, .int m_rooms, .int m_people, .int m_things, .int m_draftRooms, .int m_draftPeople, .int m_draftThings, .ref a_m_s, .ref a_m_kept, .ref a_m_isKept, .ref a_m_due, .int m_dueMany, .ref a_m_cost, .ref a_m_then, .ref a_m_by])), (a_m_text, .inl (cI, 300, .inl m_text))] rfl dX7_advances_31 (fun H locs hw => ?_)
    refine lv_aload_n hx hb dX7_advances_34 rfl (lv_at hl 0 rfl) ?_
    refine lv_aload_n hx hb dX7_advances_35 rfl (lv_at hl 0 rfl) ?_
    refine r_get E hw iX7 0 4 rfl rfl (by decide) kf79 rfl rfl dX7_advances_36 ?_
    obtain ⟨r57, hu58, hf⟩ := bd1_some hf
    refine cl_i (wr := []) (w2 := [(a_m, .inr (7, [.int m_thrown, .long m_trace, .ref a_m_text, .int m_typed, .int x54, .int m_token, .int x54, .int m_value, .int m_fault, .ref a_m_lifts, .ref a_m_price, .ref a_m_stood, .ref a_m_hands, .ref a_m_wanted, .int m_rooms, .int m_people, .int m_things, .int m_draftRooms, .int m_draftPeople, .int m_draftThings, .ref a_m_s, .ref a_m_kept, .ref a_m_isKept, .ref a_m_due, .int m_dueMany, .ref a_m_cost, .ref a_m_then, .ref a_m_by])), (a_m_text, .inl (cI, 300, .inl m_text))]) E hw [0, 1] [] [0, 1] (va_runV (As := [.int x54]) (rest := []) E.1 (c_X7_byteAt l dC dI cI cB cZ aK aV a_m a_m_text a_m_lifts a_m_price a_m_stood a_m_hands a_m_wanted a_m_s a_m_kept a_m_isKept a_m_due a_m_cost a_m_then a_m_by H.size m_thrown m_trace m_typed x54 m_token x54 m_value m_fault m_rooms m_people m_things m_draftRooms m_draftPeople m_draftThings m_dueMany m_text x54 r57 hu58) (cwV 1 hts gX7_advances_X7_byteAt rfl rfl rfl hd_X7_byteAt ⟨Nat.le_of_ble_eq_true rfl, Nat.le_of_ble_eq_true rfl⟩) (pre_V E hw [0, 1] rfl rfl rfl rfl) rfl rfl hl.1 rfl (lv_room (Nat.le_of_ble_eq_true rfl)) dX7_advances_39 ⟨Nat.zero_le _, Nat.zero_le _⟩) rfl rfl rfl (by decide) rfl rfl (fun H locs hw => ?_)
    refine lv_istore_n (lv' := [(1, .int r57), (0, .ref a_m)]) hx hb dX7_advances_42 rfl hl (by decide) rfl (fun ls hl => ?_)
    refine lv_iload_n hx hb dX7_advances_43 rfl (lv_at hl 0 rfl) ?_
    refine lv_if_ge (tgt := 55) hx hb dX7_advances_44 (by decide) (fun kc => ?_) (fun kc => ?_)
    · have hf := if_t hf kc
      refine lv_iload_n hx hb dX7_advances_55 rfl (lv_at hl 0 rfl) ?_
      refine lv_bipush (v := (97 : Int32)) hx hb dX7_advances_56 rfl ?_
      refine lv_bipush (v := (122 : Int32)) hx hb dX7_advances_58 rfl ?_
      obtain ⟨r59, hu60, hf⟩ := bd1_some hf
      refine cl_i (wr := [(a_m, .inr (7, [.int m_thrown, .long m_trace, .ref a_m_text, .int m_typed, .int x54, .int m_token, .int x54, .int m_value, .int m_fault, .ref a_m_lifts, .ref a_m_price, .ref a_m_stood, .ref a_m_hands, .ref a_m_wanted, .int m_rooms, .int m_people, .int m_things, .int m_draftRooms, .int m_draftPeople, .int m_draftThings, .ref a_m_s, .ref a_m_kept, .ref a_m_isKept, .ref a_m_due, .int m_dueMany, .ref a_m_cost, .ref a_m_then, .ref a_m_by])), (a_m_text, .inl (cI, 300, .inl m_text))]) (w2 := [(a_m, .inr (7, [.int m_thrown, .long m_trace, .ref a_m_text, .int m_typed, .int x54, .int m_token, .int x54, .int m_value, .int m_fault, .ref a_m_lifts, .ref a_m_price, .ref a_m_stood, .ref a_m_hands, .ref a_m_wanted, .int m_rooms, .int m_people, .int m_things, .int m_draftRooms, .int m_draftPeople, .int m_draftThings, .ref a_m_s, .ref a_m_kept, .ref a_m_isKept, .ref a_m_due, .int m_dueMany, .ref a_m_cost, .ref a_m_then, .ref a_m_by])), (a_m_text, .inl (cI, 300, .inl m_text))]) E hw [] [0, 1] [0, 1] (va_runS (As := [.int r57, .int (97 : Int32), .int (122 : Int32)]) (rest := []) E.1 (c_X7_in l dC dI cI cB cZ aK aV H.size r57 (97 : Int32) (122 : Int32) r59 hu60) (va_cwS 3 hts gX7_advances_X7_in rfl rfl rfl hd_X7_in ⟨Nat.le_of_ble_eq_true rfl, Nat.le_of_ble_eq_true rfl⟩) (pre_S E hw [] rfl rfl) rfl rfl hl.1 rfl (lv_room (Nat.le_of_ble_eq_true rfl)) dX7_advances_60 ⟨Nat.zero_le _, Nat.zero_le _⟩) rfl rfl rfl (by decide) rfl rfl (fun H locs hw => ?_)
      refine lv_if_eq (tgt := 159) hx hb dX7_advances_63 (by decide) (fun kc => ?_) (fun kc => ?_)
      · have hf := if_t hf kc
        refine lv_iload_n hx hb dX7_advances_159 rfl (lv_at hl 0 rfl) ?_
        refine lv_bipush (v := (48 : Int32)) hx hb dX7_advances_160 rfl ?_
        refine lv_bipush (v := (57 : Int32)) hx hb dX7_advances_162 rfl ?_
        obtain ⟨r61, hu62, hf⟩ := bd1_some hf
        refine cl_i (wr := [(a_m, .inr (7, [.int m_thrown, .long m_trace, .ref a_m_text, .int m_typed, .int x54, .int m_token, .int x54, .int m_value, .int m_fault, .ref a_m_lifts, .ref a_m_price, .ref a_m_stood, .ref a_m_hands, .ref a_m_wanted, .int m_rooms, .int m_people, .int m_things, .int m_draftRooms, .int m_draftPeople, .int m_draftThings, .ref a_m_s, .ref a_m_kept, .ref a_m_isKept, .ref a_m_due, .int m_dueMany, .ref a_m_cost, .ref a_m_then, .ref a_m_by])), (a_m_text, .inl (cI, 300, .inl m_text))]) (w2 := [(a_m, .inr (7, [.int m_thrown, .long m_trace, .ref a_m_text, .int m_typed, .int x54, .int m_token, .int x54, .int m_value, .int m_fault, .ref a_m_lifts, .ref a_m_price, .ref a_m_stood, .ref a_m_hands, .ref a_m_wanted, .int m_rooms, .int m_people, .int m_things, .int m_draftRooms, .int m_draftPeople, .int m_draftThings, .ref a_m_s, .ref a_m_kept, .ref a_m_isKept, .ref a_m_due, .int m_dueMany, .ref a_m_cost, .ref a_m_then, .ref a_m_by])), (a_m_text, .inl (cI, 300, .inl m_text))]) E hw [] [0, 1] [0, 1] (va_runS (As := [.int r57, .int (48 : Int32), .int (57 : Int32)]) (rest := []) E.1 (c_X7_in l dC dI cI cB cZ aK aV H.size r57 (48 : Int32) (57 : Int32) r61 hu62) (va_cwS 3 hts gX7_advances_X7_in rfl rfl rfl hd_X7_in ⟨Nat.le_of_ble_eq_true rfl, Nat.le_of_ble_eq_true rfl⟩) (pre_S E hw [] rfl rfl) rfl rfl hl.1 rfl (lv_room (Nat.le_of_ble_eq_true rfl)) dX7_advances_164 ⟨Nat.zero_le _, Nat.zero_le _⟩) rfl rfl rfl (by decide) rfl rfl (fun H locs hw => ?_)
        refine lv_if_eq (tgt := 285) hx hb dX7_advances_167 (by decide) (fun kc => ?_) (fun kc => ?_)
        · have hf := if_t hf kc
          refine lv_aload_n hx hb dX7_advances_285 rfl (lv_at hl 1 rfl) ?_
          refine lv_dup hx hb dX7_advances_286 rfl ?_
          refine r_get E hw iX7 0 4 rfl rfl (by decide) kf79 rfl rfl dX7_advances_287 ?_
          refine lv_iconst (v := (1 : Int32)) hx hb dX7_advances_290 rfl ?_
          refine lv_iadd hx hb dX7_advances_291 ?_
          refine r_put E hw iX7 tyX7_ok nmX7 0 4 rfl rfl (by decide) kf79 rfl rfl rfl rfl (Nat.le_of_ble_eq_true rfl) [(a_m, .inr (7, [.int m_thrown, .long m_trace, .ref a_m_text, .int m_typed, .int (x54 + (1 : Int32)), .int m_token, .int x54, .int m_value, .int m_fault, .ref a_m_lifts, .ref a_m_price, .ref a_m_stood, .ref a_m_hands, .ref a_m_wanted, .int m_rooms, .int m_people, .int m_things, .int m_draftRooms, .int m_draftPeople, .int m_draftThings, .ref a_m_s, .ref a_m_kept, .ref a_m_isKept, .ref a_m_due, .int m_dueMany, .ref a_m_cost, .ref a_m_then, .ref a_m_by])), (a_m_text, .inl (cI, 300, .inl m_text))] rfl dX7_advances_292 (fun H locs hw => ?_)
          refine lv_aload_n hx hb dX7_advances_295 rfl (lv_at hl 1 rfl) ?_
          refine lv_iload_n hx hb dX7_advances_296 rfl (lv_at hl 0 rfl) ?_
          refine lv_bipush (v := (59 : Int32)) hx hb dX7_advances_297 rfl ?_
          refine jn_sound (P := fun J => ∀ (x63 : Int32) (ls : Array Slot) (H : Heap) (locs : List Loc), J x63 = some (q0, q1, q2, q3) → lv_has ls 4 [] → Wd A s.heap (dC, dI) [(a_m, .inr (7, [.int m_thrown, .long m_trace, .ref a_m_text, .int m_typed, .int (x54 + (1 : Int32)), .int m_token, .int x54, .int m_value, .int m_fault, .ref a_m_lifts, .ref a_m_price, .ref a_m_stood, .ref a_m_hands, .ref a_m_wanted, .int m_rooms, .int m_people, .int m_things, .int m_draftRooms, .int m_draftPeople, .int m_draftThings, .ref a_m_s, .ref a_m_kept, .ref a_m_isKept, .ref a_m_due, .int m_dueMany, .ref a_m_cost, .ref a_m_then, .ref a_m_by])), (a_m_text, .inl (cI, 300, .inl m_text))] H locs → W p l e ({ frames := 3, cells := 0, slots := 0, locals := 69 } : Jvm.Room) s m args below meth c H locs 0 0 Q (F0 m 307 ls [.int x63, .ref a_m])) hf ?_ ?_
          · intro x63 ls H locs hf hl hw
            refine r_put E hw iX7 tyX7_ok nmX7 0 5 rfl rfl (by decide) kf89 rfl rfl rfl rfl (Nat.le_of_ble_eq_true rfl) [(a_m, .inr (7, [.int m_thrown, .long m_trace, .ref a_m_text, .int m_typed, .int (x54 + (1 : Int32)), .int x63, .int x54, .int m_value, .int m_fault, .ref a_m_lifts, .ref a_m_price, .ref a_m_stood, .ref a_m_hands, .ref a_m_wanted, .int m_rooms, .int m_people, .int m_things, .int m_draftRooms, .int m_draftPeople, .int m_draftThings, .ref a_m_s, .ref a_m_kept, .ref a_m_isKept, .ref a_m_due, .int m_dueMany, .ref a_m_cost, .ref a_m_then, .ref a_m_by])), (a_m_text, .inl (cI, 300, .inl m_text))] rfl dX7_advances_307 (fun H locs hw => ?_)
            obtain ⟨rfl, rfl, rfl, rfl⟩ := sm4 hf
            exact hret H locs ls 310 hw dX7_advances_310
          · intro J307 hJ307 hf
            refine lv_icmp_ne (tgt := 306) hx hb dX7_advances_299 (by decide) (fun kc => ?_) (fun kc => ?_)
            · have hf := if_f hf kc
              refine lv_iconst (v := (4 : Int32)) hx hb dX7_advances_306 rfl ?_
              exact hJ307 (4 : Int32) ls H locs hf (lv_sub hl [] rfl) hw
            · have hf := if_t hf kc
              refine lv_iconst (v := (3 : Int32)) hx hb dX7_advances_302 rfl ?_
              refine lv_goto (tgt := 307) hx hb dX7_advances_303 (by decide) ?_
              exact hJ307 (3 : Int32) ls H locs hf (lv_sub hl [] rfl) hw
        · have hf := if_f hf kc
          refine lv_aload_n hx hb dX7_advances_170 rfl (lv_at hl 1 rfl) ?_
          refine lv_iconst (v := (0 : Int32)) hx hb dX7_advances_171 rfl ?_
          refine r_put E hw iX7 tyX7_ok nmX7 0 7 rfl rfl (by decide) kf96 rfl rfl rfl rfl (Nat.le_of_ble_eq_true rfl) [(a_m, .inr (7, [.int m_thrown, .long m_trace, .ref a_m_text, .int m_typed, .int x54, .int m_token, .int x54, .int (0 : Int32), .int m_fault, .ref a_m_lifts, .ref a_m_price, .ref a_m_stood, .ref a_m_hands, .ref a_m_wanted, .int m_rooms, .int m_people, .int m_things, .int m_draftRooms, .int m_draftPeople, .int m_draftThings, .ref a_m_s, .ref a_m_kept, .ref a_m_isKept, .ref a_m_due, .int m_dueMany, .ref a_m_cost, .ref a_m_then, .ref a_m_by])), (a_m_text, .inl (cI, 300, .inl m_text))] rfl dX7_advances_172 (fun H locs hw => ?_)
          refine (loop2_sound (r := (q0, q1, q2, q3)) (P := fun (x72 : Int32) (x73 : Int32) => ∀ (ls : Array Slot) (H : Heap) (locs : List Loc), lv_has ls 4 [(1, .int r57), (0, .ref a_m)] → Wd A s.heap (dC, dI) [(a_m, .inr (7, [.int m_thrown, .long m_trace, .ref a_m_text, .int m_typed, .int x72, .int m_token, .int x54, .int x73, .int m_fault, .ref a_m_lifts, .ref a_m_price, .ref a_m_stood, .ref a_m_hands, .ref a_m_wanted, .int m_rooms, .int m_people, .int m_things, .int m_draftRooms, .int m_draftPeople, .int m_draftThings, .ref a_m_s, .ref a_m_kept, .ref a_m_isKept, .ref a_m_due, .int m_dueMany, .ref a_m_cost, .ref a_m_then, .ref a_m_by])), (a_m_text, .inl (cI, 300, .inl m_text))] H locs → W p l e ({ frames := 3, cells := 0, slots := 0, locals := 69 } : Jvm.Room) s m args below meth c H locs 0 0 Q (F0 m 175 ls [])) (fun B175 x72 x73 ih175 hf => ?_) _ x54 (0 : Int32) hf) ls H locs hl hw
          intro ls H locs hl hw
          refine lv_aload_n hx hb dX7_advances_175 rfl (lv_at hl 1 rfl) ?_
          refine lv_aload_n hx hb dX7_advances_176 rfl (lv_at hl 1 rfl) ?_
          refine r_get E hw iX7 0 4 rfl rfl (by decide) kf79 rfl rfl dX7_advances_177 ?_
          obtain ⟨r74, hu75, hf⟩ := bd1_some hf
          refine cl_i (wr := []) (w2 := [(a_m, .inr (7, [.int m_thrown, .long m_trace, .ref a_m_text, .int m_typed, .int x72, .int m_token, .int x54, .int x73, .int m_fault, .ref a_m_lifts, .ref a_m_price, .ref a_m_stood, .ref a_m_hands, .ref a_m_wanted, .int m_rooms, .int m_people, .int m_things, .int m_draftRooms, .int m_draftPeople, .int m_draftThings, .ref a_m_s, .ref a_m_kept, .ref a_m_isKept, .ref a_m_due, .int m_dueMany, .ref a_m_cost, .ref a_m_then, .ref a_m_by])), (a_m_text, .inl (cI, 300, .inl m_text))]) E hw [0, 1] [] [0, 1] (va_runV (As := [.int x72]) (rest := []) E.1 (c_X7_byteAt l dC dI cI cB cZ aK aV a_m a_m_text a_m_lifts a_m_price a_m_stood a_m_hands a_m_wanted a_m_s a_m_kept a_m_isKept a_m_due a_m_cost a_m_then a_m_by H.size m_thrown m_trace m_typed x72 m_token x54 x73 m_fault m_rooms m_people m_things m_draftRooms m_draftPeople m_draftThings m_dueMany m_text x72 r74 hu75) (cwV 1 hts gX7_advances_X7_byteAt rfl rfl rfl hd_X7_byteAt ⟨Nat.le_of_ble_eq_true rfl, Nat.le_of_ble_eq_true rfl⟩) (pre_V E hw [0, 1] rfl rfl rfl rfl) rfl rfl hl.1 rfl (lv_room (Nat.le_of_ble_eq_true rfl)) dX7_advances_180 ⟨Nat.zero_le _, Nat.zero_le _⟩) rfl rfl rfl (by decide) rfl rfl (fun H locs hw => ?_)
          refine lv_bipush (v := (48 : Int32)) hx hb dX7_advances_183 rfl ?_
          refine lv_bipush (v := (57 : Int32)) hx hb dX7_advances_185 rfl ?_
          obtain ⟨r76, hu77, hf⟩ := bd1_some hf
          refine cl_i (wr := [(a_m, .inr (7, [.int m_thrown, .long m_trace, .ref a_m_text, .int m_typed, .int x72, .int m_token, .int x54, .int x73, .int m_fault, .ref a_m_lifts, .ref a_m_price, .ref a_m_stood, .ref a_m_hands, .ref a_m_wanted, .int m_rooms, .int m_people, .int m_things, .int m_draftRooms, .int m_draftPeople, .int m_draftThings, .ref a_m_s, .ref a_m_kept, .ref a_m_isKept, .ref a_m_due, .int m_dueMany, .ref a_m_cost, .ref a_m_then, .ref a_m_by])), (a_m_text, .inl (cI, 300, .inl m_text))]) (w2 := [(a_m, .inr (7, [.int m_thrown, .long m_trace, .ref a_m_text, .int m_typed, .int x72, .int m_token, .int x54, .int x73, .int m_fault, .ref a_m_lifts, .ref a_m_price, .ref a_m_stood, .ref a_m_hands, .ref a_m_wanted, .int m_rooms, .int m_people, .int m_things, .int m_draftRooms, .int m_draftPeople, .int m_draftThings, .ref a_m_s, .ref a_m_kept, .ref a_m_isKept, .ref a_m_due, .int m_dueMany, .ref a_m_cost, .ref a_m_then, .ref a_m_by])), (a_m_text, .inl (cI, 300, .inl m_text))]) E hw [] [0, 1] [0, 1] (va_runS (As := [.int r74, .int (48 : Int32), .int (57 : Int32)]) (rest := []) E.1 (c_X7_in l dC dI cI cB cZ aK aV H.size r74 (48 : Int32) (57 : Int32) r76 hu77) (va_cwS 3 hts gX7_advances_X7_in rfl rfl rfl hd_X7_in ⟨Nat.le_of_ble_eq_true rfl, Nat.le_of_ble_eq_true rfl⟩) (pre_S E hw [] rfl rfl) rfl rfl hl.1 rfl (lv_room (Nat.le_of_ble_eq_true rfl)) dX7_advances_187 ⟨Nat.zero_le _, Nat.zero_le _⟩) rfl rfl rfl (by decide) rfl rfl (fun H locs hw => ?_)
          refine lv_if_eq (tgt := 245) hx hb dX7_advances_190 (by decide) (fun kc => ?_) (fun kc => ?_)
          · have hf := if_t hf kc
            refine lv_aload_n hx hb dX7_advances_245 rfl (lv_at hl 1 rfl) ?_
            refine lv_aload_n hx hb dX7_advances_246 rfl (lv_at hl 1 rfl) ?_
            refine r_get E hw iX7 0 7 rfl rfl (by decide) kf96 rfl rfl dX7_advances_247 ?_
            refine lv_bipush (v := (99 : Int32)) hx hb dX7_advances_250 rfl ?_
            refine jn_sound (P := fun J => ∀ (x78 : Int32) (ls : Array Slot) (H : Heap) (locs : List Loc), J x78 = some (q0, q1, q2, q3) → lv_has ls 4 [] → Wd A s.heap (dC, dI) [(a_m, .inr (7, [.int m_thrown, .long m_trace, .ref a_m_text, .int m_typed, .int x72, .int m_token, .int x54, .int x73, .int m_fault, .ref a_m_lifts, .ref a_m_price, .ref a_m_stood, .ref a_m_hands, .ref a_m_wanted, .int m_rooms, .int m_people, .int m_things, .int m_draftRooms, .int m_draftPeople, .int m_draftThings, .ref a_m_s, .ref a_m_kept, .ref a_m_isKept, .ref a_m_due, .int m_dueMany, .ref a_m_cost, .ref a_m_then, .ref a_m_by])), (a_m_text, .inl (cI, 300, .inl m_text))] H locs → W p l e ({ frames := 3, cells := 0, slots := 0, locals := 69 } : Jvm.Room) s m args below meth c H locs 0 0 Q (F0 m 279 ls [.int x78, .ref a_m])) hf ?_ ?_
            · intro x78 ls H locs hf hl hw
              refine r_put E hw iX7 tyX7_ok nmX7 0 5 rfl rfl (by decide) kf89 rfl rfl rfl rfl (Nat.le_of_ble_eq_true rfl) [(a_m, .inr (7, [.int m_thrown, .long m_trace, .ref a_m_text, .int m_typed, .int x72, .int x78, .int x54, .int x73, .int m_fault, .ref a_m_lifts, .ref a_m_price, .ref a_m_stood, .ref a_m_hands, .ref a_m_wanted, .int m_rooms, .int m_people, .int m_things, .int m_draftRooms, .int m_draftPeople, .int m_draftThings, .ref a_m_s, .ref a_m_kept, .ref a_m_isKept, .ref a_m_due, .int m_dueMany, .ref a_m_cost, .ref a_m_then, .ref a_m_by])), (a_m_text, .inl (cI, 300, .inl m_text))] rfl dX7_advances_279 (fun H locs hw => ?_)
              refine lv_goto (tgt := 310) hx hb dX7_advances_282 (by decide) ?_
              obtain ⟨rfl, rfl, rfl, rfl⟩ := sm4 hf
              exact hret H locs ls 310 hw dX7_advances_310
            · intro J279 hJ279 hf
              refine jn_sound (P := fun J => ∀ (ls : Array Slot) (H : Heap) (locs : List Loc), J = some (q0, q1, q2, q3) → lv_has ls 4 [] → Wd A s.heap (dC, dI) [(a_m, .inr (7, [.int m_thrown, .long m_trace, .ref a_m_text, .int m_typed, .int x72, .int m_token, .int x54, .int x73, .int m_fault, .ref a_m_lifts, .ref a_m_price, .ref a_m_stood, .ref a_m_hands, .ref a_m_wanted, .int m_rooms, .int m_people, .int m_things, .int m_draftRooms, .int m_draftPeople, .int m_draftThings, .ref a_m_s, .ref a_m_kept, .ref a_m_isKept, .ref a_m_due, .int m_dueMany, .ref a_m_cost, .ref a_m_then, .ref a_m_by])), (a_m_text, .inl (cI, 300, .inl m_text))] H locs → W p l e ({ frames := 3, cells := 0, slots := 0, locals := 69 } : Jvm.Room) s m args below meth c H locs 0 0 Q (F0 m 274 ls [.ref a_m])) hf ?_ ?_
              · intro ls H locs hf hl hw
                refine lv_iconst (v := (4 : Int32)) hx hb dX7_advances_274 rfl ?_
                refine lv_goto (tgt := 279) hx hb dX7_advances_275 (by decide) ?_
                exact hJ279 (4 : Int32) ls H locs hf hl hw
              · intro J274 hJ274 hf
                refine lv_icmp_gt (tgt := 274) hx hb dX7_advances_252 (by decide) (fun kc => ?_) (fun kc => ?_)
                · have hf := if_t hf kc
                  exact hJ274 ls H locs hf (lv_sub hl [] rfl) hw
                · have hf := if_f hf kc
                  refine lv_iload_n hx hb dX7_advances_255 rfl (lv_at hl 0 rfl) ?_
                  refine lv_bipush (v := (48 : Int32)) hx hb dX7_advances_256 rfl ?_
                  refine jn_sound (P := fun J => ∀ (ls : Array Slot) (H : Heap) (locs : List Loc), J = some (q0, q1, q2, q3) → lv_has ls 4 [] → Wd A s.heap (dC, dI) [(a_m, .inr (7, [.int m_thrown, .long m_trace, .ref a_m_text, .int m_typed, .int x72, .int m_token, .int x54, .int x73, .int m_fault, .ref a_m_lifts, .ref a_m_price, .ref a_m_stood, .ref a_m_hands, .ref a_m_wanted, .int m_rooms, .int m_people, .int m_things, .int m_draftRooms, .int m_draftPeople, .int m_draftThings, .ref a_m_s, .ref a_m_kept, .ref a_m_isKept, .ref a_m_due, .int m_dueMany, .ref a_m_cost, .ref a_m_then, .ref a_m_by])), (a_m_text, .inl (cI, 300, .inl m_text))] H locs → W p l e ({ frames := 3, cells := 0, slots := 0, locals := 69 } : Jvm.Room) s m args below meth c H locs 0 0 Q (F0 m 278 ls [.ref a_m])) hf ?_ ?_
                  · intro ls H locs hf hl hw
                    refine lv_iconst (v := (2 : Int32)) hx hb dX7_advances_278 rfl ?_
                    exact hJ279 (2 : Int32) ls H locs hf hl hw
                  · intro J278 hJ278 hf
                    refine lv_icmp_ne (tgt := 278) hx hb dX7_advances_258 (by decide) (fun kc => ?_) (fun kc => ?_)
                    · have hf := if_f hf kc
                      exact hJ278 ls H locs hf (lv_sub hl [] rfl) hw
                    · have hf := if_t hf kc
                      refine lv_aload_n hx hb dX7_advances_261 rfl (lv_at hl 1 rfl) ?_
                      refine r_get E hw iX7 0 4 rfl rfl (by decide) kf79 rfl rfl dX7_advances_262 ?_
                      refine lv_aload_n hx hb dX7_advances_265 rfl (lv_at hl 1 rfl) ?_
                      refine r_get E hw iX7 0 6 rfl rfl (by decide) kf86 rfl rfl dX7_advances_266 ?_
                      refine lv_isub hx hb dX7_advances_269 ?_
                      refine lv_iconst (v := (1 : Int32)) hx hb dX7_advances_270 rfl ?_
                      refine lv_icmp_le (tgt := 278) hx hb dX7_advances_271 (by decide) (fun kc => ?_) (fun kc => ?_)
                      · have hf := if_t hf kc
                        exact hJ278 ls H locs hf (lv_sub hl [] rfl) hw
                      · have hf := if_f hf kc
                        exact hJ274 ls H locs hf (lv_sub hl [] rfl) hw
          · have hf := if_f hf kc
            refine lv_aload_n hx hb dX7_advances_193 rfl (lv_at hl 1 rfl) ?_
            refine lv_aload_n hx hb dX7_advances_194 rfl (lv_at hl 1 rfl) ?_
            refine r_get E hw iX7 0 7 rfl rfl (by decide) kf96 rfl rfl dX7_advances_195 ?_
            refine lv_bipush (v := (99 : Int32)) hx hb dX7_advances_198 rfl ?_
            refine jn_sound (P := fun J => ∀ (x81 : Int32) (ls : Array Slot) (H : Heap) (locs : List Loc), J x81 = some (q0, q1, q2, q3) → lv_has ls 4 [(0, .ref a_m), (1, .int r57)] → Wd A s.heap (dC, dI) [(a_m, .inr (7, [.int m_thrown, .long m_trace, .ref a_m_text, .int m_typed, .int x72, .int m_token, .int x54, .int x73, .int m_fault, .ref a_m_lifts, .ref a_m_price, .ref a_m_stood, .ref a_m_hands, .ref a_m_wanted, .int m_rooms, .int m_people, .int m_things, .int m_draftRooms, .int m_draftPeople, .int m_draftThings, .ref a_m_s, .ref a_m_kept, .ref a_m_isKept, .ref a_m_due, .int m_dueMany, .ref a_m_cost, .ref a_m_then, .ref a_m_by])), (a_m_text, .inl (cI, 300, .inl m_text))] H locs → W p l e ({ frames := 3, cells := 0, slots := 0, locals := 69 } : Jvm.Room) s m args below meth c H locs 0 0 Q (F0 m 229 ls [.int x81, .ref a_m])) hf ?_ ?_
            · intro x81 ls H locs hf hl hw
              refine r_put E hw iX7 tyX7_ok nmX7 0 7 rfl rfl (by decide) kf96 rfl rfl rfl rfl (Nat.le_of_ble_eq_true rfl) [(a_m, .inr (7, [.int m_thrown, .long m_trace, .ref a_m_text, .int m_typed, .int x72, .int m_token, .int x54, .int x81, .int m_fault, .ref a_m_lifts, .ref a_m_price, .ref a_m_stood, .ref a_m_hands, .ref a_m_wanted, .int m_rooms, .int m_people, .int m_things, .int m_draftRooms, .int m_draftPeople, .int m_draftThings, .ref a_m_s, .ref a_m_kept, .ref a_m_isKept, .ref a_m_due, .int m_dueMany, .ref a_m_cost, .ref a_m_then, .ref a_m_by])), (a_m_text, .inl (cI, 300, .inl m_text))] rfl dX7_advances_229 (fun H locs hw => ?_)
              refine lv_aload_n hx hb dX7_advances_232 rfl (lv_at hl 0 rfl) ?_
              refine lv_dup hx hb dX7_advances_233 rfl ?_
              refine r_get E hw iX7 0 4 rfl rfl (by decide) kf79 rfl rfl dX7_advances_234 ?_
              refine lv_iconst (v := (1 : Int32)) hx hb dX7_advances_237 rfl ?_
              refine lv_iadd hx hb dX7_advances_238 ?_
              refine r_put E hw iX7 tyX7_ok nmX7 0 4 rfl rfl (by decide) kf79 rfl rfl rfl rfl (Nat.le_of_ble_eq_true rfl) [(a_m, .inr (7, [.int m_thrown, .long m_trace, .ref a_m_text, .int m_typed, .int (x72 + (1 : Int32)), .int m_token, .int x54, .int x81, .int m_fault, .ref a_m_lifts, .ref a_m_price, .ref a_m_stood, .ref a_m_hands, .ref a_m_wanted, .int m_rooms, .int m_people, .int m_things, .int m_draftRooms, .int m_draftPeople, .int m_draftThings, .ref a_m_s, .ref a_m_kept, .ref a_m_isKept, .ref a_m_due, .int m_dueMany, .ref a_m_cost, .ref a_m_then, .ref a_m_by])), (a_m_text, .inl (cI, 300, .inl m_text))] rfl dX7_advances_239 (fun H locs hw => ?_)
              refine lv_goto (tgt := 175) hx hb dX7_advances_242 (by decide) ?_
              exact ih175 (x72 + (1 : Int32)) x81 hf ls H locs (lv_sub hl [1, 0] rfl) hw
            · intro J229 hJ229 hf
              refine lv_icmp_le (tgt := 210) hx hb dX7_advances_200 (by decide) (fun kc => ?_) (fun kc => ?_)
              · have hf := if_t hf kc
                refine lv_bipush (v := (10 : Int32)) hx hb dX7_advances_210 rfl ?_
                refine lv_aload_n hx hb dX7_advances_212 rfl (lv_at hl 1 rfl) ?_
                refine r_get E hw iX7 0 7 rfl rfl (by decide) kf96 rfl rfl dX7_advances_213 ?_
                refine lv_imul hx hb dX7_advances_216 ?_
                refine lv_aload_n hx hb dX7_advances_217 rfl (lv_at hl 1 rfl) ?_
                refine lv_aload_n hx hb dX7_advances_218 rfl (lv_at hl 1 rfl) ?_
                refine r_get E hw iX7 0 4 rfl rfl (by decide) kf79 rfl rfl dX7_advances_219 ?_
                obtain ⟨r79, hu80, hf⟩ := bd1_some hf
                refine cl_i (wr := []) (w2 := [(a_m, .inr (7, [.int m_thrown, .long m_trace, .ref a_m_text, .int m_typed, .int x72, .int m_token, .int x54, .int x73, .int m_fault, .ref a_m_lifts, .ref a_m_price, .ref a_m_stood, .ref a_m_hands, .ref a_m_wanted, .int m_rooms, .int m_people, .int m_things, .int m_draftRooms, .int m_draftPeople, .int m_draftThings, .ref a_m_s, .ref a_m_kept, .ref a_m_isKept, .ref a_m_due, .int m_dueMany, .ref a_m_cost, .ref a_m_then, .ref a_m_by])), (a_m_text, .inl (cI, 300, .inl m_text))]) E hw [0, 1] [] [0, 1] (va_runV (As := [.int x72]) (rest := [.int ((10 : Int32) * x73), .ref a_m]) E.1 (c_X7_byteAt l dC dI cI cB cZ aK aV a_m a_m_text a_m_lifts a_m_price a_m_stood a_m_hands a_m_wanted a_m_s a_m_kept a_m_isKept a_m_due a_m_cost a_m_then a_m_by H.size m_thrown m_trace m_typed x72 m_token x54 x73 m_fault m_rooms m_people m_things m_draftRooms m_draftPeople m_draftThings m_dueMany m_text x72 r79 hu80) (cwV 1 hts gX7_advances_X7_byteAt rfl rfl rfl hd_X7_byteAt ⟨Nat.le_of_ble_eq_true rfl, Nat.le_of_ble_eq_true rfl⟩) (pre_V E hw [0, 1] rfl rfl rfl rfl) rfl rfl hl.1 rfl (lv_room (Nat.le_of_ble_eq_true rfl)) dX7_advances_222 ⟨Nat.zero_le _, Nat.zero_le _⟩) rfl rfl rfl (by decide) rfl rfl (fun H locs hw => ?_)
                refine lv_iadd hx hb dX7_advances_225 ?_
                refine lv_bipush (v := (48 : Int32)) hx hb dX7_advances_226 rfl ?_
                refine lv_isub hx hb dX7_advances_228 ?_
                exact hJ229 ((((10 : Int32) * x73) + r79) - (48 : Int32)) ls H locs hf (lv_sub hl [1, 0] rfl) hw
              · have hf := if_f hf kc
                refine lv_aload_n hx hb dX7_advances_203 rfl (lv_at hl 1 rfl) ?_
                refine r_get E hw iX7 0 7 rfl rfl (by decide) kf96 rfl rfl dX7_advances_204 ?_
                refine lv_goto (tgt := 229) hx hb dX7_advances_207 (by decide) ?_
                exact hJ229 x73 ls H locs hf (lv_sub hl [1, 0] rfl) hw
      · have hf := if_f hf kc
        refine lv_lconst (v := (0 : Int64)) hx hb dX7_advances_66 rfl ?_
        refine lv_lstore_n (lv' := [(2, .long (0 : Int64)), (1, .int r57), (0, .ref a_m)]) hx hb dX7_advances_67 rfl hl (by decide) rfl (fun ls hl => ?_)
        refine (loop2_sound (r := (q0, q1, q2, q3)) (P := fun (x94 : Int64) (x95 : Int32) => ∀ (ls : Array Slot) (H : Heap) (locs : List Loc), lv_has ls 4 [(2, .long x94), (0, .ref a_m)] → Wd A s.heap (dC, dI) [(a_m, .inr (7, [.int m_thrown, .long m_trace, .ref a_m_text, .int m_typed, .int x95, .int m_token, .int x54, .int m_value, .int m_fault, .ref a_m_lifts, .ref a_m_price, .ref a_m_stood, .ref a_m_hands, .ref a_m_wanted, .int m_rooms, .int m_people, .int m_things, .int m_draftRooms, .int m_draftPeople, .int m_draftThings, .ref a_m_s, .ref a_m_kept, .ref a_m_isKept, .ref a_m_due, .int m_dueMany, .ref a_m_cost, .ref a_m_then, .ref a_m_by])), (a_m_text, .inl (cI, 300, .inl m_text))] H locs → W p l e ({ frames := 3, cells := 0, slots := 0, locals := 69 } : Jvm.Room) s m args below meth c H locs 0 0 Q (F0 m 68 ls [])) (fun B68 x94 x95 ih68 hf => ?_) _ (0 : Int64) x54 hf) ls H locs (lv_sub hl [0, 2] rfl) hw
        intro ls H locs hl hw
        refine lv_aload_n hx hb dX7_advances_68 rfl (lv_at hl 1 rfl) ?_
        refine lv_aload_n hx hb dX7_advances_69 rfl (lv_at hl 1 rfl) ?_
        refine r_get E hw iX7 0 4 rfl rfl (by decide) kf79 rfl rfl dX7_advances_70 ?_
        obtain ⟨r96, hu97, hf⟩ := bd1_some hf
        refine cl_i (wr := []) (w2 := [(a_m, .inr (7, [.int m_thrown, .long m_trace, .ref a_m_text, .int m_typed, .int x95, .int m_token, .int x54, .int m_value, .int m_fault, .ref a_m_lifts, .ref a_m_price, .ref a_m_stood, .ref a_m_hands, .ref a_m_wanted, .int m_rooms, .int m_people, .int m_things, .int m_draftRooms, .int m_draftPeople, .int m_draftThings, .ref a_m_s, .ref a_m_kept, .ref a_m_isKept, .ref a_m_due, .int m_dueMany, .ref a_m_cost, .ref a_m_then, .ref a_m_by])), (a_m_text, .inl (cI, 300, .inl m_text))]) E hw [0, 1] [] [0, 1] (va_runV (As := [.int x95]) (rest := []) E.1 (c_X7_byteAt l dC dI cI cB cZ aK aV a_m a_m_text a_m_lifts a_m_price a_m_stood a_m_hands a_m_wanted a_m_s a_m_kept a_m_isKept a_m_due a_m_cost a_m_then a_m_by H.size m_thrown m_trace m_typed x95 m_token x54 m_value m_fault m_rooms m_people m_things m_draftRooms m_draftPeople m_draftThings m_dueMany m_text x95 r96 hu97) (cwV 1 hts gX7_advances_X7_byteAt rfl rfl rfl hd_X7_byteAt ⟨Nat.le_of_ble_eq_true rfl, Nat.le_of_ble_eq_true rfl⟩) (pre_V E hw [0, 1] rfl rfl rfl rfl) rfl rfl hl.1 rfl (lv_room (Nat.le_of_ble_eq_true rfl)) dX7_advances_73 ⟨Nat.zero_le _, Nat.zero_le _⟩) rfl rfl rfl (by decide) rfl rfl (fun H locs hw => ?_)
        refine lv_bipush (v := (97 : Int32)) hx hb dX7_advances_76 rfl ?_
        refine lv_bipush (v := (122 : Int32)) hx hb dX7_advances_78 rfl ?_
        obtain ⟨r98, hu99, hf⟩ := bd1_some hf
        refine cl_i (wr := [(a_m, .inr (7, [.int m_thrown, .long m_trace, .ref a_m_text, .int m_typed, .int x95, .int m_token, .int x54, .int m_value, .int m_fault, .ref a_m_lifts, .ref a_m_price, .ref a_m_stood, .ref a_m_hands, .ref a_m_wanted, .int m_rooms, .int m_people, .int m_things, .int m_draftRooms, .int m_draftPeople, .int m_draftThings, .ref a_m_s, .ref a_m_kept, .ref a_m_isKept, .ref a_m_due, .int m_dueMany, .ref a_m_cost, .ref a_m_then, .ref a_m_by])), (a_m_text, .inl (cI, 300, .inl m_text))]) (w2 := [(a_m, .inr (7, [.int m_thrown, .long m_trace, .ref a_m_text, .int m_typed, .int x95, .int m_token, .int x54, .int m_value, .int m_fault, .ref a_m_lifts, .ref a_m_price, .ref a_m_stood, .ref a_m_hands, .ref a_m_wanted, .int m_rooms, .int m_people, .int m_things, .int m_draftRooms, .int m_draftPeople, .int m_draftThings, .ref a_m_s, .ref a_m_kept, .ref a_m_isKept, .ref a_m_due, .int m_dueMany, .ref a_m_cost, .ref a_m_then, .ref a_m_by])), (a_m_text, .inl (cI, 300, .inl m_text))]) E hw [] [0, 1] [0, 1] (va_runS (As := [.int r96, .int (97 : Int32), .int (122 : Int32)]) (rest := []) E.1 (c_X7_in l dC dI cI cB cZ aK aV H.size r96 (97 : Int32) (122 : Int32) r98 hu99) (va_cwS 3 hts gX7_advances_X7_in rfl rfl rfl hd_X7_in ⟨Nat.le_of_ble_eq_true rfl, Nat.le_of_ble_eq_true rfl⟩) (pre_S E hw [] rfl rfl) rfl rfl hl.1 rfl (lv_room (Nat.le_of_ble_eq_true rfl)) dX7_advances_80 ⟨Nat.zero_le _, Nat.zero_le _⟩) rfl rfl rfl (by decide) rfl rfl (fun H locs hw => ?_)
        refine lv_if_eq (tgt := 130) hx hb dX7_advances_83 (by decide) (fun kc => ?_) (fun kc => ?_)
        · have hf := if_t hf kc
          refine lv_aload_n hx hb dX7_advances_130 rfl (lv_at hl 1 rfl) ?_
          refine lv_lload_n hx hb dX7_advances_131 rfl (lv_at hl 0 rfl) ?_
          obtain ⟨r100, hu101, hf⟩ := bd1_some hf
          refine cl_i (wr := [(a_m, .inr (7, [.int m_thrown, .long m_trace, .ref a_m_text, .int m_typed, .int x95, .int m_token, .int x54, .int m_value, .int m_fault, .ref a_m_lifts, .ref a_m_price, .ref a_m_stood, .ref a_m_hands, .ref a_m_wanted, .int m_rooms, .int m_people, .int m_things, .int m_draftRooms, .int m_draftPeople, .int m_draftThings, .ref a_m_s, .ref a_m_kept, .ref a_m_isKept, .ref a_m_due, .int m_dueMany, .ref a_m_cost, .ref a_m_then, .ref a_m_by])), (a_m_text, .inl (cI, 300, .inl m_text))]) (w2 := [(a_m, .inr (7, [.int m_thrown, .long m_trace, .ref a_m_text, .int m_typed, .int x95, .int m_token, .int x54, .int m_value, .int m_fault, .ref a_m_lifts, .ref a_m_price, .ref a_m_stood, .ref a_m_hands, .ref a_m_wanted, .int m_rooms, .int m_people, .int m_things, .int m_draftRooms, .int m_draftPeople, .int m_draftThings, .ref a_m_s, .ref a_m_kept, .ref a_m_isKept, .ref a_m_due, .int m_dueMany, .ref a_m_cost, .ref a_m_then, .ref a_m_by])), (a_m_text, .inl (cI, 300, .inl m_text))]) E hw [] [0, 1] [0, 1] (va_runS (As := [.long x94]) (rest := [.ref a_m]) E.1 (c_X7_wordOf l dC dI cI cB cZ aK aV H.size x94 r100 hu101) (va_cwS 1 hts gX7_advances_X7_wordOf rfl rfl rfl hd_X7_wordOf ⟨Nat.le_of_ble_eq_true rfl, Nat.le_of_ble_eq_true rfl⟩) (pre_S E hw [] rfl rfl) rfl rfl hl.1 rfl (lv_room (Nat.le_of_ble_eq_true rfl)) dX7_advances_132 ⟨Nat.zero_le _, Nat.zero_le _⟩) rfl rfl rfl (by decide) rfl rfl (fun H locs hw => ?_)
          refine r_put E hw iX7 tyX7_ok nmX7 0 7 rfl rfl (by decide) kf96 rfl rfl rfl rfl (Nat.le_of_ble_eq_true rfl) [(a_m, .inr (7, [.int m_thrown, .long m_trace, .ref a_m_text, .int m_typed, .int x95, .int m_token, .int x54, .int r100, .int m_fault, .ref a_m_lifts, .ref a_m_price, .ref a_m_stood, .ref a_m_hands, .ref a_m_wanted, .int m_rooms, .int m_people, .int m_things, .int m_draftRooms, .int m_draftPeople, .int m_draftThings, .ref a_m_s, .ref a_m_kept, .ref a_m_isKept, .ref a_m_due, .int m_dueMany, .ref a_m_cost, .ref a_m_then, .ref a_m_by])), (a_m_text, .inl (cI, 300, .inl m_text))] rfl dX7_advances_135 (fun H locs hw => ?_)
          refine lv_aload_n hx hb dX7_advances_138 rfl (lv_at hl 1 rfl) ?_
          refine lv_aload_n hx hb dX7_advances_139 rfl (lv_at hl 1 rfl) ?_
          refine r_get E hw iX7 0 7 rfl rfl (by decide) kf96 rfl rfl dX7_advances_140 ?_
          refine lv_bipush (v := (-9 : Int32)) hx hb dX7_advances_143 rfl ?_
          refine jn_sound (P := fun J => ∀ (x102 : Int32) (ls : Array Slot) (H : Heap) (locs : List Loc), J x102 = some (q0, q1, q2, q3) → lv_has ls 4 [] → Wd A s.heap (dC, dI) [(a_m, .inr (7, [.int m_thrown, .long m_trace, .ref a_m_text, .int m_typed, .int x95, .int m_token, .int x54, .int r100, .int m_fault, .ref a_m_lifts, .ref a_m_price, .ref a_m_stood, .ref a_m_hands, .ref a_m_wanted, .int m_rooms, .int m_people, .int m_things, .int m_draftRooms, .int m_draftPeople, .int m_draftThings, .ref a_m_s, .ref a_m_kept, .ref a_m_isKept, .ref a_m_due, .int m_dueMany, .ref a_m_cost, .ref a_m_then, .ref a_m_by])), (a_m_text, .inl (cI, 300, .inl m_text))] H locs → W p l e ({ frames := 3, cells := 0, slots := 0, locals := 69 } : Jvm.Room) s m args below meth c H locs 0 0 Q (F0 m 153 ls [.int x102, .ref a_m])) hf ?_ ?_
          · intro x102 ls H locs hf hl hw
            refine r_put E hw iX7 tyX7_ok nmX7 0 5 rfl rfl (by decide) kf89 rfl rfl rfl rfl (Nat.le_of_ble_eq_true rfl) [(a_m, .inr (7, [.int m_thrown, .long m_trace, .ref a_m_text, .int m_typed, .int x95, .int x102, .int x54, .int r100, .int m_fault, .ref a_m_lifts, .ref a_m_price, .ref a_m_stood, .ref a_m_hands, .ref a_m_wanted, .int m_rooms, .int m_people, .int m_things, .int m_draftRooms, .int m_draftPeople, .int m_draftThings, .ref a_m_s, .ref a_m_kept, .ref a_m_isKept, .ref a_m_due, .int m_dueMany, .ref a_m_cost, .ref a_m_then, .ref a_m_by])), (a_m_text, .inl (cI, 300, .inl m_text))] rfl dX7_advances_153 (fun H locs hw => ?_)
            refine lv_goto (tgt := 310) hx hb dX7_advances_156 (by decide) ?_
            obtain ⟨rfl, rfl, rfl, rfl⟩ := sm4 hf
            exact hret H locs ls 310 hw dX7_advances_310
          · intro J153 hJ153 hf
            refine lv_icmp_ne (tgt := 152) hx hb dX7_advances_145 (by decide) (fun kc => ?_) (fun kc => ?_)
            · have hf := if_f hf kc
              refine lv_iconst (v := (1 : Int32)) hx hb dX7_advances_152 rfl ?_
              exact hJ153 (1 : Int32) ls H locs hf (lv_sub hl [] rfl) hw
            · have hf := if_t hf kc
              refine lv_iconst (v := (4 : Int32)) hx hb dX7_advances_148 rfl ?_
              refine lv_goto (tgt := 153) hx hb dX7_advances_149 (by decide) ?_
              exact hJ153 (4 : Int32) ls H locs hf (lv_sub hl [] rfl) hw
        · have hf := if_f hf kc
          refine lv_aload_n hx hb dX7_advances_86 rfl (lv_at hl 1 rfl) ?_
          refine r_get E hw iX7 0 4 rfl rfl (by decide) kf79 rfl rfl dX7_advances_87 ?_
          refine lv_aload_n hx hb dX7_advances_90 rfl (lv_at hl 1 rfl) ?_
          refine r_get E hw iX7 0 6 rfl rfl (by decide) kf86 rfl rfl dX7_advances_91 ?_
          refine lv_isub hx hb dX7_advances_94 ?_
          refine lv_bipush (v := (7 : Int32)) hx hb dX7_advances_95 rfl ?_
          refine jn_sound (P := fun J => ∀ (x107 : Int64) (ls : Array Slot) (H : Heap) (locs : List Loc), J x107 = some (q0, q1, q2, q3) → lv_has ls 4 [(0, .ref a_m)] → Wd A s.heap (dC, dI) [(a_m, .inr (7, [.int m_thrown, .long m_trace, .ref a_m_text, .int m_typed, .int x95, .int m_token, .int x54, .int m_value, .int m_fault, .ref a_m_lifts, .ref a_m_price, .ref a_m_stood, .ref a_m_hands, .ref a_m_wanted, .int m_rooms, .int m_people, .int m_things, .int m_draftRooms, .int m_draftPeople, .int m_draftThings, .ref a_m_s, .ref a_m_kept, .ref a_m_isKept, .ref a_m_due, .int m_dueMany, .ref a_m_cost, .ref a_m_then, .ref a_m_by])), (a_m_text, .inl (cI, 300, .inl m_text))] H locs → W p l e ({ frames := 3, cells := 0, slots := 0, locals := 69 } : Jvm.Room) s m args below meth c H locs 0 0 Q (F0 m 116 ls [.long x107])) hf ?_ ?_
          · intro x107 ls H locs hf hl hw
            refine lv_lstore_n (lv' := [(2, .long x107), (0, .ref a_m)]) hx hb dX7_advances_116 rfl hl (by decide) rfl (fun ls hl => ?_)
            refine lv_aload_n hx hb dX7_advances_117 rfl (lv_at hl 1 rfl) ?_
            refine lv_dup hx hb dX7_advances_118 rfl ?_
            refine r_get E hw iX7 0 4 rfl rfl (by decide) kf79 rfl rfl dX7_advances_119 ?_
            refine lv_iconst (v := (1 : Int32)) hx hb dX7_advances_122 rfl ?_
            refine lv_iadd hx hb dX7_advances_123 ?_
            refine r_put E hw iX7 tyX7_ok nmX7 0 4 rfl rfl (by decide) kf79 rfl rfl rfl rfl (Nat.le_of_ble_eq_true rfl) [(a_m, .inr (7, [.int m_thrown, .long m_trace, .ref a_m_text, .int m_typed, .int (x95 + (1 : Int32)), .int m_token, .int x54, .int m_value, .int m_fault, .ref a_m_lifts, .ref a_m_price, .ref a_m_stood, .ref a_m_hands, .ref a_m_wanted, .int m_rooms, .int m_people, .int m_things, .int m_draftRooms, .int m_draftPeople, .int m_draftThings, .ref a_m_s, .ref a_m_kept, .ref a_m_isKept, .ref a_m_due, .int m_dueMany, .ref a_m_cost, .ref a_m_then, .ref a_m_by])), (a_m_text, .inl (cI, 300, .inl m_text))] rfl dX7_advances_124 (fun H locs hw => ?_)
            refine lv_goto (tgt := 68) hx hb dX7_advances_127 (by decide) ?_
            exact ih68 x107 (x95 + (1 : Int32)) hf ls H locs (lv_sub hl [0, 1] rfl) hw
          · intro J116 hJ116 hf
            refine lv_icmp_ge (tgt := 115) hx hb dX7_advances_97 (by decide) (fun kc => ?_) (fun kc => ?_)
            · have hf := if_t hf kc
              refine lv_lload_n hx hb dX7_advances_115 rfl (lv_at hl 0 rfl) ?_
              exact hJ116 x94 ls H locs hf (lv_sub hl [1] rfl) hw
            · have hf := if_f hf kc
              refine lv_lload_n hx hb dX7_advances_100 rfl (lv_at hl 0 rfl) ?_
              refine lv_aload_n hx hb dX7_advances_101 rfl (lv_at hl 1 rfl) ?_
              refine lv_aload_n hx hb dX7_advances_102 rfl (lv_at hl 1 rfl) ?_
              refine r_get E hw iX7 0 4 rfl rfl (by decide) kf79 rfl rfl dX7_advances_103 ?_
              obtain ⟨r103, hu104, hf⟩ := bd1_some hf
              refine cl_i (wr := []) (w2 := [(a_m, .inr (7, [.int m_thrown, .long m_trace, .ref a_m_text, .int m_typed, .int x95, .int m_token, .int x54, .int m_value, .int m_fault, .ref a_m_lifts, .ref a_m_price, .ref a_m_stood, .ref a_m_hands, .ref a_m_wanted, .int m_rooms, .int m_people, .int m_things, .int m_draftRooms, .int m_draftPeople, .int m_draftThings, .ref a_m_s, .ref a_m_kept, .ref a_m_isKept, .ref a_m_due, .int m_dueMany, .ref a_m_cost, .ref a_m_then, .ref a_m_by])), (a_m_text, .inl (cI, 300, .inl m_text))]) E hw [0, 1] [] [0, 1] (va_runV (As := [.int x95]) (rest := [.long x94]) E.1 (c_X7_byteAt l dC dI cI cB cZ aK aV a_m a_m_text a_m_lifts a_m_price a_m_stood a_m_hands a_m_wanted a_m_s a_m_kept a_m_isKept a_m_due a_m_cost a_m_then a_m_by H.size m_thrown m_trace m_typed x95 m_token x54 m_value m_fault m_rooms m_people m_things m_draftRooms m_draftPeople m_draftThings m_dueMany m_text x95 r103 hu104) (cwV 1 hts gX7_advances_X7_byteAt rfl rfl rfl hd_X7_byteAt ⟨Nat.le_of_ble_eq_true rfl, Nat.le_of_ble_eq_true rfl⟩) (pre_V E hw [0, 1] rfl rfl rfl rfl) rfl rfl hl.1 rfl (lv_room (Nat.le_of_ble_eq_true rfl)) dX7_advances_106 ⟨Nat.zero_le _, Nat.zero_le _⟩) rfl rfl rfl (by decide) rfl rfl (fun H locs hw => ?_)
              obtain ⟨r105, hu106, hf⟩ := bd1_some hf
              refine cl_l (wr := [(a_m, .inr (7, [.int m_thrown, .long m_trace, .ref a_m_text, .int m_typed, .int x95, .int m_token, .int x54, .int m_value, .int m_fault, .ref a_m_lifts, .ref a_m_price, .ref a_m_stood, .ref a_m_hands, .ref a_m_wanted, .int m_rooms, .int m_people, .int m_things, .int m_draftRooms, .int m_draftPeople, .int m_draftThings, .ref a_m_s, .ref a_m_kept, .ref a_m_isKept, .ref a_m_due, .int m_dueMany, .ref a_m_cost, .ref a_m_then, .ref a_m_by])), (a_m_text, .inl (cI, 300, .inl m_text))]) (w2 := [(a_m, .inr (7, [.int m_thrown, .long m_trace, .ref a_m_text, .int m_typed, .int x95, .int m_token, .int x54, .int m_value, .int m_fault, .ref a_m_lifts, .ref a_m_price, .ref a_m_stood, .ref a_m_hands, .ref a_m_wanted, .int m_rooms, .int m_people, .int m_things, .int m_draftRooms, .int m_draftPeople, .int m_draftThings, .ref a_m_s, .ref a_m_kept, .ref a_m_isKept, .ref a_m_due, .int m_dueMany, .ref a_m_cost, .ref a_m_then, .ref a_m_by])), (a_m_text, .inl (cI, 300, .inl m_text))]) E hw [] [0, 1] [0, 1] (va_runS (As := [.long x94, .int r103]) (rest := []) E.1 (c_X7_add l dC dI cI cB cZ aK aV H.size x94 r103 r105 hu106) (va_cwS 2 hts gX7_advances_X7_add rfl rfl rfl hd_X7_add ⟨Nat.le_of_ble_eq_true rfl, Nat.le_of_ble_eq_true rfl⟩) (pre_S E hw [] rfl rfl) rfl rfl hl.1 rfl (lv_room (Nat.le_of_ble_eq_true rfl)) dX7_advances_109 ⟨Nat.zero_le _, Nat.zero_le _⟩) rfl rfl rfl (by decide) rfl rfl (fun H locs hw => ?_)
              refine lv_goto (tgt := 116) hx hb dX7_advances_112 (by decide) ?_
              exact hJ116 r105 ls H locs hf (lv_sub hl [1] rfl) hw
    · have hf := if_f hf kc
      refine lv_aload_n hx hb dX7_advances_47 rfl (lv_at hl 1 rfl) ?_
      refine lv_iconst (v := (0 : Int32)) hx hb dX7_advances_48 rfl ?_
      refine r_put E hw iX7 tyX7_ok nmX7 0 5 rfl rfl (by decide) kf89 rfl rfl rfl rfl (Nat.le_of_ble_eq_true rfl) [(a_m, .inr (7, [.int m_thrown, .long m_trace, .ref a_m_text, .int m_typed, .int x54, .int (0 : Int32), .int x54, .int m_value, .int m_fault, .ref a_m_lifts, .ref a_m_price, .ref a_m_stood, .ref a_m_hands, .ref a_m_wanted, .int m_rooms, .int m_people, .int m_things, .int m_draftRooms, .int m_draftPeople, .int m_draftThings, .ref a_m_s, .ref a_m_kept, .ref a_m_isKept, .ref a_m_due, .int m_dueMany, .ref a_m_cost, .ref a_m_then, .ref a_m_by])), (a_m_text, .inl (cI, 300, .inl m_text))] rfl dX7_advances_49 (fun H locs hw => ?_)
      refine lv_goto (tgt := 310) hx hb dX7_advances_52 (by decide) ?_
      obtain ⟨rfl, rfl, rfl, rfl⟩ := sm4 hf
      exact hret H locs ls 310 hw dX7_advances_310
  · have hf := if_t hf kc
    refine lv_aload_n hx hb dX7_advances_13 rfl (lv_at hl 0 rfl) ?_
    refine lv_dup hx hb dX7_advances_14 rfl ?_
    refine r_get E hw iX7 0 4 rfl rfl (by decide) kf79 rfl rfl dX7_advances_15 ?_
    refine lv_iconst (v := (1 : Int32)) hx hb dX7_advances_18 rfl ?_
    refine lv_iadd hx hb dX7_advances_19 ?_
    refine r_put E hw iX7 tyX7_ok nmX7 0 4 rfl rfl (by decide) kf79 rfl rfl rfl rfl (Nat.le_of_ble_eq_true rfl) [(a_m, .inr (7, [.int m_thrown, .long m_trace, .ref a_m_text, .int m_typed, .int (x54 + (1 : Int32)), .int m_token, .int m_place, .int m_value, .int m_fault, .ref a_m_lifts, .ref a_m_price, .ref a_m_stood, .ref a_m_hands, .ref a_m_wanted, .int m_rooms, .int m_people, .int m_things, .int m_draftRooms, .int m_draftPeople, .int m_draftThings, .ref a_m_s, .ref a_m_kept, .ref a_m_isKept, .ref a_m_due, .int m_dueMany, .ref a_m_cost, .ref a_m_then, .ref a_m_by])), (a_m_text, .inl (cI, 300, .inl m_text))] rfl dX7_advances_20 (fun H locs hw => ?_)
    refine lv_goto (tgt := 0) hx hb dX7_advances_23 (by decide) ?_
    exact ih0 (x54 + (1 : Int32)) hf ls H locs hl hw
def f_X7_isWell  (m_fault : Int32) : Option (Int32) :=
  (if 0 ≤ m_fault then some ((0 : Int32)) else some ((1 : Int32)))
theorem hd_X7_isWell : yX7_isWell.cls = RX7 ∧ yX7_isWell.cls ≠ "java/lang/invoke/MethodHandle" ∧ yX7_isWell.cls ≠ "java/lang/invoke/VarHandle" ∧ (parseMethodDescriptor yX7_isWell.desc).map (fun d => d.parameters.length) = some 0 := by decide +kernel
set_option maxHeartbeats 4000000 in
set_option maxRecDepth 100000 in
theorem c_X7_isWell (l : Launch) (dC : Nat → ClassId) (dI : Nat → Nat → Nat) (cI cB cZ : ClassId) (aK aV : Nat → Nat) (a_m a_m_text a_m_lifts a_m_price a_m_stood a_m_hands a_m_wanted a_m_s a_m_kept a_m_isKept a_m_due a_m_cost a_m_then a_m_by : Nat) (sz : Nat) (m_thrown : Int32) (m_trace : Int64) (m_typed : Int32) (m_next : Int32) (m_token : Int32) (m_place : Int32) (m_value : Int32) (m_fault : Int32) (m_rooms : Int32) (m_people : Int32) (m_things : Int32) (m_draftRooms : Int32) (m_draftPeople : Int32) (m_draftThings : Int32) (m_dueMany : Int32) (r : Int32) (hf : f_X7_isWell m_fault = some r) : Met l yX7_isWell wsX7_isWell ({ frames := 0, cells := 0, slots := 0, locals := 0 } : Jvm.Room) (va_Pc [.ref a_m] (preW (dC, dI) (tyL cI cB cZ) aK aV sz [(a_m, .inr (7, [.int m_thrown, .long m_trace, .ref a_m_text, .int m_typed, .int m_next, .int m_token, .int m_place, .int m_value, .int m_fault, .ref a_m_lifts, .ref a_m_price, .ref a_m_stood, .ref a_m_hands, .ref a_m_wanted, .int m_rooms, .int m_people, .int m_things, .int m_draftRooms, .int m_draftPeople, .int m_draftThings, .ref a_m_s, .ref a_m_kept, .ref a_m_isKept, .ref a_m_due, .int m_dueMany, .ref a_m_cost, .ref a_m_then, .ref a_m_by]))])) (va_Qi (fun v (_ : Unit) => v = r) (postW (dC, dI) (tyL cI cB cZ) (va_A [(a_m, .inr (7, [.int m_thrown, .long m_trace, .ref a_m_text, .int m_typed, .int m_next, .int m_token, .int m_place, .int m_value, .int m_fault, .ref a_m_lifts, .ref a_m_price, .ref a_m_stood, .ref a_m_hands, .ref a_m_wanted, .int m_rooms, .int m_people, .int m_things, .int m_draftRooms, .int m_draftPeople, .int m_draftThings, .ref a_m_s, .ref a_m_kept, .ref a_m_isKept, .ref a_m_due, .int m_dueMany, .ref a_m_cost, .ref a_m_then, .ref a_m_by]))] sz) [(a_m, .inr (7, [.int m_thrown, .long m_trace, .ref a_m_text, .int m_typed, .int m_next, .int m_token, .int m_place, .int m_value, .int m_fault, .ref a_m_lifts, .ref a_m_price, .ref a_m_stood, .ref a_m_hands, .ref a_m_wanted, .int m_rooms, .int m_people, .int m_things, .int m_draftRooms, .int m_draftPeople, .int m_draftThings, .ref a_m_s, .ref a_m_kept, .ref a_m_isKept, .ref a_m_due, .int m_dueMany, .ref a_m_cost, .ref a_m_then, .ref a_m_by]))]) (va_A [(a_m, .inr (7, [.int m_thrown, .long m_trace, .ref a_m_text, .int m_typed, .int m_next, .int m_token, .int m_place, .int m_value, .int m_fault, .ref a_m_lifts, .ref a_m_price, .ref a_m_stood, .ref a_m_hands, .ref a_m_wanted, .int m_rooms, .int m_people, .int m_things, .int m_draftRooms, .int m_draftPeople, .int m_draftThings, .ref a_m_s, .ref a_m_kept, .ref a_m_isKept, .ref a_m_due, .int m_dueMany, .ref a_m_cost, .ref a_m_then, .ref a_m_by]))] sz)) 0 0 (va_A [(a_m, .inr (7, [.int m_thrown, .long m_trace, .ref a_m_text, .int m_typed, .int m_next, .int m_token, .int m_place, .int m_value, .int m_fault, .ref a_m_lifts, .ref a_m_price, .ref a_m_stood, .ref a_m_hands, .ref a_m_wanted, .int m_rooms, .int m_people, .int m_things, .int m_draftRooms, .int m_draftPeople, .int m_draftThings, .ref a_m_s, .ref a_m_kept, .ref a_m_isKept, .ref a_m_due, .int m_dueMany, .ref a_m_cost, .ref a_m_then, .ref a_m_by]))] sz) := by
  refine met_z (cc := cX7_isWell) (maxL := 1) (own := RX7) (by decide) rfl (Nat.le_of_ble_eq_true rfl) rfl (fun p e s m args below meth c Q A E hret ls H locs hl hw => ?_)
  obtain ⟨⟨hx, hb, hml, hown, hts⟩, hK, hN, hA, hX⟩ := id E
  have hl : lv_has ls 1 [(0, .ref a_m)] := hl
  have iX7 : ∀ w ∈ wsX70, w ∈ wsX7_isWell := by decide +kernel
  have kf99 := hts (.fieldLink RX7 99 "FiveThingsModel" "fault" "I") (by decide +kernel)
  unfold f_X7_isWell at hf
  refine lv_aload_n hx hb dX7_isWell_0 rfl (lv_at hl 0 rfl) ?_
  refine r_get E hw iX7 0 8 rfl rfl (by decide) kf99 rfl rfl dX7_isWell_1 ?_
  refine lv_if_ge (tgt := 11) hx hb dX7_isWell_4 (by decide) (fun kc => ?_) (fun kc => ?_)
  · have hf := if_t hf kc
    refine lv_iconst (v := (0 : Int32)) hx hb dX7_isWell_11 rfl ?_
    obtain rfl := sm1 hf
    exact hret H locs ls 12 hw (Or.inl rfl) dX7_isWell_12
  · have hf := if_f hf kc
    refine lv_iconst (v := (1 : Int32)) hx hb dX7_isWell_7 rfl ?_
    refine lv_goto (tgt := 12) hx hb dX7_isWell_8 (by decide) ?_
    obtain rfl := sm1 hf
    exact hret H locs ls 12 hw (Or.inr rfl) dX7_isWell_12
def f_X7_takes (p1 : Int32) (m_typed : Int32) (m_next : Int32) (m_token : Int32) (m_place : Int32) (m_value : Int32) (m_fault : Int32) (m_text : Nat → Int32) : Option (Int32 × Int32 × Int32 × Int32 × Int32 × Int32) :=
  bd1 (f_X7_isWell m_fault) (fun r1 => (if r1 = 0 then some ((0 : Int32), m_next, m_token, m_place, m_value, m_fault) else (if p1 = 0 then some ((0 : Int32), m_next, m_token, m_place, m_value, m_place) else bd4 (f_X7_advances m_typed m_next m_value m_text) (fun u3 u4 u5 u6 => some (m_value, u3, u4, u5, u6, m_fault)))))
theorem hd_X7_takes : yX7_takes.cls = RX7 ∧ yX7_takes.cls ≠ "java/lang/invoke/MethodHandle" ∧ yX7_takes.cls ≠ "java/lang/invoke/VarHandle" ∧ (parseMethodDescriptor yX7_takes.desc).map (fun d => d.parameters.length) = some 1 := by decide +kernel
set_option maxHeartbeats 4000000 in
set_option maxRecDepth 100000 in
theorem c_X7_takes (l : Launch) (dC : Nat → ClassId) (dI : Nat → Nat → Nat) (cI cB cZ : ClassId) (aK aV : Nat → Nat) (a_m a_m_text a_m_lifts a_m_price a_m_stood a_m_hands a_m_wanted a_m_s a_m_kept a_m_isKept a_m_due a_m_cost a_m_then a_m_by : Nat) (sz : Nat) (m_thrown : Int32) (m_trace : Int64) (m_typed : Int32) (m_next : Int32) (m_token : Int32) (m_place : Int32) (m_value : Int32) (m_fault : Int32) (m_rooms : Int32) (m_people : Int32) (m_things : Int32) (m_draftRooms : Int32) (m_draftPeople : Int32) (m_draftThings : Int32) (m_dueMany : Int32) (m_text : Nat → Int32) (p1 : Int32) (r : Int32) (q0 : Int32) (q1 : Int32) (q2 : Int32) (q3 : Int32) (q4 : Int32) (hf : f_X7_takes p1 m_typed m_next m_token m_place m_value m_fault m_text = some (r, q0, q1, q2, q3, q4)) : Met l yX7_takes wsX7_takes ({ frames := 4, cells := 0, slots := 0, locals := 92 } : Jvm.Room) (va_Pc [.ref a_m, .int p1] (preW (dC, dI) (tyL cI cB cZ) aK aV sz [(a_m, .inr (7, [.int m_thrown, .long m_trace, .ref a_m_text, .int m_typed, .int m_next, .int m_token, .int m_place, .int m_value, .int m_fault, .ref a_m_lifts, .ref a_m_price, .ref a_m_stood, .ref a_m_hands, .ref a_m_wanted, .int m_rooms, .int m_people, .int m_things, .int m_draftRooms, .int m_draftPeople, .int m_draftThings, .ref a_m_s, .ref a_m_kept, .ref a_m_isKept, .ref a_m_due, .int m_dueMany, .ref a_m_cost, .ref a_m_then, .ref a_m_by])), (a_m_text, .inl (cI, 300, .inl m_text))])) (va_Qi (fun v (_ : Unit) => v = r) (postW (dC, dI) (tyL cI cB cZ) (va_A [(a_m, .inr (7, [.int m_thrown, .long m_trace, .ref a_m_text, .int m_typed, .int m_next, .int m_token, .int m_place, .int m_value, .int m_fault, .ref a_m_lifts, .ref a_m_price, .ref a_m_stood, .ref a_m_hands, .ref a_m_wanted, .int m_rooms, .int m_people, .int m_things, .int m_draftRooms, .int m_draftPeople, .int m_draftThings, .ref a_m_s, .ref a_m_kept, .ref a_m_isKept, .ref a_m_due, .int m_dueMany, .ref a_m_cost, .ref a_m_then, .ref a_m_by])), (a_m_text, .inl (cI, 300, .inl m_text))] sz) [(a_m, .inr (7, [.int m_thrown, .long m_trace, .ref a_m_text, .int m_typed, .int q0, .int q1, .int q2, .int q3, .int q4, .ref a_m_lifts, .ref a_m_price, .ref a_m_stood, .ref a_m_hands, .ref a_m_wanted, .int m_rooms, .int m_people, .int m_things, .int m_draftRooms, .int m_draftPeople, .int m_draftThings, .ref a_m_s, .ref a_m_kept, .ref a_m_isKept, .ref a_m_due, .int m_dueMany, .ref a_m_cost, .ref a_m_then, .ref a_m_by])), (a_m_text, .inl (cI, 300, .inl m_text))]) (va_A [(a_m, .inr (7, [.int m_thrown, .long m_trace, .ref a_m_text, .int m_typed, .int m_next, .int m_token, .int m_place, .int m_value, .int m_fault, .ref a_m_lifts, .ref a_m_price, .ref a_m_stood, .ref a_m_hands, .ref a_m_wanted, .int m_rooms, .int m_people, .int m_things, .int m_draftRooms, .int m_draftPeople, .int m_draftThings, .ref a_m_s, .ref a_m_kept, .ref a_m_isKept, .ref a_m_due, .int m_dueMany, .ref a_m_cost, .ref a_m_then, .ref a_m_by])), (a_m_text, .inl (cI, 300, .inl m_text))] sz)) 0 0 (va_A [(a_m, .inr (7, [.int m_thrown, .long m_trace, .ref a_m_text, .int m_typed, .int m_next, .int m_token, .int m_place, .int m_value, .int m_fault, .ref a_m_lifts, .ref a_m_price, .ref a_m_stood, .ref a_m_hands, .ref a_m_wanted, .int m_rooms, .int m_people, .int m_things, .int m_draftRooms, .int m_draftPeople, .int m_draftThings, .ref a_m_s, .ref a_m_kept, .ref a_m_isKept, .ref a_m_due, .int m_dueMany, .ref a_m_cost, .ref a_m_then, .ref a_m_by])), (a_m_text, .inl (cI, 300, .inl m_text))] sz) := by
  refine met_i (cc := cX7_takes) (maxL := 3) (own := RX7) (by decide) rfl (Nat.le_of_ble_eq_true rfl) rfl (fun p e s m args below meth c Q A E hret ls H locs hl hw => ?_)
  obtain ⟨⟨hx, hb, hml, hown, hts⟩, hK, hN, hA, hX⟩ := id E
  have hl : lv_has ls 3 [(0, .ref a_m), (1, .int p1)] := hl
  have iX7 : ∀ w ∈ wsX70, w ∈ wsX7_takes := by decide +kernel
  have kf96 := hts (.fieldLink RX7 96 "FiveThingsModel" "value" "I") (by decide +kernel)
  have kf86 := hts (.fieldLink RX7 86 "FiveThingsModel" "place" "I") (by decide +kernel)
  have kf99 := hts (.fieldLink RX7 99 "FiveThingsModel" "fault" "I") (by decide +kernel)
  unfold f_X7_takes at hf
  refine lv_aload_n hx hb dX7_takes_0 rfl (lv_at hl 0 rfl) ?_
  obtain ⟨r1, hu2, hf⟩ := bd1_some hf
  refine cl_i (wr := [(a_m_text, .inl (cI, 300, .inl m_text))]) (w2 := [(a_m, .inr (7, [.int m_thrown, .long m_trace, .ref a_m_text, .int m_typed, .int m_next, .int m_token, .int m_place, .int m_value, .int m_fault, .ref a_m_lifts, .ref a_m_price, .ref a_m_stood, .ref a_m_hands, .ref a_m_wanted, .int m_rooms, .int m_people, .int m_things, .int m_draftRooms, .int m_draftPeople, .int m_draftThings, .ref a_m_s, .ref a_m_kept, .ref a_m_isKept, .ref a_m_due, .int m_dueMany, .ref a_m_cost, .ref a_m_then, .ref a_m_by])), (a_m_text, .inl (cI, 300, .inl m_text))]) E hw [0] [1] [1, 0] (va_runV (As := []) (rest := []) E.1 (c_X7_isWell l dC dI cI cB cZ aK aV a_m a_m_text a_m_lifts a_m_price a_m_stood a_m_hands a_m_wanted a_m_s a_m_kept a_m_isKept a_m_due a_m_cost a_m_then a_m_by H.size m_thrown m_trace m_typed m_next m_token m_place m_value m_fault m_rooms m_people m_things m_draftRooms m_draftPeople m_draftThings m_dueMany r1 hu2) (cwV 0 hts gX7_takes_X7_isWell rfl rfl rfl hd_X7_isWell ⟨Nat.le_of_ble_eq_true rfl, Nat.le_of_ble_eq_true rfl⟩) (pre_V E hw [0] rfl rfl rfl rfl) rfl rfl hl.1 rfl (lv_room (Nat.le_of_ble_eq_true rfl)) dX7_takes_1 ⟨Nat.zero_le _, Nat.zero_le _⟩) rfl rfl rfl (by decide) rfl rfl (fun H locs hw => ?_)
  refine lv_if_ne (tgt := 9) hx hb dX7_takes_4 (by decide) (fun kc => ?_) (fun kc => ?_)
  · have hf := if_f hf kc
    refine lv_iload_n hx hb dX7_takes_9 rfl (lv_at hl 1 rfl) ?_
    refine lv_if_ne (tgt := 23) hx hb dX7_takes_10 (by decide) (fun kc => ?_) (fun kc => ?_)
    · have hf := if_f hf kc
      refine lv_aload_n hx hb dX7_takes_23 rfl (lv_at hl 0 rfl) ?_
      refine r_get E hw iX7 0 7 rfl rfl (by decide) kf96 rfl rfl dX7_takes_24 ?_
      refine lv_istore_n (lv' := [(2, .int m_value), (0, .ref a_m), (1, .int p1)]) hx hb dX7_takes_27 rfl hl (by decide) rfl (fun ls hl => ?_)
      refine lv_aload_n hx hb dX7_takes_28 rfl (lv_at hl 1 rfl) ?_
      obtain ⟨u3, u4, u5, u6, hu7, hf⟩ := bd4_some hf
      refine cl_v (wr := []) (w2 := [(a_m, .inr (7, [.int m_thrown, .long m_trace, .ref a_m_text, .int m_typed, .int u3, .int u4, .int u5, .int u6, .int m_fault, .ref a_m_lifts, .ref a_m_price, .ref a_m_stood, .ref a_m_hands, .ref a_m_wanted, .int m_rooms, .int m_people, .int m_things, .int m_draftRooms, .int m_draftPeople, .int m_draftThings, .ref a_m_s, .ref a_m_kept, .ref a_m_isKept, .ref a_m_due, .int m_dueMany, .ref a_m_cost, .ref a_m_then, .ref a_m_by])), (a_m_text, .inl (cI, 300, .inl m_text))]) E hw [0, 1] [] [0, 1] (va_runV (As := []) (rest := []) E.1 (c_X7_advances l dC dI cI cB cZ aK aV a_m a_m_text a_m_lifts a_m_price a_m_stood a_m_hands a_m_wanted a_m_s a_m_kept a_m_isKept a_m_due a_m_cost a_m_then a_m_by H.size m_thrown m_trace m_typed m_next m_token m_place m_value m_fault m_rooms m_people m_things m_draftRooms m_draftPeople m_draftThings m_dueMany m_text u3 u4 u5 u6 hu7) (cwV 0 hts gX7_takes_X7_advances rfl rfl rfl hd_X7_advances ⟨Nat.le_of_ble_eq_true rfl, Nat.le_of_ble_eq_true rfl⟩) (pre_V E hw [0, 1] rfl rfl rfl rfl) rfl rfl hl.1 rfl (lv_room (Nat.le_of_ble_eq_true rfl)) dX7_takes_29 ⟨Nat.zero_le _, Nat.zero_le _⟩) rfl rfl rfl (by decide) rfl rfl (fun H locs hw => ?_)
      refine lv_iload_n hx hb dX7_takes_32 rfl (lv_at hl 0 rfl) ?_
      obtain ⟨rfl, rfl, rfl, rfl, rfl, rfl⟩ := sm6 hf
      exact hret H locs ls 33 hw dX7_takes_33
    · have hf := if_t hf kc
      refine lv_aload_n hx hb dX7_takes_13 rfl (lv_at hl 0 rfl) ?_
      refine lv_aload_n hx hb dX7_takes_14 rfl (lv_at hl 0 rfl) ?_
      refine r_get E hw iX7 0 6 rfl rfl (by decide) kf86 rfl rfl dX7_takes_15 ?_
      refine r_put E hw iX7 tyX7_ok nmX7 0 8 rfl rfl (by decide) kf99 rfl rfl rfl rfl (Nat.le_of_ble_eq_true rfl) [(a_m, .inr (7, [.int m_thrown, .long m_trace, .ref a_m_text, .int m_typed, .int m_next, .int m_token, .int m_place, .int m_value, .int m_place, .ref a_m_lifts, .ref a_m_price, .ref a_m_stood, .ref a_m_hands, .ref a_m_wanted, .int m_rooms, .int m_people, .int m_things, .int m_draftRooms, .int m_draftPeople, .int m_draftThings, .ref a_m_s, .ref a_m_kept, .ref a_m_isKept, .ref a_m_due, .int m_dueMany, .ref a_m_cost, .ref a_m_then, .ref a_m_by])), (a_m_text, .inl (cI, 300, .inl m_text))] rfl dX7_takes_18 (fun H locs hw => ?_)
      refine lv_iconst (v := (0 : Int32)) hx hb dX7_takes_21 rfl ?_
      obtain ⟨rfl, rfl, rfl, rfl, rfl, rfl⟩ := sm6 hf
      exact hret H locs ls 22 hw dX7_takes_22
  · have hf := if_t hf kc
    refine lv_iconst (v := (0 : Int32)) hx hb dX7_takes_7 rfl ?_
    obtain ⟨rfl, rfl, rfl, rfl, rfl, rfl⟩ := sm6 hf
    exact hret H locs ls 8 hw dX7_takes_8
def f_X7_number (p1 : Int32) (p2 : Int32) (m_typed : Int32) (m_next : Int32) (m_token : Int32) (m_place : Int32) (m_value : Int32) (m_fault : Int32) (m_text : Nat → Int32) : Option (Int32 × Int32 × Int32 × Int32 × Int32 × Int32) :=
  jn (fun (x3 : Int32) => bd6 (f_X7_takes x3 m_typed m_next m_token m_place m_value m_fault m_text) (fun r4 u5 u6 u7 u8 u9 => some (r4, u5, u6, u7, u8, u9))) (fun J26 => jn (J26 (0 : Int32)) (fun J25 => (if m_token = (2 : Int32) then bd1 (f_X7_in m_value p1 p2) (fun r1 => (if r1 = 0 then J25 else J26 (1 : Int32))) else J25)))
theorem hd_X7_number : yX7_number.cls = RX7 ∧ yX7_number.cls ≠ "java/lang/invoke/MethodHandle" ∧ yX7_number.cls ≠ "java/lang/invoke/VarHandle" ∧ (parseMethodDescriptor yX7_number.desc).map (fun d => d.parameters.length) = some 2 := by decide +kernel
set_option maxHeartbeats 4000000 in
set_option maxRecDepth 100000 in
theorem c_X7_number (l : Launch) (dC : Nat → ClassId) (dI : Nat → Nat → Nat) (cI cB cZ : ClassId) (aK aV : Nat → Nat) (a_m a_m_text a_m_lifts a_m_price a_m_stood a_m_hands a_m_wanted a_m_s a_m_kept a_m_isKept a_m_due a_m_cost a_m_then a_m_by : Nat) (sz : Nat) (m_thrown : Int32) (m_trace : Int64) (m_typed : Int32) (m_next : Int32) (m_token : Int32) (m_place : Int32) (m_value : Int32) (m_fault : Int32) (m_rooms : Int32) (m_people : Int32) (m_things : Int32) (m_draftRooms : Int32) (m_draftPeople : Int32) (m_draftThings : Int32) (m_dueMany : Int32) (m_text : Nat → Int32) (p1 : Int32) (p2 : Int32) (r : Int32) (q0 : Int32) (q1 : Int32) (q2 : Int32) (q3 : Int32) (q4 : Int32) (hf : f_X7_number p1 p2 m_typed m_next m_token m_place m_value m_fault m_text = some (r, q0, q1, q2, q3, q4)) : Met l yX7_number wsX7_number ({ frames := 5, cells := 0, slots := 0, locals := 114 } : Jvm.Room) (va_Pc [.ref a_m, .int p1, .int p2] (preW (dC, dI) (tyL cI cB cZ) aK aV sz [(a_m, .inr (7, [.int m_thrown, .long m_trace, .ref a_m_text, .int m_typed, .int m_next, .int m_token, .int m_place, .int m_value, .int m_fault, .ref a_m_lifts, .ref a_m_price, .ref a_m_stood, .ref a_m_hands, .ref a_m_wanted, .int m_rooms, .int m_people, .int m_things, .int m_draftRooms, .int m_draftPeople, .int m_draftThings, .ref a_m_s, .ref a_m_kept, .ref a_m_isKept, .ref a_m_due, .int m_dueMany, .ref a_m_cost, .ref a_m_then, .ref a_m_by])), (a_m_text, .inl (cI, 300, .inl m_text))])) (va_Qi (fun v (_ : Unit) => v = r) (postW (dC, dI) (tyL cI cB cZ) (va_A [(a_m, .inr (7, [.int m_thrown, .long m_trace, .ref a_m_text, .int m_typed, .int m_next, .int m_token, .int m_place, .int m_value, .int m_fault, .ref a_m_lifts, .ref a_m_price, .ref a_m_stood, .ref a_m_hands, .ref a_m_wanted, .int m_rooms, .int m_people, .int m_things, .int m_draftRooms, .int m_draftPeople, .int m_draftThings, .ref a_m_s, .ref a_m_kept, .ref a_m_isKept, .ref a_m_due, .int m_dueMany, .ref a_m_cost, .ref a_m_then, .ref a_m_by])), (a_m_text, .inl (cI, 300, .inl m_text))] sz) [(a_m, .inr (7, [.int m_thrown, .long m_trace, .ref a_m_text, .int m_typed, .int q0, .int q1, .int q2, .int q3, .int q4, .ref a_m_lifts, .ref a_m_price, .ref a_m_stood, .ref a_m_hands, .ref a_m_wanted, .int m_rooms, .int m_people, .int m_things, .int m_draftRooms, .int m_draftPeople, .int m_draftThings, .ref a_m_s, .ref a_m_kept, .ref a_m_isKept, .ref a_m_due, .int m_dueMany, .ref a_m_cost, .ref a_m_then, .ref a_m_by])), (a_m_text, .inl (cI, 300, .inl m_text))]) (va_A [(a_m, .inr (7, [.int m_thrown, .long m_trace, .ref a_m_text, .int m_typed, .int m_next, .int m_token, .int m_place, .int m_value, .int m_fault, .ref a_m_lifts, .ref a_m_price, .ref a_m_stood, .ref a_m_hands, .ref a_m_wanted, .int m_rooms, .int m_people, .int m_things, .int m_draftRooms, .int m_draftPeople, .int m_draftThings, .ref a_m_s, .ref a_m_kept, .ref a_m_isKept, .ref a_m_due, .int m_dueMany, .ref a_m_cost, .ref a_m_then, .ref a_m_by])), (a_m_text, .inl (cI, 300, .inl m_text))] sz)) 0 0 (va_A [(a_m, .inr (7, [.int m_thrown, .long m_trace, .ref a_m_text, .int m_typed, .int m_next, .int m_token, .int m_place, .int m_value, .int m_fault, .ref a_m_lifts, .ref a_m_price, .ref a_m_stood, .ref a_m_hands, .ref a_m_wanted, .int m_rooms, .int m_people, .int m_things, .int m_draftRooms, .int m_draftPeople, .int m_draftThings, .ref a_m_s, .ref a_m_kept, .ref a_m_isKept, .ref a_m_due, .int m_dueMany, .ref a_m_cost, .ref a_m_then, .ref a_m_by])), (a_m_text, .inl (cI, 300, .inl m_text))] sz) := by
  refine met_i (cc := cX7_number) (maxL := 3) (own := RX7) (by decide) rfl (Nat.le_of_ble_eq_true rfl) rfl (fun p e s m args below meth c Q A E hret ls H locs hl hw => ?_)
  obtain ⟨⟨hx, hb, hml, hown, hts⟩, hK, hN, hA, hX⟩ := id E
  have hl : lv_has ls 3 [(0, .ref a_m), (1, .int p1), (2, .int p2)] := hl
  have iX7 : ∀ w ∈ wsX70, w ∈ wsX7_number := by decide +kernel
  have kf89 := hts (.fieldLink RX7 89 "FiveThingsModel" "token" "I") (by decide +kernel)
  have kf96 := hts (.fieldLink RX7 96 "FiveThingsModel" "value" "I") (by decide +kernel)
  unfold f_X7_number at hf
  refine lv_aload_n hx hb dX7_number_0 rfl (lv_at hl 0 rfl) ?_
  refine lv_aload_n hx hb dX7_number_1 rfl (lv_at hl 0 rfl) ?_
  refine r_get E hw iX7 0 5 rfl rfl (by decide) kf89 rfl rfl dX7_number_2 ?_
  refine lv_iconst (v := (2 : Int32)) hx hb dX7_number_5 rfl ?_
  refine jn_sound (P := fun J => ∀ (x3 : Int32) (ls : Array Slot) (H : Heap) (locs : List Loc), J x3 = some (r, q0, q1, q2, q3, q4) → lv_has ls 3 [] → Wd A s.heap (dC, dI) [(a_m, .inr (7, [.int m_thrown, .long m_trace, .ref a_m_text, .int m_typed, .int m_next, .int m_token, .int m_place, .int m_value, .int m_fault, .ref a_m_lifts, .ref a_m_price, .ref a_m_stood, .ref a_m_hands, .ref a_m_wanted, .int m_rooms, .int m_people, .int m_things, .int m_draftRooms, .int m_draftPeople, .int m_draftThings, .ref a_m_s, .ref a_m_kept, .ref a_m_isKept, .ref a_m_due, .int m_dueMany, .ref a_m_cost, .ref a_m_then, .ref a_m_by])), (a_m_text, .inl (cI, 300, .inl m_text))] H locs → W p l e ({ frames := 5, cells := 0, slots := 0, locals := 114 } : Jvm.Room) s m args below meth c H locs 0 0 Q (F0 m 26 ls [.int x3, .ref a_m])) hf ?_ ?_
  · intro x3 ls H locs hf hl hw
    obtain ⟨r4, u5, u6, u7, u8, u9, hu10, hf⟩ := bd6_some hf
    refine cl_i (wr := []) (w2 := [(a_m, .inr (7, [.int m_thrown, .long m_trace, .ref a_m_text, .int m_typed, .int u5, .int u6, .int u7, .int u8, .int u9, .ref a_m_lifts, .ref a_m_price, .ref a_m_stood, .ref a_m_hands, .ref a_m_wanted, .int m_rooms, .int m_people, .int m_things, .int m_draftRooms, .int m_draftPeople, .int m_draftThings, .ref a_m_s, .ref a_m_kept, .ref a_m_isKept, .ref a_m_due, .int m_dueMany, .ref a_m_cost, .ref a_m_then, .ref a_m_by])), (a_m_text, .inl (cI, 300, .inl m_text))]) E hw [0, 1] [] [0, 1] (va_runV (As := [.int x3]) (rest := []) E.1 (c_X7_takes l dC dI cI cB cZ aK aV a_m a_m_text a_m_lifts a_m_price a_m_stood a_m_hands a_m_wanted a_m_s a_m_kept a_m_isKept a_m_due a_m_cost a_m_then a_m_by H.size m_thrown m_trace m_typed m_next m_token m_place m_value m_fault m_rooms m_people m_things m_draftRooms m_draftPeople m_draftThings m_dueMany m_text x3 r4 u5 u6 u7 u8 u9 hu10) (cwV 1 hts gX7_number_X7_takes rfl rfl rfl hd_X7_takes ⟨Nat.le_of_ble_eq_true rfl, Nat.le_of_ble_eq_true rfl⟩) (pre_V E hw [0, 1] rfl rfl rfl rfl) rfl rfl hl.1 rfl (lv_room (Nat.le_of_ble_eq_true rfl)) dX7_number_26 ⟨Nat.zero_le _, Nat.zero_le _⟩) rfl rfl rfl (by decide) rfl rfl (fun H locs hw => ?_)
    obtain ⟨rfl, rfl, rfl, rfl, rfl, rfl⟩ := sm6 hf
    exact hret H locs ls 29 hw dX7_number_29
  · intro J26 hJ26 hf
    refine jn_sound (P := fun J => ∀ (ls : Array Slot) (H : Heap) (locs : List Loc), J = some (r, q0, q1, q2, q3, q4) → lv_has ls 3 [] → Wd A s.heap (dC, dI) [(a_m, .inr (7, [.int m_thrown, .long m_trace, .ref a_m_text, .int m_typed, .int m_next, .int m_token, .int m_place, .int m_value, .int m_fault, .ref a_m_lifts, .ref a_m_price, .ref a_m_stood, .ref a_m_hands, .ref a_m_wanted, .int m_rooms, .int m_people, .int m_things, .int m_draftRooms, .int m_draftPeople, .int m_draftThings, .ref a_m_s, .ref a_m_kept, .ref a_m_isKept, .ref a_m_due, .int m_dueMany, .ref a_m_cost, .ref a_m_then, .ref a_m_by])), (a_m_text, .inl (cI, 300, .inl m_text))] H locs → W p l e ({ frames := 5, cells := 0, slots := 0, locals := 114 } : Jvm.Room) s m args below meth c H locs 0 0 Q (F0 m 25 ls [.ref a_m])) hf ?_ ?_
    · intro ls H locs hf hl hw
      refine lv_iconst (v := (0 : Int32)) hx hb dX7_number_25 rfl ?_
      exact hJ26 (0 : Int32) ls H locs hf hl hw
    · intro J25 hJ25 hf
      refine lv_icmp_ne (tgt := 25) hx hb dX7_number_6 (by decide) (fun kc => ?_) (fun kc => ?_)
      · have hf := if_f hf kc
        exact hJ25 ls H locs hf (lv_sub hl [] rfl) hw
      · have hf := if_t hf kc
        refine lv_aload_n hx hb dX7_number_9 rfl (lv_at hl 0 rfl) ?_
        refine r_get E hw iX7 0 7 rfl rfl (by decide) kf96 rfl rfl dX7_number_10 ?_
        refine lv_iload_n hx hb dX7_number_13 rfl (lv_at hl 1 rfl) ?_
        refine lv_iload_n hx hb dX7_number_14 rfl (lv_at hl 2 rfl) ?_
        obtain ⟨r1, hu2, hf⟩ := bd1_some hf
        refine cl_i (wr := [(a_m, .inr (7, [.int m_thrown, .long m_trace, .ref a_m_text, .int m_typed, .int m_next, .int m_token, .int m_place, .int m_value, .int m_fault, .ref a_m_lifts, .ref a_m_price, .ref a_m_stood, .ref a_m_hands, .ref a_m_wanted, .int m_rooms, .int m_people, .int m_things, .int m_draftRooms, .int m_draftPeople, .int m_draftThings, .ref a_m_s, .ref a_m_kept, .ref a_m_isKept, .ref a_m_due, .int m_dueMany, .ref a_m_cost, .ref a_m_then, .ref a_m_by])), (a_m_text, .inl (cI, 300, .inl m_text))]) (w2 := [(a_m, .inr (7, [.int m_thrown, .long m_trace, .ref a_m_text, .int m_typed, .int m_next, .int m_token, .int m_place, .int m_value, .int m_fault, .ref a_m_lifts, .ref a_m_price, .ref a_m_stood, .ref a_m_hands, .ref a_m_wanted, .int m_rooms, .int m_people, .int m_things, .int m_draftRooms, .int m_draftPeople, .int m_draftThings, .ref a_m_s, .ref a_m_kept, .ref a_m_isKept, .ref a_m_due, .int m_dueMany, .ref a_m_cost, .ref a_m_then, .ref a_m_by])), (a_m_text, .inl (cI, 300, .inl m_text))]) E hw [] [0, 1] [0, 1] (va_runS (As := [.int m_value, .int p1, .int p2]) (rest := [.ref a_m]) E.1 (c_X7_in l dC dI cI cB cZ aK aV H.size m_value p1 p2 r1 hu2) (va_cwS 3 hts gX7_number_X7_in rfl rfl rfl hd_X7_in ⟨Nat.le_of_ble_eq_true rfl, Nat.le_of_ble_eq_true rfl⟩) (pre_S E hw [] rfl rfl) rfl rfl hl.1 rfl (lv_room (Nat.le_of_ble_eq_true rfl)) dX7_number_15 ⟨Nat.zero_le _, Nat.zero_le _⟩) rfl rfl rfl (by decide) rfl rfl (fun H locs hw => ?_)
        refine lv_if_eq (tgt := 25) hx hb dX7_number_18 (by decide) (fun kc => ?_) (fun kc => ?_)
        · have hf := if_t hf kc
          exact hJ25 ls H locs hf (lv_sub hl [] rfl) hw
        · have hf := if_f hf kc
          refine lv_iconst (v := (1 : Int32)) hx hb dX7_number_21 rfl ?_
          refine lv_goto (tgt := 26) hx hb dX7_number_22 (by decide) ?_
          exact hJ26 (1 : Int32) ls H locs hf (lv_sub hl [] rfl) hw
def f_X7_readsItem (p1 : Int32) (m_typed : Int32) (m_next : Int32) (m_token : Int32) (m_place : Int32) (m_value : Int32) (m_fault : Int32) (m_draftRooms : Int32) (m_draftPeople : Int32) (m_draftThings : Int32) (m_text : Nat → Int32) (m_lifts : Nat → Int32) (m_price : Nat → Int32) (m_stood : Nat → Int32) (m_hands : Nat → Int32) (m_wanted : Nat → Int32) : Option (Int32 × Int32 × Int32 × Int32 × Int32 × (Nat → Int32) × Int32 × (Nat → Int32) × (Nat → Int32) × Int32 × (Nat → Int32) × (Nat → Int32) × Int32) :=
  (if p1 = 0 then bd6 (f_X7_number (2 : Int32) (6 : Int32) m_typed m_next m_token m_place m_value m_fault m_text) (fun r51 u52 u53 u54 u55 u56 => bd1 (f_X7_isWell u56) (fun r58 => jn (fun (x60 : Int32) => some (u52, u53, u54, u55, u56, m_wanted, m_draftThings, m_stood, m_hands, m_draftPeople, m_lifts, m_price, x60)) (fun J28 => (if r58 = 0 then J28 m_draftRooms else J28 r51)))) else (if p1 = (1 : Int32) then bd6 (f_X7_number (1 : Int32) (9 : Int32) m_typed m_next m_token m_place m_value m_fault m_text) (fun r35 u36 u37 u38 u39 u40 => gd (inb ((4 : Int32) + m_draftPeople) 8) (bd6 (f_X7_number (0 : Int32) (9 : Int32) m_typed u36 u37 u38 u39 u40 m_text) (fun r43 u44 u45 u46 u47 u48 => gd (inb ((4 : Int32) + m_draftPeople) 8) (some (u44, u45, u46, u47, u48, m_wanted, m_draftThings, m_stood, m_hands, (m_draftPeople + (1 : Int32)), (upd m_lifts ((4 : Int32) + m_draftPeople).toNatClampNeg r35), (upd m_price ((4 : Int32) + m_draftPeople).toNatClampNeg r43), m_draftRooms))))) else (if p1 = (2 : Int32) then bd6 (f_X7_number (0 : Int32) (m_draftRooms - (1 : Int32)) m_typed m_next m_token m_place m_value m_fault m_text) (fun r18 u19 u20 u21 u22 u23 => gd (inb ((8 : Int32) + m_draftThings) 16) (bd6 (f_X7_number (1 : Int32) (3 : Int32) m_typed u19 u20 u21 u22 u23 m_text) (fun r26 u27 u28 u29 u30 u31 => gd (inb ((8 : Int32) + m_draftThings) 16) (gd (inb ((8 : Int32) + m_draftThings) 16) (some (u27, u28, u29, u30, u31, (upd m_wanted ((8 : Int32) + m_draftThings).toNatClampNeg (-9 : Int32)), (m_draftThings + (1 : Int32)), (upd m_stood ((8 : Int32) + m_draftThings).toNatClampNeg r18), (upd m_hands ((8 : Int32) + m_draftThings).toNatClampNeg r26), m_draftPeople, m_lifts, m_price, m_draftRooms)))))) else bd6 (f_X7_number (0 : Int32) (m_draftThings - (1 : Int32)) m_typed m_next m_token m_place m_value m_fault m_text) (fun r1 u2 u3 u4 u5 u6 => bd6 (f_X7_number (0 : Int32) (m_draftRooms - (1 : Int32)) m_typed u2 u3 u4 u5 u6 m_text) (fun r8 u9 u10 u11 u12 u13 => bd1 (f_X7_isWell u13) (fun r15 => (if r15 = 0 then some (u9, u10, u11, u12, u13, m_wanted, m_draftThings, m_stood, m_hands, m_draftPeople, m_lifts, m_price, m_draftRooms) else gd (inb ((8 : Int32) + r1) 16) (some (u9, u10, u11, u12, u13, (upd m_wanted ((8 : Int32) + r1).toNatClampNeg r8), m_draftThings, m_stood, m_hands, m_draftPeople, m_lifts, m_price, m_draftRooms)))))))))
theorem hd_X7_readsItem : yX7_readsItem.cls = RX7 ∧ yX7_readsItem.cls ≠ "java/lang/invoke/MethodHandle" ∧ yX7_readsItem.cls ≠ "java/lang/invoke/VarHandle" ∧ (parseMethodDescriptor yX7_readsItem.desc).map (fun d => d.parameters.length) = some 1 := by decide +kernel
set_option maxHeartbeats 4000000 in
set_option maxRecDepth 100000 in
theorem c_X7_readsItem (l : Launch) (dC : Nat → ClassId) (dI : Nat → Nat → Nat) (cI cB cZ : ClassId) (aK aV : Nat → Nat) (a_m a_m_text a_m_lifts a_m_price a_m_stood a_m_hands a_m_wanted a_m_s a_m_kept a_m_isKept a_m_due a_m_cost a_m_then a_m_by : Nat) (sz : Nat) (m_thrown : Int32) (m_trace : Int64) (m_typed : Int32) (m_next : Int32) (m_token : Int32) (m_place : Int32) (m_value : Int32) (m_fault : Int32) (m_rooms : Int32) (m_people : Int32) (m_things : Int32) (m_draftRooms : Int32) (m_draftPeople : Int32) (m_draftThings : Int32) (m_dueMany : Int32) (m_text : Nat → Int32) (m_lifts : Nat → Int32) (m_price : Nat → Int32) (m_stood : Nat → Int32) (m_hands : Nat → Int32) (m_wanted : Nat → Int32) (p1 : Int32) (q0 : Int32) (q1 : Int32) (q2 : Int32) (q3 : Int32) (q4 : Int32) (q5 : Nat → Int32) (q6 : Int32) (q7 : Nat → Int32) (q8 : Nat → Int32) (q9 : Int32) (q10 : Nat → Int32) (q11 : Nat → Int32) (q12 : Int32) (hf : f_X7_readsItem p1 m_typed m_next m_token m_place m_value m_fault m_draftRooms m_draftPeople m_draftThings m_text m_lifts m_price m_stood m_hands m_wanted = some (q0, q1, q2, q3, q4, q5, q6, q7, q8, q9, q10, q11, q12)) : Met l yX7_readsItem wsX7_readsItem ({ frames := 6, cells := 0, slots := 0, locals := 136 } : Jvm.Room) (va_Pc [.ref a_m, .int p1] (preW (dC, dI) (tyL cI cB cZ) aK aV sz [(a_m, .inr (7, [.int m_thrown, .long m_trace, .ref a_m_text, .int m_typed, .int m_next, .int m_token, .int m_place, .int m_value, .int m_fault, .ref a_m_lifts, .ref a_m_price, .ref a_m_stood, .ref a_m_hands, .ref a_m_wanted, .int m_rooms, .int m_people, .int m_things, .int m_draftRooms, .int m_draftPeople, .int m_draftThings, .ref a_m_s, .ref a_m_kept, .ref a_m_isKept, .ref a_m_due, .int m_dueMany, .ref a_m_cost, .ref a_m_then, .ref a_m_by])), (a_m_text, .inl (cI, 300, .inl m_text)), (a_m_lifts, .inl (cI, 8, .inl m_lifts)), (a_m_price, .inl (cI, 8, .inl m_price)), (a_m_stood, .inl (cI, 16, .inl m_stood)), (a_m_hands, .inl (cI, 16, .inl m_hands)), (a_m_wanted, .inl (cI, 16, .inl m_wanted))])) (va_Qv (fun (_ : Unit) => True) (postW (dC, dI) (tyL cI cB cZ) (va_A [(a_m, .inr (7, [.int m_thrown, .long m_trace, .ref a_m_text, .int m_typed, .int m_next, .int m_token, .int m_place, .int m_value, .int m_fault, .ref a_m_lifts, .ref a_m_price, .ref a_m_stood, .ref a_m_hands, .ref a_m_wanted, .int m_rooms, .int m_people, .int m_things, .int m_draftRooms, .int m_draftPeople, .int m_draftThings, .ref a_m_s, .ref a_m_kept, .ref a_m_isKept, .ref a_m_due, .int m_dueMany, .ref a_m_cost, .ref a_m_then, .ref a_m_by])), (a_m_text, .inl (cI, 300, .inl m_text)), (a_m_lifts, .inl (cI, 8, .inl m_lifts)), (a_m_price, .inl (cI, 8, .inl m_price)), (a_m_stood, .inl (cI, 16, .inl m_stood)), (a_m_hands, .inl (cI, 16, .inl m_hands)), (a_m_wanted, .inl (cI, 16, .inl m_wanted))] sz) [(a_m, .inr (7, [.int m_thrown, .long m_trace, .ref a_m_text, .int m_typed, .int q0, .int q1, .int q2, .int q3, .int q4, .ref a_m_lifts, .ref a_m_price, .ref a_m_stood, .ref a_m_hands, .ref a_m_wanted, .int m_rooms, .int m_people, .int m_things, .int q12, .int q9, .int q6, .ref a_m_s, .ref a_m_kept, .ref a_m_isKept, .ref a_m_due, .int m_dueMany, .ref a_m_cost, .ref a_m_then, .ref a_m_by])), (a_m_text, .inl (cI, 300, .inl m_text)), (a_m_lifts, .inl (cI, 8, .inl q10)), (a_m_price, .inl (cI, 8, .inl q11)), (a_m_stood, .inl (cI, 16, .inl q7)), (a_m_hands, .inl (cI, 16, .inl q8)), (a_m_wanted, .inl (cI, 16, .inl q5))]) (va_A [(a_m, .inr (7, [.int m_thrown, .long m_trace, .ref a_m_text, .int m_typed, .int m_next, .int m_token, .int m_place, .int m_value, .int m_fault, .ref a_m_lifts, .ref a_m_price, .ref a_m_stood, .ref a_m_hands, .ref a_m_wanted, .int m_rooms, .int m_people, .int m_things, .int m_draftRooms, .int m_draftPeople, .int m_draftThings, .ref a_m_s, .ref a_m_kept, .ref a_m_isKept, .ref a_m_due, .int m_dueMany, .ref a_m_cost, .ref a_m_then, .ref a_m_by])), (a_m_text, .inl (cI, 300, .inl m_text)), (a_m_lifts, .inl (cI, 8, .inl m_lifts)), (a_m_price, .inl (cI, 8, .inl m_price)), (a_m_stood, .inl (cI, 16, .inl m_stood)), (a_m_hands, .inl (cI, 16, .inl m_hands)), (a_m_wanted, .inl (cI, 16, .inl m_wanted))] sz)) 0 0 (va_A [(a_m, .inr (7, [.int m_thrown, .long m_trace, .ref a_m_text, .int m_typed, .int m_next, .int m_token, .int m_place, .int m_value, .int m_fault, .ref a_m_lifts, .ref a_m_price, .ref a_m_stood, .ref a_m_hands, .ref a_m_wanted, .int m_rooms, .int m_people, .int m_things, .int m_draftRooms, .int m_draftPeople, .int m_draftThings, .ref a_m_s, .ref a_m_kept, .ref a_m_isKept, .ref a_m_due, .int m_dueMany, .ref a_m_cost, .ref a_m_then, .ref a_m_by])), (a_m_text, .inl (cI, 300, .inl m_text)), (a_m_lifts, .inl (cI, 8, .inl m_lifts)), (a_m_price, .inl (cI, 8, .inl m_price)), (a_m_stood, .inl (cI, 16, .inl m_stood)), (a_m_hands, .inl (cI, 16, .inl m_hands)), (a_m_wanted, .inl (cI, 16, .inl m_wanted))] sz) := by
  refine met_v (cc := cX7_readsItem) (maxL := 4) (own := RX7) (by decide) rfl (Nat.le_of_ble_eq_true rfl) rfl (fun p e s m args below meth c Q A E hret ls H locs hl hw => ?_)
  obtain ⟨⟨hx, hb, hml, hown, hts⟩, hK, hN, hA, hX⟩ := id E
  have hl : lv_has ls 4 [(0, .ref a_m), (1, .int p1)] := hl
  have iX7 : ∀ w ∈ wsX70, w ∈ wsX7_readsItem := by decide +kernel
  have kf123 := hts (.fieldLink RX7 123 "FiveThingsModel" "draftThings" "I") (by decide +kernel)
  have kf117 := hts (.fieldLink RX7 117 "FiveThingsModel" "draftRooms" "I") (by decide +kernel)
  have kf25 := hts (.fieldLink RX7 25 "FiveThingsModel" "wanted" "[I") (by decide +kernel)
  have kf19 := hts (.fieldLink RX7 19 "FiveThingsModel" "stood" "[I") (by decide +kernel)
  have kf22 := hts (.fieldLink RX7 22 "FiveThingsModel" "hands" "[I") (by decide +kernel)
  have kf13 := hts (.fieldLink RX7 13 "FiveThingsModel" "lifts" "[I") (by decide +kernel)
  have kf120 := hts (.fieldLink RX7 120 "FiveThingsModel" "draftPeople" "I") (by decide +kernel)
  have kf16 := hts (.fieldLink RX7 16 "FiveThingsModel" "price" "[I") (by decide +kernel)
  unfold f_X7_readsItem at hf
  refine lv_iload_n hx hb dX7_readsItem_0 rfl (lv_at hl 1 rfl) ?_
  refine lv_if_ne (tgt := 34) hx hb dX7_readsItem_1 (by decide) (fun kc => ?_) (fun kc => ?_)
  · have hf := if_f hf kc
    refine lv_iload_n hx hb dX7_readsItem_34 rfl (lv_at hl 1 rfl) ?_
    refine lv_iconst (v := (1 : Int32)) hx hb dX7_readsItem_35 rfl ?_
    refine lv_icmp_ne (tgt := 88) hx hb dX7_readsItem_36 (by decide) (fun kc => ?_) (fun kc => ?_)
    · have hf := if_f hf kc
      refine lv_iload_n hx hb dX7_readsItem_88 rfl (lv_at hl 1 rfl) ?_
      refine lv_iconst (v := (2 : Int32)) hx hb dX7_readsItem_89 rfl ?_
      refine lv_icmp_ne (tgt := 161) hx hb dX7_readsItem_90 (by decide) (fun kc => ?_) (fun kc => ?_)
      · have hf := if_f hf kc
        refine lv_aload_n hx hb dX7_readsItem_161 rfl (lv_at hl 0 rfl) ?_
        refine lv_iconst (v := (0 : Int32)) hx hb dX7_readsItem_162 rfl ?_
        refine lv_aload_n hx hb dX7_readsItem_163 rfl (lv_at hl 0 rfl) ?_
        refine r_get E hw iX7 0 19 rfl rfl (by decide) kf123 rfl rfl dX7_readsItem_164 ?_
        refine lv_iconst (v := (1 : Int32)) hx hb dX7_readsItem_167 rfl ?_
        refine lv_isub hx hb dX7_readsItem_168 ?_
        obtain ⟨r1, u2, u3, u4, u5, u6, hu7, hf⟩ := bd6_some hf
        refine cl_i (wr := [(a_m_lifts, .inl (cI, 8, .inl m_lifts)), (a_m_price, .inl (cI, 8, .inl m_price)), (a_m_stood, .inl (cI, 16, .inl m_stood)), (a_m_hands, .inl (cI, 16, .inl m_hands)), (a_m_wanted, .inl (cI, 16, .inl m_wanted))]) (w2 := [(a_m, .inr (7, [.int m_thrown, .long m_trace, .ref a_m_text, .int m_typed, .int u2, .int u3, .int u4, .int u5, .int u6, .ref a_m_lifts, .ref a_m_price, .ref a_m_stood, .ref a_m_hands, .ref a_m_wanted, .int m_rooms, .int m_people, .int m_things, .int m_draftRooms, .int m_draftPeople, .int m_draftThings, .ref a_m_s, .ref a_m_kept, .ref a_m_isKept, .ref a_m_due, .int m_dueMany, .ref a_m_cost, .ref a_m_then, .ref a_m_by])), (a_m_text, .inl (cI, 300, .inl m_text)), (a_m_lifts, .inl (cI, 8, .inl m_lifts)), (a_m_price, .inl (cI, 8, .inl m_price)), (a_m_stood, .inl (cI, 16, .inl m_stood)), (a_m_hands, .inl (cI, 16, .inl m_hands)), (a_m_wanted, .inl (cI, 16, .inl m_wanted))]) E hw [0, 1] [2, 3, 4, 5, 6] [5, 6, 0, 1, 2, 3, 4] (va_runV (As := [.int (0 : Int32), .int (m_draftThings - (1 : Int32))]) (rest := []) E.1 (c_X7_number l dC dI cI cB cZ aK aV a_m a_m_text a_m_lifts a_m_price a_m_stood a_m_hands a_m_wanted a_m_s a_m_kept a_m_isKept a_m_due a_m_cost a_m_then a_m_by H.size m_thrown m_trace m_typed m_next m_token m_place m_value m_fault m_rooms m_people m_things m_draftRooms m_draftPeople m_draftThings m_dueMany m_text (0 : Int32) (m_draftThings - (1 : Int32)) r1 u2 u3 u4 u5 u6 hu7) (cwV 2 hts gX7_readsItem_X7_number rfl rfl rfl hd_X7_number ⟨Nat.le_of_ble_eq_true rfl, Nat.le_of_ble_eq_true rfl⟩) (pre_V E hw [0, 1] rfl rfl rfl rfl) rfl rfl hl.1 rfl (lv_room (Nat.le_of_ble_eq_true rfl)) dX7_readsItem_169 ⟨Nat.zero_le _, Nat.zero_le _⟩) rfl rfl rfl (by decide) rfl rfl (fun H locs hw => ?_)
        refine lv_istore_n (lv' := [(2, .int r1), (0, .ref a_m), (1, .int p1)]) hx hb dX7_readsItem_172 rfl hl (by decide) rfl (fun ls hl => ?_)
        refine lv_aload_n hx hb dX7_readsItem_173 rfl (lv_at hl 1 rfl) ?_
        refine lv_iconst (v := (0 : Int32)) hx hb dX7_readsItem_174 rfl ?_
        refine lv_aload_n hx hb dX7_readsItem_175 rfl (lv_at hl 1 rfl) ?_
        refine r_get E hw iX7 0 17 rfl rfl (by decide) kf117 rfl rfl dX7_readsItem_176 ?_
        refine lv_iconst (v := (1 : Int32)) hx hb dX7_readsItem_179 rfl ?_
        refine lv_isub hx hb dX7_readsItem_180 ?_
        obtain ⟨r8, u9, u10, u11, u12, u13, hu14, hf⟩ := bd6_some hf
        refine cl_i (wr := [(a_m_lifts, .inl (cI, 8, .inl m_lifts)), (a_m_price, .inl (cI, 8, .inl m_price)), (a_m_stood, .inl (cI, 16, .inl m_stood)), (a_m_hands, .inl (cI, 16, .inl m_hands)), (a_m_wanted, .inl (cI, 16, .inl m_wanted))]) (w2 := [(a_m, .inr (7, [.int m_thrown, .long m_trace, .ref a_m_text, .int m_typed, .int u9, .int u10, .int u11, .int u12, .int u13, .ref a_m_lifts, .ref a_m_price, .ref a_m_stood, .ref a_m_hands, .ref a_m_wanted, .int m_rooms, .int m_people, .int m_things, .int m_draftRooms, .int m_draftPeople, .int m_draftThings, .ref a_m_s, .ref a_m_kept, .ref a_m_isKept, .ref a_m_due, .int m_dueMany, .ref a_m_cost, .ref a_m_then, .ref a_m_by])), (a_m_text, .inl (cI, 300, .inl m_text)), (a_m_lifts, .inl (cI, 8, .inl m_lifts)), (a_m_price, .inl (cI, 8, .inl m_price)), (a_m_stood, .inl (cI, 16, .inl m_stood)), (a_m_hands, .inl (cI, 16, .inl m_hands)), (a_m_wanted, .inl (cI, 16, .inl m_wanted))]) E hw [0, 1] [2, 3, 4, 5, 6] [5, 6, 0, 1, 2, 3, 4] (va_runV (As := [.int (0 : Int32), .int (m_draftRooms - (1 : Int32))]) (rest := []) E.1 (c_X7_number l dC dI cI cB cZ aK aV a_m a_m_text a_m_lifts a_m_price a_m_stood a_m_hands a_m_wanted a_m_s a_m_kept a_m_isKept a_m_due a_m_cost a_m_then a_m_by H.size m_thrown m_trace m_typed u2 u3 u4 u5 u6 m_rooms m_people m_things m_draftRooms m_draftPeople m_draftThings m_dueMany m_text (0 : Int32) (m_draftRooms - (1 : Int32)) r8 u9 u10 u11 u12 u13 hu14) (cwV 2 hts gX7_readsItem_X7_number rfl rfl rfl hd_X7_number ⟨Nat.le_of_ble_eq_true rfl, Nat.le_of_ble_eq_true rfl⟩) (pre_V E hw [0, 1] rfl rfl rfl rfl) rfl rfl hl.1 rfl (lv_room (Nat.le_of_ble_eq_true rfl)) dX7_readsItem_181 ⟨Nat.zero_le _, Nat.zero_le _⟩) rfl rfl rfl (by decide) rfl rfl (fun H locs hw => ?_)
        refine lv_istore_n (lv' := [(3, .int r8), (2, .int r1), (0, .ref a_m), (1, .int p1)]) hx hb dX7_readsItem_184 rfl hl (by decide) rfl (fun ls hl => ?_)
        refine lv_aload_n hx hb dX7_readsItem_185 rfl (lv_at hl 2 rfl) ?_
        obtain ⟨r15, hu16, hf⟩ := bd1_some hf
        refine cl_i (wr := [(a_m_text, .inl (cI, 300, .inl m_text)), (a_m_lifts, .inl (cI, 8, .inl m_lifts)), (a_m_price, .inl (cI, 8, .inl m_price)), (a_m_stood, .inl (cI, 16, .inl m_stood)), (a_m_hands, .inl (cI, 16, .inl m_hands)), (a_m_wanted, .inl (cI, 16, .inl m_wanted))]) (w2 := [(a_m, .inr (7, [.int m_thrown, .long m_trace, .ref a_m_text, .int m_typed, .int u9, .int u10, .int u11, .int u12, .int u13, .ref a_m_lifts, .ref a_m_price, .ref a_m_stood, .ref a_m_hands, .ref a_m_wanted, .int m_rooms, .int m_people, .int m_things, .int m_draftRooms, .int m_draftPeople, .int m_draftThings, .ref a_m_s, .ref a_m_kept, .ref a_m_isKept, .ref a_m_due, .int m_dueMany, .ref a_m_cost, .ref a_m_then, .ref a_m_by])), (a_m_text, .inl (cI, 300, .inl m_text)), (a_m_lifts, .inl (cI, 8, .inl m_lifts)), (a_m_price, .inl (cI, 8, .inl m_price)), (a_m_stood, .inl (cI, 16, .inl m_stood)), (a_m_hands, .inl (cI, 16, .inl m_hands)), (a_m_wanted, .inl (cI, 16, .inl m_wanted))]) E hw [0] [1, 2, 3, 4, 5, 6] [6, 0, 1, 2, 3, 4, 5] (va_runV (As := []) (rest := []) E.1 (c_X7_isWell l dC dI cI cB cZ aK aV a_m a_m_text a_m_lifts a_m_price a_m_stood a_m_hands a_m_wanted a_m_s a_m_kept a_m_isKept a_m_due a_m_cost a_m_then a_m_by H.size m_thrown m_trace m_typed u9 u10 u11 u12 u13 m_rooms m_people m_things m_draftRooms m_draftPeople m_draftThings m_dueMany r15 hu16) (cwV 0 hts gX7_readsItem_X7_isWell rfl rfl rfl hd_X7_isWell ⟨Nat.le_of_ble_eq_true rfl, Nat.le_of_ble_eq_true rfl⟩) (pre_V E hw [0] rfl rfl rfl rfl) rfl rfl hl.1 rfl (lv_room (Nat.le_of_ble_eq_true rfl)) dX7_readsItem_186 ⟨Nat.zero_le _, Nat.zero_le _⟩) rfl rfl rfl (by decide) rfl rfl (fun H locs hw => ?_)
        refine lv_if_eq (tgt := 202) hx hb dX7_readsItem_189 (by decide) (fun kc => ?_) (fun kc => ?_)
        · have hf := if_t hf kc
          obtain ⟨rfl, rfl, rfl, rfl, rfl, rfl, rfl, rfl, rfl, rfl, rfl, rfl, rfl⟩ := sm13 hf
          exact hret H locs ls 202 hw dX7_readsItem_202
        · have hf := if_f hf kc
          refine lv_aload_n hx hb dX7_readsItem_192 rfl (lv_at hl 2 rfl) ?_
          refine r_get E hw iX7 0 13 rfl rfl (by decide) kf25 rfl rfl dX7_readsItem_193 ?_
          refine lv_bipush (v := (8 : Int32)) hx hb dX7_readsItem_196 rfl ?_
          refine lv_iload_n hx hb dX7_readsItem_198 rfl (lv_at hl 1 rfl) ?_
          refine lv_iadd hx hb dX7_readsItem_199 ?_
          refine lv_iload_n hx hb dX7_readsItem_200 rfl (lv_at hl 0 rfl) ?_
          obtain ⟨g17, hf⟩ := gd_some hf
          refine r_iast E hw 6 rfl g17 [(a_m, .inr (7, [.int m_thrown, .long m_trace, .ref a_m_text, .int m_typed, .int u9, .int u10, .int u11, .int u12, .int u13, .ref a_m_lifts, .ref a_m_price, .ref a_m_stood, .ref a_m_hands, .ref a_m_wanted, .int m_rooms, .int m_people, .int m_things, .int m_draftRooms, .int m_draftPeople, .int m_draftThings, .ref a_m_s, .ref a_m_kept, .ref a_m_isKept, .ref a_m_due, .int m_dueMany, .ref a_m_cost, .ref a_m_then, .ref a_m_by])), (a_m_text, .inl (cI, 300, .inl m_text)), (a_m_lifts, .inl (cI, 8, .inl m_lifts)), (a_m_price, .inl (cI, 8, .inl m_price)), (a_m_stood, .inl (cI, 16, .inl m_stood)), (a_m_hands, .inl (cI, 16, .inl m_hands)), (a_m_wanted, .inl (cI, 16, .inl (upd m_wanted ((8 : Int32) + r1).toNatClampNeg r8)))] rfl dX7_readsItem_201 (fun H locs hw => ?_)
          obtain ⟨rfl, rfl, rfl, rfl, rfl, rfl, rfl, rfl, rfl, rfl, rfl, rfl, rfl⟩ := sm13 hf
          exact hret H locs ls 202 hw dX7_readsItem_202
      · have hf := if_t hf kc
        refine lv_aload_n hx hb dX7_readsItem_93 rfl (lv_at hl 0 rfl) ?_
        refine r_get E hw iX7 0 11 rfl rfl (by decide) kf19 rfl rfl dX7_readsItem_94 ?_
        refine lv_bipush (v := (8 : Int32)) hx hb dX7_readsItem_97 rfl ?_
        refine lv_aload_n hx hb dX7_readsItem_99 rfl (lv_at hl 0 rfl) ?_
        refine r_get E hw iX7 0 19 rfl rfl (by decide) kf123 rfl rfl dX7_readsItem_100 ?_
        refine lv_iadd hx hb dX7_readsItem_103 ?_
        refine lv_aload_n hx hb dX7_readsItem_104 rfl (lv_at hl 0 rfl) ?_
        refine lv_iconst (v := (0 : Int32)) hx hb dX7_readsItem_105 rfl ?_
        refine lv_aload_n hx hb dX7_readsItem_106 rfl (lv_at hl 0 rfl) ?_
        refine r_get E hw iX7 0 17 rfl rfl (by decide) kf117 rfl rfl dX7_readsItem_107 ?_
        refine lv_iconst (v := (1 : Int32)) hx hb dX7_readsItem_110 rfl ?_
        refine lv_isub hx hb dX7_readsItem_111 ?_
        obtain ⟨r18, u19, u20, u21, u22, u23, hu24, hf⟩ := bd6_some hf
        refine cl_i (wr := [(a_m_lifts, .inl (cI, 8, .inl m_lifts)), (a_m_price, .inl (cI, 8, .inl m_price)), (a_m_stood, .inl (cI, 16, .inl m_stood)), (a_m_hands, .inl (cI, 16, .inl m_hands)), (a_m_wanted, .inl (cI, 16, .inl m_wanted))]) (w2 := [(a_m, .inr (7, [.int m_thrown, .long m_trace, .ref a_m_text, .int m_typed, .int u19, .int u20, .int u21, .int u22, .int u23, .ref a_m_lifts, .ref a_m_price, .ref a_m_stood, .ref a_m_hands, .ref a_m_wanted, .int m_rooms, .int m_people, .int m_things, .int m_draftRooms, .int m_draftPeople, .int m_draftThings, .ref a_m_s, .ref a_m_kept, .ref a_m_isKept, .ref a_m_due, .int m_dueMany, .ref a_m_cost, .ref a_m_then, .ref a_m_by])), (a_m_text, .inl (cI, 300, .inl m_text)), (a_m_lifts, .inl (cI, 8, .inl m_lifts)), (a_m_price, .inl (cI, 8, .inl m_price)), (a_m_stood, .inl (cI, 16, .inl m_stood)), (a_m_hands, .inl (cI, 16, .inl m_hands)), (a_m_wanted, .inl (cI, 16, .inl m_wanted))]) E hw [0, 1] [2, 3, 4, 5, 6] [5, 6, 0, 1, 2, 3, 4] (va_runV (As := [.int (0 : Int32), .int (m_draftRooms - (1 : Int32))]) (rest := [.int ((8 : Int32) + m_draftThings), .ref a_m_stood]) E.1 (c_X7_number l dC dI cI cB cZ aK aV a_m a_m_text a_m_lifts a_m_price a_m_stood a_m_hands a_m_wanted a_m_s a_m_kept a_m_isKept a_m_due a_m_cost a_m_then a_m_by H.size m_thrown m_trace m_typed m_next m_token m_place m_value m_fault m_rooms m_people m_things m_draftRooms m_draftPeople m_draftThings m_dueMany m_text (0 : Int32) (m_draftRooms - (1 : Int32)) r18 u19 u20 u21 u22 u23 hu24) (cwV 2 hts gX7_readsItem_X7_number rfl rfl rfl hd_X7_number ⟨Nat.le_of_ble_eq_true rfl, Nat.le_of_ble_eq_true rfl⟩) (pre_V E hw [0, 1] rfl rfl rfl rfl) rfl rfl hl.1 rfl (lv_room (Nat.le_of_ble_eq_true rfl)) dX7_readsItem_112 ⟨Nat.zero_le _, Nat.zero_le _⟩) rfl rfl rfl (by decide) rfl rfl (fun H locs hw => ?_)
        obtain ⟨g25, hf⟩ := gd_some hf
        refine r_iast E hw 4 rfl g25 [(a_m, .inr (7, [.int m_thrown, .long m_trace, .ref a_m_text, .int m_typed, .int u19, .int u20, .int u21, .int u22, .int u23, .ref a_m_lifts, .ref a_m_price, .ref a_m_stood, .ref a_m_hands, .ref a_m_wanted, .int m_rooms, .int m_people, .int m_things, .int m_draftRooms, .int m_draftPeople, .int m_draftThings, .ref a_m_s, .ref a_m_kept, .ref a_m_isKept, .ref a_m_due, .int m_dueMany, .ref a_m_cost, .ref a_m_then, .ref a_m_by])), (a_m_text, .inl (cI, 300, .inl m_text)), (a_m_lifts, .inl (cI, 8, .inl m_lifts)), (a_m_price, .inl (cI, 8, .inl m_price)), (a_m_stood, .inl (cI, 16, .inl (upd m_stood ((8 : Int32) + m_draftThings).toNatClampNeg r18))), (a_m_hands, .inl (cI, 16, .inl m_hands)), (a_m_wanted, .inl (cI, 16, .inl m_wanted))] rfl dX7_readsItem_115 (fun H locs hw => ?_)
        refine lv_aload_n hx hb dX7_readsItem_116 rfl (lv_at hl 0 rfl) ?_
        refine r_get E hw iX7 0 12 rfl rfl (by decide) kf22 rfl rfl dX7_readsItem_117 ?_
        refine lv_bipush (v := (8 : Int32)) hx hb dX7_readsItem_120 rfl ?_
        refine lv_aload_n hx hb dX7_readsItem_122 rfl (lv_at hl 0 rfl) ?_
        refine r_get E hw iX7 0 19 rfl rfl (by decide) kf123 rfl rfl dX7_readsItem_123 ?_
        refine lv_iadd hx hb dX7_readsItem_126 ?_
        refine lv_aload_n hx hb dX7_readsItem_127 rfl (lv_at hl 0 rfl) ?_
        refine lv_iconst (v := (1 : Int32)) hx hb dX7_readsItem_128 rfl ?_
        refine lv_iconst (v := (3 : Int32)) hx hb dX7_readsItem_129 rfl ?_
        obtain ⟨r26, u27, u28, u29, u30, u31, hu32, hf⟩ := bd6_some hf
        refine cl_i (wr := [(a_m_lifts, .inl (cI, 8, .inl m_lifts)), (a_m_price, .inl (cI, 8, .inl m_price)), (a_m_stood, .inl (cI, 16, .inl (upd m_stood ((8 : Int32) + m_draftThings).toNatClampNeg r18))), (a_m_hands, .inl (cI, 16, .inl m_hands)), (a_m_wanted, .inl (cI, 16, .inl m_wanted))]) (w2 := [(a_m, .inr (7, [.int m_thrown, .long m_trace, .ref a_m_text, .int m_typed, .int u27, .int u28, .int u29, .int u30, .int u31, .ref a_m_lifts, .ref a_m_price, .ref a_m_stood, .ref a_m_hands, .ref a_m_wanted, .int m_rooms, .int m_people, .int m_things, .int m_draftRooms, .int m_draftPeople, .int m_draftThings, .ref a_m_s, .ref a_m_kept, .ref a_m_isKept, .ref a_m_due, .int m_dueMany, .ref a_m_cost, .ref a_m_then, .ref a_m_by])), (a_m_text, .inl (cI, 300, .inl m_text)), (a_m_lifts, .inl (cI, 8, .inl m_lifts)), (a_m_price, .inl (cI, 8, .inl m_price)), (a_m_stood, .inl (cI, 16, .inl (upd m_stood ((8 : Int32) + m_draftThings).toNatClampNeg r18))), (a_m_hands, .inl (cI, 16, .inl m_hands)), (a_m_wanted, .inl (cI, 16, .inl m_wanted))]) E hw [0, 1] [2, 3, 4, 5, 6] [5, 6, 0, 1, 2, 3, 4] (va_runV (As := [.int (1 : Int32), .int (3 : Int32)]) (rest := [.int ((8 : Int32) + m_draftThings), .ref a_m_hands]) E.1 (c_X7_number l dC dI cI cB cZ aK aV a_m a_m_text a_m_lifts a_m_price a_m_stood a_m_hands a_m_wanted a_m_s a_m_kept a_m_isKept a_m_due a_m_cost a_m_then a_m_by H.size m_thrown m_trace m_typed u19 u20 u21 u22 u23 m_rooms m_people m_things m_draftRooms m_draftPeople m_draftThings m_dueMany m_text (1 : Int32) (3 : Int32) r26 u27 u28 u29 u30 u31 hu32) (cwV 2 hts gX7_readsItem_X7_number rfl rfl rfl hd_X7_number ⟨Nat.le_of_ble_eq_true rfl, Nat.le_of_ble_eq_true rfl⟩) (pre_V E hw [0, 1] rfl rfl rfl rfl) rfl rfl hl.1 rfl (lv_room (Nat.le_of_ble_eq_true rfl)) dX7_readsItem_130 ⟨Nat.zero_le _, Nat.zero_le _⟩) rfl rfl rfl (by decide) rfl rfl (fun H locs hw => ?_)
        obtain ⟨g33, hf⟩ := gd_some hf
        refine r_iast E hw 5 rfl g33 [(a_m, .inr (7, [.int m_thrown, .long m_trace, .ref a_m_text, .int m_typed, .int u27, .int u28, .int u29, .int u30, .int u31, .ref a_m_lifts, .ref a_m_price, .ref a_m_stood, .ref a_m_hands, .ref a_m_wanted, .int m_rooms, .int m_people, .int m_things, .int m_draftRooms, .int m_draftPeople, .int m_draftThings, .ref a_m_s, .ref a_m_kept, .ref a_m_isKept, .ref a_m_due, .int m_dueMany, .ref a_m_cost, .ref a_m_then, .ref a_m_by])), (a_m_text, .inl (cI, 300, .inl m_text)), (a_m_lifts, .inl (cI, 8, .inl m_lifts)), (a_m_price, .inl (cI, 8, .inl m_price)), (a_m_stood, .inl (cI, 16, .inl (upd m_stood ((8 : Int32) + m_draftThings).toNatClampNeg r18))), (a_m_hands, .inl (cI, 16, .inl (upd m_hands ((8 : Int32) + m_draftThings).toNatClampNeg r26))), (a_m_wanted, .inl (cI, 16, .inl m_wanted))] rfl dX7_readsItem_133 (fun H locs hw => ?_)
        refine lv_aload_n hx hb dX7_readsItem_134 rfl (lv_at hl 0 rfl) ?_
        refine r_get E hw iX7 0 13 rfl rfl (by decide) kf25 rfl rfl dX7_readsItem_135 ?_
        refine lv_bipush (v := (8 : Int32)) hx hb dX7_readsItem_138 rfl ?_
        refine lv_aload_n hx hb dX7_readsItem_140 rfl (lv_at hl 0 rfl) ?_
        refine r_get E hw iX7 0 19 rfl rfl (by decide) kf123 rfl rfl dX7_readsItem_141 ?_
        refine lv_iadd hx hb dX7_readsItem_144 ?_
        refine lv_bipush (v := (-9 : Int32)) hx hb dX7_readsItem_145 rfl ?_
        obtain ⟨g34, hf⟩ := gd_some hf
        refine r_iast E hw 6 rfl g34 [(a_m, .inr (7, [.int m_thrown, .long m_trace, .ref a_m_text, .int m_typed, .int u27, .int u28, .int u29, .int u30, .int u31, .ref a_m_lifts, .ref a_m_price, .ref a_m_stood, .ref a_m_hands, .ref a_m_wanted, .int m_rooms, .int m_people, .int m_things, .int m_draftRooms, .int m_draftPeople, .int m_draftThings, .ref a_m_s, .ref a_m_kept, .ref a_m_isKept, .ref a_m_due, .int m_dueMany, .ref a_m_cost, .ref a_m_then, .ref a_m_by])), (a_m_text, .inl (cI, 300, .inl m_text)), (a_m_lifts, .inl (cI, 8, .inl m_lifts)), (a_m_price, .inl (cI, 8, .inl m_price)), (a_m_stood, .inl (cI, 16, .inl (upd m_stood ((8 : Int32) + m_draftThings).toNatClampNeg r18))), (a_m_hands, .inl (cI, 16, .inl (upd m_hands ((8 : Int32) + m_draftThings).toNatClampNeg r26))), (a_m_wanted, .inl (cI, 16, .inl (upd m_wanted ((8 : Int32) + m_draftThings).toNatClampNeg (-9 : Int32))))] rfl dX7_readsItem_147 (fun H locs hw => ?_)
        refine lv_aload_n hx hb dX7_readsItem_148 rfl (lv_at hl 0 rfl) ?_
        refine lv_dup hx hb dX7_readsItem_149 rfl ?_
        refine r_get E hw iX7 0 19 rfl rfl (by decide) kf123 rfl rfl dX7_readsItem_150 ?_
        refine lv_iconst (v := (1 : Int32)) hx hb dX7_readsItem_153 rfl ?_
        refine lv_iadd hx hb dX7_readsItem_154 ?_
        refine r_put E hw iX7 tyX7_ok nmX7 0 19 rfl rfl (by decide) kf123 rfl rfl rfl rfl (Nat.le_of_ble_eq_true rfl) [(a_m, .inr (7, [.int m_thrown, .long m_trace, .ref a_m_text, .int m_typed, .int u27, .int u28, .int u29, .int u30, .int u31, .ref a_m_lifts, .ref a_m_price, .ref a_m_stood, .ref a_m_hands, .ref a_m_wanted, .int m_rooms, .int m_people, .int m_things, .int m_draftRooms, .int m_draftPeople, .int (m_draftThings + (1 : Int32)), .ref a_m_s, .ref a_m_kept, .ref a_m_isKept, .ref a_m_due, .int m_dueMany, .ref a_m_cost, .ref a_m_then, .ref a_m_by])), (a_m_text, .inl (cI, 300, .inl m_text)), (a_m_lifts, .inl (cI, 8, .inl m_lifts)), (a_m_price, .inl (cI, 8, .inl m_price)), (a_m_stood, .inl (cI, 16, .inl (upd m_stood ((8 : Int32) + m_draftThings).toNatClampNeg r18))), (a_m_hands, .inl (cI, 16, .inl (upd m_hands ((8 : Int32) + m_draftThings).toNatClampNeg r26))), (a_m_wanted, .inl (cI, 16, .inl (upd m_wanted ((8 : Int32) + m_draftThings).toNatClampNeg (-9 : Int32))))] rfl dX7_readsItem_155 (fun H locs hw => ?_)
        refine lv_goto (tgt := 202) hx hb dX7_readsItem_158 (by decide) ?_
        obtain ⟨rfl, rfl, rfl, rfl, rfl, rfl, rfl, rfl, rfl, rfl, rfl, rfl, rfl⟩ := sm13 hf
        exact hret H locs ls 202 hw dX7_readsItem_202
    · have hf := if_t hf kc
      refine lv_aload_n hx hb dX7_readsItem_39 rfl (lv_at hl 0 rfl) ?_
      refine r_get E hw iX7 0 9 rfl rfl (by decide) kf13 rfl rfl dX7_readsItem_40 ?_
      refine lv_iconst (v := (4 : Int32)) hx hb dX7_readsItem_43 rfl ?_
      refine lv_aload_n hx hb dX7_readsItem_44 rfl (lv_at hl 0 rfl) ?_
      refine r_get E hw iX7 0 18 rfl rfl (by decide) kf120 rfl rfl dX7_readsItem_45 ?_
      refine lv_iadd hx hb dX7_readsItem_48 ?_
      refine lv_aload_n hx hb dX7_readsItem_49 rfl (lv_at hl 0 rfl) ?_
      refine lv_iconst (v := (1 : Int32)) hx hb dX7_readsItem_50 rfl ?_
      refine lv_bipush (v := (9 : Int32)) hx hb dX7_readsItem_51 rfl ?_
      obtain ⟨r35, u36, u37, u38, u39, u40, hu41, hf⟩ := bd6_some hf
      refine cl_i (wr := [(a_m_lifts, .inl (cI, 8, .inl m_lifts)), (a_m_price, .inl (cI, 8, .inl m_price)), (a_m_stood, .inl (cI, 16, .inl m_stood)), (a_m_hands, .inl (cI, 16, .inl m_hands)), (a_m_wanted, .inl (cI, 16, .inl m_wanted))]) (w2 := [(a_m, .inr (7, [.int m_thrown, .long m_trace, .ref a_m_text, .int m_typed, .int u36, .int u37, .int u38, .int u39, .int u40, .ref a_m_lifts, .ref a_m_price, .ref a_m_stood, .ref a_m_hands, .ref a_m_wanted, .int m_rooms, .int m_people, .int m_things, .int m_draftRooms, .int m_draftPeople, .int m_draftThings, .ref a_m_s, .ref a_m_kept, .ref a_m_isKept, .ref a_m_due, .int m_dueMany, .ref a_m_cost, .ref a_m_then, .ref a_m_by])), (a_m_text, .inl (cI, 300, .inl m_text)), (a_m_lifts, .inl (cI, 8, .inl m_lifts)), (a_m_price, .inl (cI, 8, .inl m_price)), (a_m_stood, .inl (cI, 16, .inl m_stood)), (a_m_hands, .inl (cI, 16, .inl m_hands)), (a_m_wanted, .inl (cI, 16, .inl m_wanted))]) E hw [0, 1] [2, 3, 4, 5, 6] [5, 6, 0, 1, 2, 3, 4] (va_runV (As := [.int (1 : Int32), .int (9 : Int32)]) (rest := [.int ((4 : Int32) + m_draftPeople), .ref a_m_lifts]) E.1 (c_X7_number l dC dI cI cB cZ aK aV a_m a_m_text a_m_lifts a_m_price a_m_stood a_m_hands a_m_wanted a_m_s a_m_kept a_m_isKept a_m_due a_m_cost a_m_then a_m_by H.size m_thrown m_trace m_typed m_next m_token m_place m_value m_fault m_rooms m_people m_things m_draftRooms m_draftPeople m_draftThings m_dueMany m_text (1 : Int32) (9 : Int32) r35 u36 u37 u38 u39 u40 hu41) (cwV 2 hts gX7_readsItem_X7_number rfl rfl rfl hd_X7_number ⟨Nat.le_of_ble_eq_true rfl, Nat.le_of_ble_eq_true rfl⟩) (pre_V E hw [0, 1] rfl rfl rfl rfl) rfl rfl hl.1 rfl (lv_room (Nat.le_of_ble_eq_true rfl)) dX7_readsItem_53 ⟨Nat.zero_le _, Nat.zero_le _⟩) rfl rfl rfl (by decide) rfl rfl (fun H locs hw => ?_)
      obtain ⟨g42, hf⟩ := gd_some hf
      refine r_iast E hw 2 rfl g42 [(a_m, .inr (7, [.int m_thrown, .long m_trace, .ref a_m_text, .int m_typed, .int u36, .int u37, .int u38, .int u39, .int u40, .ref a_m_lifts, .ref a_m_price, .ref a_m_stood, .ref a_m_hands, .ref a_m_wanted, .int m_rooms, .int m_people, .int m_things, .int m_draftRooms, .int m_draftPeople, .int m_draftThings, .ref a_m_s, .ref a_m_kept, .ref a_m_isKept, .ref a_m_due, .int m_dueMany, .ref a_m_cost, .ref a_m_then, .ref a_m_by])), (a_m_text, .inl (cI, 300, .inl m_text)), (a_m_lifts, .inl (cI, 8, .inl (upd m_lifts ((4 : Int32) + m_draftPeople).toNatClampNeg r35))), (a_m_price, .inl (cI, 8, .inl m_price)), (a_m_stood, .inl (cI, 16, .inl m_stood)), (a_m_hands, .inl (cI, 16, .inl m_hands)), (a_m_wanted, .inl (cI, 16, .inl m_wanted))] rfl dX7_readsItem_56 (fun H locs hw => ?_)
      refine lv_aload_n hx hb dX7_readsItem_57 rfl (lv_at hl 0 rfl) ?_
      refine r_get E hw iX7 0 10 rfl rfl (by decide) kf16 rfl rfl dX7_readsItem_58 ?_
      refine lv_iconst (v := (4 : Int32)) hx hb dX7_readsItem_61 rfl ?_
      refine lv_aload_n hx hb dX7_readsItem_62 rfl (lv_at hl 0 rfl) ?_
      refine r_get E hw iX7 0 18 rfl rfl (by decide) kf120 rfl rfl dX7_readsItem_63 ?_
      refine lv_iadd hx hb dX7_readsItem_66 ?_
      refine lv_aload_n hx hb dX7_readsItem_67 rfl (lv_at hl 0 rfl) ?_
      refine lv_iconst (v := (0 : Int32)) hx hb dX7_readsItem_68 rfl ?_
      refine lv_bipush (v := (9 : Int32)) hx hb dX7_readsItem_69 rfl ?_
      obtain ⟨r43, u44, u45, u46, u47, u48, hu49, hf⟩ := bd6_some hf
      refine cl_i (wr := [(a_m_lifts, .inl (cI, 8, .inl (upd m_lifts ((4 : Int32) + m_draftPeople).toNatClampNeg r35))), (a_m_price, .inl (cI, 8, .inl m_price)), (a_m_stood, .inl (cI, 16, .inl m_stood)), (a_m_hands, .inl (cI, 16, .inl m_hands)), (a_m_wanted, .inl (cI, 16, .inl m_wanted))]) (w2 := [(a_m, .inr (7, [.int m_thrown, .long m_trace, .ref a_m_text, .int m_typed, .int u44, .int u45, .int u46, .int u47, .int u48, .ref a_m_lifts, .ref a_m_price, .ref a_m_stood, .ref a_m_hands, .ref a_m_wanted, .int m_rooms, .int m_people, .int m_things, .int m_draftRooms, .int m_draftPeople, .int m_draftThings, .ref a_m_s, .ref a_m_kept, .ref a_m_isKept, .ref a_m_due, .int m_dueMany, .ref a_m_cost, .ref a_m_then, .ref a_m_by])), (a_m_text, .inl (cI, 300, .inl m_text)), (a_m_lifts, .inl (cI, 8, .inl (upd m_lifts ((4 : Int32) + m_draftPeople).toNatClampNeg r35))), (a_m_price, .inl (cI, 8, .inl m_price)), (a_m_stood, .inl (cI, 16, .inl m_stood)), (a_m_hands, .inl (cI, 16, .inl m_hands)), (a_m_wanted, .inl (cI, 16, .inl m_wanted))]) E hw [0, 1] [2, 3, 4, 5, 6] [5, 6, 0, 1, 2, 3, 4] (va_runV (As := [.int (0 : Int32), .int (9 : Int32)]) (rest := [.int ((4 : Int32) + m_draftPeople), .ref a_m_price]) E.1 (c_X7_number l dC dI cI cB cZ aK aV a_m a_m_text a_m_lifts a_m_price a_m_stood a_m_hands a_m_wanted a_m_s a_m_kept a_m_isKept a_m_due a_m_cost a_m_then a_m_by H.size m_thrown m_trace m_typed u36 u37 u38 u39 u40 m_rooms m_people m_things m_draftRooms m_draftPeople m_draftThings m_dueMany m_text (0 : Int32) (9 : Int32) r43 u44 u45 u46 u47 u48 hu49) (cwV 2 hts gX7_readsItem_X7_number rfl rfl rfl hd_X7_number ⟨Nat.le_of_ble_eq_true rfl, Nat.le_of_ble_eq_true rfl⟩) (pre_V E hw [0, 1] rfl rfl rfl rfl) rfl rfl hl.1 rfl (lv_room (Nat.le_of_ble_eq_true rfl)) dX7_readsItem_71 ⟨Nat.zero_le _, Nat.zero_le _⟩) rfl rfl rfl (by decide) rfl rfl (fun H locs hw => ?_)
      obtain ⟨g50, hf⟩ := gd_some hf
      refine r_iast E hw 3 rfl g50 [(a_m, .inr (7, [.int m_thrown, .long m_trace, .ref a_m_text, .int m_typed, .int u44, .int u45, .int u46, .int u47, .int u48, .ref a_m_lifts, .ref a_m_price, .ref a_m_stood, .ref a_m_hands, .ref a_m_wanted, .int m_rooms, .int m_people, .int m_things, .int m_draftRooms, .int m_draftPeople, .int m_draftThings, .ref a_m_s, .ref a_m_kept, .ref a_m_isKept, .ref a_m_due, .int m_dueMany, .ref a_m_cost, .ref a_m_then, .ref a_m_by])), (a_m_text, .inl (cI, 300, .inl m_text)), (a_m_lifts, .inl (cI, 8, .inl (upd m_lifts ((4 : Int32) + m_draftPeople).toNatClampNeg r35))), (a_m_price, .inl (cI, 8, .inl (upd m_price ((4 : Int32) + m_draftPeople).toNatClampNeg r43))), (a_m_stood, .inl (cI, 16, .inl m_stood)), (a_m_hands, .inl (cI, 16, .inl m_hands)), (a_m_wanted, .inl (cI, 16, .inl m_wanted))] rfl dX7_readsItem_74 (fun H locs hw => ?_)
      refine lv_aload_n hx hb dX7_readsItem_75 rfl (lv_at hl 0 rfl) ?_
      refine lv_dup hx hb dX7_readsItem_76 rfl ?_
      refine r_get E hw iX7 0 18 rfl rfl (by decide) kf120 rfl rfl dX7_readsItem_77 ?_
      refine lv_iconst (v := (1 : Int32)) hx hb dX7_readsItem_80 rfl ?_
      refine lv_iadd hx hb dX7_readsItem_81 ?_
      refine r_put E hw iX7 tyX7_ok nmX7 0 18 rfl rfl (by decide) kf120 rfl rfl rfl rfl (Nat.le_of_ble_eq_true rfl) [(a_m, .inr (7, [.int m_thrown, .long m_trace, .ref a_m_text, .int m_typed, .int u44, .int u45, .int u46, .int u47, .int u48, .ref a_m_lifts, .ref a_m_price, .ref a_m_stood, .ref a_m_hands, .ref a_m_wanted, .int m_rooms, .int m_people, .int m_things, .int m_draftRooms, .int (m_draftPeople + (1 : Int32)), .int m_draftThings, .ref a_m_s, .ref a_m_kept, .ref a_m_isKept, .ref a_m_due, .int m_dueMany, .ref a_m_cost, .ref a_m_then, .ref a_m_by])), (a_m_text, .inl (cI, 300, .inl m_text)), (a_m_lifts, .inl (cI, 8, .inl (upd m_lifts ((4 : Int32) + m_draftPeople).toNatClampNeg r35))), (a_m_price, .inl (cI, 8, .inl (upd m_price ((4 : Int32) + m_draftPeople).toNatClampNeg r43))), (a_m_stood, .inl (cI, 16, .inl m_stood)), (a_m_hands, .inl (cI, 16, .inl m_hands)), (a_m_wanted, .inl (cI, 16, .inl m_wanted))] rfl dX7_readsItem_82 (fun H locs hw => ?_)
      refine lv_goto (tgt := 202) hx hb dX7_readsItem_85 (by decide) ?_
      obtain ⟨rfl, rfl, rfl, rfl, rfl, rfl, rfl, rfl, rfl, rfl, rfl, rfl, rfl⟩ := sm13 hf
      exact hret H locs ls 202 hw dX7_readsItem_202
  · have hf := if_t hf kc
    refine lv_aload_n hx hb dX7_readsItem_4 rfl (lv_at hl 0 rfl) ?_
    refine lv_iconst (v := (2 : Int32)) hx hb dX7_readsItem_5 rfl ?_
    refine lv_bipush (v := (6 : Int32)) hx hb dX7_readsItem_6 rfl ?_
    obtain ⟨r51, u52, u53, u54, u55, u56, hu57, hf⟩ := bd6_some hf
    refine cl_i (wr := [(a_m_lifts, .inl (cI, 8, .inl m_lifts)), (a_m_price, .inl (cI, 8, .inl m_price)), (a_m_stood, .inl (cI, 16, .inl m_stood)), (a_m_hands, .inl (cI, 16, .inl m_hands)), (a_m_wanted, .inl (cI, 16, .inl m_wanted))]) (w2 := [(a_m, .inr (7, [.int m_thrown, .long m_trace, .ref a_m_text, .int m_typed, .int u52, .int u53, .int u54, .int u55, .int u56, .ref a_m_lifts, .ref a_m_price, .ref a_m_stood, .ref a_m_hands, .ref a_m_wanted, .int m_rooms, .int m_people, .int m_things, .int m_draftRooms, .int m_draftPeople, .int m_draftThings, .ref a_m_s, .ref a_m_kept, .ref a_m_isKept, .ref a_m_due, .int m_dueMany, .ref a_m_cost, .ref a_m_then, .ref a_m_by])), (a_m_text, .inl (cI, 300, .inl m_text)), (a_m_lifts, .inl (cI, 8, .inl m_lifts)), (a_m_price, .inl (cI, 8, .inl m_price)), (a_m_stood, .inl (cI, 16, .inl m_stood)), (a_m_hands, .inl (cI, 16, .inl m_hands)), (a_m_wanted, .inl (cI, 16, .inl m_wanted))]) E hw [0, 1] [2, 3, 4, 5, 6] [5, 6, 0, 1, 2, 3, 4] (va_runV (As := [.int (2 : Int32), .int (6 : Int32)]) (rest := []) E.1 (c_X7_number l dC dI cI cB cZ aK aV a_m a_m_text a_m_lifts a_m_price a_m_stood a_m_hands a_m_wanted a_m_s a_m_kept a_m_isKept a_m_due a_m_cost a_m_then a_m_by H.size m_thrown m_trace m_typed m_next m_token m_place m_value m_fault m_rooms m_people m_things m_draftRooms m_draftPeople m_draftThings m_dueMany m_text (2 : Int32) (6 : Int32) r51 u52 u53 u54 u55 u56 hu57) (cwV 2 hts gX7_readsItem_X7_number rfl rfl rfl hd_X7_number ⟨Nat.le_of_ble_eq_true rfl, Nat.le_of_ble_eq_true rfl⟩) (pre_V E hw [0, 1] rfl rfl rfl rfl) rfl rfl hl.1 rfl (lv_room (Nat.le_of_ble_eq_true rfl)) dX7_readsItem_8 ⟨Nat.zero_le _, Nat.zero_le _⟩) rfl rfl rfl (by decide) rfl rfl (fun H locs hw => ?_)
    refine lv_istore_n (lv' := [(2, .int r51), (0, .ref a_m), (1, .int p1)]) hx hb dX7_readsItem_11 rfl hl (by decide) rfl (fun ls hl => ?_)
    refine lv_aload_n hx hb dX7_readsItem_12 rfl (lv_at hl 1 rfl) ?_
    refine lv_aload_n hx hb dX7_readsItem_13 rfl (lv_at hl 1 rfl) ?_
    obtain ⟨r58, hu59, hf⟩ := bd1_some hf
    refine cl_i (wr := [(a_m_text, .inl (cI, 300, .inl m_text)), (a_m_lifts, .inl (cI, 8, .inl m_lifts)), (a_m_price, .inl (cI, 8, .inl m_price)), (a_m_stood, .inl (cI, 16, .inl m_stood)), (a_m_hands, .inl (cI, 16, .inl m_hands)), (a_m_wanted, .inl (cI, 16, .inl m_wanted))]) (w2 := [(a_m, .inr (7, [.int m_thrown, .long m_trace, .ref a_m_text, .int m_typed, .int u52, .int u53, .int u54, .int u55, .int u56, .ref a_m_lifts, .ref a_m_price, .ref a_m_stood, .ref a_m_hands, .ref a_m_wanted, .int m_rooms, .int m_people, .int m_things, .int m_draftRooms, .int m_draftPeople, .int m_draftThings, .ref a_m_s, .ref a_m_kept, .ref a_m_isKept, .ref a_m_due, .int m_dueMany, .ref a_m_cost, .ref a_m_then, .ref a_m_by])), (a_m_text, .inl (cI, 300, .inl m_text)), (a_m_lifts, .inl (cI, 8, .inl m_lifts)), (a_m_price, .inl (cI, 8, .inl m_price)), (a_m_stood, .inl (cI, 16, .inl m_stood)), (a_m_hands, .inl (cI, 16, .inl m_hands)), (a_m_wanted, .inl (cI, 16, .inl m_wanted))]) E hw [0] [1, 2, 3, 4, 5, 6] [6, 0, 1, 2, 3, 4, 5] (va_runV (As := []) (rest := [.ref a_m]) E.1 (c_X7_isWell l dC dI cI cB cZ aK aV a_m a_m_text a_m_lifts a_m_price a_m_stood a_m_hands a_m_wanted a_m_s a_m_kept a_m_isKept a_m_due a_m_cost a_m_then a_m_by H.size m_thrown m_trace m_typed u52 u53 u54 u55 u56 m_rooms m_people m_things m_draftRooms m_draftPeople m_draftThings m_dueMany r58 hu59) (cwV 0 hts gX7_readsItem_X7_isWell rfl rfl rfl hd_X7_isWell ⟨Nat.le_of_ble_eq_true rfl, Nat.le_of_ble_eq_true rfl⟩) (pre_V E hw [0] rfl rfl rfl rfl) rfl rfl hl.1 rfl (lv_room (Nat.le_of_ble_eq_true rfl)) dX7_readsItem_14 ⟨Nat.zero_le _, Nat.zero_le _⟩) rfl rfl rfl (by decide) rfl rfl (fun H locs hw => ?_)
    refine jn_sound (P := fun J => ∀ (x60 : Int32) (ls : Array Slot) (H : Heap) (locs : List Loc), J x60 = some (q0, q1, q2, q3, q4, q5, q6, q7, q8, q9, q10, q11, q12) → lv_has ls 4 [] → Wd A s.heap (dC, dI) [(a_m, .inr (7, [.int m_thrown, .long m_trace, .ref a_m_text, .int m_typed, .int u52, .int u53, .int u54, .int u55, .int u56, .ref a_m_lifts, .ref a_m_price, .ref a_m_stood, .ref a_m_hands, .ref a_m_wanted, .int m_rooms, .int m_people, .int m_things, .int m_draftRooms, .int m_draftPeople, .int m_draftThings, .ref a_m_s, .ref a_m_kept, .ref a_m_isKept, .ref a_m_due, .int m_dueMany, .ref a_m_cost, .ref a_m_then, .ref a_m_by])), (a_m_text, .inl (cI, 300, .inl m_text)), (a_m_lifts, .inl (cI, 8, .inl m_lifts)), (a_m_price, .inl (cI, 8, .inl m_price)), (a_m_stood, .inl (cI, 16, .inl m_stood)), (a_m_hands, .inl (cI, 16, .inl m_hands)), (a_m_wanted, .inl (cI, 16, .inl m_wanted))] H locs → W p l e ({ frames := 6, cells := 0, slots := 0, locals := 136 } : Jvm.Room) s m args below meth c H locs 0 0 Q (F0 m 28 ls [.int x60, .ref a_m])) hf ?_ ?_
    · intro x60 ls H locs hf hl hw
      refine r_put E hw iX7 tyX7_ok nmX7 0 17 rfl rfl (by decide) kf117 rfl rfl rfl rfl (Nat.le_of_ble_eq_true rfl) [(a_m, .inr (7, [.int m_thrown, .long m_trace, .ref a_m_text, .int m_typed, .int u52, .int u53, .int u54, .int u55, .int u56, .ref a_m_lifts, .ref a_m_price, .ref a_m_stood, .ref a_m_hands, .ref a_m_wanted, .int m_rooms, .int m_people, .int m_things, .int x60, .int m_draftPeople, .int m_draftThings, .ref a_m_s, .ref a_m_kept, .ref a_m_isKept, .ref a_m_due, .int m_dueMany, .ref a_m_cost, .ref a_m_then, .ref a_m_by])), (a_m_text, .inl (cI, 300, .inl m_text)), (a_m_lifts, .inl (cI, 8, .inl m_lifts)), (a_m_price, .inl (cI, 8, .inl m_price)), (a_m_stood, .inl (cI, 16, .inl m_stood)), (a_m_hands, .inl (cI, 16, .inl m_hands)), (a_m_wanted, .inl (cI, 16, .inl m_wanted))] rfl dX7_readsItem_28 (fun H locs hw => ?_)
      refine lv_goto (tgt := 202) hx hb dX7_readsItem_31 (by decide) ?_
      obtain ⟨rfl, rfl, rfl, rfl, rfl, rfl, rfl, rfl, rfl, rfl, rfl, rfl, rfl⟩ := sm13 hf
      exact hret H locs ls 202 hw dX7_readsItem_202
    · intro J28 hJ28 hf
      refine lv_if_eq (tgt := 24) hx hb dX7_readsItem_17 (by decide) (fun kc => ?_) (fun kc => ?_)
      · have hf := if_t hf kc
        refine lv_aload_n hx hb dX7_readsItem_24 rfl (lv_at hl 1 rfl) ?_
        refine r_get E hw iX7 0 17 rfl rfl (by decide) kf117 rfl rfl dX7_readsItem_25 ?_
        exact hJ28 m_draftRooms ls H locs hf (lv_sub hl [] rfl) hw
      · have hf := if_f hf kc
        refine lv_iload_n hx hb dX7_readsItem_20 rfl (lv_at hl 0 rfl) ?_
        refine lv_goto (tgt := 28) hx hb dX7_readsItem_21 (by decide) ?_
        exact hJ28 r51 ls H locs hf (lv_sub hl [] rfl) hw
def f_X7_rested  (m_people : Int32) (m_lifts : Nat → Int32) (m_s : Nat → Int32) : Option ((Nat → Int32)) :=
  loop2 (fun B2 (x4 : Int32) (x5 : Nat → Int32) => (if (4 : Int32) ≤ x4 then some (x5) else jn (fun (x7 : Int32) => gd (inb ((16 : Int32) + x4) 21) (B2 (x4 + (1 : Int32)) (upd x5 ((16 : Int32) + x4).toNatClampNeg x7))) (fun J33 => (if m_people ≤ x4 then J33 (0 : Int32) else gd (inb x4 8) (J33 (m_lifts x4.toNatClampNeg)))))) FU (0 : Int32) m_s
theorem hd_X7_rested : yX7_rested.cls = RX7 ∧ yX7_rested.cls ≠ "java/lang/invoke/MethodHandle" ∧ yX7_rested.cls ≠ "java/lang/invoke/VarHandle" ∧ (parseMethodDescriptor yX7_rested.desc).map (fun d => d.parameters.length) = some 0 := by decide +kernel
set_option maxHeartbeats 4000000 in
set_option maxRecDepth 100000 in
theorem c_X7_rested (l : Launch) (dC : Nat → ClassId) (dI : Nat → Nat → Nat) (cI cB cZ : ClassId) (aK aV : Nat → Nat) (a_m a_m_text a_m_lifts a_m_price a_m_stood a_m_hands a_m_wanted a_m_s a_m_kept a_m_isKept a_m_due a_m_cost a_m_then a_m_by : Nat) (sz : Nat) (m_thrown : Int32) (m_trace : Int64) (m_typed : Int32) (m_next : Int32) (m_token : Int32) (m_place : Int32) (m_value : Int32) (m_fault : Int32) (m_rooms : Int32) (m_people : Int32) (m_things : Int32) (m_draftRooms : Int32) (m_draftPeople : Int32) (m_draftThings : Int32) (m_dueMany : Int32) (m_lifts : Nat → Int32) (m_s : Nat → Int32) (q0 : Nat → Int32) (hf : f_X7_rested m_people m_lifts m_s = some q0) : Met l yX7_rested wsX7_rested ({ frames := 0, cells := 0, slots := 0, locals := 0 } : Jvm.Room) (va_Pc [.ref a_m] (preW (dC, dI) (tyL cI cB cZ) aK aV sz [(a_m, .inr (7, [.int m_thrown, .long m_trace, .ref a_m_text, .int m_typed, .int m_next, .int m_token, .int m_place, .int m_value, .int m_fault, .ref a_m_lifts, .ref a_m_price, .ref a_m_stood, .ref a_m_hands, .ref a_m_wanted, .int m_rooms, .int m_people, .int m_things, .int m_draftRooms, .int m_draftPeople, .int m_draftThings, .ref a_m_s, .ref a_m_kept, .ref a_m_isKept, .ref a_m_due, .int m_dueMany, .ref a_m_cost, .ref a_m_then, .ref a_m_by])), (a_m_lifts, .inl (cI, 8, .inl m_lifts)), (a_m_s, .inl (cI, 21, .inl m_s))])) (va_Qv (fun (_ : Unit) => True) (postW (dC, dI) (tyL cI cB cZ) (va_A [(a_m, .inr (7, [.int m_thrown, .long m_trace, .ref a_m_text, .int m_typed, .int m_next, .int m_token, .int m_place, .int m_value, .int m_fault, .ref a_m_lifts, .ref a_m_price, .ref a_m_stood, .ref a_m_hands, .ref a_m_wanted, .int m_rooms, .int m_people, .int m_things, .int m_draftRooms, .int m_draftPeople, .int m_draftThings, .ref a_m_s, .ref a_m_kept, .ref a_m_isKept, .ref a_m_due, .int m_dueMany, .ref a_m_cost, .ref a_m_then, .ref a_m_by])), (a_m_lifts, .inl (cI, 8, .inl m_lifts)), (a_m_s, .inl (cI, 21, .inl m_s))] sz) [(a_m, .inr (7, [.int m_thrown, .long m_trace, .ref a_m_text, .int m_typed, .int m_next, .int m_token, .int m_place, .int m_value, .int m_fault, .ref a_m_lifts, .ref a_m_price, .ref a_m_stood, .ref a_m_hands, .ref a_m_wanted, .int m_rooms, .int m_people, .int m_things, .int m_draftRooms, .int m_draftPeople, .int m_draftThings, .ref a_m_s, .ref a_m_kept, .ref a_m_isKept, .ref a_m_due, .int m_dueMany, .ref a_m_cost, .ref a_m_then, .ref a_m_by])), (a_m_lifts, .inl (cI, 8, .inl m_lifts)), (a_m_s, .inl (cI, 21, .inl q0))]) (va_A [(a_m, .inr (7, [.int m_thrown, .long m_trace, .ref a_m_text, .int m_typed, .int m_next, .int m_token, .int m_place, .int m_value, .int m_fault, .ref a_m_lifts, .ref a_m_price, .ref a_m_stood, .ref a_m_hands, .ref a_m_wanted, .int m_rooms, .int m_people, .int m_things, .int m_draftRooms, .int m_draftPeople, .int m_draftThings, .ref a_m_s, .ref a_m_kept, .ref a_m_isKept, .ref a_m_due, .int m_dueMany, .ref a_m_cost, .ref a_m_then, .ref a_m_by])), (a_m_lifts, .inl (cI, 8, .inl m_lifts)), (a_m_s, .inl (cI, 21, .inl m_s))] sz)) 0 0 (va_A [(a_m, .inr (7, [.int m_thrown, .long m_trace, .ref a_m_text, .int m_typed, .int m_next, .int m_token, .int m_place, .int m_value, .int m_fault, .ref a_m_lifts, .ref a_m_price, .ref a_m_stood, .ref a_m_hands, .ref a_m_wanted, .int m_rooms, .int m_people, .int m_things, .int m_draftRooms, .int m_draftPeople, .int m_draftThings, .ref a_m_s, .ref a_m_kept, .ref a_m_isKept, .ref a_m_due, .int m_dueMany, .ref a_m_cost, .ref a_m_then, .ref a_m_by])), (a_m_lifts, .inl (cI, 8, .inl m_lifts)), (a_m_s, .inl (cI, 21, .inl m_s))] sz) := by
  refine met_v (cc := cX7_rested) (maxL := 2) (own := RX7) (by decide) rfl (Nat.le_of_ble_eq_true rfl) rfl (fun p e s m args below meth c Q A E hret ls H locs hl hw => ?_)
  obtain ⟨⟨hx, hb, hml, hown, hts⟩, hK, hN, hA, hX⟩ := id E
  have hl : lv_has ls 2 [(0, .ref a_m)] := hl
  have iX7 : ∀ w ∈ wsX70, w ∈ wsX7_rested := by decide +kernel
  have kf28 := hts (.fieldLink RX7 28 "FiveThingsModel" "s" "[I") (by decide +kernel)
  have kf130 := hts (.fieldLink RX7 130 "FiveThingsModel" "people" "I") (by decide +kernel)
  have kf13 := hts (.fieldLink RX7 13 "FiveThingsModel" "lifts" "[I") (by decide +kernel)
  unfold f_X7_rested at hf
  refine lv_iconst (v := (0 : Int32)) hx hb dX7_rested_0 rfl ?_
  refine lv_istore_n (lv' := [(1, .int (0 : Int32)), (0, .ref a_m)]) hx hb dX7_rested_1 rfl hl (by decide) rfl (fun ls hl => ?_)
  refine (loop2_sound (r := q0) (P := fun (x4 : Int32) (x5 : Nat → Int32) => ∀ (ls : Array Slot) (H : Heap) (locs : List Loc), lv_has ls 2 [(1, .int x4), (0, .ref a_m)] → Wd A s.heap (dC, dI) [(a_m, .inr (7, [.int m_thrown, .long m_trace, .ref a_m_text, .int m_typed, .int m_next, .int m_token, .int m_place, .int m_value, .int m_fault, .ref a_m_lifts, .ref a_m_price, .ref a_m_stood, .ref a_m_hands, .ref a_m_wanted, .int m_rooms, .int m_people, .int m_things, .int m_draftRooms, .int m_draftPeople, .int m_draftThings, .ref a_m_s, .ref a_m_kept, .ref a_m_isKept, .ref a_m_due, .int m_dueMany, .ref a_m_cost, .ref a_m_then, .ref a_m_by])), (a_m_lifts, .inl (cI, 8, .inl m_lifts)), (a_m_s, .inl (cI, 21, .inl x5))] H locs → W p l e ({ frames := 0, cells := 0, slots := 0, locals := 0 } : Jvm.Room) s m args below meth c H locs 0 0 Q (F0 m 2 ls [])) (fun B2 x4 x5 ih2 hf => ?_) _ (0 : Int32) m_s hf) ls H locs (lv_sub hl [0, 1] rfl) hw
  intro ls H locs hl hw
  refine lv_iload_n hx hb dX7_rested_2 rfl (lv_at hl 0 rfl) ?_
  refine lv_iconst (v := (4 : Int32)) hx hb dX7_rested_3 rfl ?_
  refine lv_icmp_ge (tgt := 40) hx hb dX7_rested_4 (by decide) (fun kc => ?_) (fun kc => ?_)
  · have hf := if_t hf kc
    obtain rfl := sm1 hf
    exact hret H locs ls 40 hw dX7_rested_40
  · have hf := if_f hf kc
    refine lv_aload_n hx hb dX7_rested_7 rfl (lv_at hl 1 rfl) ?_
    refine r_get E hw iX7 0 20 rfl rfl (by decide) kf28 rfl rfl dX7_rested_8 ?_
    refine lv_bipush (v := (16 : Int32)) hx hb dX7_rested_11 rfl ?_
    refine lv_iload_n hx hb dX7_rested_13 rfl (lv_at hl 0 rfl) ?_
    refine lv_iadd hx hb dX7_rested_14 ?_
    refine lv_iload_n hx hb dX7_rested_15 rfl (lv_at hl 0 rfl) ?_
    refine lv_aload_n hx hb dX7_rested_16 rfl (lv_at hl 1 rfl) ?_
    refine r_get E hw iX7 0 15 rfl rfl (by decide) kf130 rfl rfl dX7_rested_17 ?_
    refine jn_sound (P := fun J => ∀ (x7 : Int32) (ls : Array Slot) (H : Heap) (locs : List Loc), J x7 = some q0 → lv_has ls 2 [(0, .ref a_m), (1, .int x4)] → Wd A s.heap (dC, dI) [(a_m, .inr (7, [.int m_thrown, .long m_trace, .ref a_m_text, .int m_typed, .int m_next, .int m_token, .int m_place, .int m_value, .int m_fault, .ref a_m_lifts, .ref a_m_price, .ref a_m_stood, .ref a_m_hands, .ref a_m_wanted, .int m_rooms, .int m_people, .int m_things, .int m_draftRooms, .int m_draftPeople, .int m_draftThings, .ref a_m_s, .ref a_m_kept, .ref a_m_isKept, .ref a_m_due, .int m_dueMany, .ref a_m_cost, .ref a_m_then, .ref a_m_by])), (a_m_lifts, .inl (cI, 8, .inl m_lifts)), (a_m_s, .inl (cI, 21, .inl x5))] H locs → W p l e ({ frames := 0, cells := 0, slots := 0, locals := 0 } : Jvm.Room) s m args below meth c H locs 0 0 Q (F0 m 33 ls [.int x7, .int ((16 : Int32) + x4), .ref a_m_s])) hf ?_ ?_
    · intro x7 ls H locs hf hl hw
      obtain ⟨g8, hf⟩ := gd_some hf
      refine r_iast E hw 2 rfl g8 [(a_m, .inr (7, [.int m_thrown, .long m_trace, .ref a_m_text, .int m_typed, .int m_next, .int m_token, .int m_place, .int m_value, .int m_fault, .ref a_m_lifts, .ref a_m_price, .ref a_m_stood, .ref a_m_hands, .ref a_m_wanted, .int m_rooms, .int m_people, .int m_things, .int m_draftRooms, .int m_draftPeople, .int m_draftThings, .ref a_m_s, .ref a_m_kept, .ref a_m_isKept, .ref a_m_due, .int m_dueMany, .ref a_m_cost, .ref a_m_then, .ref a_m_by])), (a_m_lifts, .inl (cI, 8, .inl m_lifts)), (a_m_s, .inl (cI, 21, .inl (upd x5 ((16 : Int32) + x4).toNatClampNeg x7)))] rfl dX7_rested_33 (fun H locs hw => ?_)
      refine lv_iinc (v := (x4 + (1 : Int32))) (lv' := [(1, .int (x4 + (1 : Int32))), (0, .ref a_m)]) hx hb dX7_rested_34 hl (k := 1) rfl rfl (by decide) rfl (fun ls hl => ?_)
      refine lv_goto (tgt := 2) hx hb dX7_rested_37 (by decide) ?_
      exact ih2 (x4 + (1 : Int32)) (upd x5 ((16 : Int32) + x4).toNatClampNeg x7) hf ls H locs (lv_sub hl [0, 1] rfl) hw
    · intro J33 hJ33 hf
      refine lv_icmp_ge (tgt := 32) hx hb dX7_rested_20 (by decide) (fun kc => ?_) (fun kc => ?_)
      · have hf := if_t hf kc
        refine lv_iconst (v := (0 : Int32)) hx hb dX7_rested_32 rfl ?_
        exact hJ33 (0 : Int32) ls H locs hf (lv_sub hl [1, 0] rfl) hw
      · have hf := if_f hf kc
        refine lv_aload_n hx hb dX7_rested_23 rfl (lv_at hl 1 rfl) ?_
        refine r_get E hw iX7 0 9 rfl rfl (by decide) kf13 rfl rfl dX7_rested_24 ?_
        refine lv_iload_n hx hb dX7_rested_27 rfl (lv_at hl 0 rfl) ?_
        obtain ⟨g6, hf⟩ := gd_some hf
        refine r_iald E hw 1 rfl g6 dX7_rested_28 ?_
        refine lv_goto (tgt := 33) hx hb dX7_rested_29 (by decide) ?_
        exact hJ33 (m_lifts x4.toNatClampNeg) ls H locs hf (lv_sub hl [1, 0] rfl) hw
def f_X7_begins  (m_people : Int32) (m_things : Int32) (m_lifts : Nat → Int32) (m_stood : Nat → Int32) (m_s : Nat → Int32) : Option ((Nat → Int32)) :=
  loop2 (fun B2 (x8 : Int32) (x9 : Nat → Int32) => (if (8 : Int32) ≤ x8 then gd (inb (20 : Int32) 21) (bd1 (f_X7_rested m_people m_lifts (upd x9 (20 : Int32).toNatClampNeg (0 : Int32))) (fun u11 => some (u11))) else jn (fun (x14 : Int32) => gd (inb x8 21) (gd (inb ((8 : Int32) + x8) 21) (B2 (x8 + (1 : Int32)) (upd (upd x9 x8.toNatClampNeg x14) ((8 : Int32) + x8).toNatClampNeg (-9 : Int32))))) (fun J31 => (if m_things ≤ x8 then J31 (0 : Int32) else gd (inb x8 16) (J31 (m_stood x8.toNatClampNeg)))))) FU (0 : Int32) m_s
theorem hd_X7_begins : yX7_begins.cls = RX7 ∧ yX7_begins.cls ≠ "java/lang/invoke/MethodHandle" ∧ yX7_begins.cls ≠ "java/lang/invoke/VarHandle" ∧ (parseMethodDescriptor yX7_begins.desc).map (fun d => d.parameters.length) = some 0 := by decide +kernel
set_option maxHeartbeats 4000000 in
set_option maxRecDepth 100000 in
theorem c_X7_begins (l : Launch) (dC : Nat → ClassId) (dI : Nat → Nat → Nat) (cI cB cZ : ClassId) (aK aV : Nat → Nat) (a_m a_m_text a_m_lifts a_m_price a_m_stood a_m_hands a_m_wanted a_m_s a_m_kept a_m_isKept a_m_due a_m_cost a_m_then a_m_by : Nat) (sz : Nat) (m_thrown : Int32) (m_trace : Int64) (m_typed : Int32) (m_next : Int32) (m_token : Int32) (m_place : Int32) (m_value : Int32) (m_fault : Int32) (m_rooms : Int32) (m_people : Int32) (m_things : Int32) (m_draftRooms : Int32) (m_draftPeople : Int32) (m_draftThings : Int32) (m_dueMany : Int32) (m_lifts : Nat → Int32) (m_stood : Nat → Int32) (m_s : Nat → Int32) (q0 : Nat → Int32) (hf : f_X7_begins m_people m_things m_lifts m_stood m_s = some q0) : Met l yX7_begins wsX7_begins ({ frames := 1, cells := 0, slots := 0, locals := 21 } : Jvm.Room) (va_Pc [.ref a_m] (preW (dC, dI) (tyL cI cB cZ) aK aV sz [(a_m, .inr (7, [.int m_thrown, .long m_trace, .ref a_m_text, .int m_typed, .int m_next, .int m_token, .int m_place, .int m_value, .int m_fault, .ref a_m_lifts, .ref a_m_price, .ref a_m_stood, .ref a_m_hands, .ref a_m_wanted, .int m_rooms, .int m_people, .int m_things, .int m_draftRooms, .int m_draftPeople, .int m_draftThings, .ref a_m_s, .ref a_m_kept, .ref a_m_isKept, .ref a_m_due, .int m_dueMany, .ref a_m_cost, .ref a_m_then, .ref a_m_by])), (a_m_lifts, .inl (cI, 8, .inl m_lifts)), (a_m_stood, .inl (cI, 16, .inl m_stood)), (a_m_s, .inl (cI, 21, .inl m_s))])) (va_Qv (fun (_ : Unit) => True) (postW (dC, dI) (tyL cI cB cZ) (va_A [(a_m, .inr (7, [.int m_thrown, .long m_trace, .ref a_m_text, .int m_typed, .int m_next, .int m_token, .int m_place, .int m_value, .int m_fault, .ref a_m_lifts, .ref a_m_price, .ref a_m_stood, .ref a_m_hands, .ref a_m_wanted, .int m_rooms, .int m_people, .int m_things, .int m_draftRooms, .int m_draftPeople, .int m_draftThings, .ref a_m_s, .ref a_m_kept, .ref a_m_isKept, .ref a_m_due, .int m_dueMany, .ref a_m_cost, .ref a_m_then, .ref a_m_by])), (a_m_lifts, .inl (cI, 8, .inl m_lifts)), (a_m_stood, .inl (cI, 16, .inl m_stood)), (a_m_s, .inl (cI, 21, .inl m_s))] sz) [(a_m, .inr (7, [.int m_thrown, .long m_trace, .ref a_m_text, .int m_typed, .int m_next, .int m_token, .int m_place, .int m_value, .int m_fault, .ref a_m_lifts, .ref a_m_price, .ref a_m_stood, .ref a_m_hands, .ref a_m_wanted, .int m_rooms, .int m_people, .int m_things, .int m_draftRooms, .int m_draftPeople, .int m_draftThings, .ref a_m_s, .ref a_m_kept, .ref a_m_isKept, .ref a_m_due, .int m_dueMany, .ref a_m_cost, .ref a_m_then, .ref a_m_by])), (a_m_lifts, .inl (cI, 8, .inl m_lifts)), (a_m_stood, .inl (cI, 16, .inl m_stood)), (a_m_s, .inl (cI, 21, .inl q0))]) (va_A [(a_m, .inr (7, [.int m_thrown, .long m_trace, .ref a_m_text, .int m_typed, .int m_next, .int m_token, .int m_place, .int m_value, .int m_fault, .ref a_m_lifts, .ref a_m_price, .ref a_m_stood, .ref a_m_hands, .ref a_m_wanted, .int m_rooms, .int m_people, .int m_things, .int m_draftRooms, .int m_draftPeople, .int m_draftThings, .ref a_m_s, .ref a_m_kept, .ref a_m_isKept, .ref a_m_due, .int m_dueMany, .ref a_m_cost, .ref a_m_then, .ref a_m_by])), (a_m_lifts, .inl (cI, 8, .inl m_lifts)), (a_m_stood, .inl (cI, 16, .inl m_stood)), (a_m_s, .inl (cI, 21, .inl m_s))] sz)) 0 0 (va_A [(a_m, .inr (7, [.int m_thrown, .long m_trace, .ref a_m_text, .int m_typed, .int m_next, .int m_token, .int m_place, .int m_value, .int m_fault, .ref a_m_lifts, .ref a_m_price, .ref a_m_stood, .ref a_m_hands, .ref a_m_wanted, .int m_rooms, .int m_people, .int m_things, .int m_draftRooms, .int m_draftPeople, .int m_draftThings, .ref a_m_s, .ref a_m_kept, .ref a_m_isKept, .ref a_m_due, .int m_dueMany, .ref a_m_cost, .ref a_m_then, .ref a_m_by])), (a_m_lifts, .inl (cI, 8, .inl m_lifts)), (a_m_stood, .inl (cI, 16, .inl m_stood)), (a_m_s, .inl (cI, 21, .inl m_s))] sz) := by
  refine met_v (cc := cX7_begins) (maxL := 2) (own := RX7) (by decide) rfl (Nat.le_of_ble_eq_true rfl) rfl (fun p e s m args below meth c Q A E hret ls H locs hl hw => ?_)
  obtain ⟨⟨hx, hb, hml, hown, hts⟩, hK, hN, hA, hX⟩ := id E
  have hl : lv_has ls 2 [(0, .ref a_m)] := hl
  have iX7 : ∀ w ∈ wsX70, w ∈ wsX7_begins := by decide +kernel
  have kf28 := hts (.fieldLink RX7 28 "FiveThingsModel" "s" "[I") (by decide +kernel)
  have kf133 := hts (.fieldLink RX7 133 "FiveThingsModel" "things" "I") (by decide +kernel)
  have kf19 := hts (.fieldLink RX7 19 "FiveThingsModel" "stood" "[I") (by decide +kernel)
  unfold f_X7_begins at hf
  refine lv_iconst (v := (0 : Int32)) hx hb dX7_begins_0 rfl ?_
  refine lv_istore_n (lv' := [(1, .int (0 : Int32)), (0, .ref a_m)]) hx hb dX7_begins_1 rfl hl (by decide) rfl (fun ls hl => ?_)
  refine (loop2_sound (r := q0) (P := fun (x8 : Int32) (x9 : Nat → Int32) => ∀ (ls : Array Slot) (H : Heap) (locs : List Loc), lv_has ls 2 [(1, .int x8), (0, .ref a_m)] → Wd A s.heap (dC, dI) [(a_m, .inr (7, [.int m_thrown, .long m_trace, .ref a_m_text, .int m_typed, .int m_next, .int m_token, .int m_place, .int m_value, .int m_fault, .ref a_m_lifts, .ref a_m_price, .ref a_m_stood, .ref a_m_hands, .ref a_m_wanted, .int m_rooms, .int m_people, .int m_things, .int m_draftRooms, .int m_draftPeople, .int m_draftThings, .ref a_m_s, .ref a_m_kept, .ref a_m_isKept, .ref a_m_due, .int m_dueMany, .ref a_m_cost, .ref a_m_then, .ref a_m_by])), (a_m_lifts, .inl (cI, 8, .inl m_lifts)), (a_m_stood, .inl (cI, 16, .inl m_stood)), (a_m_s, .inl (cI, 21, .inl x9))] H locs → W p l e ({ frames := 1, cells := 0, slots := 0, locals := 21 } : Jvm.Room) s m args below meth c H locs 0 0 Q (F0 m 2 ls [])) (fun B2 x8 x9 ih2 hf => ?_) _ (0 : Int32) m_s hf) ls H locs (lv_sub hl [0, 1] rfl) hw
  intro ls H locs hl hw
  refine lv_iload_n hx hb dX7_begins_2 rfl (lv_at hl 0 rfl) ?_
  refine lv_bipush (v := (8 : Int32)) hx hb dX7_begins_3 rfl ?_
  refine lv_icmp_ge (tgt := 49) hx hb dX7_begins_5 (by decide) (fun kc => ?_) (fun kc => ?_)
  · have hf := if_t hf kc
    refine lv_aload_n hx hb dX7_begins_49 rfl (lv_at hl 1 rfl) ?_
    refine r_get E hw iX7 0 20 rfl rfl (by decide) kf28 rfl rfl dX7_begins_50 ?_
    refine lv_bipush (v := (20 : Int32)) hx hb dX7_begins_53 rfl ?_
    refine lv_iconst (v := (0 : Int32)) hx hb dX7_begins_55 rfl ?_
    obtain ⟨g10, hf⟩ := gd_some hf
    refine r_iast E hw 3 rfl g10 [(a_m, .inr (7, [.int m_thrown, .long m_trace, .ref a_m_text, .int m_typed, .int m_next, .int m_token, .int m_place, .int m_value, .int m_fault, .ref a_m_lifts, .ref a_m_price, .ref a_m_stood, .ref a_m_hands, .ref a_m_wanted, .int m_rooms, .int m_people, .int m_things, .int m_draftRooms, .int m_draftPeople, .int m_draftThings, .ref a_m_s, .ref a_m_kept, .ref a_m_isKept, .ref a_m_due, .int m_dueMany, .ref a_m_cost, .ref a_m_then, .ref a_m_by])), (a_m_lifts, .inl (cI, 8, .inl m_lifts)), (a_m_stood, .inl (cI, 16, .inl m_stood)), (a_m_s, .inl (cI, 21, .inl (upd x9 (20 : Int32).toNatClampNeg (0 : Int32))))] rfl dX7_begins_56 (fun H locs hw => ?_)
    refine lv_aload_n hx hb dX7_begins_57 rfl (lv_at hl 1 rfl) ?_
    obtain ⟨u11, hu12, hf⟩ := bd1_some hf
    refine cl_v (wr := [(a_m_stood, .inl (cI, 16, .inl m_stood))]) (w2 := [(a_m, .inr (7, [.int m_thrown, .long m_trace, .ref a_m_text, .int m_typed, .int m_next, .int m_token, .int m_place, .int m_value, .int m_fault, .ref a_m_lifts, .ref a_m_price, .ref a_m_stood, .ref a_m_hands, .ref a_m_wanted, .int m_rooms, .int m_people, .int m_things, .int m_draftRooms, .int m_draftPeople, .int m_draftThings, .ref a_m_s, .ref a_m_kept, .ref a_m_isKept, .ref a_m_due, .int m_dueMany, .ref a_m_cost, .ref a_m_then, .ref a_m_by])), (a_m_lifts, .inl (cI, 8, .inl m_lifts)), (a_m_stood, .inl (cI, 16, .inl m_stood)), (a_m_s, .inl (cI, 21, .inl u11))]) E hw [0, 1, 3] [2] [1, 2, 0, 3] (va_runV (As := []) (rest := []) E.1 (c_X7_rested l dC dI cI cB cZ aK aV a_m a_m_text a_m_lifts a_m_price a_m_stood a_m_hands a_m_wanted a_m_s a_m_kept a_m_isKept a_m_due a_m_cost a_m_then a_m_by H.size m_thrown m_trace m_typed m_next m_token m_place m_value m_fault m_rooms m_people m_things m_draftRooms m_draftPeople m_draftThings m_dueMany m_lifts (upd x9 (20 : Int32).toNatClampNeg (0 : Int32)) u11 hu12) (cwV 0 hts gX7_begins_X7_rested rfl rfl rfl hd_X7_rested ⟨Nat.le_of_ble_eq_true rfl, Nat.le_of_ble_eq_true rfl⟩) (pre_V E hw [0, 1, 3] rfl rfl rfl rfl) rfl rfl hl.1 rfl (lv_room (Nat.le_of_ble_eq_true rfl)) dX7_begins_58 ⟨Nat.zero_le _, Nat.zero_le _⟩) rfl rfl rfl (by decide) rfl rfl (fun H locs hw => ?_)
    obtain rfl := sm1 hf
    exact hret H locs ls 61 hw dX7_begins_61
  · have hf := if_f hf kc
    refine lv_aload_n hx hb dX7_begins_8 rfl (lv_at hl 1 rfl) ?_
    refine r_get E hw iX7 0 20 rfl rfl (by decide) kf28 rfl rfl dX7_begins_9 ?_
    refine lv_iload_n hx hb dX7_begins_12 rfl (lv_at hl 0 rfl) ?_
    refine lv_iload_n hx hb dX7_begins_13 rfl (lv_at hl 0 rfl) ?_
    refine lv_aload_n hx hb dX7_begins_14 rfl (lv_at hl 1 rfl) ?_
    refine r_get E hw iX7 0 16 rfl rfl (by decide) kf133 rfl rfl dX7_begins_15 ?_
    refine jn_sound (P := fun J => ∀ (x14 : Int32) (ls : Array Slot) (H : Heap) (locs : List Loc), J x14 = some q0 → lv_has ls 2 [(0, .ref a_m), (1, .int x8)] → Wd A s.heap (dC, dI) [(a_m, .inr (7, [.int m_thrown, .long m_trace, .ref a_m_text, .int m_typed, .int m_next, .int m_token, .int m_place, .int m_value, .int m_fault, .ref a_m_lifts, .ref a_m_price, .ref a_m_stood, .ref a_m_hands, .ref a_m_wanted, .int m_rooms, .int m_people, .int m_things, .int m_draftRooms, .int m_draftPeople, .int m_draftThings, .ref a_m_s, .ref a_m_kept, .ref a_m_isKept, .ref a_m_due, .int m_dueMany, .ref a_m_cost, .ref a_m_then, .ref a_m_by])), (a_m_lifts, .inl (cI, 8, .inl m_lifts)), (a_m_stood, .inl (cI, 16, .inl m_stood)), (a_m_s, .inl (cI, 21, .inl x9))] H locs → W p l e ({ frames := 1, cells := 0, slots := 0, locals := 21 } : Jvm.Room) s m args below meth c H locs 0 0 Q (F0 m 31 ls [.int x14, .int x8, .ref a_m_s])) hf ?_ ?_
    · intro x14 ls H locs hf hl hw
      obtain ⟨g15, hf⟩ := gd_some hf
      refine r_iast E hw 3 rfl g15 [(a_m, .inr (7, [.int m_thrown, .long m_trace, .ref a_m_text, .int m_typed, .int m_next, .int m_token, .int m_place, .int m_value, .int m_fault, .ref a_m_lifts, .ref a_m_price, .ref a_m_stood, .ref a_m_hands, .ref a_m_wanted, .int m_rooms, .int m_people, .int m_things, .int m_draftRooms, .int m_draftPeople, .int m_draftThings, .ref a_m_s, .ref a_m_kept, .ref a_m_isKept, .ref a_m_due, .int m_dueMany, .ref a_m_cost, .ref a_m_then, .ref a_m_by])), (a_m_lifts, .inl (cI, 8, .inl m_lifts)), (a_m_stood, .inl (cI, 16, .inl m_stood)), (a_m_s, .inl (cI, 21, .inl (upd x9 x8.toNatClampNeg x14)))] rfl dX7_begins_31 (fun H locs hw => ?_)
      refine lv_aload_n hx hb dX7_begins_32 rfl (lv_at hl 0 rfl) ?_
      refine r_get E hw iX7 0 20 rfl rfl (by decide) kf28 rfl rfl dX7_begins_33 ?_
      refine lv_bipush (v := (8 : Int32)) hx hb dX7_begins_36 rfl ?_
      refine lv_iload_n hx hb dX7_begins_38 rfl (lv_at hl 1 rfl) ?_
      refine lv_iadd hx hb dX7_begins_39 ?_
      refine lv_bipush (v := (-9 : Int32)) hx hb dX7_begins_40 rfl ?_
      obtain ⟨g16, hf⟩ := gd_some hf
      refine r_iast E hw 3 rfl g16 [(a_m, .inr (7, [.int m_thrown, .long m_trace, .ref a_m_text, .int m_typed, .int m_next, .int m_token, .int m_place, .int m_value, .int m_fault, .ref a_m_lifts, .ref a_m_price, .ref a_m_stood, .ref a_m_hands, .ref a_m_wanted, .int m_rooms, .int m_people, .int m_things, .int m_draftRooms, .int m_draftPeople, .int m_draftThings, .ref a_m_s, .ref a_m_kept, .ref a_m_isKept, .ref a_m_due, .int m_dueMany, .ref a_m_cost, .ref a_m_then, .ref a_m_by])), (a_m_lifts, .inl (cI, 8, .inl m_lifts)), (a_m_stood, .inl (cI, 16, .inl m_stood)), (a_m_s, .inl (cI, 21, .inl (upd (upd x9 x8.toNatClampNeg x14) ((8 : Int32) + x8).toNatClampNeg (-9 : Int32))))] rfl dX7_begins_42 (fun H locs hw => ?_)
      refine lv_iinc (v := (x8 + (1 : Int32))) (lv' := [(1, .int (x8 + (1 : Int32))), (0, .ref a_m)]) hx hb dX7_begins_43 hl (k := 1) rfl rfl (by decide) rfl (fun ls hl => ?_)
      refine lv_goto (tgt := 2) hx hb dX7_begins_46 (by decide) ?_
      exact ih2 (x8 + (1 : Int32)) (upd (upd x9 x8.toNatClampNeg x14) ((8 : Int32) + x8).toNatClampNeg (-9 : Int32)) hf ls H locs (lv_sub hl [0, 1] rfl) hw
    · intro J31 hJ31 hf
      refine lv_icmp_ge (tgt := 30) hx hb dX7_begins_18 (by decide) (fun kc => ?_) (fun kc => ?_)
      · have hf := if_t hf kc
        refine lv_iconst (v := (0 : Int32)) hx hb dX7_begins_30 rfl ?_
        exact hJ31 (0 : Int32) ls H locs hf (lv_sub hl [1, 0] rfl) hw
      · have hf := if_f hf kc
        refine lv_aload_n hx hb dX7_begins_21 rfl (lv_at hl 1 rfl) ?_
        refine r_get E hw iX7 0 11 rfl rfl (by decide) kf19 rfl rfl dX7_begins_22 ?_
        refine lv_iload_n hx hb dX7_begins_25 rfl (lv_at hl 0 rfl) ?_
        obtain ⟨g13, hf⟩ := gd_some hf
        refine r_iald E hw 2 rfl g13 dX7_begins_26 ?_
        refine lv_goto (tgt := 31) hx hb dX7_begins_27 (by decide) ?_
        exact hJ31 (m_stood x8.toNatClampNeg) ls H locs hf (lv_sub hl [1, 0] rfl) hw
def f_X7_house  (m_typed : Int32) (m_value : Int32) (m_rooms : Int32) (m_people : Int32) (m_things : Int32) (m_text : Nat → Int32) (m_lifts : Nat → Int32) (m_price : Nat → Int32) (m_stood : Nat → Int32) (m_hands : Nat → Int32) (m_wanted : Nat → Int32) (m_s : Nat → Int32) (m_isKept : Nat → Int32) : Option (Int32 × Int32 × Int32 × Int32 × Int32 × Int32 × Int32 × Int32 × Int32 × Int32 × Int32 × Int32 × Int32 × Int32 × (Nat → Int32) × (Nat → Int32) × (Nat → Int32) × (Nat → Int32) × (Nat → Int32) × (Nat → Int32) × (Nat → Int32)) :=
  bd4 (f_X7_advances m_typed (0 : Int32) m_value m_text) (fun u1 u2 u3 u4 => loop14 (fun B36 (x115 : Int32) (x116 : Int32) (x117 : Int32) (x118 : Int32) (x119 : Int32) (x120 : Int32) (x121 : Int32) (x122 : Int32) (x123 : Int32) (x124 : Nat → Int32) (x125 : Nat → Int32) (x126 : Nat → Int32) (x127 : Nat → Int32) (x128 : Nat → Int32) => bd1 (f_X7_isWell x120) (fun r129 => jn (bd1 (f_X7_isWell x120) (fun r177 => (if r177 = 0 then some (((-10 : Int32) - x120), (0 : Int32), m_typed, x116, x117, x118, x119, x120, m_rooms, m_people, m_things, x121, x122, x123, m_s, m_isKept, x126, x127, x128, x124, x125) else loop3 (fun B215 (x207 : Int32) (x208 : Nat → Int32) (x209 : Nat → Int32) => (if (4 : Int32) ≤ x207 then loop4 (fun B256 (x220 : Int32) (x221 : Nat → Int32) (x222 : Nat → Int32) (x223 : Nat → Int32) => (if (8 : Int32) ≤ x220 then gd (inb (0 : Int32) 2) (gd (inb (1 : Int32) 2) (bd1 (f_X7_begins x122 x123 x208 x221 m_s) (fun u226 => some (x115, (0 : Int32), (0 : Int32), x116, x117, x118, x119, x120, x121, x122, x123, x121, x122, x123, u226, (upd (upd m_isKept (0 : Int32).toNatClampNeg (vp_nar .boolean (0 : Int32))) (1 : Int32).toNatClampNeg (vp_nar .boolean (0 : Int32))), x221, x222, x223, x208, x209)))) else gd (inb ((8 : Int32) + x220) 16) (gd (inb x220 16) (gd (inb ((8 : Int32) + x220) 16) (gd (inb x220 16) (gd (inb ((8 : Int32) + x220) 16) (gd (inb x220 16) (B256 (x220 + (1 : Int32)) (upd x221 x220.toNatClampNeg (x221 ((8 : Int32) + x220).toNatClampNeg)) (upd x222 x220.toNatClampNeg (x222 ((8 : Int32) + x220).toNatClampNeg)) (upd x223 x220.toNatClampNeg (x223 ((8 : Int32) + x220).toNatClampNeg)))))))))) FU (0 : Int32) x126 x127 x128 else gd (inb ((4 : Int32) + x207) 8) (gd (inb x207 8) (gd (inb ((4 : Int32) + x207) 8) (gd (inb x207 8) (B215 (x207 + (1 : Int32)) (upd x208 x207.toNatClampNeg (x208 ((4 : Int32) + x207).toNatClampNeg)) (upd x209 x207.toNatClampNeg (x209 ((4 : Int32) + x207).toNatClampNeg)))))))) FU (0 : Int32) x124 x125))) (fun J174 => (if r129 = 0 then J174 else (if x117 = 0 then J174 else jn (fun (x131 : Int32) => jn (fun (x132 : Int32) => bd6 (f_X7_takes x132 m_typed x116 x117 x118 x119 x120 m_text) (fun r133 u134 u135 u136 u137 u138 => bd1 (f_X7_isWell u138) (fun r140 => jn (fun (x156 : Int32) (x157 : Int32) (x158 : Int32) (x159 : Int32) (x160 : Int32) (x161 : Int32) (x162 : Int32) (x163 : Int32) (x164 : Nat → Int32) (x165 : Nat → Int32) (x166 : Nat → Int32) (x167 : Nat → Int32) (x168 : Nat → Int32) => jn (fun (x169 : Int32) => bd6 (f_X7_takes x169 m_typed x156 x157 x158 x159 x160 m_text) (fun r170 u171 u172 u173 u174 u175 => B36 (x115 + (1 : Int32)) u171 u172 u173 u174 u175 x161 x162 x163 x164 x165 x166 x167 x168)) (fun J164 => (if x157 = (3 : Int32) then J164 (1 : Int32) else J164 (0 : Int32)))) (fun J150 => (if r140 = 0 then J150 u134 u135 u136 u137 u138 x121 x122 x123 x124 x125 x126 x127 x128 else bd13 (f_X7_readsItem r133 m_typed u134 u135 u136 u137 u138 x121 x122 x123 m_text x124 x125 x126 x127 x128) (fun u142 u143 u144 u145 u146 u147 u148 u149 u150 u151 u152 u153 u154 => J150 u142 u143 u144 u145 u146 u154 u151 u148 u152 u153 u149 u150 u147)))))) (fun J134 => jn (J134 (0 : Int32)) (fun J133 => (if x117 = (1 : Int32) then (if x131 = 0 then J133 else J134 (1 : Int32)) else J133)))) (fun J115 => (if x119 = 0 then (if x115 = 0 then J115 (1 : Int32) else J115 (0 : Int32)) else (if x119 = (1 : Int32) then (if (4 : Int32) ≤ x122 then J115 (0 : Int32) else J115 (1 : Int32)) else jn (J115 (1 : Int32)) (fun J110 => (if x119 = (3 : Int32) then J110 else (if (8 : Int32) ≤ x123 then J115 (0 : Int32) else J110))))))))))) FU (0 : Int32) u1 u2 u3 u4 (-1 : Int32) (4 : Int32) (0 : Int32) (0 : Int32) m_lifts m_price m_stood m_hands m_wanted)
theorem hd_X7_house : yX7_house.cls = RX7 ∧ yX7_house.cls ≠ "java/lang/invoke/MethodHandle" ∧ yX7_house.cls ≠ "java/lang/invoke/VarHandle" ∧ (parseMethodDescriptor yX7_house.desc).map (fun d => d.parameters.length) = some 0 := by decide +kernel
set_option maxHeartbeats 4000000 in
set_option maxRecDepth 100000 in
theorem c_X7_house (l : Launch) (dC : Nat → ClassId) (dI : Nat → Nat → Nat) (cI cB cZ : ClassId) (aK aV : Nat → Nat) (a_m a_m_text a_m_lifts a_m_price a_m_stood a_m_hands a_m_wanted a_m_s a_m_kept a_m_isKept a_m_due a_m_cost a_m_then a_m_by : Nat) (sz : Nat) (m_thrown : Int32) (m_trace : Int64) (m_typed : Int32) (m_next : Int32) (m_token : Int32) (m_place : Int32) (m_value : Int32) (m_fault : Int32) (m_rooms : Int32) (m_people : Int32) (m_things : Int32) (m_draftRooms : Int32) (m_draftPeople : Int32) (m_draftThings : Int32) (m_dueMany : Int32) (m_text : Nat → Int32) (m_lifts : Nat → Int32) (m_price : Nat → Int32) (m_stood : Nat → Int32) (m_hands : Nat → Int32) (m_wanted : Nat → Int32) (m_s : Nat → Int32) (m_isKept : Nat → Int32) (r : Int32) (q0 : Int32) (q1 : Int32) (q2 : Int32) (q3 : Int32) (q4 : Int32) (q5 : Int32) (q6 : Int32) (q7 : Int32) (q8 : Int32) (q9 : Int32) (q10 : Int32) (q11 : Int32) (q12 : Int32) (q13 : Nat → Int32) (q14 : Nat → Int32) (q15 : Nat → Int32) (q16 : Nat → Int32) (q17 : Nat → Int32) (q18 : Nat → Int32) (q19 : Nat → Int32) (hf : f_X7_house m_typed m_value m_rooms m_people m_things m_text m_lifts m_price m_stood m_hands m_wanted m_s m_isKept = some (r, q0, q1, q2, q3, q4, q5, q6, q7, q8, q9, q10, q11, q12, q13, q14, q15, q16, q17, q18, q19)) : Met l yX7_house wsX7_house ({ frames := 7, cells := 0, slots := 0, locals := 159 } : Jvm.Room) (va_Pc [.ref a_m] (preW (dC, dI) (tyL cI cB cZ) aK aV sz [(a_m, .inr (7, [.int m_thrown, .long m_trace, .ref a_m_text, .int m_typed, .int m_next, .int m_token, .int m_place, .int m_value, .int m_fault, .ref a_m_lifts, .ref a_m_price, .ref a_m_stood, .ref a_m_hands, .ref a_m_wanted, .int m_rooms, .int m_people, .int m_things, .int m_draftRooms, .int m_draftPeople, .int m_draftThings, .ref a_m_s, .ref a_m_kept, .ref a_m_isKept, .ref a_m_due, .int m_dueMany, .ref a_m_cost, .ref a_m_then, .ref a_m_by])), (a_m_text, .inl (cI, 300, .inl m_text)), (a_m_lifts, .inl (cI, 8, .inl m_lifts)), (a_m_price, .inl (cI, 8, .inl m_price)), (a_m_stood, .inl (cI, 16, .inl m_stood)), (a_m_hands, .inl (cI, 16, .inl m_hands)), (a_m_wanted, .inl (cI, 16, .inl m_wanted)), (a_m_s, .inl (cI, 21, .inl m_s)), (a_m_isKept, .inl (cZ, 2, .inl m_isKept))])) (va_Qi (fun v (_ : Unit) => v = r) (postW (dC, dI) (tyL cI cB cZ) (va_A [(a_m, .inr (7, [.int m_thrown, .long m_trace, .ref a_m_text, .int m_typed, .int m_next, .int m_token, .int m_place, .int m_value, .int m_fault, .ref a_m_lifts, .ref a_m_price, .ref a_m_stood, .ref a_m_hands, .ref a_m_wanted, .int m_rooms, .int m_people, .int m_things, .int m_draftRooms, .int m_draftPeople, .int m_draftThings, .ref a_m_s, .ref a_m_kept, .ref a_m_isKept, .ref a_m_due, .int m_dueMany, .ref a_m_cost, .ref a_m_then, .ref a_m_by])), (a_m_text, .inl (cI, 300, .inl m_text)), (a_m_lifts, .inl (cI, 8, .inl m_lifts)), (a_m_price, .inl (cI, 8, .inl m_price)), (a_m_stood, .inl (cI, 16, .inl m_stood)), (a_m_hands, .inl (cI, 16, .inl m_hands)), (a_m_wanted, .inl (cI, 16, .inl m_wanted)), (a_m_s, .inl (cI, 21, .inl m_s)), (a_m_isKept, .inl (cZ, 2, .inl m_isKept))] sz) [(a_m, .inr (7, [.int q0, .long m_trace, .ref a_m_text, .int q1, .int q2, .int q3, .int q4, .int q5, .int q6, .ref a_m_lifts, .ref a_m_price, .ref a_m_stood, .ref a_m_hands, .ref a_m_wanted, .int q7, .int q8, .int q9, .int q10, .int q11, .int q12, .ref a_m_s, .ref a_m_kept, .ref a_m_isKept, .ref a_m_due, .int m_dueMany, .ref a_m_cost, .ref a_m_then, .ref a_m_by])), (a_m_text, .inl (cI, 300, .inl m_text)), (a_m_lifts, .inl (cI, 8, .inl q18)), (a_m_price, .inl (cI, 8, .inl q19)), (a_m_stood, .inl (cI, 16, .inl q15)), (a_m_hands, .inl (cI, 16, .inl q16)), (a_m_wanted, .inl (cI, 16, .inl q17)), (a_m_s, .inl (cI, 21, .inl q13)), (a_m_isKept, .inl (cZ, 2, .inl q14))]) (va_A [(a_m, .inr (7, [.int m_thrown, .long m_trace, .ref a_m_text, .int m_typed, .int m_next, .int m_token, .int m_place, .int m_value, .int m_fault, .ref a_m_lifts, .ref a_m_price, .ref a_m_stood, .ref a_m_hands, .ref a_m_wanted, .int m_rooms, .int m_people, .int m_things, .int m_draftRooms, .int m_draftPeople, .int m_draftThings, .ref a_m_s, .ref a_m_kept, .ref a_m_isKept, .ref a_m_due, .int m_dueMany, .ref a_m_cost, .ref a_m_then, .ref a_m_by])), (a_m_text, .inl (cI, 300, .inl m_text)), (a_m_lifts, .inl (cI, 8, .inl m_lifts)), (a_m_price, .inl (cI, 8, .inl m_price)), (a_m_stood, .inl (cI, 16, .inl m_stood)), (a_m_hands, .inl (cI, 16, .inl m_hands)), (a_m_wanted, .inl (cI, 16, .inl m_wanted)), (a_m_s, .inl (cI, 21, .inl m_s)), (a_m_isKept, .inl (cZ, 2, .inl m_isKept))] sz)) 0 0 (va_A [(a_m, .inr (7, [.int m_thrown, .long m_trace, .ref a_m_text, .int m_typed, .int m_next, .int m_token, .int m_place, .int m_value, .int m_fault, .ref a_m_lifts, .ref a_m_price, .ref a_m_stood, .ref a_m_hands, .ref a_m_wanted, .int m_rooms, .int m_people, .int m_things, .int m_draftRooms, .int m_draftPeople, .int m_draftThings, .ref a_m_s, .ref a_m_kept, .ref a_m_isKept, .ref a_m_due, .int m_dueMany, .ref a_m_cost, .ref a_m_then, .ref a_m_by])), (a_m_text, .inl (cI, 300, .inl m_text)), (a_m_lifts, .inl (cI, 8, .inl m_lifts)), (a_m_price, .inl (cI, 8, .inl m_price)), (a_m_stood, .inl (cI, 16, .inl m_stood)), (a_m_hands, .inl (cI, 16, .inl m_hands)), (a_m_wanted, .inl (cI, 16, .inl m_wanted)), (a_m_s, .inl (cI, 21, .inl m_s)), (a_m_isKept, .inl (cZ, 2, .inl m_isKept))] sz) := by
  refine met_i (cc := cX7_house) (maxL := 4) (own := RX7) (by decide) rfl (Nat.le_of_ble_eq_true rfl) rfl (fun p e s m args below meth c Q A E hret ls H locs hl hw => ?_)
  obtain ⟨⟨hx, hb, hml, hown, hts⟩, hK, hN, hA, hX⟩ := id E
  have hl : lv_has ls 4 [(0, .ref a_m)] := hl
  have iX7 : ∀ w ∈ wsX70, w ∈ wsX7_house := by decide +kernel
  have kf57 := hts (.fieldLink RX7 57 "FiveThingsModel" "thrown" "I") (by decide +kernel)
  have kf99 := hts (.fieldLink RX7 99 "FiveThingsModel" "fault" "I") (by decide +kernel)
  have kf79 := hts (.fieldLink RX7 79 "FiveThingsModel" "next" "I") (by decide +kernel)
  have kf117 := hts (.fieldLink RX7 117 "FiveThingsModel" "draftRooms" "I") (by decide +kernel)
  have kf120 := hts (.fieldLink RX7 120 "FiveThingsModel" "draftPeople" "I") (by decide +kernel)
  have kf123 := hts (.fieldLink RX7 123 "FiveThingsModel" "draftThings" "I") (by decide +kernel)
  have kf89 := hts (.fieldLink RX7 89 "FiveThingsModel" "token" "I") (by decide +kernel)
  have kf96 := hts (.fieldLink RX7 96 "FiveThingsModel" "value" "I") (by decide +kernel)
  have kf50 := hts (.fieldLink RX7 50 "FiveThingsModel" "rooms" "I") (by decide +kernel)
  have kf130 := hts (.fieldLink RX7 130 "FiveThingsModel" "people" "I") (by decide +kernel)
  have kf133 := hts (.fieldLink RX7 133 "FiveThingsModel" "things" "I") (by decide +kernel)
  have kf64 := hts (.fieldLink RX7 64 "FiveThingsModel" "typed" "I") (by decide +kernel)
  have kf34 := hts (.fieldLink RX7 34 "FiveThingsModel" "isKept" "[Z") (by decide +kernel)
  have kf19 := hts (.fieldLink RX7 19 "FiveThingsModel" "stood" "[I") (by decide +kernel)
  have kf22 := hts (.fieldLink RX7 22 "FiveThingsModel" "hands" "[I") (by decide +kernel)
  have kf25 := hts (.fieldLink RX7 25 "FiveThingsModel" "wanted" "[I") (by decide +kernel)
  have kf13 := hts (.fieldLink RX7 13 "FiveThingsModel" "lifts" "[I") (by decide +kernel)
  have kf16 := hts (.fieldLink RX7 16 "FiveThingsModel" "price" "[I") (by decide +kernel)
  unfold f_X7_house at hf
  refine lv_aload_n hx hb dX7_house_0 rfl (lv_at hl 0 rfl) ?_
  refine lv_iconst (v := (0 : Int32)) hx hb dX7_house_1 rfl ?_
  refine r_put E hw iX7 tyX7_ok nmX7 0 0 rfl rfl (by decide) kf57 rfl rfl rfl rfl (Nat.le_of_ble_eq_true rfl) [(a_m, .inr (7, [.int (0 : Int32), .long m_trace, .ref a_m_text, .int m_typed, .int m_next, .int m_token, .int m_place, .int m_value, .int m_fault, .ref a_m_lifts, .ref a_m_price, .ref a_m_stood, .ref a_m_hands, .ref a_m_wanted, .int m_rooms, .int m_people, .int m_things, .int m_draftRooms, .int m_draftPeople, .int m_draftThings, .ref a_m_s, .ref a_m_kept, .ref a_m_isKept, .ref a_m_due, .int m_dueMany, .ref a_m_cost, .ref a_m_then, .ref a_m_by])), (a_m_text, .inl (cI, 300, .inl m_text)), (a_m_lifts, .inl (cI, 8, .inl m_lifts)), (a_m_price, .inl (cI, 8, .inl m_price)), (a_m_stood, .inl (cI, 16, .inl m_stood)), (a_m_hands, .inl (cI, 16, .inl m_hands)), (a_m_wanted, .inl (cI, 16, .inl m_wanted)), (a_m_s, .inl (cI, 21, .inl m_s)), (a_m_isKept, .inl (cZ, 2, .inl m_isKept))] rfl dX7_house_2 (fun H locs hw => ?_)
  refine lv_aload_n hx hb dX7_house_5 rfl (lv_at hl 0 rfl) ?_
  refine lv_iconst (v := (-1 : Int32)) hx hb dX7_house_6 rfl ?_
  refine r_put E hw iX7 tyX7_ok nmX7 0 8 rfl rfl (by decide) kf99 rfl rfl rfl rfl (Nat.le_of_ble_eq_true rfl) [(a_m, .inr (7, [.int (0 : Int32), .long m_trace, .ref a_m_text, .int m_typed, .int m_next, .int m_token, .int m_place, .int m_value, .int (-1 : Int32), .ref a_m_lifts, .ref a_m_price, .ref a_m_stood, .ref a_m_hands, .ref a_m_wanted, .int m_rooms, .int m_people, .int m_things, .int m_draftRooms, .int m_draftPeople, .int m_draftThings, .ref a_m_s, .ref a_m_kept, .ref a_m_isKept, .ref a_m_due, .int m_dueMany, .ref a_m_cost, .ref a_m_then, .ref a_m_by])), (a_m_text, .inl (cI, 300, .inl m_text)), (a_m_lifts, .inl (cI, 8, .inl m_lifts)), (a_m_price, .inl (cI, 8, .inl m_price)), (a_m_stood, .inl (cI, 16, .inl m_stood)), (a_m_hands, .inl (cI, 16, .inl m_hands)), (a_m_wanted, .inl (cI, 16, .inl m_wanted)), (a_m_s, .inl (cI, 21, .inl m_s)), (a_m_isKept, .inl (cZ, 2, .inl m_isKept))] rfl dX7_house_7 (fun H locs hw => ?_)
  refine lv_aload_n hx hb dX7_house_10 rfl (lv_at hl 0 rfl) ?_
  refine lv_iconst (v := (0 : Int32)) hx hb dX7_house_11 rfl ?_
  refine r_put E hw iX7 tyX7_ok nmX7 0 4 rfl rfl (by decide) kf79 rfl rfl rfl rfl (Nat.le_of_ble_eq_true rfl) [(a_m, .inr (7, [.int (0 : Int32), .long m_trace, .ref a_m_text, .int m_typed, .int (0 : Int32), .int m_token, .int m_place, .int m_value, .int (-1 : Int32), .ref a_m_lifts, .ref a_m_price, .ref a_m_stood, .ref a_m_hands, .ref a_m_wanted, .int m_rooms, .int m_people, .int m_things, .int m_draftRooms, .int m_draftPeople, .int m_draftThings, .ref a_m_s, .ref a_m_kept, .ref a_m_isKept, .ref a_m_due, .int m_dueMany, .ref a_m_cost, .ref a_m_then, .ref a_m_by])), (a_m_text, .inl (cI, 300, .inl m_text)), (a_m_lifts, .inl (cI, 8, .inl m_lifts)), (a_m_price, .inl (cI, 8, .inl m_price)), (a_m_stood, .inl (cI, 16, .inl m_stood)), (a_m_hands, .inl (cI, 16, .inl m_hands)), (a_m_wanted, .inl (cI, 16, .inl m_wanted)), (a_m_s, .inl (cI, 21, .inl m_s)), (a_m_isKept, .inl (cZ, 2, .inl m_isKept))] rfl dX7_house_12 (fun H locs hw => ?_)
  refine lv_iconst (v := (0 : Int32)) hx hb dX7_house_15 rfl ?_
  refine lv_istore_n (lv' := [(1, .int (0 : Int32)), (0, .ref a_m)]) hx hb dX7_house_16 rfl hl (by decide) rfl (fun ls hl => ?_)
  refine lv_aload_n hx hb dX7_house_17 rfl (lv_at hl 1 rfl) ?_
  refine lv_iconst (v := (4 : Int32)) hx hb dX7_house_18 rfl ?_
  refine r_put E hw iX7 tyX7_ok nmX7 0 17 rfl rfl (by decide) kf117 rfl rfl rfl rfl (Nat.le_of_ble_eq_true rfl) [(a_m, .inr (7, [.int (0 : Int32), .long m_trace, .ref a_m_text, .int m_typed, .int (0 : Int32), .int m_token, .int m_place, .int m_value, .int (-1 : Int32), .ref a_m_lifts, .ref a_m_price, .ref a_m_stood, .ref a_m_hands, .ref a_m_wanted, .int m_rooms, .int m_people, .int m_things, .int (4 : Int32), .int m_draftPeople, .int m_draftThings, .ref a_m_s, .ref a_m_kept, .ref a_m_isKept, .ref a_m_due, .int m_dueMany, .ref a_m_cost, .ref a_m_then, .ref a_m_by])), (a_m_text, .inl (cI, 300, .inl m_text)), (a_m_lifts, .inl (cI, 8, .inl m_lifts)), (a_m_price, .inl (cI, 8, .inl m_price)), (a_m_stood, .inl (cI, 16, .inl m_stood)), (a_m_hands, .inl (cI, 16, .inl m_hands)), (a_m_wanted, .inl (cI, 16, .inl m_wanted)), (a_m_s, .inl (cI, 21, .inl m_s)), (a_m_isKept, .inl (cZ, 2, .inl m_isKept))] rfl dX7_house_19 (fun H locs hw => ?_)
  refine lv_aload_n hx hb dX7_house_22 rfl (lv_at hl 1 rfl) ?_
  refine lv_iconst (v := (0 : Int32)) hx hb dX7_house_23 rfl ?_
  refine r_put E hw iX7 tyX7_ok nmX7 0 18 rfl rfl (by decide) kf120 rfl rfl rfl rfl (Nat.le_of_ble_eq_true rfl) [(a_m, .inr (7, [.int (0 : Int32), .long m_trace, .ref a_m_text, .int m_typed, .int (0 : Int32), .int m_token, .int m_place, .int m_value, .int (-1 : Int32), .ref a_m_lifts, .ref a_m_price, .ref a_m_stood, .ref a_m_hands, .ref a_m_wanted, .int m_rooms, .int m_people, .int m_things, .int (4 : Int32), .int (0 : Int32), .int m_draftThings, .ref a_m_s, .ref a_m_kept, .ref a_m_isKept, .ref a_m_due, .int m_dueMany, .ref a_m_cost, .ref a_m_then, .ref a_m_by])), (a_m_text, .inl (cI, 300, .inl m_text)), (a_m_lifts, .inl (cI, 8, .inl m_lifts)), (a_m_price, .inl (cI, 8, .inl m_price)), (a_m_stood, .inl (cI, 16, .inl m_stood)), (a_m_hands, .inl (cI, 16, .inl m_hands)), (a_m_wanted, .inl (cI, 16, .inl m_wanted)), (a_m_s, .inl (cI, 21, .inl m_s)), (a_m_isKept, .inl (cZ, 2, .inl m_isKept))] rfl dX7_house_24 (fun H locs hw => ?_)
  refine lv_aload_n hx hb dX7_house_27 rfl (lv_at hl 1 rfl) ?_
  refine lv_iconst (v := (0 : Int32)) hx hb dX7_house_28 rfl ?_
  refine r_put E hw iX7 tyX7_ok nmX7 0 19 rfl rfl (by decide) kf123 rfl rfl rfl rfl (Nat.le_of_ble_eq_true rfl) [(a_m, .inr (7, [.int (0 : Int32), .long m_trace, .ref a_m_text, .int m_typed, .int (0 : Int32), .int m_token, .int m_place, .int m_value, .int (-1 : Int32), .ref a_m_lifts, .ref a_m_price, .ref a_m_stood, .ref a_m_hands, .ref a_m_wanted, .int m_rooms, .int m_people, .int m_things, .int (4 : Int32), .int (0 : Int32), .int (0 : Int32), .ref a_m_s, .ref a_m_kept, .ref a_m_isKept, .ref a_m_due, .int m_dueMany, .ref a_m_cost, .ref a_m_then, .ref a_m_by])), (a_m_text, .inl (cI, 300, .inl m_text)), (a_m_lifts, .inl (cI, 8, .inl m_lifts)), (a_m_price, .inl (cI, 8, .inl m_price)), (a_m_stood, .inl (cI, 16, .inl m_stood)), (a_m_hands, .inl (cI, 16, .inl m_hands)), (a_m_wanted, .inl (cI, 16, .inl m_wanted)), (a_m_s, .inl (cI, 21, .inl m_s)), (a_m_isKept, .inl (cZ, 2, .inl m_isKept))] rfl dX7_house_29 (fun H locs hw => ?_)
  refine lv_aload_n hx hb dX7_house_32 rfl (lv_at hl 1 rfl) ?_
  obtain ⟨u1, u2, u3, u4, hu5, hf⟩ := bd4_some hf
  refine cl_v (wr := [(a_m_lifts, .inl (cI, 8, .inl m_lifts)), (a_m_price, .inl (cI, 8, .inl m_price)), (a_m_stood, .inl (cI, 16, .inl m_stood)), (a_m_hands, .inl (cI, 16, .inl m_hands)), (a_m_wanted, .inl (cI, 16, .inl m_wanted)), (a_m_s, .inl (cI, 21, .inl m_s)), (a_m_isKept, .inl (cZ, 2, .inl m_isKept))]) (w2 := [(a_m, .inr (7, [.int (0 : Int32), .long m_trace, .ref a_m_text, .int m_typed, .int u1, .int u2, .int u3, .int u4, .int (-1 : Int32), .ref a_m_lifts, .ref a_m_price, .ref a_m_stood, .ref a_m_hands, .ref a_m_wanted, .int m_rooms, .int m_people, .int m_things, .int (4 : Int32), .int (0 : Int32), .int (0 : Int32), .ref a_m_s, .ref a_m_kept, .ref a_m_isKept, .ref a_m_due, .int m_dueMany, .ref a_m_cost, .ref a_m_then, .ref a_m_by])), (a_m_text, .inl (cI, 300, .inl m_text)), (a_m_lifts, .inl (cI, 8, .inl m_lifts)), (a_m_price, .inl (cI, 8, .inl m_price)), (a_m_stood, .inl (cI, 16, .inl m_stood)), (a_m_hands, .inl (cI, 16, .inl m_hands)), (a_m_wanted, .inl (cI, 16, .inl m_wanted)), (a_m_s, .inl (cI, 21, .inl m_s)), (a_m_isKept, .inl (cZ, 2, .inl m_isKept))]) E hw [0, 1] [2, 3, 4, 5, 6, 7, 8] [7, 8, 0, 1, 2, 3, 4, 5, 6] (va_runV (As := []) (rest := []) E.1 (c_X7_advances l dC dI cI cB cZ aK aV a_m a_m_text a_m_lifts a_m_price a_m_stood a_m_hands a_m_wanted a_m_s a_m_kept a_m_isKept a_m_due a_m_cost a_m_then a_m_by H.size (0 : Int32) m_trace m_typed (0 : Int32) m_token m_place m_value (-1 : Int32) m_rooms m_people m_things (4 : Int32) (0 : Int32) (0 : Int32) m_dueMany m_text u1 u2 u3 u4 hu5) (cwV 0 hts gX7_house_X7_advances rfl rfl rfl hd_X7_advances ⟨Nat.le_of_ble_eq_true rfl, Nat.le_of_ble_eq_true rfl⟩) (pre_V E hw [0, 1] rfl rfl rfl rfl) rfl rfl hl.1 rfl (lv_room (Nat.le_of_ble_eq_true rfl)) dX7_house_33 ⟨Nat.zero_le _, Nat.zero_le _⟩) rfl rfl rfl (by decide) rfl rfl (fun H locs hw => ?_)
  refine (loop14_sound (r := (r, q0, q1, q2, q3, q4, q5, q6, q7, q8, q9, q10, q11, q12, q13, q14, q15, q16, q17, q18, q19)) (P := fun (x115 : Int32) (x116 : Int32) (x117 : Int32) (x118 : Int32) (x119 : Int32) (x120 : Int32) (x121 : Int32) (x122 : Int32) (x123 : Int32) (x124 : Nat → Int32) (x125 : Nat → Int32) (x126 : Nat → Int32) (x127 : Nat → Int32) (x128 : Nat → Int32) => ∀ (ls : Array Slot) (H : Heap) (locs : List Loc), lv_has ls 4 [(1, .int x115), (0, .ref a_m)] → Wd A s.heap (dC, dI) [(a_m, .inr (7, [.int (0 : Int32), .long m_trace, .ref a_m_text, .int m_typed, .int x116, .int x117, .int x118, .int x119, .int x120, .ref a_m_lifts, .ref a_m_price, .ref a_m_stood, .ref a_m_hands, .ref a_m_wanted, .int m_rooms, .int m_people, .int m_things, .int x121, .int x122, .int x123, .ref a_m_s, .ref a_m_kept, .ref a_m_isKept, .ref a_m_due, .int m_dueMany, .ref a_m_cost, .ref a_m_then, .ref a_m_by])), (a_m_text, .inl (cI, 300, .inl m_text)), (a_m_lifts, .inl (cI, 8, .inl x124)), (a_m_price, .inl (cI, 8, .inl x125)), (a_m_stood, .inl (cI, 16, .inl x126)), (a_m_hands, .inl (cI, 16, .inl x127)), (a_m_wanted, .inl (cI, 16, .inl x128)), (a_m_s, .inl (cI, 21, .inl m_s)), (a_m_isKept, .inl (cZ, 2, .inl m_isKept))] H locs → W p l e ({ frames := 7, cells := 0, slots := 0, locals := 159 } : Jvm.Room) s m args below meth c H locs 0 0 Q (F0 m 36 ls [])) (fun B36 x115 x116 x117 x118 x119 x120 x121 x122 x123 x124 x125 x126 x127 x128 ih36 hf => ?_) _ (0 : Int32) u1 u2 u3 u4 (-1 : Int32) (4 : Int32) (0 : Int32) (0 : Int32) m_lifts m_price m_stood m_hands m_wanted hf) ls H locs (lv_sub hl [0, 1] rfl) hw
  intro ls H locs hl hw
  refine lv_aload_n hx hb dX7_house_36 rfl (lv_at hl 1 rfl) ?_
  obtain ⟨r129, hu130, hf⟩ := bd1_some hf
  refine cl_i (wr := [(a_m_text, .inl (cI, 300, .inl m_text)), (a_m_lifts, .inl (cI, 8, .inl x124)), (a_m_price, .inl (cI, 8, .inl x125)), (a_m_stood, .inl (cI, 16, .inl x126)), (a_m_hands, .inl (cI, 16, .inl x127)), (a_m_wanted, .inl (cI, 16, .inl x128)), (a_m_s, .inl (cI, 21, .inl m_s)), (a_m_isKept, .inl (cZ, 2, .inl m_isKept))]) (w2 := [(a_m, .inr (7, [.int (0 : Int32), .long m_trace, .ref a_m_text, .int m_typed, .int x116, .int x117, .int x118, .int x119, .int x120, .ref a_m_lifts, .ref a_m_price, .ref a_m_stood, .ref a_m_hands, .ref a_m_wanted, .int m_rooms, .int m_people, .int m_things, .int x121, .int x122, .int x123, .ref a_m_s, .ref a_m_kept, .ref a_m_isKept, .ref a_m_due, .int m_dueMany, .ref a_m_cost, .ref a_m_then, .ref a_m_by])), (a_m_text, .inl (cI, 300, .inl m_text)), (a_m_lifts, .inl (cI, 8, .inl x124)), (a_m_price, .inl (cI, 8, .inl x125)), (a_m_stood, .inl (cI, 16, .inl x126)), (a_m_hands, .inl (cI, 16, .inl x127)), (a_m_wanted, .inl (cI, 16, .inl x128)), (a_m_s, .inl (cI, 21, .inl m_s)), (a_m_isKept, .inl (cZ, 2, .inl m_isKept))]) E hw [0] [1, 2, 3, 4, 5, 6, 7, 8] [8, 0, 1, 2, 3, 4, 5, 6, 7] (va_runV (As := []) (rest := []) E.1 (c_X7_isWell l dC dI cI cB cZ aK aV a_m a_m_text a_m_lifts a_m_price a_m_stood a_m_hands a_m_wanted a_m_s a_m_kept a_m_isKept a_m_due a_m_cost a_m_then a_m_by H.size (0 : Int32) m_trace m_typed x116 x117 x118 x119 x120 m_rooms m_people m_things x121 x122 x123 m_dueMany r129 hu130) (cwV 0 hts gX7_house_X7_isWell rfl rfl rfl hd_X7_isWell ⟨Nat.le_of_ble_eq_true rfl, Nat.le_of_ble_eq_true rfl⟩) (pre_V E hw [0] rfl rfl rfl rfl) rfl rfl hl.1 rfl (lv_room (Nat.le_of_ble_eq_true rfl)) dX7_house_37 ⟨Nat.zero_le _, Nat.zero_le _⟩) rfl rfl rfl (by decide) rfl rfl (fun H locs hw => ?_)
  refine jn_sound (P := fun J => ∀ (ls : Array Slot) (H : Heap) (locs : List Loc), J = some (r, q0, q1, q2, q3, q4, q5, q6, q7, q8, q9, q10, q11, q12, q13, q14, q15, q16, q17, q18, q19) → lv_has ls 4 [(0, .ref a_m), (1, .int x115)] → Wd A s.heap (dC, dI) [(a_m, .inr (7, [.int (0 : Int32), .long m_trace, .ref a_m_text, .int m_typed, .int x116, .int x117, .int x118, .int x119, .int x120, .ref a_m_lifts, .ref a_m_price, .ref a_m_stood, .ref a_m_hands, .ref a_m_wanted, .int m_rooms, .int m_people, .int m_things, .int x121, .int x122, .int x123, .ref a_m_s, .ref a_m_kept, .ref a_m_isKept, .ref a_m_due, .int m_dueMany, .ref a_m_cost, .ref a_m_then, .ref a_m_by])), (a_m_text, .inl (cI, 300, .inl m_text)), (a_m_lifts, .inl (cI, 8, .inl x124)), (a_m_price, .inl (cI, 8, .inl x125)), (a_m_stood, .inl (cI, 16, .inl x126)), (a_m_hands, .inl (cI, 16, .inl x127)), (a_m_wanted, .inl (cI, 16, .inl x128)), (a_m_s, .inl (cI, 21, .inl m_s)), (a_m_isKept, .inl (cZ, 2, .inl m_isKept))] H locs → W p l e ({ frames := 7, cells := 0, slots := 0, locals := 159 } : Jvm.Room) s m args below meth c H locs 0 0 Q (F0 m 174 ls [])) hf ?_ ?_
  · intro ls H locs hf hl hw
    refine lv_aload_n hx hb dX7_house_174 rfl (lv_at hl 0 rfl) ?_
    obtain ⟨r177, hu178, hf⟩ := bd1_some hf
    refine cl_i (wr := [(a_m_text, .inl (cI, 300, .inl m_text)), (a_m_lifts, .inl (cI, 8, .inl x124)), (a_m_price, .inl (cI, 8, .inl x125)), (a_m_stood, .inl (cI, 16, .inl x126)), (a_m_hands, .inl (cI, 16, .inl x127)), (a_m_wanted, .inl (cI, 16, .inl x128)), (a_m_s, .inl (cI, 21, .inl m_s)), (a_m_isKept, .inl (cZ, 2, .inl m_isKept))]) (w2 := [(a_m, .inr (7, [.int (0 : Int32), .long m_trace, .ref a_m_text, .int m_typed, .int x116, .int x117, .int x118, .int x119, .int x120, .ref a_m_lifts, .ref a_m_price, .ref a_m_stood, .ref a_m_hands, .ref a_m_wanted, .int m_rooms, .int m_people, .int m_things, .int x121, .int x122, .int x123, .ref a_m_s, .ref a_m_kept, .ref a_m_isKept, .ref a_m_due, .int m_dueMany, .ref a_m_cost, .ref a_m_then, .ref a_m_by])), (a_m_text, .inl (cI, 300, .inl m_text)), (a_m_lifts, .inl (cI, 8, .inl x124)), (a_m_price, .inl (cI, 8, .inl x125)), (a_m_stood, .inl (cI, 16, .inl x126)), (a_m_hands, .inl (cI, 16, .inl x127)), (a_m_wanted, .inl (cI, 16, .inl x128)), (a_m_s, .inl (cI, 21, .inl m_s)), (a_m_isKept, .inl (cZ, 2, .inl m_isKept))]) E hw [0] [1, 2, 3, 4, 5, 6, 7, 8] [8, 0, 1, 2, 3, 4, 5, 6, 7] (va_runV (As := []) (rest := []) E.1 (c_X7_isWell l dC dI cI cB cZ aK aV a_m a_m_text a_m_lifts a_m_price a_m_stood a_m_hands a_m_wanted a_m_s a_m_kept a_m_isKept a_m_due a_m_cost a_m_then a_m_by H.size (0 : Int32) m_trace m_typed x116 x117 x118 x119 x120 m_rooms m_people m_things x121 x122 x123 m_dueMany r177 hu178) (cwV 0 hts gX7_house_X7_isWell rfl rfl rfl hd_X7_isWell ⟨Nat.le_of_ble_eq_true rfl, Nat.le_of_ble_eq_true rfl⟩) (pre_V E hw [0] rfl rfl rfl rfl) rfl rfl hl.1 rfl (lv_room (Nat.le_of_ble_eq_true rfl)) dX7_house_175 ⟨Nat.zero_le _, Nat.zero_le _⟩) rfl rfl rfl (by decide) rfl rfl (fun H locs hw => ?_)
    refine lv_if_ne (tgt := 189) hx hb dX7_house_178 (by decide) (fun kc => ?_) (fun kc => ?_)
    · have hf := if_f hf kc
      refine lv_aload_n hx hb dX7_house_189 rfl (lv_at hl 0 rfl) ?_
      refine lv_aload_n hx hb dX7_house_190 rfl (lv_at hl 0 rfl) ?_
      refine r_get E hw iX7 0 17 rfl rfl (by decide) kf117 rfl rfl dX7_house_191 ?_
      refine r_put E hw iX7 tyX7_ok nmX7 0 14 rfl rfl (by decide) kf50 rfl rfl rfl rfl (Nat.le_of_ble_eq_true rfl) [(a_m, .inr (7, [.int (0 : Int32), .long m_trace, .ref a_m_text, .int m_typed, .int x116, .int x117, .int x118, .int x119, .int x120, .ref a_m_lifts, .ref a_m_price, .ref a_m_stood, .ref a_m_hands, .ref a_m_wanted, .int x121, .int m_people, .int m_things, .int x121, .int x122, .int x123, .ref a_m_s, .ref a_m_kept, .ref a_m_isKept, .ref a_m_due, .int m_dueMany, .ref a_m_cost, .ref a_m_then, .ref a_m_by])), (a_m_text, .inl (cI, 300, .inl m_text)), (a_m_lifts, .inl (cI, 8, .inl x124)), (a_m_price, .inl (cI, 8, .inl x125)), (a_m_stood, .inl (cI, 16, .inl x126)), (a_m_hands, .inl (cI, 16, .inl x127)), (a_m_wanted, .inl (cI, 16, .inl x128)), (a_m_s, .inl (cI, 21, .inl m_s)), (a_m_isKept, .inl (cZ, 2, .inl m_isKept))] rfl dX7_house_194 (fun H locs hw => ?_)
      refine lv_aload_n hx hb dX7_house_197 rfl (lv_at hl 0 rfl) ?_
      refine lv_aload_n hx hb dX7_house_198 rfl (lv_at hl 0 rfl) ?_
      refine r_get E hw iX7 0 18 rfl rfl (by decide) kf120 rfl rfl dX7_house_199 ?_
      refine r_put E hw iX7 tyX7_ok nmX7 0 15 rfl rfl (by decide) kf130 rfl rfl rfl rfl (Nat.le_of_ble_eq_true rfl) [(a_m, .inr (7, [.int (0 : Int32), .long m_trace, .ref a_m_text, .int m_typed, .int x116, .int x117, .int x118, .int x119, .int x120, .ref a_m_lifts, .ref a_m_price, .ref a_m_stood, .ref a_m_hands, .ref a_m_wanted, .int x121, .int x122, .int m_things, .int x121, .int x122, .int x123, .ref a_m_s, .ref a_m_kept, .ref a_m_isKept, .ref a_m_due, .int m_dueMany, .ref a_m_cost, .ref a_m_then, .ref a_m_by])), (a_m_text, .inl (cI, 300, .inl m_text)), (a_m_lifts, .inl (cI, 8, .inl x124)), (a_m_price, .inl (cI, 8, .inl x125)), (a_m_stood, .inl (cI, 16, .inl x126)), (a_m_hands, .inl (cI, 16, .inl x127)), (a_m_wanted, .inl (cI, 16, .inl x128)), (a_m_s, .inl (cI, 21, .inl m_s)), (a_m_isKept, .inl (cZ, 2, .inl m_isKept))] rfl dX7_house_202 (fun H locs hw => ?_)
      refine lv_aload_n hx hb dX7_house_205 rfl (lv_at hl 0 rfl) ?_
      refine lv_aload_n hx hb dX7_house_206 rfl (lv_at hl 0 rfl) ?_
      refine r_get E hw iX7 0 19 rfl rfl (by decide) kf123 rfl rfl dX7_house_207 ?_
      refine r_put E hw iX7 tyX7_ok nmX7 0 16 rfl rfl (by decide) kf133 rfl rfl rfl rfl (Nat.le_of_ble_eq_true rfl) [(a_m, .inr (7, [.int (0 : Int32), .long m_trace, .ref a_m_text, .int m_typed, .int x116, .int x117, .int x118, .int x119, .int x120, .ref a_m_lifts, .ref a_m_price, .ref a_m_stood, .ref a_m_hands, .ref a_m_wanted, .int x121, .int x122, .int x123, .int x121, .int x122, .int x123, .ref a_m_s, .ref a_m_kept, .ref a_m_isKept, .ref a_m_due, .int m_dueMany, .ref a_m_cost, .ref a_m_then, .ref a_m_by])), (a_m_text, .inl (cI, 300, .inl m_text)), (a_m_lifts, .inl (cI, 8, .inl x124)), (a_m_price, .inl (cI, 8, .inl x125)), (a_m_stood, .inl (cI, 16, .inl x126)), (a_m_hands, .inl (cI, 16, .inl x127)), (a_m_wanted, .inl (cI, 16, .inl x128)), (a_m_s, .inl (cI, 21, .inl m_s)), (a_m_isKept, .inl (cZ, 2, .inl m_isKept))] rfl dX7_house_210 (fun H locs hw => ?_)
      refine lv_iconst (v := (0 : Int32)) hx hb dX7_house_213 rfl ?_
      refine lv_istore_n (lv' := [(2, .int (0 : Int32)), (0, .ref a_m), (1, .int x115)]) hx hb dX7_house_214 rfl hl (by decide) rfl (fun ls hl => ?_)
      refine (loop3_sound (r := (r, q0, q1, q2, q3, q4, q5, q6, q7, q8, q9, q10, q11, q12, q13, q14, q15, q16, q17, q18, q19)) (P := fun (x207 : Int32) (x208 : Nat → Int32) (x209 : Nat → Int32) => ∀ (ls : Array Slot) (H : Heap) (locs : List Loc), lv_has ls 4 [(2, .int x207), (0, .ref a_m), (1, .int x115)] → Wd A s.heap (dC, dI) [(a_m, .inr (7, [.int (0 : Int32), .long m_trace, .ref a_m_text, .int m_typed, .int x116, .int x117, .int x118, .int x119, .int x120, .ref a_m_lifts, .ref a_m_price, .ref a_m_stood, .ref a_m_hands, .ref a_m_wanted, .int x121, .int x122, .int x123, .int x121, .int x122, .int x123, .ref a_m_s, .ref a_m_kept, .ref a_m_isKept, .ref a_m_due, .int m_dueMany, .ref a_m_cost, .ref a_m_then, .ref a_m_by])), (a_m_text, .inl (cI, 300, .inl m_text)), (a_m_lifts, .inl (cI, 8, .inl x208)), (a_m_price, .inl (cI, 8, .inl x209)), (a_m_stood, .inl (cI, 16, .inl x126)), (a_m_hands, .inl (cI, 16, .inl x127)), (a_m_wanted, .inl (cI, 16, .inl x128)), (a_m_s, .inl (cI, 21, .inl m_s)), (a_m_isKept, .inl (cZ, 2, .inl m_isKept))] H locs → W p l e ({ frames := 7, cells := 0, slots := 0, locals := 159 } : Jvm.Room) s m args below meth c H locs 0 0 Q (F0 m 215 ls [])) (fun B215 x207 x208 x209 ih215 hf => ?_) _ (0 : Int32) x124 x125 hf) ls H locs (lv_sub hl [0, 1, 2] rfl) hw
      intro ls H locs hl hw
      refine lv_iload_n hx hb dX7_house_215 rfl (lv_at hl 0 rfl) ?_
      refine lv_iconst (v := (4 : Int32)) hx hb dX7_house_216 rfl ?_
      refine lv_icmp_ge (tgt := 254) hx hb dX7_house_217 (by decide) (fun kc => ?_) (fun kc => ?_)
      · have hf := if_t hf kc
        refine lv_iconst (v := (0 : Int32)) hx hb dX7_house_254 rfl ?_
        refine lv_istore_n (lv' := [(2, .int (0 : Int32)), (0, .ref a_m), (1, .int x115)]) hx hb dX7_house_255 rfl hl (by decide) rfl (fun ls hl => ?_)
        refine (loop4_sound (r := (r, q0, q1, q2, q3, q4, q5, q6, q7, q8, q9, q10, q11, q12, q13, q14, q15, q16, q17, q18, q19)) (P := fun (x220 : Int32) (x221 : Nat → Int32) (x222 : Nat → Int32) (x223 : Nat → Int32) => ∀ (ls : Array Slot) (H : Heap) (locs : List Loc), lv_has ls 4 [(2, .int x220), (0, .ref a_m), (1, .int x115)] → Wd A s.heap (dC, dI) [(a_m, .inr (7, [.int (0 : Int32), .long m_trace, .ref a_m_text, .int m_typed, .int x116, .int x117, .int x118, .int x119, .int x120, .ref a_m_lifts, .ref a_m_price, .ref a_m_stood, .ref a_m_hands, .ref a_m_wanted, .int x121, .int x122, .int x123, .int x121, .int x122, .int x123, .ref a_m_s, .ref a_m_kept, .ref a_m_isKept, .ref a_m_due, .int m_dueMany, .ref a_m_cost, .ref a_m_then, .ref a_m_by])), (a_m_text, .inl (cI, 300, .inl m_text)), (a_m_lifts, .inl (cI, 8, .inl x208)), (a_m_price, .inl (cI, 8, .inl x209)), (a_m_stood, .inl (cI, 16, .inl x221)), (a_m_hands, .inl (cI, 16, .inl x222)), (a_m_wanted, .inl (cI, 16, .inl x223)), (a_m_s, .inl (cI, 21, .inl m_s)), (a_m_isKept, .inl (cZ, 2, .inl m_isKept))] H locs → W p l e ({ frames := 7, cells := 0, slots := 0, locals := 159 } : Jvm.Room) s m args below meth c H locs 0 0 Q (F0 m 256 ls [])) (fun B256 x220 x221 x222 x223 ih256 hf => ?_) _ (0 : Int32) x126 x127 x128 hf) ls H locs (lv_sub hl [0, 1, 2] rfl) hw
        intro ls H locs hl hw
        refine lv_iload_n hx hb dX7_house_256 rfl (lv_at hl 0 rfl) ?_
        refine lv_bipush (v := (8 : Int32)) hx hb dX7_house_257 rfl ?_
        refine lv_icmp_ge (tgt := 313) hx hb dX7_house_259 (by decide) (fun kc => ?_) (fun kc => ?_)
        · have hf := if_t hf kc
          refine lv_aload_n hx hb dX7_house_313 rfl (lv_at hl 1 rfl) ?_
          refine lv_iconst (v := (0 : Int32)) hx hb dX7_house_314 rfl ?_
          refine r_put E hw iX7 tyX7_ok nmX7 0 3 rfl rfl (by decide) kf64 rfl rfl rfl rfl (Nat.le_of_ble_eq_true rfl) [(a_m, .inr (7, [.int (0 : Int32), .long m_trace, .ref a_m_text, .int (0 : Int32), .int x116, .int x117, .int x118, .int x119, .int x120, .ref a_m_lifts, .ref a_m_price, .ref a_m_stood, .ref a_m_hands, .ref a_m_wanted, .int x121, .int x122, .int x123, .int x121, .int x122, .int x123, .ref a_m_s, .ref a_m_kept, .ref a_m_isKept, .ref a_m_due, .int m_dueMany, .ref a_m_cost, .ref a_m_then, .ref a_m_by])), (a_m_text, .inl (cI, 300, .inl m_text)), (a_m_lifts, .inl (cI, 8, .inl x208)), (a_m_price, .inl (cI, 8, .inl x209)), (a_m_stood, .inl (cI, 16, .inl x221)), (a_m_hands, .inl (cI, 16, .inl x222)), (a_m_wanted, .inl (cI, 16, .inl x223)), (a_m_s, .inl (cI, 21, .inl m_s)), (a_m_isKept, .inl (cZ, 2, .inl m_isKept))] rfl dX7_house_315 (fun H locs hw => ?_)
          refine lv_aload_n hx hb dX7_house_318 rfl (lv_at hl 1 rfl) ?_
          refine r_get E hw iX7 0 22 rfl rfl (by decide) kf34 rfl rfl dX7_house_319 ?_
          refine lv_iconst (v := (0 : Int32)) hx hb dX7_house_322 rfl ?_
          refine lv_iconst (v := (0 : Int32)) hx hb dX7_house_323 rfl ?_
          obtain ⟨g224, hf⟩ := gd_some hf
          refine r_zast E hw 8 rfl g224 [(a_m, .inr (7, [.int (0 : Int32), .long m_trace, .ref a_m_text, .int (0 : Int32), .int x116, .int x117, .int x118, .int x119, .int x120, .ref a_m_lifts, .ref a_m_price, .ref a_m_stood, .ref a_m_hands, .ref a_m_wanted, .int x121, .int x122, .int x123, .int x121, .int x122, .int x123, .ref a_m_s, .ref a_m_kept, .ref a_m_isKept, .ref a_m_due, .int m_dueMany, .ref a_m_cost, .ref a_m_then, .ref a_m_by])), (a_m_text, .inl (cI, 300, .inl m_text)), (a_m_lifts, .inl (cI, 8, .inl x208)), (a_m_price, .inl (cI, 8, .inl x209)), (a_m_stood, .inl (cI, 16, .inl x221)), (a_m_hands, .inl (cI, 16, .inl x222)), (a_m_wanted, .inl (cI, 16, .inl x223)), (a_m_s, .inl (cI, 21, .inl m_s)), (a_m_isKept, .inl (cZ, 2, .inl (upd m_isKept (0 : Int32).toNatClampNeg (vp_nar .boolean (0 : Int32)))))] rfl dX7_house_324 (fun H locs hw => ?_)
          refine lv_aload_n hx hb dX7_house_325 rfl (lv_at hl 1 rfl) ?_
          refine r_get E hw iX7 0 22 rfl rfl (by decide) kf34 rfl rfl dX7_house_326 ?_
          refine lv_iconst (v := (1 : Int32)) hx hb dX7_house_329 rfl ?_
          refine lv_iconst (v := (0 : Int32)) hx hb dX7_house_330 rfl ?_
          obtain ⟨g225, hf⟩ := gd_some hf
          refine r_zast E hw 8 rfl g225 [(a_m, .inr (7, [.int (0 : Int32), .long m_trace, .ref a_m_text, .int (0 : Int32), .int x116, .int x117, .int x118, .int x119, .int x120, .ref a_m_lifts, .ref a_m_price, .ref a_m_stood, .ref a_m_hands, .ref a_m_wanted, .int x121, .int x122, .int x123, .int x121, .int x122, .int x123, .ref a_m_s, .ref a_m_kept, .ref a_m_isKept, .ref a_m_due, .int m_dueMany, .ref a_m_cost, .ref a_m_then, .ref a_m_by])), (a_m_text, .inl (cI, 300, .inl m_text)), (a_m_lifts, .inl (cI, 8, .inl x208)), (a_m_price, .inl (cI, 8, .inl x209)), (a_m_stood, .inl (cI, 16, .inl x221)), (a_m_hands, .inl (cI, 16, .inl x222)), (a_m_wanted, .inl (cI, 16, .inl x223)), (a_m_s, .inl (cI, 21, .inl m_s)), (a_m_isKept, .inl (cZ, 2, .inl (upd (upd m_isKept (0 : Int32).toNatClampNeg (vp_nar .boolean (0 : Int32))) (1 : Int32).toNatClampNeg (vp_nar .boolean (0 : Int32)))))] rfl dX7_house_331 (fun H locs hw => ?_)
          refine lv_aload_n hx hb dX7_house_332 rfl (lv_at hl 1 rfl) ?_
          obtain ⟨u226, hu227, hf⟩ := bd1_some hf
          refine cl_v (wr := [(a_m_text, .inl (cI, 300, .inl m_text)), (a_m_price, .inl (cI, 8, .inl x209)), (a_m_hands, .inl (cI, 16, .inl x222)), (a_m_wanted, .inl (cI, 16, .inl x223)), (a_m_isKept, .inl (cZ, 2, .inl (upd (upd m_isKept (0 : Int32).toNatClampNeg (vp_nar .boolean (0 : Int32))) (1 : Int32).toNatClampNeg (vp_nar .boolean (0 : Int32)))))]) (w2 := [(a_m, .inr (7, [.int (0 : Int32), .long m_trace, .ref a_m_text, .int (0 : Int32), .int x116, .int x117, .int x118, .int x119, .int x120, .ref a_m_lifts, .ref a_m_price, .ref a_m_stood, .ref a_m_hands, .ref a_m_wanted, .int x121, .int x122, .int x123, .int x121, .int x122, .int x123, .ref a_m_s, .ref a_m_kept, .ref a_m_isKept, .ref a_m_due, .int m_dueMany, .ref a_m_cost, .ref a_m_then, .ref a_m_by])), (a_m_text, .inl (cI, 300, .inl m_text)), (a_m_lifts, .inl (cI, 8, .inl x208)), (a_m_price, .inl (cI, 8, .inl x209)), (a_m_stood, .inl (cI, 16, .inl x221)), (a_m_hands, .inl (cI, 16, .inl x222)), (a_m_wanted, .inl (cI, 16, .inl x223)), (a_m_s, .inl (cI, 21, .inl u226)), (a_m_isKept, .inl (cZ, 2, .inl (upd (upd m_isKept (0 : Int32).toNatClampNeg (vp_nar .boolean (0 : Int32))) (1 : Int32).toNatClampNeg (vp_nar .boolean (0 : Int32)))))]) E hw [0, 2, 4, 7] [1, 3, 5, 6, 8] [5, 0, 6, 1, 7, 2, 3, 8, 4] (va_runV (As := []) (rest := []) E.1 (c_X7_begins l dC dI cI cB cZ aK aV a_m a_m_text a_m_lifts a_m_price a_m_stood a_m_hands a_m_wanted a_m_s a_m_kept a_m_isKept a_m_due a_m_cost a_m_then a_m_by H.size (0 : Int32) m_trace (0 : Int32) x116 x117 x118 x119 x120 x121 x122 x123 x121 x122 x123 m_dueMany x208 x221 m_s u226 hu227) (cwV 0 hts gX7_house_X7_begins rfl rfl rfl hd_X7_begins ⟨Nat.le_of_ble_eq_true rfl, Nat.le_of_ble_eq_true rfl⟩) (pre_V E hw [0, 2, 4, 7] rfl rfl rfl rfl) rfl rfl hl.1 rfl (lv_room (Nat.le_of_ble_eq_true rfl)) dX7_house_333 ⟨Nat.zero_le _, Nat.zero_le _⟩) rfl rfl rfl (by decide) rfl rfl (fun H locs hw => ?_)
          refine lv_iload_n hx hb dX7_house_336 rfl (lv_at hl 2 rfl) ?_
          obtain ⟨rfl, rfl, rfl, rfl, rfl, rfl, rfl, rfl, rfl, rfl, rfl, rfl, rfl, rfl, rfl, rfl, rfl, rfl, rfl, rfl, rfl⟩ := sm21 hf
          exact hret H locs ls 337 hw dX7_house_337
        · have hf := if_f hf kc
          refine lv_aload_n hx hb dX7_house_262 rfl (lv_at hl 1 rfl) ?_
          refine r_get E hw iX7 0 11 rfl rfl (by decide) kf19 rfl rfl dX7_house_263 ?_
          refine lv_iload_n hx hb dX7_house_266 rfl (lv_at hl 0 rfl) ?_
          refine lv_aload_n hx hb dX7_house_267 rfl (lv_at hl 1 rfl) ?_
          refine r_get E hw iX7 0 11 rfl rfl (by decide) kf19 rfl rfl dX7_house_268 ?_
          refine lv_bipush (v := (8 : Int32)) hx hb dX7_house_271 rfl ?_
          refine lv_iload_n hx hb dX7_house_273 rfl (lv_at hl 0 rfl) ?_
          refine lv_iadd hx hb dX7_house_274 ?_
          obtain ⟨g228, hf⟩ := gd_some hf
          refine r_iald E hw 4 rfl g228 dX7_house_275 ?_
          obtain ⟨g229, hf⟩ := gd_some hf
          refine r_iast E hw 4 rfl g229 [(a_m, .inr (7, [.int (0 : Int32), .long m_trace, .ref a_m_text, .int m_typed, .int x116, .int x117, .int x118, .int x119, .int x120, .ref a_m_lifts, .ref a_m_price, .ref a_m_stood, .ref a_m_hands, .ref a_m_wanted, .int x121, .int x122, .int x123, .int x121, .int x122, .int x123, .ref a_m_s, .ref a_m_kept, .ref a_m_isKept, .ref a_m_due, .int m_dueMany, .ref a_m_cost, .ref a_m_then, .ref a_m_by])), (a_m_text, .inl (cI, 300, .inl m_text)), (a_m_lifts, .inl (cI, 8, .inl x208)), (a_m_price, .inl (cI, 8, .inl x209)), (a_m_stood, .inl (cI, 16, .inl (upd x221 x220.toNatClampNeg (x221 ((8 : Int32) + x220).toNatClampNeg)))), (a_m_hands, .inl (cI, 16, .inl x222)), (a_m_wanted, .inl (cI, 16, .inl x223)), (a_m_s, .inl (cI, 21, .inl m_s)), (a_m_isKept, .inl (cZ, 2, .inl m_isKept))] rfl dX7_house_276 (fun H locs hw => ?_)
          refine lv_aload_n hx hb dX7_house_277 rfl (lv_at hl 1 rfl) ?_
          refine r_get E hw iX7 0 12 rfl rfl (by decide) kf22 rfl rfl dX7_house_278 ?_
          refine lv_iload_n hx hb dX7_house_281 rfl (lv_at hl 0 rfl) ?_
          refine lv_aload_n hx hb dX7_house_282 rfl (lv_at hl 1 rfl) ?_
          refine r_get E hw iX7 0 12 rfl rfl (by decide) kf22 rfl rfl dX7_house_283 ?_
          refine lv_bipush (v := (8 : Int32)) hx hb dX7_house_286 rfl ?_
          refine lv_iload_n hx hb dX7_house_288 rfl (lv_at hl 0 rfl) ?_
          refine lv_iadd hx hb dX7_house_289 ?_
          obtain ⟨g230, hf⟩ := gd_some hf
          refine r_iald E hw 5 rfl g230 dX7_house_290 ?_
          obtain ⟨g231, hf⟩ := gd_some hf
          refine r_iast E hw 5 rfl g231 [(a_m, .inr (7, [.int (0 : Int32), .long m_trace, .ref a_m_text, .int m_typed, .int x116, .int x117, .int x118, .int x119, .int x120, .ref a_m_lifts, .ref a_m_price, .ref a_m_stood, .ref a_m_hands, .ref a_m_wanted, .int x121, .int x122, .int x123, .int x121, .int x122, .int x123, .ref a_m_s, .ref a_m_kept, .ref a_m_isKept, .ref a_m_due, .int m_dueMany, .ref a_m_cost, .ref a_m_then, .ref a_m_by])), (a_m_text, .inl (cI, 300, .inl m_text)), (a_m_lifts, .inl (cI, 8, .inl x208)), (a_m_price, .inl (cI, 8, .inl x209)), (a_m_stood, .inl (cI, 16, .inl (upd x221 x220.toNatClampNeg (x221 ((8 : Int32) + x220).toNatClampNeg)))), (a_m_hands, .inl (cI, 16, .inl (upd x222 x220.toNatClampNeg (x222 ((8 : Int32) + x220).toNatClampNeg)))), (a_m_wanted, .inl (cI, 16, .inl x223)), (a_m_s, .inl (cI, 21, .inl m_s)), (a_m_isKept, .inl (cZ, 2, .inl m_isKept))] rfl dX7_house_291 (fun H locs hw => ?_)
          refine lv_aload_n hx hb dX7_house_292 rfl (lv_at hl 1 rfl) ?_
          refine r_get E hw iX7 0 13 rfl rfl (by decide) kf25 rfl rfl dX7_house_293 ?_
          refine lv_iload_n hx hb dX7_house_296 rfl (lv_at hl 0 rfl) ?_
          refine lv_aload_n hx hb dX7_house_297 rfl (lv_at hl 1 rfl) ?_
          refine r_get E hw iX7 0 13 rfl rfl (by decide) kf25 rfl rfl dX7_house_298 ?_
          refine lv_bipush (v := (8 : Int32)) hx hb dX7_house_301 rfl ?_
          refine lv_iload_n hx hb dX7_house_303 rfl (lv_at hl 0 rfl) ?_
          refine lv_iadd hx hb dX7_house_304 ?_
          obtain ⟨g232, hf⟩ := gd_some hf
          refine r_iald E hw 6 rfl g232 dX7_house_305 ?_
          obtain ⟨g233, hf⟩ := gd_some hf
          refine r_iast E hw 6 rfl g233 [(a_m, .inr (7, [.int (0 : Int32), .long m_trace, .ref a_m_text, .int m_typed, .int x116, .int x117, .int x118, .int x119, .int x120, .ref a_m_lifts, .ref a_m_price, .ref a_m_stood, .ref a_m_hands, .ref a_m_wanted, .int x121, .int x122, .int x123, .int x121, .int x122, .int x123, .ref a_m_s, .ref a_m_kept, .ref a_m_isKept, .ref a_m_due, .int m_dueMany, .ref a_m_cost, .ref a_m_then, .ref a_m_by])), (a_m_text, .inl (cI, 300, .inl m_text)), (a_m_lifts, .inl (cI, 8, .inl x208)), (a_m_price, .inl (cI, 8, .inl x209)), (a_m_stood, .inl (cI, 16, .inl (upd x221 x220.toNatClampNeg (x221 ((8 : Int32) + x220).toNatClampNeg)))), (a_m_hands, .inl (cI, 16, .inl (upd x222 x220.toNatClampNeg (x222 ((8 : Int32) + x220).toNatClampNeg)))), (a_m_wanted, .inl (cI, 16, .inl (upd x223 x220.toNatClampNeg (x223 ((8 : Int32) + x220).toNatClampNeg)))), (a_m_s, .inl (cI, 21, .inl m_s)), (a_m_isKept, .inl (cZ, 2, .inl m_isKept))] rfl dX7_house_306 (fun H locs hw => ?_)
          refine lv_iinc (v := (x220 + (1 : Int32))) (lv' := [(2, .int (x220 + (1 : Int32))), (0, .ref a_m), (1, .int x115)]) hx hb dX7_house_307 hl (k := 0) rfl rfl (by decide) rfl (fun ls hl => ?_)
          refine lv_goto (tgt := 256) hx hb dX7_house_310 (by decide) ?_
          exact ih256 (x220 + (1 : Int32)) (upd x221 x220.toNatClampNeg (x221 ((8 : Int32) + x220).toNatClampNeg)) (upd x222 x220.toNatClampNeg (x222 ((8 : Int32) + x220).toNatClampNeg)) (upd x223 x220.toNatClampNeg (x223 ((8 : Int32) + x220).toNatClampNeg)) hf ls H locs (lv_sub hl [0, 1, 2] rfl) hw
      · have hf := if_f hf kc
        refine lv_aload_n hx hb dX7_house_220 rfl (lv_at hl 1 rfl) ?_
        refine r_get E hw iX7 0 9 rfl rfl (by decide) kf13 rfl rfl dX7_house_221 ?_
        refine lv_iload_n hx hb dX7_house_224 rfl (lv_at hl 0 rfl) ?_
        refine lv_aload_n hx hb dX7_house_225 rfl (lv_at hl 1 rfl) ?_
        refine r_get E hw iX7 0 9 rfl rfl (by decide) kf13 rfl rfl dX7_house_226 ?_
        refine lv_iconst (v := (4 : Int32)) hx hb dX7_house_229 rfl ?_
        refine lv_iload_n hx hb dX7_house_230 rfl (lv_at hl 0 rfl) ?_
        refine lv_iadd hx hb dX7_house_231 ?_
        obtain ⟨g234, hf⟩ := gd_some hf
        refine r_iald E hw 2 rfl g234 dX7_house_232 ?_
        obtain ⟨g235, hf⟩ := gd_some hf
        refine r_iast E hw 2 rfl g235 [(a_m, .inr (7, [.int (0 : Int32), .long m_trace, .ref a_m_text, .int m_typed, .int x116, .int x117, .int x118, .int x119, .int x120, .ref a_m_lifts, .ref a_m_price, .ref a_m_stood, .ref a_m_hands, .ref a_m_wanted, .int x121, .int x122, .int x123, .int x121, .int x122, .int x123, .ref a_m_s, .ref a_m_kept, .ref a_m_isKept, .ref a_m_due, .int m_dueMany, .ref a_m_cost, .ref a_m_then, .ref a_m_by])), (a_m_text, .inl (cI, 300, .inl m_text)), (a_m_lifts, .inl (cI, 8, .inl (upd x208 x207.toNatClampNeg (x208 ((4 : Int32) + x207).toNatClampNeg)))), (a_m_price, .inl (cI, 8, .inl x209)), (a_m_stood, .inl (cI, 16, .inl x126)), (a_m_hands, .inl (cI, 16, .inl x127)), (a_m_wanted, .inl (cI, 16, .inl x128)), (a_m_s, .inl (cI, 21, .inl m_s)), (a_m_isKept, .inl (cZ, 2, .inl m_isKept))] rfl dX7_house_233 (fun H locs hw => ?_)
        refine lv_aload_n hx hb dX7_house_234 rfl (lv_at hl 1 rfl) ?_
        refine r_get E hw iX7 0 10 rfl rfl (by decide) kf16 rfl rfl dX7_house_235 ?_
        refine lv_iload_n hx hb dX7_house_238 rfl (lv_at hl 0 rfl) ?_
        refine lv_aload_n hx hb dX7_house_239 rfl (lv_at hl 1 rfl) ?_
        refine r_get E hw iX7 0 10 rfl rfl (by decide) kf16 rfl rfl dX7_house_240 ?_
        refine lv_iconst (v := (4 : Int32)) hx hb dX7_house_243 rfl ?_
        refine lv_iload_n hx hb dX7_house_244 rfl (lv_at hl 0 rfl) ?_
        refine lv_iadd hx hb dX7_house_245 ?_
        obtain ⟨g236, hf⟩ := gd_some hf
        refine r_iald E hw 3 rfl g236 dX7_house_246 ?_
        obtain ⟨g237, hf⟩ := gd_some hf
        refine r_iast E hw 3 rfl g237 [(a_m, .inr (7, [.int (0 : Int32), .long m_trace, .ref a_m_text, .int m_typed, .int x116, .int x117, .int x118, .int x119, .int x120, .ref a_m_lifts, .ref a_m_price, .ref a_m_stood, .ref a_m_hands, .ref a_m_wanted, .int x121, .int x122, .int x123, .int x121, .int x122, .int x123, .ref a_m_s, .ref a_m_kept, .ref a_m_isKept, .ref a_m_due, .int m_dueMany, .ref a_m_cost, .ref a_m_then, .ref a_m_by])), (a_m_text, .inl (cI, 300, .inl m_text)), (a_m_lifts, .inl (cI, 8, .inl (upd x208 x207.toNatClampNeg (x208 ((4 : Int32) + x207).toNatClampNeg)))), (a_m_price, .inl (cI, 8, .inl (upd x209 x207.toNatClampNeg (x209 ((4 : Int32) + x207).toNatClampNeg)))), (a_m_stood, .inl (cI, 16, .inl x126)), (a_m_hands, .inl (cI, 16, .inl x127)), (a_m_wanted, .inl (cI, 16, .inl x128)), (a_m_s, .inl (cI, 21, .inl m_s)), (a_m_isKept, .inl (cZ, 2, .inl m_isKept))] rfl dX7_house_247 (fun H locs hw => ?_)
        refine lv_iinc (v := (x207 + (1 : Int32))) (lv' := [(2, .int (x207 + (1 : Int32))), (0, .ref a_m), (1, .int x115)]) hx hb dX7_house_248 hl (k := 0) rfl rfl (by decide) rfl (fun ls hl => ?_)
        refine lv_goto (tgt := 215) hx hb dX7_house_251 (by decide) ?_
        exact ih215 (x207 + (1 : Int32)) (upd x208 x207.toNatClampNeg (x208 ((4 : Int32) + x207).toNatClampNeg)) (upd x209 x207.toNatClampNeg (x209 ((4 : Int32) + x207).toNatClampNeg)) hf ls H locs (lv_sub hl [0, 1, 2] rfl) hw
    · have hf := if_t hf kc
      refine lv_bipush (v := (-10 : Int32)) hx hb dX7_house_181 rfl ?_
      refine lv_aload_n hx hb dX7_house_183 rfl (lv_at hl 0 rfl) ?_
      refine r_get E hw iX7 0 8 rfl rfl (by decide) kf99 rfl rfl dX7_house_184 ?_
      refine lv_isub hx hb dX7_house_187 ?_
      obtain ⟨rfl, rfl, rfl, rfl, rfl, rfl, rfl, rfl, rfl, rfl, rfl, rfl, rfl, rfl, rfl, rfl, rfl, rfl, rfl, rfl, rfl⟩ := sm21 hf
      exact hret H locs ls 188 hw dX7_house_188
  · intro J174 hJ174 hf
    refine lv_if_eq (tgt := 174) hx hb dX7_house_40 (by decide) (fun kc => ?_) (fun kc => ?_)
    · have hf := if_t hf kc
      exact hJ174 ls H locs hf (lv_sub hl [1, 0] rfl) hw
    · have hf := if_f hf kc
      refine lv_aload_n hx hb dX7_house_43 rfl (lv_at hl 1 rfl) ?_
      refine r_get E hw iX7 0 5 rfl rfl (by decide) kf89 rfl rfl dX7_house_44 ?_
      refine lv_if_eq (tgt := 174) hx hb dX7_house_47 (by decide) (fun kc => ?_) (fun kc => ?_)
      · have hf := if_t hf kc
        exact hJ174 ls H locs hf (lv_sub hl [1, 0] rfl) hw
      · have hf := if_f hf kc
        refine lv_aload_n hx hb dX7_house_50 rfl (lv_at hl 1 rfl) ?_
        refine r_get E hw iX7 0 7 rfl rfl (by decide) kf96 rfl rfl dX7_house_51 ?_
        refine jn_sound (P := fun J => ∀ (x131 : Int32) (ls : Array Slot) (H : Heap) (locs : List Loc), J x131 = some (r, q0, q1, q2, q3, q4, q5, q6, q7, q8, q9, q10, q11, q12, q13, q14, q15, q16, q17, q18, q19) → lv_has ls 4 [(0, .ref a_m), (1, .int x115)] → Wd A s.heap (dC, dI) [(a_m, .inr (7, [.int (0 : Int32), .long m_trace, .ref a_m_text, .int m_typed, .int x116, .int x117, .int x118, .int x119, .int x120, .ref a_m_lifts, .ref a_m_price, .ref a_m_stood, .ref a_m_hands, .ref a_m_wanted, .int m_rooms, .int m_people, .int m_things, .int x121, .int x122, .int x123, .ref a_m_s, .ref a_m_kept, .ref a_m_isKept, .ref a_m_due, .int m_dueMany, .ref a_m_cost, .ref a_m_then, .ref a_m_by])), (a_m_text, .inl (cI, 300, .inl m_text)), (a_m_lifts, .inl (cI, 8, .inl x124)), (a_m_price, .inl (cI, 8, .inl x125)), (a_m_stood, .inl (cI, 16, .inl x126)), (a_m_hands, .inl (cI, 16, .inl x127)), (a_m_wanted, .inl (cI, 16, .inl x128)), (a_m_s, .inl (cI, 21, .inl m_s)), (a_m_isKept, .inl (cZ, 2, .inl m_isKept))] H locs → W p l e ({ frames := 7, cells := 0, slots := 0, locals := 159 } : Jvm.Room) s m args below meth c H locs 0 0 Q (F0 m 115 ls [.int x131])) hf ?_ ?_
        · intro x131 ls H locs hf hl hw
          refine lv_istore_n (lv' := [(2, .int x131), (0, .ref a_m), (1, .int x115)]) hx hb dX7_house_115 rfl hl (by decide) rfl (fun ls hl => ?_)
          refine lv_aload_n hx hb dX7_house_116 rfl (lv_at hl 1 rfl) ?_
          refine lv_aload_n hx hb dX7_house_117 rfl (lv_at hl 1 rfl) ?_
          refine r_get E hw iX7 0 5 rfl rfl (by decide) kf89 rfl rfl dX7_house_118 ?_
          refine lv_iconst (v := (1 : Int32)) hx hb dX7_house_121 rfl ?_
          refine jn_sound (P := fun J => ∀ (x132 : Int32) (ls : Array Slot) (H : Heap) (locs : List Loc), J x132 = some (r, q0, q1, q2, q3, q4, q5, q6, q7, q8, q9, q10, q11, q12, q13, q14, q15, q16, q17, q18, q19) → lv_has ls 4 [(0, .ref a_m), (1, .int x115)] → Wd A s.heap (dC, dI) [(a_m, .inr (7, [.int (0 : Int32), .long m_trace, .ref a_m_text, .int m_typed, .int x116, .int x117, .int x118, .int x119, .int x120, .ref a_m_lifts, .ref a_m_price, .ref a_m_stood, .ref a_m_hands, .ref a_m_wanted, .int m_rooms, .int m_people, .int m_things, .int x121, .int x122, .int x123, .ref a_m_s, .ref a_m_kept, .ref a_m_isKept, .ref a_m_due, .int m_dueMany, .ref a_m_cost, .ref a_m_then, .ref a_m_by])), (a_m_text, .inl (cI, 300, .inl m_text)), (a_m_lifts, .inl (cI, 8, .inl x124)), (a_m_price, .inl (cI, 8, .inl x125)), (a_m_stood, .inl (cI, 16, .inl x126)), (a_m_hands, .inl (cI, 16, .inl x127)), (a_m_wanted, .inl (cI, 16, .inl x128)), (a_m_s, .inl (cI, 21, .inl m_s)), (a_m_isKept, .inl (cZ, 2, .inl m_isKept))] H locs → W p l e ({ frames := 7, cells := 0, slots := 0, locals := 159 } : Jvm.Room) s m args below meth c H locs 0 0 Q (F0 m 134 ls [.int x132, .ref a_m])) hf ?_ ?_
          · intro x132 ls H locs hf hl hw
            obtain ⟨r133, u134, u135, u136, u137, u138, hu139, hf⟩ := bd6_some hf
            refine cl_i (wr := [(a_m_lifts, .inl (cI, 8, .inl x124)), (a_m_price, .inl (cI, 8, .inl x125)), (a_m_stood, .inl (cI, 16, .inl x126)), (a_m_hands, .inl (cI, 16, .inl x127)), (a_m_wanted, .inl (cI, 16, .inl x128)), (a_m_s, .inl (cI, 21, .inl m_s)), (a_m_isKept, .inl (cZ, 2, .inl m_isKept))]) (w2 := [(a_m, .inr (7, [.int (0 : Int32), .long m_trace, .ref a_m_text, .int m_typed, .int u134, .int u135, .int u136, .int u137, .int u138, .ref a_m_lifts, .ref a_m_price, .ref a_m_stood, .ref a_m_hands, .ref a_m_wanted, .int m_rooms, .int m_people, .int m_things, .int x121, .int x122, .int x123, .ref a_m_s, .ref a_m_kept, .ref a_m_isKept, .ref a_m_due, .int m_dueMany, .ref a_m_cost, .ref a_m_then, .ref a_m_by])), (a_m_text, .inl (cI, 300, .inl m_text)), (a_m_lifts, .inl (cI, 8, .inl x124)), (a_m_price, .inl (cI, 8, .inl x125)), (a_m_stood, .inl (cI, 16, .inl x126)), (a_m_hands, .inl (cI, 16, .inl x127)), (a_m_wanted, .inl (cI, 16, .inl x128)), (a_m_s, .inl (cI, 21, .inl m_s)), (a_m_isKept, .inl (cZ, 2, .inl m_isKept))]) E hw [0, 1] [2, 3, 4, 5, 6, 7, 8] [7, 8, 0, 1, 2, 3, 4, 5, 6] (va_runV (As := [.int x132]) (rest := []) E.1 (c_X7_takes l dC dI cI cB cZ aK aV a_m a_m_text a_m_lifts a_m_price a_m_stood a_m_hands a_m_wanted a_m_s a_m_kept a_m_isKept a_m_due a_m_cost a_m_then a_m_by H.size (0 : Int32) m_trace m_typed x116 x117 x118 x119 x120 m_rooms m_people m_things x121 x122 x123 m_dueMany m_text x132 r133 u134 u135 u136 u137 u138 hu139) (cwV 1 hts gX7_house_X7_takes rfl rfl rfl hd_X7_takes ⟨Nat.le_of_ble_eq_true rfl, Nat.le_of_ble_eq_true rfl⟩) (pre_V E hw [0, 1] rfl rfl rfl rfl) rfl rfl hl.1 rfl (lv_room (Nat.le_of_ble_eq_true rfl)) dX7_house_134 ⟨Nat.zero_le _, Nat.zero_le _⟩) rfl rfl rfl (by decide) rfl rfl (fun H locs hw => ?_)
            refine lv_istore_n (lv' := [(3, .int r133), (0, .ref a_m), (1, .int x115)]) hx hb dX7_house_137 rfl hl (by decide) rfl (fun ls hl => ?_)
            refine lv_aload_n hx hb dX7_house_138 rfl (lv_at hl 1 rfl) ?_
            obtain ⟨r140, hu141, hf⟩ := bd1_some hf
            refine cl_i (wr := [(a_m_text, .inl (cI, 300, .inl m_text)), (a_m_lifts, .inl (cI, 8, .inl x124)), (a_m_price, .inl (cI, 8, .inl x125)), (a_m_stood, .inl (cI, 16, .inl x126)), (a_m_hands, .inl (cI, 16, .inl x127)), (a_m_wanted, .inl (cI, 16, .inl x128)), (a_m_s, .inl (cI, 21, .inl m_s)), (a_m_isKept, .inl (cZ, 2, .inl m_isKept))]) (w2 := [(a_m, .inr (7, [.int (0 : Int32), .long m_trace, .ref a_m_text, .int m_typed, .int u134, .int u135, .int u136, .int u137, .int u138, .ref a_m_lifts, .ref a_m_price, .ref a_m_stood, .ref a_m_hands, .ref a_m_wanted, .int m_rooms, .int m_people, .int m_things, .int x121, .int x122, .int x123, .ref a_m_s, .ref a_m_kept, .ref a_m_isKept, .ref a_m_due, .int m_dueMany, .ref a_m_cost, .ref a_m_then, .ref a_m_by])), (a_m_text, .inl (cI, 300, .inl m_text)), (a_m_lifts, .inl (cI, 8, .inl x124)), (a_m_price, .inl (cI, 8, .inl x125)), (a_m_stood, .inl (cI, 16, .inl x126)), (a_m_hands, .inl (cI, 16, .inl x127)), (a_m_wanted, .inl (cI, 16, .inl x128)), (a_m_s, .inl (cI, 21, .inl m_s)), (a_m_isKept, .inl (cZ, 2, .inl m_isKept))]) E hw [0] [1, 2, 3, 4, 5, 6, 7, 8] [8, 0, 1, 2, 3, 4, 5, 6, 7] (va_runV (As := []) (rest := []) E.1 (c_X7_isWell l dC dI cI cB cZ aK aV a_m a_m_text a_m_lifts a_m_price a_m_stood a_m_hands a_m_wanted a_m_s a_m_kept a_m_isKept a_m_due a_m_cost a_m_then a_m_by H.size (0 : Int32) m_trace m_typed u134 u135 u136 u137 u138 m_rooms m_people m_things x121 x122 x123 m_dueMany r140 hu141) (cwV 0 hts gX7_house_X7_isWell rfl rfl rfl hd_X7_isWell ⟨Nat.le_of_ble_eq_true rfl, Nat.le_of_ble_eq_true rfl⟩) (pre_V E hw [0] rfl rfl rfl rfl) rfl rfl hl.1 rfl (lv_room (Nat.le_of_ble_eq_true rfl)) dX7_house_139 ⟨Nat.zero_le _, Nat.zero_le _⟩) rfl rfl rfl (by decide) rfl rfl (fun H locs hw => ?_)
            refine jn_sound (P := fun J => ∀ (x156 : Int32) (x157 : Int32) (x158 : Int32) (x159 : Int32) (x160 : Int32) (x161 : Int32) (x162 : Int32) (x163 : Int32) (x164 : Nat → Int32) (x165 : Nat → Int32) (x166 : Nat → Int32) (x167 : Nat → Int32) (x168 : Nat → Int32) (ls : Array Slot) (H : Heap) (locs : List Loc), J x156 x157 x158 x159 x160 x161 x162 x163 x164 x165 x166 x167 x168 = some (r, q0, q1, q2, q3, q4, q5, q6, q7, q8, q9, q10, q11, q12, q13, q14, q15, q16, q17, q18, q19) → lv_has ls 4 [(0, .ref a_m), (1, .int x115)] → Wd A s.heap (dC, dI) [(a_m, .inr (7, [.int (0 : Int32), .long m_trace, .ref a_m_text, .int m_typed, .int x156, .int x157, .int x158, .int x159, .int x160, .ref a_m_lifts, .ref a_m_price, .ref a_m_stood, .ref a_m_hands, .ref a_m_wanted, .int m_rooms, .int m_people, .int m_things, .int x161, .int x162, .int x163, .ref a_m_s, .ref a_m_kept, .ref a_m_isKept, .ref a_m_due, .int m_dueMany, .ref a_m_cost, .ref a_m_then, .ref a_m_by])), (a_m_text, .inl (cI, 300, .inl m_text)), (a_m_lifts, .inl (cI, 8, .inl x164)), (a_m_price, .inl (cI, 8, .inl x165)), (a_m_stood, .inl (cI, 16, .inl x166)), (a_m_hands, .inl (cI, 16, .inl x167)), (a_m_wanted, .inl (cI, 16, .inl x168)), (a_m_s, .inl (cI, 21, .inl m_s)), (a_m_isKept, .inl (cZ, 2, .inl m_isKept))] H locs → W p l e ({ frames := 7, cells := 0, slots := 0, locals := 159 } : Jvm.Room) s m args below meth c H locs 0 0 Q (F0 m 150 ls [])) hf ?_ ?_
            · intro x156 x157 x158 x159 x160 x161 x162 x163 x164 x165 x166 x167 x168 ls H locs hf hl hw
              refine lv_aload_n hx hb dX7_house_150 rfl (lv_at hl 0 rfl) ?_
              refine lv_aload_n hx hb dX7_house_151 rfl (lv_at hl 0 rfl) ?_
              refine r_get E hw iX7 0 5 rfl rfl (by decide) kf89 rfl rfl dX7_house_152 ?_
              refine lv_iconst (v := (3 : Int32)) hx hb dX7_house_155 rfl ?_
              refine jn_sound (P := fun J => ∀ (x169 : Int32) (ls : Array Slot) (H : Heap) (locs : List Loc), J x169 = some (r, q0, q1, q2, q3, q4, q5, q6, q7, q8, q9, q10, q11, q12, q13, q14, q15, q16, q17, q18, q19) → lv_has ls 4 [(0, .ref a_m), (1, .int x115)] → Wd A s.heap (dC, dI) [(a_m, .inr (7, [.int (0 : Int32), .long m_trace, .ref a_m_text, .int m_typed, .int x156, .int x157, .int x158, .int x159, .int x160, .ref a_m_lifts, .ref a_m_price, .ref a_m_stood, .ref a_m_hands, .ref a_m_wanted, .int m_rooms, .int m_people, .int m_things, .int x161, .int x162, .int x163, .ref a_m_s, .ref a_m_kept, .ref a_m_isKept, .ref a_m_due, .int m_dueMany, .ref a_m_cost, .ref a_m_then, .ref a_m_by])), (a_m_text, .inl (cI, 300, .inl m_text)), (a_m_lifts, .inl (cI, 8, .inl x164)), (a_m_price, .inl (cI, 8, .inl x165)), (a_m_stood, .inl (cI, 16, .inl x166)), (a_m_hands, .inl (cI, 16, .inl x167)), (a_m_wanted, .inl (cI, 16, .inl x168)), (a_m_s, .inl (cI, 21, .inl m_s)), (a_m_isKept, .inl (cZ, 2, .inl m_isKept))] H locs → W p l e ({ frames := 7, cells := 0, slots := 0, locals := 159 } : Jvm.Room) s m args below meth c H locs 0 0 Q (F0 m 164 ls [.int x169, .ref a_m])) hf ?_ ?_
              · intro x169 ls H locs hf hl hw
                obtain ⟨r170, u171, u172, u173, u174, u175, hu176, hf⟩ := bd6_some hf
                refine cl_i (wr := [(a_m_lifts, .inl (cI, 8, .inl x164)), (a_m_price, .inl (cI, 8, .inl x165)), (a_m_stood, .inl (cI, 16, .inl x166)), (a_m_hands, .inl (cI, 16, .inl x167)), (a_m_wanted, .inl (cI, 16, .inl x168)), (a_m_s, .inl (cI, 21, .inl m_s)), (a_m_isKept, .inl (cZ, 2, .inl m_isKept))]) (w2 := [(a_m, .inr (7, [.int (0 : Int32), .long m_trace, .ref a_m_text, .int m_typed, .int u171, .int u172, .int u173, .int u174, .int u175, .ref a_m_lifts, .ref a_m_price, .ref a_m_stood, .ref a_m_hands, .ref a_m_wanted, .int m_rooms, .int m_people, .int m_things, .int x161, .int x162, .int x163, .ref a_m_s, .ref a_m_kept, .ref a_m_isKept, .ref a_m_due, .int m_dueMany, .ref a_m_cost, .ref a_m_then, .ref a_m_by])), (a_m_text, .inl (cI, 300, .inl m_text)), (a_m_lifts, .inl (cI, 8, .inl x164)), (a_m_price, .inl (cI, 8, .inl x165)), (a_m_stood, .inl (cI, 16, .inl x166)), (a_m_hands, .inl (cI, 16, .inl x167)), (a_m_wanted, .inl (cI, 16, .inl x168)), (a_m_s, .inl (cI, 21, .inl m_s)), (a_m_isKept, .inl (cZ, 2, .inl m_isKept))]) E hw [0, 1] [2, 3, 4, 5, 6, 7, 8] [7, 8, 0, 1, 2, 3, 4, 5, 6] (va_runV (As := [.int x169]) (rest := []) E.1 (c_X7_takes l dC dI cI cB cZ aK aV a_m a_m_text a_m_lifts a_m_price a_m_stood a_m_hands a_m_wanted a_m_s a_m_kept a_m_isKept a_m_due a_m_cost a_m_then a_m_by H.size (0 : Int32) m_trace m_typed x156 x157 x158 x159 x160 m_rooms m_people m_things x161 x162 x163 m_dueMany m_text x169 r170 u171 u172 u173 u174 u175 hu176) (cwV 1 hts gX7_house_X7_takes rfl rfl rfl hd_X7_takes ⟨Nat.le_of_ble_eq_true rfl, Nat.le_of_ble_eq_true rfl⟩) (pre_V E hw [0, 1] rfl rfl rfl rfl) rfl rfl hl.1 rfl (lv_room (Nat.le_of_ble_eq_true rfl)) dX7_house_164 ⟨Nat.zero_le _, Nat.zero_le _⟩) rfl rfl rfl (by decide) rfl rfl (fun H locs hw => ?_)
                refine lv_pop hx hb dX7_house_167 rfl ?_
                refine lv_iinc (v := (x115 + (1 : Int32))) (lv' := [(1, .int (x115 + (1 : Int32))), (0, .ref a_m)]) hx hb dX7_house_168 hl (k := 1) rfl rfl (by decide) rfl (fun ls hl => ?_)
                refine lv_goto (tgt := 36) hx hb dX7_house_171 (by decide) ?_
                exact ih36 (x115 + (1 : Int32)) u171 u172 u173 u174 u175 x161 x162 x163 x164 x165 x166 x167 x168 hf ls H locs (lv_sub hl [0, 1] rfl) hw
              · intro J164 hJ164 hf
                refine lv_icmp_ne (tgt := 163) hx hb dX7_house_156 (by decide) (fun kc => ?_) (fun kc => ?_)
                · have hf := if_f hf kc
                  refine lv_iconst (v := (0 : Int32)) hx hb dX7_house_163 rfl ?_
                  exact hJ164 (0 : Int32) ls H locs hf hl hw
                · have hf := if_t hf kc
                  refine lv_iconst (v := (1 : Int32)) hx hb dX7_house_159 rfl ?_
                  refine lv_goto (tgt := 164) hx hb dX7_house_160 (by decide) ?_
                  exact hJ164 (1 : Int32) ls H locs hf hl hw
            · intro J150 hJ150 hf
              refine lv_if_eq (tgt := 150) hx hb dX7_house_142 (by decide) (fun kc => ?_) (fun kc => ?_)
              · have hf := if_t hf kc
                exact hJ150 u134 u135 u136 u137 u138 x121 x122 x123 x124 x125 x126 x127 x128 ls H locs hf (lv_sub hl [1, 2] rfl) hw
              · have hf := if_f hf kc
                refine lv_aload_n hx hb dX7_house_145 rfl (lv_at hl 1 rfl) ?_
                refine lv_iload_n hx hb dX7_house_146 rfl (lv_at hl 0 rfl) ?_
                obtain ⟨u142, u143, u144, u145, u146, u147, u148, u149, u150, u151, u152, u153, u154, hu155, hf⟩ := bd13_some hf
                refine cl_v (wr := [(a_m_s, .inl (cI, 21, .inl m_s)), (a_m_isKept, .inl (cZ, 2, .inl m_isKept))]) (w2 := [(a_m, .inr (7, [.int (0 : Int32), .long m_trace, .ref a_m_text, .int m_typed, .int u142, .int u143, .int u144, .int u145, .int u146, .ref a_m_lifts, .ref a_m_price, .ref a_m_stood, .ref a_m_hands, .ref a_m_wanted, .int m_rooms, .int m_people, .int m_things, .int u154, .int u151, .int u148, .ref a_m_s, .ref a_m_kept, .ref a_m_isKept, .ref a_m_due, .int m_dueMany, .ref a_m_cost, .ref a_m_then, .ref a_m_by])), (a_m_text, .inl (cI, 300, .inl m_text)), (a_m_lifts, .inl (cI, 8, .inl u152)), (a_m_price, .inl (cI, 8, .inl u153)), (a_m_stood, .inl (cI, 16, .inl u149)), (a_m_hands, .inl (cI, 16, .inl u150)), (a_m_wanted, .inl (cI, 16, .inl u147)), (a_m_s, .inl (cI, 21, .inl m_s)), (a_m_isKept, .inl (cZ, 2, .inl m_isKept))]) E hw [0, 1, 2, 3, 4, 5, 6] [7, 8] [2, 3, 4, 5, 6, 7, 8, 0, 1] (va_runV (As := [.int r133]) (rest := []) E.1 (c_X7_readsItem l dC dI cI cB cZ aK aV a_m a_m_text a_m_lifts a_m_price a_m_stood a_m_hands a_m_wanted a_m_s a_m_kept a_m_isKept a_m_due a_m_cost a_m_then a_m_by H.size (0 : Int32) m_trace m_typed u134 u135 u136 u137 u138 m_rooms m_people m_things x121 x122 x123 m_dueMany m_text x124 x125 x126 x127 x128 r133 u142 u143 u144 u145 u146 u147 u148 u149 u150 u151 u152 u153 u154 hu155) (cwV 1 hts gX7_house_X7_readsItem rfl rfl rfl hd_X7_readsItem ⟨Nat.le_of_ble_eq_true rfl, Nat.le_of_ble_eq_true rfl⟩) (pre_V E hw [0, 1, 2, 3, 4, 5, 6] rfl rfl rfl rfl) rfl rfl hl.1 rfl (lv_room (Nat.le_of_ble_eq_true rfl)) dX7_house_147 ⟨Nat.zero_le _, Nat.zero_le _⟩) rfl rfl rfl (by decide) rfl rfl (fun H locs hw => ?_)
                exact hJ150 u142 u143 u144 u145 u146 u154 u151 u148 u152 u153 u149 u150 u147 ls H locs hf (lv_sub hl [1, 2] rfl) hw
          · intro J134 hJ134 hf
            refine jn_sound (P := fun J => ∀ (ls : Array Slot) (H : Heap) (locs : List Loc), J = some (r, q0, q1, q2, q3, q4, q5, q6, q7, q8, q9, q10, q11, q12, q13, q14, q15, q16, q17, q18, q19) → lv_has ls 4 [(0, .ref a_m), (1, .int x115)] → Wd A s.heap (dC, dI) [(a_m, .inr (7, [.int (0 : Int32), .long m_trace, .ref a_m_text, .int m_typed, .int x116, .int x117, .int x118, .int x119, .int x120, .ref a_m_lifts, .ref a_m_price, .ref a_m_stood, .ref a_m_hands, .ref a_m_wanted, .int m_rooms, .int m_people, .int m_things, .int x121, .int x122, .int x123, .ref a_m_s, .ref a_m_kept, .ref a_m_isKept, .ref a_m_due, .int m_dueMany, .ref a_m_cost, .ref a_m_then, .ref a_m_by])), (a_m_text, .inl (cI, 300, .inl m_text)), (a_m_lifts, .inl (cI, 8, .inl x124)), (a_m_price, .inl (cI, 8, .inl x125)), (a_m_stood, .inl (cI, 16, .inl x126)), (a_m_hands, .inl (cI, 16, .inl x127)), (a_m_wanted, .inl (cI, 16, .inl x128)), (a_m_s, .inl (cI, 21, .inl m_s)), (a_m_isKept, .inl (cZ, 2, .inl m_isKept))] H locs → W p l e ({ frames := 7, cells := 0, slots := 0, locals := 159 } : Jvm.Room) s m args below meth c H locs 0 0 Q (F0 m 133 ls [.ref a_m])) hf ?_ ?_
            · intro ls H locs hf hl hw
              refine lv_iconst (v := (0 : Int32)) hx hb dX7_house_133 rfl ?_
              exact hJ134 (0 : Int32) ls H locs hf hl hw
            · intro J133 hJ133 hf
              refine lv_icmp_ne (tgt := 133) hx hb dX7_house_122 (by decide) (fun kc => ?_) (fun kc => ?_)
              · have hf := if_f hf kc
                exact hJ133 ls H locs hf (lv_sub hl [1, 2] rfl) hw
              · have hf := if_t hf kc
                refine lv_iload_n hx hb dX7_house_125 rfl (lv_at hl 0 rfl) ?_
                refine lv_if_eq (tgt := 133) hx hb dX7_house_126 (by decide) (fun kc => ?_) (fun kc => ?_)
                · have hf := if_t hf kc
                  exact hJ133 ls H locs hf (lv_sub hl [1, 2] rfl) hw
                · have hf := if_f hf kc
                  refine lv_iconst (v := (1 : Int32)) hx hb dX7_house_129 rfl ?_
                  refine lv_goto (tgt := 134) hx hb dX7_house_130 (by decide) ?_
                  exact hJ134 (1 : Int32) ls H locs hf (lv_sub hl [1, 2] rfl) hw
        · intro J115 hJ115 hf
          refine lv_if_ne (tgt := 69) hx hb dX7_house_54 (by decide) (fun kc => ?_) (fun kc => ?_)
          · have hf := if_f hf kc
            refine lv_aload_n hx hb dX7_house_69 rfl (lv_at hl 1 rfl) ?_
            refine r_get E hw iX7 0 7 rfl rfl (by decide) kf96 rfl rfl dX7_house_70 ?_
            refine lv_iconst (v := (1 : Int32)) hx hb dX7_house_73 rfl ?_
            refine lv_icmp_ne (tgt := 93) hx hb dX7_house_74 (by decide) (fun kc => ?_) (fun kc => ?_)
            · have hf := if_f hf kc
              refine lv_aload_n hx hb dX7_house_93 rfl (lv_at hl 1 rfl) ?_
              refine r_get E hw iX7 0 7 rfl rfl (by decide) kf96 rfl rfl dX7_house_94 ?_
              refine lv_iconst (v := (3 : Int32)) hx hb dX7_house_97 rfl ?_
              refine jn_sound (P := fun J => ∀ (ls : Array Slot) (H : Heap) (locs : List Loc), J = some (r, q0, q1, q2, q3, q4, q5, q6, q7, q8, q9, q10, q11, q12, q13, q14, q15, q16, q17, q18, q19) → lv_has ls 4 [(0, .ref a_m), (1, .int x115)] → Wd A s.heap (dC, dI) [(a_m, .inr (7, [.int (0 : Int32), .long m_trace, .ref a_m_text, .int m_typed, .int x116, .int x117, .int x118, .int x119, .int x120, .ref a_m_lifts, .ref a_m_price, .ref a_m_stood, .ref a_m_hands, .ref a_m_wanted, .int m_rooms, .int m_people, .int m_things, .int x121, .int x122, .int x123, .ref a_m_s, .ref a_m_kept, .ref a_m_isKept, .ref a_m_due, .int m_dueMany, .ref a_m_cost, .ref a_m_then, .ref a_m_by])), (a_m_text, .inl (cI, 300, .inl m_text)), (a_m_lifts, .inl (cI, 8, .inl x124)), (a_m_price, .inl (cI, 8, .inl x125)), (a_m_stood, .inl (cI, 16, .inl x126)), (a_m_hands, .inl (cI, 16, .inl x127)), (a_m_wanted, .inl (cI, 16, .inl x128)), (a_m_s, .inl (cI, 21, .inl m_s)), (a_m_isKept, .inl (cZ, 2, .inl m_isKept))] H locs → W p l e ({ frames := 7, cells := 0, slots := 0, locals := 159 } : Jvm.Room) s m args below meth c H locs 0 0 Q (F0 m 110 ls [])) hf ?_ ?_
              · intro ls H locs hf hl hw
                refine lv_iconst (v := (1 : Int32)) hx hb dX7_house_110 rfl ?_
                refine lv_goto (tgt := 115) hx hb dX7_house_111 (by decide) ?_
                exact hJ115 (1 : Int32) ls H locs hf hl hw
              · intro J110 hJ110 hf
                refine lv_icmp_eq (tgt := 110) hx hb dX7_house_98 (by decide) (fun kc => ?_) (fun kc => ?_)
                · have hf := if_t hf kc
                  exact hJ110 ls H locs hf (lv_sub hl [1, 0] rfl) hw
                · have hf := if_f hf kc
                  refine lv_aload_n hx hb dX7_house_101 rfl (lv_at hl 1 rfl) ?_
                  refine r_get E hw iX7 0 19 rfl rfl (by decide) kf123 rfl rfl dX7_house_102 ?_
                  refine lv_bipush (v := (8 : Int32)) hx hb dX7_house_105 rfl ?_
                  refine lv_icmp_ge (tgt := 114) hx hb dX7_house_107 (by decide) (fun kc => ?_) (fun kc => ?_)
                  · have hf := if_t hf kc
                    refine lv_iconst (v := (0 : Int32)) hx hb dX7_house_114 rfl ?_
                    exact hJ115 (0 : Int32) ls H locs hf (lv_sub hl [1, 0] rfl) hw
                  · have hf := if_f hf kc
                    exact hJ110 ls H locs hf (lv_sub hl [1, 0] rfl) hw
            · have hf := if_t hf kc
              refine lv_aload_n hx hb dX7_house_77 rfl (lv_at hl 1 rfl) ?_
              refine r_get E hw iX7 0 18 rfl rfl (by decide) kf120 rfl rfl dX7_house_78 ?_
              refine lv_iconst (v := (4 : Int32)) hx hb dX7_house_81 rfl ?_
              refine lv_icmp_ge (tgt := 89) hx hb dX7_house_82 (by decide) (fun kc => ?_) (fun kc => ?_)
              · have hf := if_t hf kc
                refine lv_iconst (v := (0 : Int32)) hx hb dX7_house_89 rfl ?_
                refine lv_goto (tgt := 115) hx hb dX7_house_90 (by decide) ?_
                exact hJ115 (0 : Int32) ls H locs hf (lv_sub hl [1, 0] rfl) hw
              · have hf := if_f hf kc
                refine lv_iconst (v := (1 : Int32)) hx hb dX7_house_85 rfl ?_
                refine lv_goto (tgt := 115) hx hb dX7_house_86 (by decide) ?_
                exact hJ115 (1 : Int32) ls H locs hf (lv_sub hl [1, 0] rfl) hw
          · have hf := if_t hf kc
            refine lv_iload_n hx hb dX7_house_57 rfl (lv_at hl 0 rfl) ?_
            refine lv_if_ne (tgt := 65) hx hb dX7_house_58 (by decide) (fun kc => ?_) (fun kc => ?_)
            · have hf := if_f hf kc
              refine lv_iconst (v := (0 : Int32)) hx hb dX7_house_65 rfl ?_
              refine lv_goto (tgt := 115) hx hb dX7_house_66 (by decide) ?_
              exact hJ115 (0 : Int32) ls H locs hf (lv_sub hl [1, 0] rfl) hw
            · have hf := if_t hf kc
              refine lv_iconst (v := (1 : Int32)) hx hb dX7_house_61 rfl ?_
              refine lv_goto (tgt := 115) hx hb dX7_house_62 (by decide) ?_
              exact hJ115 (1 : Int32) ls H locs hf (lv_sub hl [1, 0] rfl) hw
