def f_X7_wantedAt (p1 : Int32) (m_things : Int32) (m_wanted : Nat → Int32) (m_s : Nat → Int32) : Option (Int32) :=
  loop2 (fun B5 (x7 : Int32) (x8 : Int32) => (if m_things ≤ x8 then some (x7) else bd1 (f_X7_areOne p1 x8 m_s) (fun r9 => (if r9 = 0 then B5 x7 (x8 + (1 : Int32)) else gd (inb x8 16) ((if (m_wanted x8.toNatClampNeg) = (-9 : Int32) then B5 x7 (x8 + (1 : Int32)) else jn (fun (x14 : Int32) => B5 x14 (x8 + (1 : Int32))) (fun J60 => jn (gd (inb x8 16) (J60 (m_wanted x8.toNatClampNeg))) (fun J49 => (if x7 = (-9 : Int32) then J49 else gd (inb x8 16) ((if x7 = (m_wanted x8.toNatClampNeg) then J49 else J60 (-1000000 : Int32)))))))))))) FU (-9 : Int32) (0 : Int32)
theorem hd_X7_wantedAt : yX7_wantedAt.cls = RX7 ∧ yX7_wantedAt.cls ≠ "java/lang/invoke/MethodHandle" ∧ yX7_wantedAt.cls ≠ "java/lang/invoke/VarHandle" ∧ (parseMethodDescriptor yX7_wantedAt.desc).map (fun d => d.parameters.length) = some 1 := by decide +kernel
set_option maxHeartbeats 4000000 in
set_option maxRecDepth 100000 in
theorem c_X7_wantedAt (l : Launch) (dC : Nat → ClassId) (dI : Nat → Nat → Nat) (cI cB cZ : ClassId) (aK aV : Nat → Nat) (a_m a_m_text a_m_lifts a_m_price a_m_stood a_m_hands a_m_wanted a_m_s a_m_kept a_m_isKept a_m_due a_m_cost a_m_then a_m_by : Nat) (sz : Nat) (m_thrown : Int32) (m_trace : Int64) (m_typed : Int32) (m_next : Int32) (m_token : Int32) (m_place : Int32) (m_value : Int32) (m_fault : Int32) (m_rooms : Int32) (m_people : Int32) (m_things : Int32) (m_draftRooms : Int32) (m_draftPeople : Int32) (m_draftThings : Int32) (m_dueMany : Int32) (m_wanted : Nat → Int32) (m_s : Nat → Int32) (p1 : Int32) (r : Int32) (hf : f_X7_wantedAt p1 m_things m_wanted m_s = some r) : Met l yX7_wantedAt wsX7_wantedAt ({ frames := 1, cells := 0, slots := 0, locals := 22 } : Jvm.Room) (va_Pc [.ref a_m, .int p1] (preW (dC, dI) (tyL cI cB cZ) aK aV sz [(a_m, .inr (7, [.int m_thrown, .long m_trace, .ref a_m_text, .int m_typed, .int m_next, .int m_token, .int m_place, .int m_value, .int m_fault, .ref a_m_lifts, .ref a_m_price, .ref a_m_stood, .ref a_m_hands, .ref a_m_wanted, .int m_rooms, .int m_people, .int m_things, .int m_draftRooms, .int m_draftPeople, .int m_draftThings, .ref a_m_s, .ref a_m_kept, .ref a_m_isKept, .ref a_m_due, .int m_dueMany, .ref a_m_cost, .ref a_m_then, .ref a_m_by])), (a_m_wanted, .inl (cI, 16, .inl m_wanted)), (a_m_s, .inl (cI, 21, .inl m_s))])) (va_Qi (fun v (_ : Unit) => v = r) (postW (dC, dI) (tyL cI cB cZ) (va_A [(a_m, .inr (7, [.int m_thrown, .long m_trace, .ref a_m_text, .int m_typed, .int m_next, .int m_token, .int m_place, .int m_value, .int m_fault, .ref a_m_lifts, .ref a_m_price, .ref a_m_stood, .ref a_m_hands, .ref a_m_wanted, .int m_rooms, .int m_people, .int m_things, .int m_draftRooms, .int m_draftPeople, .int m_draftThings, .ref a_m_s, .ref a_m_kept, .ref a_m_isKept, .ref a_m_due, .int m_dueMany, .ref a_m_cost, .ref a_m_then, .ref a_m_by])), (a_m_wanted, .inl (cI, 16, .inl m_wanted)), (a_m_s, .inl (cI, 21, .inl m_s))] sz) [(a_m, .inr (7, [.int m_thrown, .long m_trace, .ref a_m_text, .int m_typed, .int m_next, .int m_token, .int m_place, .int m_value, .int m_fault, .ref a_m_lifts, .ref a_m_price, .ref a_m_stood, .ref a_m_hands, .ref a_m_wanted, .int m_rooms, .int m_people, .int m_things, .int m_draftRooms, .int m_draftPeople, .int m_draftThings, .ref a_m_s, .ref a_m_kept, .ref a_m_isKept, .ref a_m_due, .int m_dueMany, .ref a_m_cost, .ref a_m_then, .ref a_m_by])), (a_m_wanted, .inl (cI, 16, .inl m_wanted)), (a_m_s, .inl (cI, 21, .inl m_s))]) (va_A [(a_m, .inr (7, [.int m_thrown, .long m_trace, .ref a_m_text, .int m_typed, .int m_next, .int m_token, .int m_place, .int m_value, .int m_fault, .ref a_m_lifts, .ref a_m_price, .ref a_m_stood, .ref a_m_hands, .ref a_m_wanted, .int m_rooms, .int m_people, .int m_things, .int m_draftRooms, .int m_draftPeople, .int m_draftThings, .ref a_m_s, .ref a_m_kept, .ref a_m_isKept, .ref a_m_due, .int m_dueMany, .ref a_m_cost, .ref a_m_then, .ref a_m_by])), (a_m_wanted, .inl (cI, 16, .inl m_wanted)), (a_m_s, .inl (cI, 21, .inl m_s))] sz)) 0 0 (va_A [(a_m, .inr (7, [.int m_thrown, .long m_trace, .ref a_m_text, .int m_typed, .int m_next, .int m_token, .int m_place, .int m_value, .int m_fault, .ref a_m_lifts, .ref a_m_price, .ref a_m_stood, .ref a_m_hands, .ref a_m_wanted, .int m_rooms, .int m_people, .int m_things, .int m_draftRooms, .int m_draftPeople, .int m_draftThings, .ref a_m_s, .ref a_m_kept, .ref a_m_isKept, .ref a_m_due, .int m_dueMany, .ref a_m_cost, .ref a_m_then, .ref a_m_by])), (a_m_wanted, .inl (cI, 16, .inl m_wanted)), (a_m_s, .inl (cI, 21, .inl m_s))] sz) := by
  refine met_i (cc := cX7_wantedAt) (maxL := 4) (own := RX7) (by decide) rfl (Nat.le_of_ble_eq_true rfl) rfl (fun p e s m args below meth c Q A E hret ls H locs hl hw => ?_)
  obtain ⟨⟨hx, hb, hml, hown, hts⟩, hK, hN, hA, hX⟩ := id E
  have hl : lv_has ls 4 [(0, .ref a_m), (1, .int p1)] := hl
  have iX7 : ∀ w ∈ wsX70, w ∈ wsX7_wantedAt := by decide +kernel
  have kf133 := hts (.fieldLink RX7 133 "FiveThingsModel" "things" "I") (by decide +kernel)
  have kf25 := hts (.fieldLink RX7 25 "FiveThingsModel" "wanted" "[I") (by decide +kernel)
  have kc162 := hts (.constant RX7 162 (-1000000)) (by decide +kernel)
  unfold f_X7_wantedAt at hf
  refine lv_bipush (v := (-9 : Int32)) hx hb dX7_wantedAt_0 rfl ?_
  refine lv_istore_n (lv' := [(2, .int (-9 : Int32)), (0, .ref a_m), (1, .int p1)]) hx hb dX7_wantedAt_2 rfl hl (by decide) rfl (fun ls hl => ?_)
  refine lv_iconst (v := (0 : Int32)) hx hb dX7_wantedAt_3 rfl ?_
  refine lv_istore_n (lv' := [(3, .int (0 : Int32)), (2, .int (-9 : Int32)), (0, .ref a_m), (1, .int p1)]) hx hb dX7_wantedAt_4 rfl hl (by decide) rfl (fun ls hl => ?_)
  refine (loop2_sound (r := r) (P := fun (x7 : Int32) (x8 : Int32) => ∀ (ls : Array Slot) (H : Heap) (locs : List Loc), lv_has ls 4 [(3, .int x8), (2, .int x7), (0, .ref a_m), (1, .int p1)] → Wd A s.heap (dC, dI) [(a_m, .inr (7, [.int m_thrown, .long m_trace, .ref a_m_text, .int m_typed, .int m_next, .int m_token, .int m_place, .int m_value, .int m_fault, .ref a_m_lifts, .ref a_m_price, .ref a_m_stood, .ref a_m_hands, .ref a_m_wanted, .int m_rooms, .int m_people, .int m_things, .int m_draftRooms, .int m_draftPeople, .int m_draftThings, .ref a_m_s, .ref a_m_kept, .ref a_m_isKept, .ref a_m_due, .int m_dueMany, .ref a_m_cost, .ref a_m_then, .ref a_m_by])), (a_m_wanted, .inl (cI, 16, .inl m_wanted)), (a_m_s, .inl (cI, 21, .inl m_s))] H locs → W p l e ({ frames := 1, cells := 0, slots := 0, locals := 22 } : Jvm.Room) s m args below meth c H locs 0 0 Q (F0 m 5 ls [])) (fun B5 x7 x8 ih5 hf => ?_) _ (-9 : Int32) (0 : Int32) hf) ls H locs (lv_sub hl [0, 1, 2, 3] rfl) hw
  intro ls H locs hl hw
  refine lv_iload_n hx hb dX7_wantedAt_5 rfl (lv_at hl 0 rfl) ?_
  refine lv_aload_n hx hb dX7_wantedAt_6 rfl (lv_at hl 2 rfl) ?_
  refine r_get E hw iX7 0 16 rfl rfl (by decide) kf133 rfl rfl dX7_wantedAt_7 ?_
  refine lv_icmp_ge (tgt := 67) hx hb dX7_wantedAt_10 (by decide) (fun kc => ?_) (fun kc => ?_)
  · have hf := if_t hf kc
    refine lv_iload_n hx hb dX7_wantedAt_67 rfl (lv_at hl 1 rfl) ?_
    obtain rfl := sm1 hf
    exact hret H locs ls 68 hw dX7_wantedAt_68
  · have hf := if_f hf kc
    refine lv_aload_n hx hb dX7_wantedAt_13 rfl (lv_at hl 2 rfl) ?_
    refine lv_iload_n hx hb dX7_wantedAt_14 rfl (lv_at hl 3 rfl) ?_
    refine lv_iload_n hx hb dX7_wantedAt_15 rfl (lv_at hl 0 rfl) ?_
    obtain ⟨r9, hu10, hf⟩ := bd1_some hf
    refine cl_i (wr := [(a_m_wanted, .inl (cI, 16, .inl m_wanted))]) (w2 := [(a_m, .inr (7, [.int m_thrown, .long m_trace, .ref a_m_text, .int m_typed, .int m_next, .int m_token, .int m_place, .int m_value, .int m_fault, .ref a_m_lifts, .ref a_m_price, .ref a_m_stood, .ref a_m_hands, .ref a_m_wanted, .int m_rooms, .int m_people, .int m_things, .int m_draftRooms, .int m_draftPeople, .int m_draftThings, .ref a_m_s, .ref a_m_kept, .ref a_m_isKept, .ref a_m_due, .int m_dueMany, .ref a_m_cost, .ref a_m_then, .ref a_m_by])), (a_m_wanted, .inl (cI, 16, .inl m_wanted)), (a_m_s, .inl (cI, 21, .inl m_s))]) E hw [0, 2] [1] [1, 0, 2] (va_runV (As := [.int p1, .int x8]) (rest := []) E.1 (c_X7_areOne l dC dI cI cB cZ aK aV a_m a_m_text a_m_lifts a_m_price a_m_stood a_m_hands a_m_wanted a_m_s a_m_kept a_m_isKept a_m_due a_m_cost a_m_then a_m_by H.size m_thrown m_trace m_typed m_next m_token m_place m_value m_fault m_rooms m_people m_things m_draftRooms m_draftPeople m_draftThings m_dueMany m_s p1 x8 r9 hu10) (cwV 2 hts gX7_wantedAt_X7_areOne rfl rfl rfl hd_X7_areOne ⟨Nat.le_of_ble_eq_true rfl, Nat.le_of_ble_eq_true rfl⟩) (pre_V E hw [0, 2] rfl rfl rfl rfl) rfl rfl hl.1 rfl (lv_room (Nat.le_of_ble_eq_true rfl)) dX7_wantedAt_16 ⟨Nat.zero_le _, Nat.zero_le _⟩) rfl rfl rfl (by decide) rfl rfl (fun H locs hw => ?_)
    refine lv_if_eq (tgt := 61) hx hb dX7_wantedAt_19 (by decide) (fun kc => ?_) (fun kc => ?_)
    · have hf := if_t hf kc
      refine lv_iinc (v := (x8 + (1 : Int32))) (lv' := [(3, .int (x8 + (1 : Int32))), (2, .int x7), (0, .ref a_m), (1, .int p1)]) hx hb dX7_wantedAt_61 hl (k := 0) rfl rfl (by decide) rfl (fun ls hl => ?_)
      refine lv_goto (tgt := 5) hx hb dX7_wantedAt_64 (by decide) ?_
      exact ih5 x7 (x8 + (1 : Int32)) hf ls H locs (lv_sub hl [0, 1, 2, 3] rfl) hw
    · have hf := if_f hf kc
      refine lv_aload_n hx hb dX7_wantedAt_22 rfl (lv_at hl 2 rfl) ?_
      refine r_get E hw iX7 0 13 rfl rfl (by decide) kf25 rfl rfl dX7_wantedAt_23 ?_
      refine lv_iload_n hx hb dX7_wantedAt_26 rfl (lv_at hl 0 rfl) ?_
      obtain ⟨g11, hf⟩ := gd_some hf
      refine r_iald E hw 1 rfl g11 dX7_wantedAt_27 ?_
      refine lv_bipush (v := (-9 : Int32)) hx hb dX7_wantedAt_28 rfl ?_
      refine lv_icmp_eq (tgt := 61) hx hb dX7_wantedAt_30 (by decide) (fun kc => ?_) (fun kc => ?_)
      · have hf := if_t hf kc
        refine lv_iinc (v := (x8 + (1 : Int32))) (lv' := [(3, .int (x8 + (1 : Int32))), (2, .int x7), (0, .ref a_m), (1, .int p1)]) hx hb dX7_wantedAt_61 hl (k := 0) rfl rfl (by decide) rfl (fun ls hl => ?_)
        refine lv_goto (tgt := 5) hx hb dX7_wantedAt_64 (by decide) ?_
        exact ih5 x7 (x8 + (1 : Int32)) hf ls H locs (lv_sub hl [0, 1, 2, 3] rfl) hw
      · have hf := if_f hf kc
        refine lv_iload_n hx hb dX7_wantedAt_33 rfl (lv_at hl 1 rfl) ?_
        refine lv_bipush (v := (-9 : Int32)) hx hb dX7_wantedAt_34 rfl ?_
        refine jn_sound (P := fun J => ∀ (x14 : Int32) (ls : Array Slot) (H : Heap) (locs : List Loc), J x14 = some r → lv_has ls 4 [(0, .ref a_m), (1, .int p1), (3, .int x8)] → Wd A s.heap (dC, dI) [(a_m, .inr (7, [.int m_thrown, .long m_trace, .ref a_m_text, .int m_typed, .int m_next, .int m_token, .int m_place, .int m_value, .int m_fault, .ref a_m_lifts, .ref a_m_price, .ref a_m_stood, .ref a_m_hands, .ref a_m_wanted, .int m_rooms, .int m_people, .int m_things, .int m_draftRooms, .int m_draftPeople, .int m_draftThings, .ref a_m_s, .ref a_m_kept, .ref a_m_isKept, .ref a_m_due, .int m_dueMany, .ref a_m_cost, .ref a_m_then, .ref a_m_by])), (a_m_wanted, .inl (cI, 16, .inl m_wanted)), (a_m_s, .inl (cI, 21, .inl m_s))] H locs → W p l e ({ frames := 1, cells := 0, slots := 0, locals := 22 } : Jvm.Room) s m args below meth c H locs 0 0 Q (F0 m 60 ls [.int x14])) hf ?_ ?_
        · intro x14 ls H locs hf hl hw
          refine lv_istore_n (lv' := [(2, .int x14), (0, .ref a_m), (1, .int p1), (3, .int x8)]) hx hb dX7_wantedAt_60 rfl hl (by decide) rfl (fun ls hl => ?_)
          refine lv_iinc (v := (x8 + (1 : Int32))) (lv' := [(3, .int (x8 + (1 : Int32))), (2, .int x14), (0, .ref a_m), (1, .int p1)]) hx hb dX7_wantedAt_61 hl (k := 3) rfl rfl (by decide) rfl (fun ls hl => ?_)
          refine lv_goto (tgt := 5) hx hb dX7_wantedAt_64 (by decide) ?_
          exact ih5 x14 (x8 + (1 : Int32)) hf ls H locs (lv_sub hl [0, 1, 2, 3] rfl) hw
        · intro J60 hJ60 hf
          refine jn_sound (P := fun J => ∀ (ls : Array Slot) (H : Heap) (locs : List Loc), J = some r → lv_has ls 4 [(0, .ref a_m), (1, .int p1), (3, .int x8)] → Wd A s.heap (dC, dI) [(a_m, .inr (7, [.int m_thrown, .long m_trace, .ref a_m_text, .int m_typed, .int m_next, .int m_token, .int m_place, .int m_value, .int m_fault, .ref a_m_lifts, .ref a_m_price, .ref a_m_stood, .ref a_m_hands, .ref a_m_wanted, .int m_rooms, .int m_people, .int m_things, .int m_draftRooms, .int m_draftPeople, .int m_draftThings, .ref a_m_s, .ref a_m_kept, .ref a_m_isKept, .ref a_m_due, .int m_dueMany, .ref a_m_cost, .ref a_m_then, .ref a_m_by])), (a_m_wanted, .inl (cI, 16, .inl m_wanted)), (a_m_s, .inl (cI, 21, .inl m_s))] H locs → W p l e ({ frames := 1, cells := 0, slots := 0, locals := 22 } : Jvm.Room) s m args below meth c H locs 0 0 Q (F0 m 49 ls [])) hf ?_ ?_
          · intro ls H locs hf hl hw
            refine lv_aload_n hx hb dX7_wantedAt_49 rfl (lv_at hl 0 rfl) ?_
            refine r_get E hw iX7 0 13 rfl rfl (by decide) kf25 rfl rfl dX7_wantedAt_50 ?_
            refine lv_iload_n hx hb dX7_wantedAt_53 rfl (lv_at hl 2 rfl) ?_
            obtain ⟨g13, hf⟩ := gd_some hf
            refine r_iald E hw 1 rfl g13 dX7_wantedAt_54 ?_
            refine lv_goto (tgt := 60) hx hb dX7_wantedAt_55 (by decide) ?_
            exact hJ60 (m_wanted x8.toNatClampNeg) ls H locs hf hl hw
          · intro J49 hJ49 hf
            refine lv_icmp_eq (tgt := 49) hx hb dX7_wantedAt_36 (by decide) (fun kc => ?_) (fun kc => ?_)
            · have hf := if_t hf kc
              exact hJ49 ls H locs hf (lv_sub hl [2, 3, 0] rfl) hw
            · have hf := if_f hf kc
              refine lv_iload_n hx hb dX7_wantedAt_39 rfl (lv_at hl 1 rfl) ?_
              refine lv_aload_n hx hb dX7_wantedAt_40 rfl (lv_at hl 2 rfl) ?_
              refine r_get E hw iX7 0 13 rfl rfl (by decide) kf25 rfl rfl dX7_wantedAt_41 ?_
              refine lv_iload_n hx hb dX7_wantedAt_44 rfl (lv_at hl 0 rfl) ?_
              obtain ⟨g12, hf⟩ := gd_some hf
              refine r_iald E hw 1 rfl g12 dX7_wantedAt_45 ?_
              refine lv_icmp_ne (tgt := 58) hx hb dX7_wantedAt_46 (by decide) (fun kc => ?_) (fun kc => ?_)
              · have hf := if_f hf kc
                refine lv_ldc hx hb hown kc162 dX7_wantedAt_58 ?_
                exact hJ60 (-1000000 : Int32) ls H locs hf (lv_sub hl [2, 3, 0] rfl) hw
              · have hf := if_t hf kc
                exact hJ49 ls H locs hf (lv_sub hl [2, 3, 0] rfl) hw
def f_X7_isDue (p1 : Int32) (m_things : Int32) (m_wanted : Nat → Int32) (m_s : Nat → Int32) : Option (Int32) :=
  loop2 (fun B4 (x6 : Int32) (x7 : Int32) => (if m_things ≤ x7 then gd (decide (x6 = 0 ∨ x6 = 1)) (some (x6)) else jn (B4 (1 : Int32) (x7 + (1 : Int32))) (fun J51 => (if x6 = 0 then bd1 (f_X7_areOne p1 x7 m_s) (fun r8 => jn (B4 (0 : Int32) (x7 + (1 : Int32))) (fun J55 => (if r8 = 0 then J55 else gd (inb x7 16) ((if (m_wanted x7.toNatClampNeg) = (-9 : Int32) then J55 else gd (inb x7 16) (gd (inb x7 21) ((if (m_wanted x7.toNatClampNeg) = (m_s x7.toNatClampNeg) then J55 else J51)))))))) else J51)))) FU (0 : Int32) (0 : Int32)
theorem hd_X7_isDue : yX7_isDue.cls = RX7 ∧ yX7_isDue.cls ≠ "java/lang/invoke/MethodHandle" ∧ yX7_isDue.cls ≠ "java/lang/invoke/VarHandle" ∧ (parseMethodDescriptor yX7_isDue.desc).map (fun d => d.parameters.length) = some 1 := by decide +kernel
set_option maxHeartbeats 4000000 in
set_option maxRecDepth 100000 in
theorem c_X7_isDue (l : Launch) (dC : Nat → ClassId) (dI : Nat → Nat → Nat) (cI cB cZ : ClassId) (aK aV : Nat → Nat) (a_m a_m_text a_m_lifts a_m_price a_m_stood a_m_hands a_m_wanted a_m_s a_m_kept a_m_isKept a_m_due a_m_cost a_m_then a_m_by : Nat) (sz : Nat) (m_thrown : Int32) (m_trace : Int64) (m_typed : Int32) (m_next : Int32) (m_token : Int32) (m_place : Int32) (m_value : Int32) (m_fault : Int32) (m_rooms : Int32) (m_people : Int32) (m_things : Int32) (m_draftRooms : Int32) (m_draftPeople : Int32) (m_draftThings : Int32) (m_dueMany : Int32) (m_wanted : Nat → Int32) (m_s : Nat → Int32) (p1 : Int32) (r : Int32) (hf : f_X7_isDue p1 m_things m_wanted m_s = some r) : Met l yX7_isDue wsX7_isDue ({ frames := 1, cells := 0, slots := 0, locals := 22 } : Jvm.Room) (va_Pc [.ref a_m, .int p1] (preW (dC, dI) (tyL cI cB cZ) aK aV sz [(a_m, .inr (7, [.int m_thrown, .long m_trace, .ref a_m_text, .int m_typed, .int m_next, .int m_token, .int m_place, .int m_value, .int m_fault, .ref a_m_lifts, .ref a_m_price, .ref a_m_stood, .ref a_m_hands, .ref a_m_wanted, .int m_rooms, .int m_people, .int m_things, .int m_draftRooms, .int m_draftPeople, .int m_draftThings, .ref a_m_s, .ref a_m_kept, .ref a_m_isKept, .ref a_m_due, .int m_dueMany, .ref a_m_cost, .ref a_m_then, .ref a_m_by])), (a_m_wanted, .inl (cI, 16, .inl m_wanted)), (a_m_s, .inl (cI, 21, .inl m_s))])) (va_Qi (fun v (_ : Unit) => v = r) (postW (dC, dI) (tyL cI cB cZ) (va_A [(a_m, .inr (7, [.int m_thrown, .long m_trace, .ref a_m_text, .int m_typed, .int m_next, .int m_token, .int m_place, .int m_value, .int m_fault, .ref a_m_lifts, .ref a_m_price, .ref a_m_stood, .ref a_m_hands, .ref a_m_wanted, .int m_rooms, .int m_people, .int m_things, .int m_draftRooms, .int m_draftPeople, .int m_draftThings, .ref a_m_s, .ref a_m_kept, .ref a_m_isKept, .ref a_m_due, .int m_dueMany, .ref a_m_cost, .ref a_m_then, .ref a_m_by])), (a_m_wanted, .inl (cI, 16, .inl m_wanted)), (a_m_s, .inl (cI, 21, .inl m_s))] sz) [(a_m, .inr (7, [.int m_thrown, .long m_trace, .ref a_m_text, .int m_typed, .int m_next, .int m_token, .int m_place, .int m_value, .int m_fault, .ref a_m_lifts, .ref a_m_price, .ref a_m_stood, .ref a_m_hands, .ref a_m_wanted, .int m_rooms, .int m_people, .int m_things, .int m_draftRooms, .int m_draftPeople, .int m_draftThings, .ref a_m_s, .ref a_m_kept, .ref a_m_isKept, .ref a_m_due, .int m_dueMany, .ref a_m_cost, .ref a_m_then, .ref a_m_by])), (a_m_wanted, .inl (cI, 16, .inl m_wanted)), (a_m_s, .inl (cI, 21, .inl m_s))]) (va_A [(a_m, .inr (7, [.int m_thrown, .long m_trace, .ref a_m_text, .int m_typed, .int m_next, .int m_token, .int m_place, .int m_value, .int m_fault, .ref a_m_lifts, .ref a_m_price, .ref a_m_stood, .ref a_m_hands, .ref a_m_wanted, .int m_rooms, .int m_people, .int m_things, .int m_draftRooms, .int m_draftPeople, .int m_draftThings, .ref a_m_s, .ref a_m_kept, .ref a_m_isKept, .ref a_m_due, .int m_dueMany, .ref a_m_cost, .ref a_m_then, .ref a_m_by])), (a_m_wanted, .inl (cI, 16, .inl m_wanted)), (a_m_s, .inl (cI, 21, .inl m_s))] sz)) 0 0 (va_A [(a_m, .inr (7, [.int m_thrown, .long m_trace, .ref a_m_text, .int m_typed, .int m_next, .int m_token, .int m_place, .int m_value, .int m_fault, .ref a_m_lifts, .ref a_m_price, .ref a_m_stood, .ref a_m_hands, .ref a_m_wanted, .int m_rooms, .int m_people, .int m_things, .int m_draftRooms, .int m_draftPeople, .int m_draftThings, .ref a_m_s, .ref a_m_kept, .ref a_m_isKept, .ref a_m_due, .int m_dueMany, .ref a_m_cost, .ref a_m_then, .ref a_m_by])), (a_m_wanted, .inl (cI, 16, .inl m_wanted)), (a_m_s, .inl (cI, 21, .inl m_s))] sz) := by
  refine met_z (cc := cX7_isDue) (maxL := 4) (own := RX7) (by decide) rfl (Nat.le_of_ble_eq_true rfl) rfl (fun p e s m args below meth c Q A E hret ls H locs hl hw => ?_)
  obtain ⟨⟨hx, hb, hml, hown, hts⟩, hK, hN, hA, hX⟩ := id E
  have hl : lv_has ls 4 [(0, .ref a_m), (1, .int p1)] := hl
  have iX7 : ∀ w ∈ wsX70, w ∈ wsX7_isDue := by decide +kernel
  have kf133 := hts (.fieldLink RX7 133 "FiveThingsModel" "things" "I") (by decide +kernel)
  have kf25 := hts (.fieldLink RX7 25 "FiveThingsModel" "wanted" "[I") (by decide +kernel)
  have kf28 := hts (.fieldLink RX7 28 "FiveThingsModel" "s" "[I") (by decide +kernel)
  unfold f_X7_isDue at hf
  refine lv_iconst (v := (0 : Int32)) hx hb dX7_isDue_0 rfl ?_
  refine lv_istore_n (lv' := [(2, .int (0 : Int32)), (0, .ref a_m), (1, .int p1)]) hx hb dX7_isDue_1 rfl hl (by decide) rfl (fun ls hl => ?_)
  refine lv_iconst (v := (0 : Int32)) hx hb dX7_isDue_2 rfl ?_
  refine lv_istore_n (lv' := [(3, .int (0 : Int32)), (2, .int (0 : Int32)), (0, .ref a_m), (1, .int p1)]) hx hb dX7_isDue_3 rfl hl (by decide) rfl (fun ls hl => ?_)
  refine (loop2_sound (r := r) (P := fun (x6 : Int32) (x7 : Int32) => ∀ (ls : Array Slot) (H : Heap) (locs : List Loc), lv_has ls 4 [(3, .int x7), (2, .int x6), (0, .ref a_m), (1, .int p1)] → Wd A s.heap (dC, dI) [(a_m, .inr (7, [.int m_thrown, .long m_trace, .ref a_m_text, .int m_typed, .int m_next, .int m_token, .int m_place, .int m_value, .int m_fault, .ref a_m_lifts, .ref a_m_price, .ref a_m_stood, .ref a_m_hands, .ref a_m_wanted, .int m_rooms, .int m_people, .int m_things, .int m_draftRooms, .int m_draftPeople, .int m_draftThings, .ref a_m_s, .ref a_m_kept, .ref a_m_isKept, .ref a_m_due, .int m_dueMany, .ref a_m_cost, .ref a_m_then, .ref a_m_by])), (a_m_wanted, .inl (cI, 16, .inl m_wanted)), (a_m_s, .inl (cI, 21, .inl m_s))] H locs → W p l e ({ frames := 1, cells := 0, slots := 0, locals := 22 } : Jvm.Room) s m args below meth c H locs 0 0 Q (F0 m 4 ls [])) (fun B4 x6 x7 ih4 hf => ?_) _ (0 : Int32) (0 : Int32) hf) ls H locs (lv_sub hl [0, 1, 2, 3] rfl) hw
  intro ls H locs hl hw
  refine lv_iload_n hx hb dX7_isDue_4 rfl (lv_at hl 0 rfl) ?_
  refine lv_aload_n hx hb dX7_isDue_5 rfl (lv_at hl 2 rfl) ?_
  refine r_get E hw iX7 0 16 rfl rfl (by decide) kf133 rfl rfl dX7_isDue_6 ?_
  refine lv_icmp_ge (tgt := 63) hx hb dX7_isDue_9 (by decide) (fun kc => ?_) (fun kc => ?_)
  · have hf := if_t hf kc
    refine lv_iload_n hx hb dX7_isDue_63 rfl (lv_at hl 1 rfl) ?_
    obtain ⟨gz, hf⟩ := gd_some hf
    have gz := of_decide_eq_true gz
    obtain rfl := sm1 hf
    exact hret H locs ls 64 hw gz dX7_isDue_64
  · have hf := if_f hf kc
    refine lv_iload_n hx hb dX7_isDue_12 rfl (lv_at hl 1 rfl) ?_
    refine jn_sound (P := fun J => ∀ (ls : Array Slot) (H : Heap) (locs : List Loc), J = some r → lv_has ls 4 [(0, .ref a_m), (1, .int p1), (3, .int x7)] → Wd A s.heap (dC, dI) [(a_m, .inr (7, [.int m_thrown, .long m_trace, .ref a_m_text, .int m_typed, .int m_next, .int m_token, .int m_place, .int m_value, .int m_fault, .ref a_m_lifts, .ref a_m_price, .ref a_m_stood, .ref a_m_hands, .ref a_m_wanted, .int m_rooms, .int m_people, .int m_things, .int m_draftRooms, .int m_draftPeople, .int m_draftThings, .ref a_m_s, .ref a_m_kept, .ref a_m_isKept, .ref a_m_due, .int m_dueMany, .ref a_m_cost, .ref a_m_then, .ref a_m_by])), (a_m_wanted, .inl (cI, 16, .inl m_wanted)), (a_m_s, .inl (cI, 21, .inl m_s))] H locs → W p l e ({ frames := 1, cells := 0, slots := 0, locals := 22 } : Jvm.Room) s m args below meth c H locs 0 0 Q (F0 m 51 ls [])) hf ?_ ?_
    · intro ls H locs hf hl hw
      refine lv_iconst (v := (1 : Int32)) hx hb dX7_isDue_51 rfl ?_
      refine lv_goto (tgt := 56) hx hb dX7_isDue_52 (by decide) ?_
      refine lv_istore_n (lv' := [(2, .int (1 : Int32)), (0, .ref a_m), (1, .int p1), (3, .int x7)]) hx hb dX7_isDue_56 rfl hl (by decide) rfl (fun ls hl => ?_)
      refine lv_iinc (v := (x7 + (1 : Int32))) (lv' := [(3, .int (x7 + (1 : Int32))), (2, .int (1 : Int32)), (0, .ref a_m), (1, .int p1)]) hx hb dX7_isDue_57 hl (k := 3) rfl rfl (by decide) rfl (fun ls hl => ?_)
      refine lv_goto (tgt := 4) hx hb dX7_isDue_60 (by decide) ?_
      exact ih4 (1 : Int32) (x7 + (1 : Int32)) hf ls H locs (lv_sub hl [0, 1, 2, 3] rfl) hw
    · intro J51 hJ51 hf
      refine lv_if_ne (tgt := 51) hx hb dX7_isDue_13 (by decide) (fun kc => ?_) (fun kc => ?_)
      · have hf := if_f hf kc
        exact hJ51 ls H locs hf (lv_sub hl [2, 3, 0] rfl) hw
      · have hf := if_t hf kc
        refine lv_aload_n hx hb dX7_isDue_16 rfl (lv_at hl 2 rfl) ?_
        refine lv_iload_n hx hb dX7_isDue_17 rfl (lv_at hl 3 rfl) ?_
        refine lv_iload_n hx hb dX7_isDue_18 rfl (lv_at hl 0 rfl) ?_
        obtain ⟨r8, hu9, hf⟩ := bd1_some hf
        refine cl_i (wr := [(a_m_wanted, .inl (cI, 16, .inl m_wanted))]) (w2 := [(a_m, .inr (7, [.int m_thrown, .long m_trace, .ref a_m_text, .int m_typed, .int m_next, .int m_token, .int m_place, .int m_value, .int m_fault, .ref a_m_lifts, .ref a_m_price, .ref a_m_stood, .ref a_m_hands, .ref a_m_wanted, .int m_rooms, .int m_people, .int m_things, .int m_draftRooms, .int m_draftPeople, .int m_draftThings, .ref a_m_s, .ref a_m_kept, .ref a_m_isKept, .ref a_m_due, .int m_dueMany, .ref a_m_cost, .ref a_m_then, .ref a_m_by])), (a_m_wanted, .inl (cI, 16, .inl m_wanted)), (a_m_s, .inl (cI, 21, .inl m_s))]) E hw [0, 2] [1] [1, 0, 2] (va_runV (As := [.int p1, .int x7]) (rest := []) E.1 (c_X7_areOne l dC dI cI cB cZ aK aV a_m a_m_text a_m_lifts a_m_price a_m_stood a_m_hands a_m_wanted a_m_s a_m_kept a_m_isKept a_m_due a_m_cost a_m_then a_m_by H.size m_thrown m_trace m_typed m_next m_token m_place m_value m_fault m_rooms m_people m_things m_draftRooms m_draftPeople m_draftThings m_dueMany m_s p1 x7 r8 hu9) (cwV 2 hts gX7_isDue_X7_areOne rfl rfl rfl hd_X7_areOne ⟨Nat.le_of_ble_eq_true rfl, Nat.le_of_ble_eq_true rfl⟩) (pre_V E hw [0, 2] rfl rfl rfl rfl) rfl rfl hl.1 rfl (lv_room (Nat.le_of_ble_eq_true rfl)) dX7_isDue_19 ⟨Nat.zero_le _, Nat.zero_le _⟩) rfl rfl rfl (by decide) rfl rfl (fun H locs hw => ?_)
        refine jn_sound (P := fun J => ∀ (ls : Array Slot) (H : Heap) (locs : List Loc), J = some r → lv_has ls 4 [(0, .ref a_m), (1, .int p1), (3, .int x7)] → Wd A s.heap (dC, dI) [(a_m, .inr (7, [.int m_thrown, .long m_trace, .ref a_m_text, .int m_typed, .int m_next, .int m_token, .int m_place, .int m_value, .int m_fault, .ref a_m_lifts, .ref a_m_price, .ref a_m_stood, .ref a_m_hands, .ref a_m_wanted, .int m_rooms, .int m_people, .int m_things, .int m_draftRooms, .int m_draftPeople, .int m_draftThings, .ref a_m_s, .ref a_m_kept, .ref a_m_isKept, .ref a_m_due, .int m_dueMany, .ref a_m_cost, .ref a_m_then, .ref a_m_by])), (a_m_wanted, .inl (cI, 16, .inl m_wanted)), (a_m_s, .inl (cI, 21, .inl m_s))] H locs → W p l e ({ frames := 1, cells := 0, slots := 0, locals := 22 } : Jvm.Room) s m args below meth c H locs 0 0 Q (F0 m 55 ls [])) hf ?_ ?_
        · intro ls H locs hf hl hw
          refine lv_iconst (v := (0 : Int32)) hx hb dX7_isDue_55 rfl ?_
          refine lv_istore_n (lv' := [(2, .int (0 : Int32)), (0, .ref a_m), (1, .int p1), (3, .int x7)]) hx hb dX7_isDue_56 rfl hl (by decide) rfl (fun ls hl => ?_)
          refine lv_iinc (v := (x7 + (1 : Int32))) (lv' := [(3, .int (x7 + (1 : Int32))), (2, .int (0 : Int32)), (0, .ref a_m), (1, .int p1)]) hx hb dX7_isDue_57 hl (k := 3) rfl rfl (by decide) rfl (fun ls hl => ?_)
          refine lv_goto (tgt := 4) hx hb dX7_isDue_60 (by decide) ?_
          exact ih4 (0 : Int32) (x7 + (1 : Int32)) hf ls H locs (lv_sub hl [0, 1, 2, 3] rfl) hw
        · intro J55 hJ55 hf
          refine lv_if_eq (tgt := 55) hx hb dX7_isDue_22 (by decide) (fun kc => ?_) (fun kc => ?_)
          · have hf := if_t hf kc
            exact hJ55 ls H locs hf (lv_sub hl [2, 3, 0] rfl) hw
          · have hf := if_f hf kc
            refine lv_aload_n hx hb dX7_isDue_25 rfl (lv_at hl 2 rfl) ?_
            refine r_get E hw iX7 0 13 rfl rfl (by decide) kf25 rfl rfl dX7_isDue_26 ?_
            refine lv_iload_n hx hb dX7_isDue_29 rfl (lv_at hl 0 rfl) ?_
            obtain ⟨g10, hf⟩ := gd_some hf
            refine r_iald E hw 1 rfl g10 dX7_isDue_30 ?_
            refine lv_bipush (v := (-9 : Int32)) hx hb dX7_isDue_31 rfl ?_
            refine lv_icmp_eq (tgt := 55) hx hb dX7_isDue_33 (by decide) (fun kc => ?_) (fun kc => ?_)
            · have hf := if_t hf kc
              exact hJ55 ls H locs hf (lv_sub hl [2, 3, 0] rfl) hw
            · have hf := if_f hf kc
              refine lv_aload_n hx hb dX7_isDue_36 rfl (lv_at hl 2 rfl) ?_
              refine r_get E hw iX7 0 13 rfl rfl (by decide) kf25 rfl rfl dX7_isDue_37 ?_
              refine lv_iload_n hx hb dX7_isDue_40 rfl (lv_at hl 0 rfl) ?_
              obtain ⟨g11, hf⟩ := gd_some hf
              refine r_iald E hw 1 rfl g11 dX7_isDue_41 ?_
              refine lv_aload_n hx hb dX7_isDue_42 rfl (lv_at hl 2 rfl) ?_
              refine r_get E hw iX7 0 20 rfl rfl (by decide) kf28 rfl rfl dX7_isDue_43 ?_
              refine lv_iload_n hx hb dX7_isDue_46 rfl (lv_at hl 0 rfl) ?_
              obtain ⟨g12, hf⟩ := gd_some hf
              refine r_iald E hw 2 rfl g12 dX7_isDue_47 ?_
              refine lv_icmp_eq (tgt := 55) hx hb dX7_isDue_48 (by decide) (fun kc => ?_) (fun kc => ?_)
              · have hf := if_t hf kc
                exact hJ55 ls H locs hf (lv_sub hl [2, 3, 0] rfl) hw
              · have hf := if_f hf kc
                exact hJ51 ls H locs hf (lv_sub hl [2, 3, 0] rfl) hw
def f_X7_barred  (m_things : Int32) (m_wanted : Nat → Int32) (m_s : Nat → Int32) : Option (Int32) :=
  loop2 (fun B4 (x4 : Int32) (x5 : Int32) => (if m_things ≤ x5 then some (x4) else gd (inb ((8 : Int32) + x5) 21) (jn (B4 (x4 ||| (0 : Int32)) (x5 + (1 : Int32))) (fun J43 => (if (m_s ((8 : Int32) + x5).toNatClampNeg) = (-9 : Int32) then J43 else bd1 (f_X7_wantedAt x5 m_things m_wanted m_s) (fun r7 => (if r7 = (-1000000 : Int32) then B4 (x4 ||| ((1 : Int32) <<< (x5 &&& 31))) (x5 + (1 : Int32)) else J43))))))) FU (0 : Int32) (0 : Int32)
theorem hd_X7_barred : yX7_barred.cls = RX7 ∧ yX7_barred.cls ≠ "java/lang/invoke/MethodHandle" ∧ yX7_barred.cls ≠ "java/lang/invoke/VarHandle" ∧ (parseMethodDescriptor yX7_barred.desc).map (fun d => d.parameters.length) = some 0 := by decide +kernel
set_option maxHeartbeats 4000000 in
set_option maxRecDepth 100000 in
theorem c_X7_barred (l : Launch) (dC : Nat → ClassId) (dI : Nat → Nat → Nat) (cI cB cZ : ClassId) (aK aV : Nat → Nat) (a_m a_m_text a_m_lifts a_m_price a_m_stood a_m_hands a_m_wanted a_m_s a_m_kept a_m_isKept a_m_due a_m_cost a_m_then a_m_by : Nat) (sz : Nat) (m_thrown : Int32) (m_trace : Int64) (m_typed : Int32) (m_next : Int32) (m_token : Int32) (m_place : Int32) (m_value : Int32) (m_fault : Int32) (m_rooms : Int32) (m_people : Int32) (m_things : Int32) (m_draftRooms : Int32) (m_draftPeople : Int32) (m_draftThings : Int32) (m_dueMany : Int32) (m_wanted : Nat → Int32) (m_s : Nat → Int32) (r : Int32) (hf : f_X7_barred m_things m_wanted m_s = some r) : Met l yX7_barred wsX7_barred ({ frames := 2, cells := 0, slots := 0, locals := 45 } : Jvm.Room) (va_Pc [.ref a_m] (preW (dC, dI) (tyL cI cB cZ) aK aV sz [(a_m, .inr (7, [.int m_thrown, .long m_trace, .ref a_m_text, .int m_typed, .int m_next, .int m_token, .int m_place, .int m_value, .int m_fault, .ref a_m_lifts, .ref a_m_price, .ref a_m_stood, .ref a_m_hands, .ref a_m_wanted, .int m_rooms, .int m_people, .int m_things, .int m_draftRooms, .int m_draftPeople, .int m_draftThings, .ref a_m_s, .ref a_m_kept, .ref a_m_isKept, .ref a_m_due, .int m_dueMany, .ref a_m_cost, .ref a_m_then, .ref a_m_by])), (a_m_wanted, .inl (cI, 16, .inl m_wanted)), (a_m_s, .inl (cI, 21, .inl m_s))])) (va_Qi (fun v (_ : Unit) => v = r) (postW (dC, dI) (tyL cI cB cZ) (va_A [(a_m, .inr (7, [.int m_thrown, .long m_trace, .ref a_m_text, .int m_typed, .int m_next, .int m_token, .int m_place, .int m_value, .int m_fault, .ref a_m_lifts, .ref a_m_price, .ref a_m_stood, .ref a_m_hands, .ref a_m_wanted, .int m_rooms, .int m_people, .int m_things, .int m_draftRooms, .int m_draftPeople, .int m_draftThings, .ref a_m_s, .ref a_m_kept, .ref a_m_isKept, .ref a_m_due, .int m_dueMany, .ref a_m_cost, .ref a_m_then, .ref a_m_by])), (a_m_wanted, .inl (cI, 16, .inl m_wanted)), (a_m_s, .inl (cI, 21, .inl m_s))] sz) [(a_m, .inr (7, [.int m_thrown, .long m_trace, .ref a_m_text, .int m_typed, .int m_next, .int m_token, .int m_place, .int m_value, .int m_fault, .ref a_m_lifts, .ref a_m_price, .ref a_m_stood, .ref a_m_hands, .ref a_m_wanted, .int m_rooms, .int m_people, .int m_things, .int m_draftRooms, .int m_draftPeople, .int m_draftThings, .ref a_m_s, .ref a_m_kept, .ref a_m_isKept, .ref a_m_due, .int m_dueMany, .ref a_m_cost, .ref a_m_then, .ref a_m_by])), (a_m_wanted, .inl (cI, 16, .inl m_wanted)), (a_m_s, .inl (cI, 21, .inl m_s))]) (va_A [(a_m, .inr (7, [.int m_thrown, .long m_trace, .ref a_m_text, .int m_typed, .int m_next, .int m_token, .int m_place, .int m_value, .int m_fault, .ref a_m_lifts, .ref a_m_price, .ref a_m_stood, .ref a_m_hands, .ref a_m_wanted, .int m_rooms, .int m_people, .int m_things, .int m_draftRooms, .int m_draftPeople, .int m_draftThings, .ref a_m_s, .ref a_m_kept, .ref a_m_isKept, .ref a_m_due, .int m_dueMany, .ref a_m_cost, .ref a_m_then, .ref a_m_by])), (a_m_wanted, .inl (cI, 16, .inl m_wanted)), (a_m_s, .inl (cI, 21, .inl m_s))] sz)) 0 0 (va_A [(a_m, .inr (7, [.int m_thrown, .long m_trace, .ref a_m_text, .int m_typed, .int m_next, .int m_token, .int m_place, .int m_value, .int m_fault, .ref a_m_lifts, .ref a_m_price, .ref a_m_stood, .ref a_m_hands, .ref a_m_wanted, .int m_rooms, .int m_people, .int m_things, .int m_draftRooms, .int m_draftPeople, .int m_draftThings, .ref a_m_s, .ref a_m_kept, .ref a_m_isKept, .ref a_m_due, .int m_dueMany, .ref a_m_cost, .ref a_m_then, .ref a_m_by])), (a_m_wanted, .inl (cI, 16, .inl m_wanted)), (a_m_s, .inl (cI, 21, .inl m_s))] sz) := by
  refine met_i (cc := cX7_barred) (maxL := 3) (own := RX7) (by decide) rfl (Nat.le_of_ble_eq_true rfl) rfl (fun p e s m args below meth c Q A E hret ls H locs hl hw => ?_)
  obtain ⟨⟨hx, hb, hml, hown, hts⟩, hK, hN, hA, hX⟩ := id E
  have hl : lv_has ls 3 [(0, .ref a_m)] := hl
  have iX7 : ∀ w ∈ wsX70, w ∈ wsX7_barred := by decide +kernel
  have kf133 := hts (.fieldLink RX7 133 "FiveThingsModel" "things" "I") (by decide +kernel)
  have kf28 := hts (.fieldLink RX7 28 "FiveThingsModel" "s" "[I") (by decide +kernel)
  have kc162 := hts (.constant RX7 162 (-1000000)) (by decide +kernel)
  unfold f_X7_barred at hf
  refine lv_iconst (v := (0 : Int32)) hx hb dX7_barred_0 rfl ?_
  refine lv_istore_n (lv' := [(1, .int (0 : Int32)), (0, .ref a_m)]) hx hb dX7_barred_1 rfl hl (by decide) rfl (fun ls hl => ?_)
  refine lv_iconst (v := (0 : Int32)) hx hb dX7_barred_2 rfl ?_
  refine lv_istore_n (lv' := [(2, .int (0 : Int32)), (1, .int (0 : Int32)), (0, .ref a_m)]) hx hb dX7_barred_3 rfl hl (by decide) rfl (fun ls hl => ?_)
  refine (loop2_sound (r := r) (P := fun (x4 : Int32) (x5 : Int32) => ∀ (ls : Array Slot) (H : Heap) (locs : List Loc), lv_has ls 3 [(2, .int x5), (1, .int x4), (0, .ref a_m)] → Wd A s.heap (dC, dI) [(a_m, .inr (7, [.int m_thrown, .long m_trace, .ref a_m_text, .int m_typed, .int m_next, .int m_token, .int m_place, .int m_value, .int m_fault, .ref a_m_lifts, .ref a_m_price, .ref a_m_stood, .ref a_m_hands, .ref a_m_wanted, .int m_rooms, .int m_people, .int m_things, .int m_draftRooms, .int m_draftPeople, .int m_draftThings, .ref a_m_s, .ref a_m_kept, .ref a_m_isKept, .ref a_m_due, .int m_dueMany, .ref a_m_cost, .ref a_m_then, .ref a_m_by])), (a_m_wanted, .inl (cI, 16, .inl m_wanted)), (a_m_s, .inl (cI, 21, .inl m_s))] H locs → W p l e ({ frames := 2, cells := 0, slots := 0, locals := 45 } : Jvm.Room) s m args below meth c H locs 0 0 Q (F0 m 4 ls [])) (fun B4 x4 x5 ih4 hf => ?_) _ (0 : Int32) (0 : Int32) hf) ls H locs (lv_sub hl [0, 1, 2] rfl) hw
  intro ls H locs hl hw
  refine lv_iload_n hx hb dX7_barred_4 rfl (lv_at hl 0 rfl) ?_
  refine lv_aload_n hx hb dX7_barred_5 rfl (lv_at hl 2 rfl) ?_
  refine r_get E hw iX7 0 16 rfl rfl (by decide) kf133 rfl rfl dX7_barred_6 ?_
  refine lv_icmp_ge (tgt := 52) hx hb dX7_barred_9 (by decide) (fun kc => ?_) (fun kc => ?_)
  · have hf := if_t hf kc
    refine lv_iload_n hx hb dX7_barred_52 rfl (lv_at hl 1 rfl) ?_
    obtain rfl := sm1 hf
    exact hret H locs ls 53 hw dX7_barred_53
  · have hf := if_f hf kc
    refine lv_iload_n hx hb dX7_barred_12 rfl (lv_at hl 1 rfl) ?_
    refine lv_aload_n hx hb dX7_barred_13 rfl (lv_at hl 2 rfl) ?_
    refine r_get E hw iX7 0 20 rfl rfl (by decide) kf28 rfl rfl dX7_barred_14 ?_
    refine lv_bipush (v := (8 : Int32)) hx hb dX7_barred_17 rfl ?_
    refine lv_iload_n hx hb dX7_barred_19 rfl (lv_at hl 0 rfl) ?_
    refine lv_iadd hx hb dX7_barred_20 ?_
    obtain ⟨g6, hf⟩ := gd_some hf
    refine r_iald E hw 2 rfl g6 dX7_barred_21 ?_
    refine lv_bipush (v := (-9 : Int32)) hx hb dX7_barred_22 rfl ?_
    refine jn_sound (P := fun J => ∀ (ls : Array Slot) (H : Heap) (locs : List Loc), J = some r → lv_has ls 3 [(0, .ref a_m), (2, .int x5)] → Wd A s.heap (dC, dI) [(a_m, .inr (7, [.int m_thrown, .long m_trace, .ref a_m_text, .int m_typed, .int m_next, .int m_token, .int m_place, .int m_value, .int m_fault, .ref a_m_lifts, .ref a_m_price, .ref a_m_stood, .ref a_m_hands, .ref a_m_wanted, .int m_rooms, .int m_people, .int m_things, .int m_draftRooms, .int m_draftPeople, .int m_draftThings, .ref a_m_s, .ref a_m_kept, .ref a_m_isKept, .ref a_m_due, .int m_dueMany, .ref a_m_cost, .ref a_m_then, .ref a_m_by])), (a_m_wanted, .inl (cI, 16, .inl m_wanted)), (a_m_s, .inl (cI, 21, .inl m_s))] H locs → W p l e ({ frames := 2, cells := 0, slots := 0, locals := 45 } : Jvm.Room) s m args below meth c H locs 0 0 Q (F0 m 43 ls [.int x4])) hf ?_ ?_
    · intro ls H locs hf hl hw
      refine lv_iconst (v := (0 : Int32)) hx hb dX7_barred_43 rfl ?_
      refine lv_ior hx hb dX7_barred_44 ?_
      refine lv_istore_n (lv' := [(1, .int (x4 ||| (0 : Int32))), (0, .ref a_m), (2, .int x5)]) hx hb dX7_barred_45 rfl hl (by decide) rfl (fun ls hl => ?_)
      refine lv_iinc (v := (x5 + (1 : Int32))) (lv' := [(2, .int (x5 + (1 : Int32))), (1, .int (x4 ||| (0 : Int32))), (0, .ref a_m)]) hx hb dX7_barred_46 hl (k := 2) rfl rfl (by decide) rfl (fun ls hl => ?_)
      refine lv_goto (tgt := 4) hx hb dX7_barred_49 (by decide) ?_
      exact ih4 (x4 ||| (0 : Int32)) (x5 + (1 : Int32)) hf ls H locs (lv_sub hl [0, 1, 2] rfl) hw
    · intro J43 hJ43 hf
      refine lv_icmp_eq (tgt := 43) hx hb dX7_barred_24 (by decide) (fun kc => ?_) (fun kc => ?_)
      · have hf := if_t hf kc
        exact hJ43 ls H locs hf (lv_sub hl [2, 0] rfl) hw
      · have hf := if_f hf kc
        refine lv_aload_n hx hb dX7_barred_27 rfl (lv_at hl 2 rfl) ?_
        refine lv_iload_n hx hb dX7_barred_28 rfl (lv_at hl 0 rfl) ?_
        obtain ⟨r7, hu8, hf⟩ := bd1_some hf
        refine cl_i (wr := []) (w2 := [(a_m, .inr (7, [.int m_thrown, .long m_trace, .ref a_m_text, .int m_typed, .int m_next, .int m_token, .int m_place, .int m_value, .int m_fault, .ref a_m_lifts, .ref a_m_price, .ref a_m_stood, .ref a_m_hands, .ref a_m_wanted, .int m_rooms, .int m_people, .int m_things, .int m_draftRooms, .int m_draftPeople, .int m_draftThings, .ref a_m_s, .ref a_m_kept, .ref a_m_isKept, .ref a_m_due, .int m_dueMany, .ref a_m_cost, .ref a_m_then, .ref a_m_by])), (a_m_wanted, .inl (cI, 16, .inl m_wanted)), (a_m_s, .inl (cI, 21, .inl m_s))]) E hw [0, 1, 2] [] [0, 1, 2] (va_runV (As := [.int x5]) (rest := [.int x4]) E.1 (c_X7_wantedAt l dC dI cI cB cZ aK aV a_m a_m_text a_m_lifts a_m_price a_m_stood a_m_hands a_m_wanted a_m_s a_m_kept a_m_isKept a_m_due a_m_cost a_m_then a_m_by H.size m_thrown m_trace m_typed m_next m_token m_place m_value m_fault m_rooms m_people m_things m_draftRooms m_draftPeople m_draftThings m_dueMany m_wanted m_s x5 r7 hu8) (cwV 1 hts gX7_barred_X7_wantedAt rfl rfl rfl hd_X7_wantedAt ⟨Nat.le_of_ble_eq_true rfl, Nat.le_of_ble_eq_true rfl⟩) (pre_V E hw [0, 1, 2] rfl rfl rfl rfl) rfl rfl hl.1 rfl (lv_room (Nat.le_of_ble_eq_true rfl)) dX7_barred_29 ⟨Nat.zero_le _, Nat.zero_le _⟩) rfl rfl rfl (by decide) rfl rfl (fun H locs hw => ?_)
        refine lv_ldc hx hb hown kc162 dX7_barred_32 ?_
        refine lv_icmp_ne (tgt := 43) hx hb dX7_barred_34 (by decide) (fun kc => ?_) (fun kc => ?_)
        · have hf := if_f hf kc
          exact hJ43 ls H locs hf (lv_sub hl [2, 0] rfl) hw
        · have hf := if_t hf kc
          refine lv_iconst (v := (1 : Int32)) hx hb dX7_barred_37 rfl ?_
          refine lv_iload_n hx hb dX7_barred_38 rfl (lv_at hl 0 rfl) ?_
          refine lv_ishl hx hb dX7_barred_39 ?_
          refine lv_goto (tgt := 44) hx hb dX7_barred_40 (by decide) ?_
          refine lv_ior hx hb dX7_barred_44 ?_
          refine lv_istore_n (lv' := [(1, .int (x4 ||| ((1 : Int32) <<< (x5 &&& 31)))), (2, .int x5), (0, .ref a_m)]) hx hb dX7_barred_45 rfl hl (by decide) rfl (fun ls hl => ?_)
          refine lv_iinc (v := (x5 + (1 : Int32))) (lv' := [(2, .int (x5 + (1 : Int32))), (1, .int (x4 ||| ((1 : Int32) <<< (x5 &&& 31)))), (0, .ref a_m)]) hx hb dX7_barred_46 hl (k := 1) rfl rfl (by decide) rfl (fun ls hl => ?_)
          refine lv_goto (tgt := 4) hx hb dX7_barred_49 (by decide) ?_
          exact ih4 (x4 ||| ((1 : Int32) <<< (x5 &&& 31))) (x5 + (1 : Int32)) hf ls H locs (lv_sub hl [0, 1, 2] rfl) hw
def f_X7_singles (p1 : Int32) (p2 : Int32) (m_things : Int32) (m_wanted : Nat → Int32) (m_s : Nat → Int32) : Option (Int32) :=
  loop2 (fun B5 (x4 : Int32) (x5 : Int32) => (if m_things ≤ x5 then some (x4) else gd (inb ((8 : Int32) + x5) 21) (jn (B5 (x4 ||| (0 : Int32)) (x5 + (1 : Int32))) (fun J64 => (if (m_s ((8 : Int32) + x5).toNatClampNeg) = (-9 : Int32) then gd (inb x5 21) ((if (m_s x5.toNatClampNeg) = p1 then gd (inb x5 16) ((if (m_wanted x5.toNatClampNeg) = p2 then (if p1 = p2 then J64 else B5 (x4 ||| ((1 : Int32) <<< (x5 &&& 31))) (x5 + (1 : Int32))) else J64)) else J64)) else J64))))) FU (0 : Int32) (0 : Int32)
theorem hd_X7_singles : yX7_singles.cls = RX7 ∧ yX7_singles.cls ≠ "java/lang/invoke/MethodHandle" ∧ yX7_singles.cls ≠ "java/lang/invoke/VarHandle" ∧ (parseMethodDescriptor yX7_singles.desc).map (fun d => d.parameters.length) = some 2 := by decide +kernel
set_option maxHeartbeats 4000000 in
set_option maxRecDepth 100000 in
theorem c_X7_singles (l : Launch) (dC : Nat → ClassId) (dI : Nat → Nat → Nat) (cI cB cZ : ClassId) (aK aV : Nat → Nat) (a_m a_m_text a_m_lifts a_m_price a_m_stood a_m_hands a_m_wanted a_m_s a_m_kept a_m_isKept a_m_due a_m_cost a_m_then a_m_by : Nat) (sz : Nat) (m_thrown : Int32) (m_trace : Int64) (m_typed : Int32) (m_next : Int32) (m_token : Int32) (m_place : Int32) (m_value : Int32) (m_fault : Int32) (m_rooms : Int32) (m_people : Int32) (m_things : Int32) (m_draftRooms : Int32) (m_draftPeople : Int32) (m_draftThings : Int32) (m_dueMany : Int32) (m_wanted : Nat → Int32) (m_s : Nat → Int32) (p1 : Int32) (p2 : Int32) (r : Int32) (hf : f_X7_singles p1 p2 m_things m_wanted m_s = some r) : Met l yX7_singles wsX7_singles ({ frames := 0, cells := 0, slots := 0, locals := 0 } : Jvm.Room) (va_Pc [.ref a_m, .int p1, .int p2] (preW (dC, dI) (tyL cI cB cZ) aK aV sz [(a_m, .inr (7, [.int m_thrown, .long m_trace, .ref a_m_text, .int m_typed, .int m_next, .int m_token, .int m_place, .int m_value, .int m_fault, .ref a_m_lifts, .ref a_m_price, .ref a_m_stood, .ref a_m_hands, .ref a_m_wanted, .int m_rooms, .int m_people, .int m_things, .int m_draftRooms, .int m_draftPeople, .int m_draftThings, .ref a_m_s, .ref a_m_kept, .ref a_m_isKept, .ref a_m_due, .int m_dueMany, .ref a_m_cost, .ref a_m_then, .ref a_m_by])), (a_m_wanted, .inl (cI, 16, .inl m_wanted)), (a_m_s, .inl (cI, 21, .inl m_s))])) (va_Qi (fun v (_ : Unit) => v = r) (postW (dC, dI) (tyL cI cB cZ) (va_A [(a_m, .inr (7, [.int m_thrown, .long m_trace, .ref a_m_text, .int m_typed, .int m_next, .int m_token, .int m_place, .int m_value, .int m_fault, .ref a_m_lifts, .ref a_m_price, .ref a_m_stood, .ref a_m_hands, .ref a_m_wanted, .int m_rooms, .int m_people, .int m_things, .int m_draftRooms, .int m_draftPeople, .int m_draftThings, .ref a_m_s, .ref a_m_kept, .ref a_m_isKept, .ref a_m_due, .int m_dueMany, .ref a_m_cost, .ref a_m_then, .ref a_m_by])), (a_m_wanted, .inl (cI, 16, .inl m_wanted)), (a_m_s, .inl (cI, 21, .inl m_s))] sz) [(a_m, .inr (7, [.int m_thrown, .long m_trace, .ref a_m_text, .int m_typed, .int m_next, .int m_token, .int m_place, .int m_value, .int m_fault, .ref a_m_lifts, .ref a_m_price, .ref a_m_stood, .ref a_m_hands, .ref a_m_wanted, .int m_rooms, .int m_people, .int m_things, .int m_draftRooms, .int m_draftPeople, .int m_draftThings, .ref a_m_s, .ref a_m_kept, .ref a_m_isKept, .ref a_m_due, .int m_dueMany, .ref a_m_cost, .ref a_m_then, .ref a_m_by])), (a_m_wanted, .inl (cI, 16, .inl m_wanted)), (a_m_s, .inl (cI, 21, .inl m_s))]) (va_A [(a_m, .inr (7, [.int m_thrown, .long m_trace, .ref a_m_text, .int m_typed, .int m_next, .int m_token, .int m_place, .int m_value, .int m_fault, .ref a_m_lifts, .ref a_m_price, .ref a_m_stood, .ref a_m_hands, .ref a_m_wanted, .int m_rooms, .int m_people, .int m_things, .int m_draftRooms, .int m_draftPeople, .int m_draftThings, .ref a_m_s, .ref a_m_kept, .ref a_m_isKept, .ref a_m_due, .int m_dueMany, .ref a_m_cost, .ref a_m_then, .ref a_m_by])), (a_m_wanted, .inl (cI, 16, .inl m_wanted)), (a_m_s, .inl (cI, 21, .inl m_s))] sz)) 0 0 (va_A [(a_m, .inr (7, [.int m_thrown, .long m_trace, .ref a_m_text, .int m_typed, .int m_next, .int m_token, .int m_place, .int m_value, .int m_fault, .ref a_m_lifts, .ref a_m_price, .ref a_m_stood, .ref a_m_hands, .ref a_m_wanted, .int m_rooms, .int m_people, .int m_things, .int m_draftRooms, .int m_draftPeople, .int m_draftThings, .ref a_m_s, .ref a_m_kept, .ref a_m_isKept, .ref a_m_due, .int m_dueMany, .ref a_m_cost, .ref a_m_then, .ref a_m_by])), (a_m_wanted, .inl (cI, 16, .inl m_wanted)), (a_m_s, .inl (cI, 21, .inl m_s))] sz) := by
  refine met_i (cc := cX7_singles) (maxL := 5) (own := RX7) (by decide) rfl (Nat.le_of_ble_eq_true rfl) rfl (fun p e s m args below meth c Q A E hret ls H locs hl hw => ?_)
  obtain ⟨⟨hx, hb, hml, hown, hts⟩, hK, hN, hA, hX⟩ := id E
  have hl : lv_has ls 5 [(0, .ref a_m), (1, .int p1), (2, .int p2)] := hl
  have iX7 : ∀ w ∈ wsX70, w ∈ wsX7_singles := by decide +kernel
  have kf133 := hts (.fieldLink RX7 133 "FiveThingsModel" "things" "I") (by decide +kernel)
  have kf28 := hts (.fieldLink RX7 28 "FiveThingsModel" "s" "[I") (by decide +kernel)
  have kf25 := hts (.fieldLink RX7 25 "FiveThingsModel" "wanted" "[I") (by decide +kernel)
  unfold f_X7_singles at hf
  refine lv_iconst (v := (0 : Int32)) hx hb dX7_singles_0 rfl ?_
  refine lv_istore_n (lv' := [(3, .int (0 : Int32)), (0, .ref a_m), (1, .int p1), (2, .int p2)]) hx hb dX7_singles_1 rfl hl (by decide) rfl (fun ls hl => ?_)
  refine lv_iconst (v := (0 : Int32)) hx hb dX7_singles_2 rfl ?_
  refine lv_istore (lv' := [(4, .int (0 : Int32)), (3, .int (0 : Int32)), (0, .ref a_m), (1, .int p1), (2, .int p2)]) hx hb dX7_singles_3 hl (by decide) rfl (fun ls hl => ?_)
  refine (loop2_sound (r := r) (P := fun (x4 : Int32) (x5 : Int32) => ∀ (ls : Array Slot) (H : Heap) (locs : List Loc), lv_has ls 5 [(4, .int x5), (3, .int x4), (0, .ref a_m), (1, .int p1), (2, .int p2)] → Wd A s.heap (dC, dI) [(a_m, .inr (7, [.int m_thrown, .long m_trace, .ref a_m_text, .int m_typed, .int m_next, .int m_token, .int m_place, .int m_value, .int m_fault, .ref a_m_lifts, .ref a_m_price, .ref a_m_stood, .ref a_m_hands, .ref a_m_wanted, .int m_rooms, .int m_people, .int m_things, .int m_draftRooms, .int m_draftPeople, .int m_draftThings, .ref a_m_s, .ref a_m_kept, .ref a_m_isKept, .ref a_m_due, .int m_dueMany, .ref a_m_cost, .ref a_m_then, .ref a_m_by])), (a_m_wanted, .inl (cI, 16, .inl m_wanted)), (a_m_s, .inl (cI, 21, .inl m_s))] H locs → W p l e ({ frames := 0, cells := 0, slots := 0, locals := 0 } : Jvm.Room) s m args below meth c H locs 0 0 Q (F0 m 5 ls [])) (fun B5 x4 x5 ih5 hf => ?_) _ (0 : Int32) (0 : Int32) hf) ls H locs (lv_sub hl [0, 1, 2, 3, 4] rfl) hw
  intro ls H locs hl hw
  refine lv_iload hx hb dX7_singles_5 (lv_at hl 0 rfl) ?_
  refine lv_aload_n hx hb dX7_singles_7 rfl (lv_at hl 2 rfl) ?_
  refine r_get E hw iX7 0 16 rfl rfl (by decide) kf133 rfl rfl dX7_singles_8 ?_
  refine lv_icmp_ge (tgt := 73) hx hb dX7_singles_11 (by decide) (fun kc => ?_) (fun kc => ?_)
  · have hf := if_t hf kc
    refine lv_iload_n hx hb dX7_singles_73 rfl (lv_at hl 1 rfl) ?_
    obtain rfl := sm1 hf
    exact hret H locs ls 74 hw dX7_singles_74
  · have hf := if_f hf kc
    refine lv_iload_n hx hb dX7_singles_14 rfl (lv_at hl 1 rfl) ?_
    refine lv_aload_n hx hb dX7_singles_15 rfl (lv_at hl 2 rfl) ?_
    refine r_get E hw iX7 0 20 rfl rfl (by decide) kf28 rfl rfl dX7_singles_16 ?_
    refine lv_bipush (v := (8 : Int32)) hx hb dX7_singles_19 rfl ?_
    refine lv_iload hx hb dX7_singles_21 (lv_at hl 0 rfl) ?_
    refine lv_iadd hx hb dX7_singles_23 ?_
    obtain ⟨g6, hf⟩ := gd_some hf
    refine r_iald E hw 2 rfl g6 dX7_singles_24 ?_
    refine lv_bipush (v := (-9 : Int32)) hx hb dX7_singles_25 rfl ?_
    refine jn_sound (P := fun J => ∀ (ls : Array Slot) (H : Heap) (locs : List Loc), J = some r → lv_has ls 5 [(0, .ref a_m), (1, .int p1), (2, .int p2), (4, .int x5)] → Wd A s.heap (dC, dI) [(a_m, .inr (7, [.int m_thrown, .long m_trace, .ref a_m_text, .int m_typed, .int m_next, .int m_token, .int m_place, .int m_value, .int m_fault, .ref a_m_lifts, .ref a_m_price, .ref a_m_stood, .ref a_m_hands, .ref a_m_wanted, .int m_rooms, .int m_people, .int m_things, .int m_draftRooms, .int m_draftPeople, .int m_draftThings, .ref a_m_s, .ref a_m_kept, .ref a_m_isKept, .ref a_m_due, .int m_dueMany, .ref a_m_cost, .ref a_m_then, .ref a_m_by])), (a_m_wanted, .inl (cI, 16, .inl m_wanted)), (a_m_s, .inl (cI, 21, .inl m_s))] H locs → W p l e ({ frames := 0, cells := 0, slots := 0, locals := 0 } : Jvm.Room) s m args below meth c H locs 0 0 Q (F0 m 64 ls [.int x4])) hf ?_ ?_
    · intro ls H locs hf hl hw
      refine lv_iconst (v := (0 : Int32)) hx hb dX7_singles_64 rfl ?_
      refine lv_ior hx hb dX7_singles_65 ?_
      refine lv_istore_n (lv' := [(3, .int (x4 ||| (0 : Int32))), (0, .ref a_m), (1, .int p1), (2, .int p2), (4, .int x5)]) hx hb dX7_singles_66 rfl hl (by decide) rfl (fun ls hl => ?_)
      refine lv_iinc (v := (x5 + (1 : Int32))) (lv' := [(4, .int (x5 + (1 : Int32))), (3, .int (x4 ||| (0 : Int32))), (0, .ref a_m), (1, .int p1), (2, .int p2)]) hx hb dX7_singles_67 hl (k := 4) rfl rfl (by decide) rfl (fun ls hl => ?_)
      refine lv_goto (tgt := 5) hx hb dX7_singles_70 (by decide) ?_
      exact ih5 (x4 ||| (0 : Int32)) (x5 + (1 : Int32)) hf ls H locs (lv_sub hl [0, 1, 2, 3, 4] rfl) hw
    · intro J64 hJ64 hf
      refine lv_icmp_ne (tgt := 64) hx hb dX7_singles_27 (by decide) (fun kc => ?_) (fun kc => ?_)
      · have hf := if_f hf kc
        exact hJ64 ls H locs hf (lv_sub hl [2, 3, 4, 0] rfl) hw
      · have hf := if_t hf kc
        refine lv_aload_n hx hb dX7_singles_30 rfl (lv_at hl 2 rfl) ?_
        refine r_get E hw iX7 0 20 rfl rfl (by decide) kf28 rfl rfl dX7_singles_31 ?_
        refine lv_iload hx hb dX7_singles_34 (lv_at hl 0 rfl) ?_
        obtain ⟨g7, hf⟩ := gd_some hf
        refine r_iald E hw 2 rfl g7 dX7_singles_36 ?_
        refine lv_iload_n hx hb dX7_singles_37 rfl (lv_at hl 3 rfl) ?_
        refine lv_icmp_ne (tgt := 64) hx hb dX7_singles_38 (by decide) (fun kc => ?_) (fun kc => ?_)
        · have hf := if_f hf kc
          exact hJ64 ls H locs hf (lv_sub hl [2, 3, 4, 0] rfl) hw
        · have hf := if_t hf kc
          refine lv_aload_n hx hb dX7_singles_41 rfl (lv_at hl 2 rfl) ?_
          refine r_get E hw iX7 0 13 rfl rfl (by decide) kf25 rfl rfl dX7_singles_42 ?_
          refine lv_iload hx hb dX7_singles_45 (lv_at hl 0 rfl) ?_
          obtain ⟨g8, hf⟩ := gd_some hf
          refine r_iald E hw 1 rfl g8 dX7_singles_47 ?_
          refine lv_iload_n hx hb dX7_singles_48 rfl (lv_at hl 4 rfl) ?_
          refine lv_icmp_ne (tgt := 64) hx hb dX7_singles_49 (by decide) (fun kc => ?_) (fun kc => ?_)
          · have hf := if_f hf kc
            exact hJ64 ls H locs hf (lv_sub hl [2, 3, 4, 0] rfl) hw
          · have hf := if_t hf kc
            refine lv_iload_n hx hb dX7_singles_52 rfl (lv_at hl 3 rfl) ?_
            refine lv_iload_n hx hb dX7_singles_53 rfl (lv_at hl 4 rfl) ?_
            refine lv_icmp_eq (tgt := 64) hx hb dX7_singles_54 (by decide) (fun kc => ?_) (fun kc => ?_)
            · have hf := if_t hf kc
              exact hJ64 ls H locs hf (lv_sub hl [2, 3, 4, 0] rfl) hw
            · have hf := if_f hf kc
              refine lv_iconst (v := (1 : Int32)) hx hb dX7_singles_57 rfl ?_
              refine lv_iload hx hb dX7_singles_58 (lv_at hl 0 rfl) ?_
              refine lv_ishl hx hb dX7_singles_60 ?_
              refine lv_goto (tgt := 65) hx hb dX7_singles_61 (by decide) ?_
              refine lv_ior hx hb dX7_singles_65 ?_
              refine lv_istore_n (lv' := [(3, .int (x4 ||| ((1 : Int32) <<< (x5 &&& 31)))), (4, .int x5), (0, .ref a_m), (1, .int p1), (2, .int p2)]) hx hb dX7_singles_66 rfl hl (by decide) rfl (fun ls hl => ?_)
              refine lv_iinc (v := (x5 + (1 : Int32))) (lv' := [(4, .int (x5 + (1 : Int32))), (3, .int (x4 ||| ((1 : Int32) <<< (x5 &&& 31)))), (0, .ref a_m), (1, .int p1), (2, .int p2)]) hx hb dX7_singles_67 hl (k := 1) rfl rfl (by decide) rfl (fun ls hl => ?_)
              refine lv_goto (tgt := 5) hx hb dX7_singles_70 (by decide) ?_
              exact ih5 (x4 ||| ((1 : Int32) <<< (x5 &&& 31))) (x5 + (1 : Int32)) hf ls H locs (lv_sub hl [0, 1, 2, 3, 4] rfl) hw
def f_X7_liftsBy (p1 : Int32) (p2 : Int32) (m_things : Int32) (m_hands : Nat → Int32) : Option (Int32) :=
  loop3 (fun B8 (x6 : Int32) (x7 : Int32) (x8 : Int32) => (if m_things ≤ x8 then (if p2 = 0 then some (x6) else some (((x6 + (1 : Int32)) + x7))) else jn (fun (x10 : Int32) => (if ((p2 >>> (x8 &&& 31)) &&& (1 : Int32)) = (1 : Int32) then gd (inb x8 16) (bd1 (f_X7_greater x7 (m_hands x8.toNatClampNeg)) (fun r12 => B8 (x6 + x10) r12 (x8 + (1 : Int32)))) else B8 (x6 + x10) x7 (x8 + (1 : Int32)))) (fun J48 => jn (J48 (0 : Int32)) (fun J47 => (if ((p1 >>> (x8 &&& 31)) &&& (1 : Int32)) = (1 : Int32) then (if ((p2 >>> (x8 &&& 31)) &&& (1 : Int32)) = 0 then gd (inb x8 16) (J48 (m_hands x8.toNatClampNeg)) else J47) else J47))))) FU (0 : Int32) (0 : Int32) (0 : Int32)
theorem hd_X7_liftsBy : yX7_liftsBy.cls = RX7 ∧ yX7_liftsBy.cls ≠ "java/lang/invoke/MethodHandle" ∧ yX7_liftsBy.cls ≠ "java/lang/invoke/VarHandle" ∧ (parseMethodDescriptor yX7_liftsBy.desc).map (fun d => d.parameters.length) = some 2 := by decide +kernel
set_option maxHeartbeats 4000000 in
set_option maxRecDepth 100000 in
theorem c_X7_liftsBy (l : Launch) (dC : Nat → ClassId) (dI : Nat → Nat → Nat) (cI cB cZ : ClassId) (aK aV : Nat → Nat) (a_m a_m_text a_m_lifts a_m_price a_m_stood a_m_hands a_m_wanted a_m_s a_m_kept a_m_isKept a_m_due a_m_cost a_m_then a_m_by : Nat) (sz : Nat) (m_thrown : Int32) (m_trace : Int64) (m_typed : Int32) (m_next : Int32) (m_token : Int32) (m_place : Int32) (m_value : Int32) (m_fault : Int32) (m_rooms : Int32) (m_people : Int32) (m_things : Int32) (m_draftRooms : Int32) (m_draftPeople : Int32) (m_draftThings : Int32) (m_dueMany : Int32) (m_hands : Nat → Int32) (p1 : Int32) (p2 : Int32) (r : Int32) (hf : f_X7_liftsBy p1 p2 m_things m_hands = some r) : Met l yX7_liftsBy wsX7_liftsBy ({ frames := 1, cells := 0, slots := 0, locals := 21 } : Jvm.Room) (va_Pc [.ref a_m, .int p1, .int p2] (preW (dC, dI) (tyL cI cB cZ) aK aV sz [(a_m, .inr (7, [.int m_thrown, .long m_trace, .ref a_m_text, .int m_typed, .int m_next, .int m_token, .int m_place, .int m_value, .int m_fault, .ref a_m_lifts, .ref a_m_price, .ref a_m_stood, .ref a_m_hands, .ref a_m_wanted, .int m_rooms, .int m_people, .int m_things, .int m_draftRooms, .int m_draftPeople, .int m_draftThings, .ref a_m_s, .ref a_m_kept, .ref a_m_isKept, .ref a_m_due, .int m_dueMany, .ref a_m_cost, .ref a_m_then, .ref a_m_by])), (a_m_hands, .inl (cI, 16, .inl m_hands))])) (va_Qi (fun v (_ : Unit) => v = r) (postW (dC, dI) (tyL cI cB cZ) (va_A [(a_m, .inr (7, [.int m_thrown, .long m_trace, .ref a_m_text, .int m_typed, .int m_next, .int m_token, .int m_place, .int m_value, .int m_fault, .ref a_m_lifts, .ref a_m_price, .ref a_m_stood, .ref a_m_hands, .ref a_m_wanted, .int m_rooms, .int m_people, .int m_things, .int m_draftRooms, .int m_draftPeople, .int m_draftThings, .ref a_m_s, .ref a_m_kept, .ref a_m_isKept, .ref a_m_due, .int m_dueMany, .ref a_m_cost, .ref a_m_then, .ref a_m_by])), (a_m_hands, .inl (cI, 16, .inl m_hands))] sz) [(a_m, .inr (7, [.int m_thrown, .long m_trace, .ref a_m_text, .int m_typed, .int m_next, .int m_token, .int m_place, .int m_value, .int m_fault, .ref a_m_lifts, .ref a_m_price, .ref a_m_stood, .ref a_m_hands, .ref a_m_wanted, .int m_rooms, .int m_people, .int m_things, .int m_draftRooms, .int m_draftPeople, .int m_draftThings, .ref a_m_s, .ref a_m_kept, .ref a_m_isKept, .ref a_m_due, .int m_dueMany, .ref a_m_cost, .ref a_m_then, .ref a_m_by])), (a_m_hands, .inl (cI, 16, .inl m_hands))]) (va_A [(a_m, .inr (7, [.int m_thrown, .long m_trace, .ref a_m_text, .int m_typed, .int m_next, .int m_token, .int m_place, .int m_value, .int m_fault, .ref a_m_lifts, .ref a_m_price, .ref a_m_stood, .ref a_m_hands, .ref a_m_wanted, .int m_rooms, .int m_people, .int m_things, .int m_draftRooms, .int m_draftPeople, .int m_draftThings, .ref a_m_s, .ref a_m_kept, .ref a_m_isKept, .ref a_m_due, .int m_dueMany, .ref a_m_cost, .ref a_m_then, .ref a_m_by])), (a_m_hands, .inl (cI, 16, .inl m_hands))] sz)) 0 0 (va_A [(a_m, .inr (7, [.int m_thrown, .long m_trace, .ref a_m_text, .int m_typed, .int m_next, .int m_token, .int m_place, .int m_value, .int m_fault, .ref a_m_lifts, .ref a_m_price, .ref a_m_stood, .ref a_m_hands, .ref a_m_wanted, .int m_rooms, .int m_people, .int m_things, .int m_draftRooms, .int m_draftPeople, .int m_draftThings, .ref a_m_s, .ref a_m_kept, .ref a_m_isKept, .ref a_m_due, .int m_dueMany, .ref a_m_cost, .ref a_m_then, .ref a_m_by])), (a_m_hands, .inl (cI, 16, .inl m_hands))] sz) := by
  refine met_i (cc := cX7_liftsBy) (maxL := 6) (own := RX7) (by decide) rfl (Nat.le_of_ble_eq_true rfl) rfl (fun p e s m args below meth c Q A E hret ls H locs hl hw => ?_)
  obtain ⟨⟨hx, hb, hml, hown, hts⟩, hK, hN, hA, hX⟩ := id E
  have hl : lv_has ls 6 [(0, .ref a_m), (1, .int p1), (2, .int p2)] := hl
  have iX7 : ∀ w ∈ wsX70, w ∈ wsX7_liftsBy := by decide +kernel
  have kf133 := hts (.fieldLink RX7 133 "FiveThingsModel" "things" "I") (by decide +kernel)
  have kf22 := hts (.fieldLink RX7 22 "FiveThingsModel" "hands" "[I") (by decide +kernel)
  unfold f_X7_liftsBy at hf
  refine lv_iconst (v := (0 : Int32)) hx hb dX7_liftsBy_0 rfl ?_
  refine lv_istore_n (lv' := [(3, .int (0 : Int32)), (0, .ref a_m), (1, .int p1), (2, .int p2)]) hx hb dX7_liftsBy_1 rfl hl (by decide) rfl (fun ls hl => ?_)
  refine lv_iconst (v := (0 : Int32)) hx hb dX7_liftsBy_2 rfl ?_
  refine lv_istore (lv' := [(4, .int (0 : Int32)), (3, .int (0 : Int32)), (0, .ref a_m), (1, .int p1), (2, .int p2)]) hx hb dX7_liftsBy_3 hl (by decide) rfl (fun ls hl => ?_)
  refine lv_iconst (v := (0 : Int32)) hx hb dX7_liftsBy_5 rfl ?_
  refine lv_istore (lv' := [(5, .int (0 : Int32)), (4, .int (0 : Int32)), (3, .int (0 : Int32)), (0, .ref a_m), (1, .int p1), (2, .int p2)]) hx hb dX7_liftsBy_6 hl (by decide) rfl (fun ls hl => ?_)
  refine (loop3_sound (r := r) (P := fun (x6 : Int32) (x7 : Int32) (x8 : Int32) => ∀ (ls : Array Slot) (H : Heap) (locs : List Loc), lv_has ls 6 [(5, .int x8), (4, .int x7), (3, .int x6), (0, .ref a_m), (1, .int p1), (2, .int p2)] → Wd A s.heap (dC, dI) [(a_m, .inr (7, [.int m_thrown, .long m_trace, .ref a_m_text, .int m_typed, .int m_next, .int m_token, .int m_place, .int m_value, .int m_fault, .ref a_m_lifts, .ref a_m_price, .ref a_m_stood, .ref a_m_hands, .ref a_m_wanted, .int m_rooms, .int m_people, .int m_things, .int m_draftRooms, .int m_draftPeople, .int m_draftThings, .ref a_m_s, .ref a_m_kept, .ref a_m_isKept, .ref a_m_due, .int m_dueMany, .ref a_m_cost, .ref a_m_then, .ref a_m_by])), (a_m_hands, .inl (cI, 16, .inl m_hands))] H locs → W p l e ({ frames := 1, cells := 0, slots := 0, locals := 21 } : Jvm.Room) s m args below meth c H locs 0 0 Q (F0 m 8 ls [])) (fun B8 x6 x7 x8 ih8 hf => ?_) _ (0 : Int32) (0 : Int32) (0 : Int32) hf) ls H locs (lv_sub hl [0, 1, 2, 3, 4, 5] rfl) hw
  intro ls H locs hl hw
  refine lv_iload hx hb dX7_liftsBy_8 (lv_at hl 0 rfl) ?_
  refine lv_aload_n hx hb dX7_liftsBy_10 rfl (lv_at hl 3 rfl) ?_
  refine r_get E hw iX7 0 16 rfl rfl (by decide) kf133 rfl rfl dX7_liftsBy_11 ?_
  refine lv_icmp_ge (tgt := 85) hx hb dX7_liftsBy_14 (by decide) (fun kc => ?_) (fun kc => ?_)
  · have hf := if_t hf kc
    refine lv_iload_n hx hb dX7_liftsBy_85 rfl (lv_at hl 5 rfl) ?_
    refine lv_if_ne (tgt := 93) hx hb dX7_liftsBy_86 (by decide) (fun kc => ?_) (fun kc => ?_)
    · have hf := if_f hf kc
      refine lv_iload_n hx hb dX7_liftsBy_93 rfl (lv_at hl 2 rfl) ?_
      refine lv_iconst (v := (1 : Int32)) hx hb dX7_liftsBy_94 rfl ?_
      refine lv_iadd hx hb dX7_liftsBy_95 ?_
      refine lv_iload hx hb dX7_liftsBy_96 (lv_at hl 1 rfl) ?_
      refine lv_iadd hx hb dX7_liftsBy_98 ?_
      obtain rfl := sm1 hf
      exact hret H locs ls 99 hw dX7_liftsBy_99
    · have hf := if_t hf kc
      refine lv_iload_n hx hb dX7_liftsBy_89 rfl (lv_at hl 2 rfl) ?_
      refine lv_goto (tgt := 99) hx hb dX7_liftsBy_90 (by decide) ?_
      obtain rfl := sm1 hf
      exact hret H locs ls 99 hw dX7_liftsBy_99
  · have hf := if_f hf kc
    refine lv_iload_n hx hb dX7_liftsBy_17 rfl (lv_at hl 2 rfl) ?_
    refine lv_iload_n hx hb dX7_liftsBy_18 rfl (lv_at hl 4 rfl) ?_
    refine lv_iload hx hb dX7_liftsBy_19 (lv_at hl 0 rfl) ?_
    refine lv_ishr hx hb dX7_liftsBy_21 ?_
    refine lv_iconst (v := (1 : Int32)) hx hb dX7_liftsBy_22 rfl ?_
    refine lv_iand hx hb dX7_liftsBy_23 ?_
    refine lv_iconst (v := (1 : Int32)) hx hb dX7_liftsBy_24 rfl ?_
    refine jn_sound (P := fun J => ∀ (x10 : Int32) (ls : Array Slot) (H : Heap) (locs : List Loc), J x10 = some r → lv_has ls 6 [(0, .ref a_m), (1, .int p1), (2, .int p2), (4, .int x7), (5, .int x8)] → Wd A s.heap (dC, dI) [(a_m, .inr (7, [.int m_thrown, .long m_trace, .ref a_m_text, .int m_typed, .int m_next, .int m_token, .int m_place, .int m_value, .int m_fault, .ref a_m_lifts, .ref a_m_price, .ref a_m_stood, .ref a_m_hands, .ref a_m_wanted, .int m_rooms, .int m_people, .int m_things, .int m_draftRooms, .int m_draftPeople, .int m_draftThings, .ref a_m_s, .ref a_m_kept, .ref a_m_isKept, .ref a_m_due, .int m_dueMany, .ref a_m_cost, .ref a_m_then, .ref a_m_by])), (a_m_hands, .inl (cI, 16, .inl m_hands))] H locs → W p l e ({ frames := 1, cells := 0, slots := 0, locals := 21 } : Jvm.Room) s m args below meth c H locs 0 0 Q (F0 m 48 ls [.int x10, .int x6])) hf ?_ ?_
    · intro x10 ls H locs hf hl hw
      refine lv_iadd hx hb dX7_liftsBy_48 ?_
      refine lv_istore_n (lv' := [(3, .int (x6 + x10)), (0, .ref a_m), (1, .int p1), (2, .int p2), (4, .int x7), (5, .int x8)]) hx hb dX7_liftsBy_49 rfl hl (by decide) rfl (fun ls hl => ?_)
      refine lv_iload_n hx hb dX7_liftsBy_50 rfl (lv_at hl 3 rfl) ?_
      refine lv_iload hx hb dX7_liftsBy_51 (lv_at hl 5 rfl) ?_
      refine lv_ishr hx hb dX7_liftsBy_53 ?_
      refine lv_iconst (v := (1 : Int32)) hx hb dX7_liftsBy_54 rfl ?_
      refine lv_iand hx hb dX7_liftsBy_55 ?_
      refine lv_iconst (v := (1 : Int32)) hx hb dX7_liftsBy_56 rfl ?_
      refine lv_icmp_ne (tgt := 75) hx hb dX7_liftsBy_57 (by decide) (fun kc => ?_) (fun kc => ?_)
      · have hf := if_f hf kc
        refine lv_iload hx hb dX7_liftsBy_75 (lv_at hl 4 rfl) ?_
        refine lv_istore (lv' := [(4, .int x7), (3, .int (x6 + x10)), (0, .ref a_m), (1, .int p1), (2, .int p2), (5, .int x8)]) hx hb dX7_liftsBy_77 hl (by decide) rfl (fun ls hl => ?_)
        refine lv_iinc (v := (x8 + (1 : Int32))) (lv' := [(5, .int (x8 + (1 : Int32))), (4, .int x7), (3, .int (x6 + x10)), (0, .ref a_m), (1, .int p1), (2, .int p2)]) hx hb dX7_liftsBy_79 hl (k := 5) rfl rfl (by decide) rfl (fun ls hl => ?_)
        refine lv_goto (tgt := 8) hx hb dX7_liftsBy_82 (by decide) ?_
        exact ih8 (x6 + x10) x7 (x8 + (1 : Int32)) hf ls H locs (lv_sub hl [0, 1, 2, 3, 4, 5] rfl) hw
      · have hf := if_t hf kc
        refine lv_iload hx hb dX7_liftsBy_60 (lv_at hl 4 rfl) ?_
        refine lv_aload_n hx hb dX7_liftsBy_62 rfl (lv_at hl 1 rfl) ?_
        refine r_get E hw iX7 0 12 rfl rfl (by decide) kf22 rfl rfl dX7_liftsBy_63 ?_
        refine lv_iload hx hb dX7_liftsBy_66 (lv_at hl 5 rfl) ?_
        obtain ⟨g11, hf⟩ := gd_some hf
        refine r_iald E hw 1 rfl g11 dX7_liftsBy_68 ?_
        obtain ⟨r12, hu13, hf⟩ := bd1_some hf
        refine cl_i (wr := [(a_m, .inr (7, [.int m_thrown, .long m_trace, .ref a_m_text, .int m_typed, .int m_next, .int m_token, .int m_place, .int m_value, .int m_fault, .ref a_m_lifts, .ref a_m_price, .ref a_m_stood, .ref a_m_hands, .ref a_m_wanted, .int m_rooms, .int m_people, .int m_things, .int m_draftRooms, .int m_draftPeople, .int m_draftThings, .ref a_m_s, .ref a_m_kept, .ref a_m_isKept, .ref a_m_due, .int m_dueMany, .ref a_m_cost, .ref a_m_then, .ref a_m_by])), (a_m_hands, .inl (cI, 16, .inl m_hands))]) (w2 := [(a_m, .inr (7, [.int m_thrown, .long m_trace, .ref a_m_text, .int m_typed, .int m_next, .int m_token, .int m_place, .int m_value, .int m_fault, .ref a_m_lifts, .ref a_m_price, .ref a_m_stood, .ref a_m_hands, .ref a_m_wanted, .int m_rooms, .int m_people, .int m_things, .int m_draftRooms, .int m_draftPeople, .int m_draftThings, .ref a_m_s, .ref a_m_kept, .ref a_m_isKept, .ref a_m_due, .int m_dueMany, .ref a_m_cost, .ref a_m_then, .ref a_m_by])), (a_m_hands, .inl (cI, 16, .inl m_hands))]) E hw [] [0, 1] [0, 1] (va_runS (As := [.int x7, .int (m_hands x8.toNatClampNeg)]) (rest := []) E.1 (c_X7_greater l dC dI cI cB cZ aK aV H.size x7 (m_hands x8.toNatClampNeg) r12 hu13) (va_cwS 2 hts gX7_liftsBy_X7_greater rfl rfl rfl hd_X7_greater ⟨Nat.le_of_ble_eq_true rfl, Nat.le_of_ble_eq_true rfl⟩) (pre_S E hw [] rfl rfl) rfl rfl hl.1 rfl (lv_room (Nat.le_of_ble_eq_true rfl)) dX7_liftsBy_69 ⟨Nat.zero_le _, Nat.zero_le _⟩) rfl rfl rfl (by decide) rfl rfl (fun H locs hw => ?_)
        refine lv_goto (tgt := 77) hx hb dX7_liftsBy_72 (by decide) ?_
        refine lv_istore (lv' := [(4, .int r12), (3, .int (x6 + x10)), (0, .ref a_m), (1, .int p1), (2, .int p2), (5, .int x8)]) hx hb dX7_liftsBy_77 hl (by decide) rfl (fun ls hl => ?_)
        refine lv_iinc (v := (x8 + (1 : Int32))) (lv' := [(5, .int (x8 + (1 : Int32))), (4, .int r12), (3, .int (x6 + x10)), (0, .ref a_m), (1, .int p1), (2, .int p2)]) hx hb dX7_liftsBy_79 hl (k := 5) rfl rfl (by decide) rfl (fun ls hl => ?_)
        refine lv_goto (tgt := 8) hx hb dX7_liftsBy_82 (by decide) ?_
        exact ih8 (x6 + x10) r12 (x8 + (1 : Int32)) hf ls H locs (lv_sub hl [0, 1, 2, 3, 4, 5] rfl) hw
    · intro J48 hJ48 hf
      refine jn_sound (P := fun J => ∀ (ls : Array Slot) (H : Heap) (locs : List Loc), J = some r → lv_has ls 6 [(0, .ref a_m), (1, .int p1), (2, .int p2), (4, .int x7), (5, .int x8)] → Wd A s.heap (dC, dI) [(a_m, .inr (7, [.int m_thrown, .long m_trace, .ref a_m_text, .int m_typed, .int m_next, .int m_token, .int m_place, .int m_value, .int m_fault, .ref a_m_lifts, .ref a_m_price, .ref a_m_stood, .ref a_m_hands, .ref a_m_wanted, .int m_rooms, .int m_people, .int m_things, .int m_draftRooms, .int m_draftPeople, .int m_draftThings, .ref a_m_s, .ref a_m_kept, .ref a_m_isKept, .ref a_m_due, .int m_dueMany, .ref a_m_cost, .ref a_m_then, .ref a_m_by])), (a_m_hands, .inl (cI, 16, .inl m_hands))] H locs → W p l e ({ frames := 1, cells := 0, slots := 0, locals := 21 } : Jvm.Room) s m args below meth c H locs 0 0 Q (F0 m 47 ls [.int x6])) hf ?_ ?_
      · intro ls H locs hf hl hw
        refine lv_iconst (v := (0 : Int32)) hx hb dX7_liftsBy_47 rfl ?_
        exact hJ48 (0 : Int32) ls H locs hf hl hw
      · intro J47 hJ47 hf
        refine lv_icmp_ne (tgt := 47) hx hb dX7_liftsBy_25 (by decide) (fun kc => ?_) (fun kc => ?_)
        · have hf := if_f hf kc
          exact hJ47 ls H locs hf (lv_sub hl [3, 4, 5, 1, 0] rfl) hw
        · have hf := if_t hf kc
          refine lv_iload_n hx hb dX7_liftsBy_28 rfl (lv_at hl 5 rfl) ?_
          refine lv_iload hx hb dX7_liftsBy_29 (lv_at hl 0 rfl) ?_
          refine lv_ishr hx hb dX7_liftsBy_31 ?_
          refine lv_iconst (v := (1 : Int32)) hx hb dX7_liftsBy_32 rfl ?_
          refine lv_iand hx hb dX7_liftsBy_33 ?_
          refine lv_if_ne (tgt := 47) hx hb dX7_liftsBy_34 (by decide) (fun kc => ?_) (fun kc => ?_)
          · have hf := if_f hf kc
            exact hJ47 ls H locs hf (lv_sub hl [3, 4, 5, 1, 0] rfl) hw
          · have hf := if_t hf kc
            refine lv_aload_n hx hb dX7_liftsBy_37 rfl (lv_at hl 3 rfl) ?_
            refine r_get E hw iX7 0 12 rfl rfl (by decide) kf22 rfl rfl dX7_liftsBy_38 ?_
            refine lv_iload hx hb dX7_liftsBy_41 (lv_at hl 0 rfl) ?_
            obtain ⟨g9, hf⟩ := gd_some hf
            refine r_iald E hw 1 rfl g9 dX7_liftsBy_43 ?_
            refine lv_goto (tgt := 48) hx hb dX7_liftsBy_44 (by decide) ?_
            exact hJ48 (m_hands x8.toNatClampNeg) ls H locs hf (lv_sub hl [3, 4, 5, 1, 0] rfl) hw
def f_X7_fewest (p1 : Int32) (m_rooms : Int32) (m_things : Int32) (m_hands : Nat → Int32) (m_wanted : Nat → Int32) (m_s : Nat → Int32) : Option (Int32 × Int32) :=
  bd1 (f_X7_in p1 (0 : Int32) (1 : Int32)) (fun r1 => (if r1 = 0 then some ((-1 : Int32), (0 : Int32)) else bd1 (f_X7_barred m_things m_wanted m_s) (fun r3 => (if r3 = 0 then loop2 (fun B33 (x99 : Int32) (x100 : Int32) => (if m_things ≤ x100 then loop3 (fun B88 (x144 : Int32) (x145 : Int32) (x146 : Int32) => (if m_rooms ≤ x146 then (if p1 = 0 then some (x144, (0 : Int32)) else some (x145, (0 : Int32))) else loop3 (fun B100 (x167 : Int32) (x168 : Int32) (x169 : Int32) => (if m_rooms ≤ x169 then B88 x167 x168 (x146 + (1 : Int32)) else bd1 (f_X7_singles x146 x169 m_things m_wanted m_s) (fun r170 => bd1 (f_X7_liftsBy r170 (0 : Int32) m_things m_hands) (fun r172 => loop2 (fun B135 (x181 : Int32) (x182 : Int32) => (if (256 : Int32) ≤ x182 then (if r172 ≤ x181 then B100 (x167 + x181) (x168 + (0 : Int32)) (x169 + (1 : Int32)) else B100 (x167 + x181) (x168 + (1 : Int32)) (x169 + (1 : Int32))) else jn (fun (x185 : Int32) => jn (B135 x181 (x182 + (1 : Int32))) (fun J198 => (if x185 = 0 then J198 else bd1 (f_X7_liftsBy r170 x182 m_things m_hands) (fun r186 => (if x181 ≤ r186 then J198 else bd1 (f_X7_liftsBy r170 x182 m_things m_hands) (fun r188 => B135 r188 (x182 + (1 : Int32)))))))) (fun J167 => jn (J167 (0 : Int32)) (fun J166 => (if (x182 &&& (r170 ^^^ (-1 : Int32))) = 0 then bd1 (f_X7_ones x182) (fun r183 => (if r183 ≤ (1 : Int32) then J166 else J167 (1 : Int32))) else J166))))) FU r172 (1 : Int32))))) FU x144 x145 (0 : Int32))) FU x99 (0 : Int32) (0 : Int32) else gd (inb ((8 : Int32) + x100) 21) (jn (B33 (x99 + (0 : Int32)) (x100 + (1 : Int32))) (fun J76 => (if (m_s ((8 : Int32) + x100).toNatClampNeg) = x100 then bd1 (f_X7_isDue x100 m_things m_wanted m_s) (fun r191 => (if r191 = 0 then J76 else bd1 (f_X7_handsOf x100 m_things m_hands m_s) (fun r193 => B33 (x99 + r193) (x100 + (1 : Int32))))) else J76))))) FU (0 : Int32) (0 : Int32) else some ((-9 : Int32), (0 : Int32))))))
theorem hd_X7_fewest : yX7_fewest.cls = RX7 ∧ yX7_fewest.cls ≠ "java/lang/invoke/MethodHandle" ∧ yX7_fewest.cls ≠ "java/lang/invoke/VarHandle" ∧ (parseMethodDescriptor yX7_fewest.desc).map (fun d => d.parameters.length) = some 1 := by decide +kernel
set_option maxHeartbeats 4000000 in
set_option maxRecDepth 100000 in
theorem c_X7_fewest (l : Launch) (dC : Nat → ClassId) (dI : Nat → Nat → Nat) (cI cB cZ : ClassId) (aK aV : Nat → Nat) (a_m a_m_text a_m_lifts a_m_price a_m_stood a_m_hands a_m_wanted a_m_s a_m_kept a_m_isKept a_m_due a_m_cost a_m_then a_m_by : Nat) (sz : Nat) (m_thrown : Int32) (m_trace : Int64) (m_typed : Int32) (m_next : Int32) (m_token : Int32) (m_place : Int32) (m_value : Int32) (m_fault : Int32) (m_rooms : Int32) (m_people : Int32) (m_things : Int32) (m_draftRooms : Int32) (m_draftPeople : Int32) (m_draftThings : Int32) (m_dueMany : Int32) (m_hands : Nat → Int32) (m_wanted : Nat → Int32) (m_s : Nat → Int32) (p1 : Int32) (r : Int32) (q0 : Int32) (hf : f_X7_fewest p1 m_rooms m_things m_hands m_wanted m_s = some (r, q0)) : Met l yX7_fewest wsX7_fewest ({ frames := 3, cells := 0, slots := 0, locals := 67 } : Jvm.Room) (va_Pc [.ref a_m, .int p1] (preW (dC, dI) (tyL cI cB cZ) aK aV sz [(a_m, .inr (7, [.int m_thrown, .long m_trace, .ref a_m_text, .int m_typed, .int m_next, .int m_token, .int m_place, .int m_value, .int m_fault, .ref a_m_lifts, .ref a_m_price, .ref a_m_stood, .ref a_m_hands, .ref a_m_wanted, .int m_rooms, .int m_people, .int m_things, .int m_draftRooms, .int m_draftPeople, .int m_draftThings, .ref a_m_s, .ref a_m_kept, .ref a_m_isKept, .ref a_m_due, .int m_dueMany, .ref a_m_cost, .ref a_m_then, .ref a_m_by])), (a_m_hands, .inl (cI, 16, .inl m_hands)), (a_m_wanted, .inl (cI, 16, .inl m_wanted)), (a_m_s, .inl (cI, 21, .inl m_s))])) (va_Qi (fun v (_ : Unit) => v = r) (postW (dC, dI) (tyL cI cB cZ) (va_A [(a_m, .inr (7, [.int m_thrown, .long m_trace, .ref a_m_text, .int m_typed, .int m_next, .int m_token, .int m_place, .int m_value, .int m_fault, .ref a_m_lifts, .ref a_m_price, .ref a_m_stood, .ref a_m_hands, .ref a_m_wanted, .int m_rooms, .int m_people, .int m_things, .int m_draftRooms, .int m_draftPeople, .int m_draftThings, .ref a_m_s, .ref a_m_kept, .ref a_m_isKept, .ref a_m_due, .int m_dueMany, .ref a_m_cost, .ref a_m_then, .ref a_m_by])), (a_m_hands, .inl (cI, 16, .inl m_hands)), (a_m_wanted, .inl (cI, 16, .inl m_wanted)), (a_m_s, .inl (cI, 21, .inl m_s))] sz) [(a_m, .inr (7, [.int q0, .long m_trace, .ref a_m_text, .int m_typed, .int m_next, .int m_token, .int m_place, .int m_value, .int m_fault, .ref a_m_lifts, .ref a_m_price, .ref a_m_stood, .ref a_m_hands, .ref a_m_wanted, .int m_rooms, .int m_people, .int m_things, .int m_draftRooms, .int m_draftPeople, .int m_draftThings, .ref a_m_s, .ref a_m_kept, .ref a_m_isKept, .ref a_m_due, .int m_dueMany, .ref a_m_cost, .ref a_m_then, .ref a_m_by])), (a_m_hands, .inl (cI, 16, .inl m_hands)), (a_m_wanted, .inl (cI, 16, .inl m_wanted)), (a_m_s, .inl (cI, 21, .inl m_s))]) (va_A [(a_m, .inr (7, [.int m_thrown, .long m_trace, .ref a_m_text, .int m_typed, .int m_next, .int m_token, .int m_place, .int m_value, .int m_fault, .ref a_m_lifts, .ref a_m_price, .ref a_m_stood, .ref a_m_hands, .ref a_m_wanted, .int m_rooms, .int m_people, .int m_things, .int m_draftRooms, .int m_draftPeople, .int m_draftThings, .ref a_m_s, .ref a_m_kept, .ref a_m_isKept, .ref a_m_due, .int m_dueMany, .ref a_m_cost, .ref a_m_then, .ref a_m_by])), (a_m_hands, .inl (cI, 16, .inl m_hands)), (a_m_wanted, .inl (cI, 16, .inl m_wanted)), (a_m_s, .inl (cI, 21, .inl m_s))] sz)) 0 0 (va_A [(a_m, .inr (7, [.int m_thrown, .long m_trace, .ref a_m_text, .int m_typed, .int m_next, .int m_token, .int m_place, .int m_value, .int m_fault, .ref a_m_lifts, .ref a_m_price, .ref a_m_stood, .ref a_m_hands, .ref a_m_wanted, .int m_rooms, .int m_people, .int m_things, .int m_draftRooms, .int m_draftPeople, .int m_draftThings, .ref a_m_s, .ref a_m_kept, .ref a_m_isKept, .ref a_m_due, .int m_dueMany, .ref a_m_cost, .ref a_m_then, .ref a_m_by])), (a_m_hands, .inl (cI, 16, .inl m_hands)), (a_m_wanted, .inl (cI, 16, .inl m_wanted)), (a_m_s, .inl (cI, 21, .inl m_s))] sz) := by
  refine met_i (cc := cX7_fewest) (maxL := 11) (own := RX7) (by decide) rfl (Nat.le_of_ble_eq_true rfl) rfl (fun p e s m args below meth c Q A E hret ls H locs hl hw => ?_)
  obtain ⟨⟨hx, hb, hml, hown, hts⟩, hK, hN, hA, hX⟩ := id E
  have hl : lv_has ls 11 [(0, .ref a_m), (1, .int p1)] := hl
  have iX7 : ∀ w ∈ wsX70, w ∈ wsX7_fewest := by decide +kernel
  have kf57 := hts (.fieldLink RX7 57 "FiveThingsModel" "thrown" "I") (by decide +kernel)
  have kf133 := hts (.fieldLink RX7 133 "FiveThingsModel" "things" "I") (by decide +kernel)
  have kf50 := hts (.fieldLink RX7 50 "FiveThingsModel" "rooms" "I") (by decide +kernel)
  have kf28 := hts (.fieldLink RX7 28 "FiveThingsModel" "s" "[I") (by decide +kernel)
  unfold f_X7_fewest at hf
  refine lv_aload_n hx hb dX7_fewest_0 rfl (lv_at hl 0 rfl) ?_
  refine lv_iconst (v := (0 : Int32)) hx hb dX7_fewest_1 rfl ?_
  refine r_put E hw iX7 tyX7_ok nmX7 0 0 rfl rfl (by decide) kf57 rfl rfl rfl rfl (Nat.le_of_ble_eq_true rfl) [(a_m, .inr (7, [.int (0 : Int32), .long m_trace, .ref a_m_text, .int m_typed, .int m_next, .int m_token, .int m_place, .int m_value, .int m_fault, .ref a_m_lifts, .ref a_m_price, .ref a_m_stood, .ref a_m_hands, .ref a_m_wanted, .int m_rooms, .int m_people, .int m_things, .int m_draftRooms, .int m_draftPeople, .int m_draftThings, .ref a_m_s, .ref a_m_kept, .ref a_m_isKept, .ref a_m_due, .int m_dueMany, .ref a_m_cost, .ref a_m_then, .ref a_m_by])), (a_m_hands, .inl (cI, 16, .inl m_hands)), (a_m_wanted, .inl (cI, 16, .inl m_wanted)), (a_m_s, .inl (cI, 21, .inl m_s))] rfl dX7_fewest_2 (fun H locs hw => ?_)
  refine lv_iload_n hx hb dX7_fewest_5 rfl (lv_at hl 1 rfl) ?_
  refine lv_iconst (v := (0 : Int32)) hx hb dX7_fewest_6 rfl ?_
  refine lv_iconst (v := (1 : Int32)) hx hb dX7_fewest_7 rfl ?_
  obtain ⟨r1, hu2, hf⟩ := bd1_some hf
  refine cl_i (wr := [(a_m, .inr (7, [.int (0 : Int32), .long m_trace, .ref a_m_text, .int m_typed, .int m_next, .int m_token, .int m_place, .int m_value, .int m_fault, .ref a_m_lifts, .ref a_m_price, .ref a_m_stood, .ref a_m_hands, .ref a_m_wanted, .int m_rooms, .int m_people, .int m_things, .int m_draftRooms, .int m_draftPeople, .int m_draftThings, .ref a_m_s, .ref a_m_kept, .ref a_m_isKept, .ref a_m_due, .int m_dueMany, .ref a_m_cost, .ref a_m_then, .ref a_m_by])), (a_m_hands, .inl (cI, 16, .inl m_hands)), (a_m_wanted, .inl (cI, 16, .inl m_wanted)), (a_m_s, .inl (cI, 21, .inl m_s))]) (w2 := [(a_m, .inr (7, [.int (0 : Int32), .long m_trace, .ref a_m_text, .int m_typed, .int m_next, .int m_token, .int m_place, .int m_value, .int m_fault, .ref a_m_lifts, .ref a_m_price, .ref a_m_stood, .ref a_m_hands, .ref a_m_wanted, .int m_rooms, .int m_people, .int m_things, .int m_draftRooms, .int m_draftPeople, .int m_draftThings, .ref a_m_s, .ref a_m_kept, .ref a_m_isKept, .ref a_m_due, .int m_dueMany, .ref a_m_cost, .ref a_m_then, .ref a_m_by])), (a_m_hands, .inl (cI, 16, .inl m_hands)), (a_m_wanted, .inl (cI, 16, .inl m_wanted)), (a_m_s, .inl (cI, 21, .inl m_s))]) E hw [] [0, 1, 2, 3] [0, 1, 2, 3] (va_runS (As := [.int p1, .int (0 : Int32), .int (1 : Int32)]) (rest := []) E.1 (c_X7_in l dC dI cI cB cZ aK aV H.size p1 (0 : Int32) (1 : Int32) r1 hu2) (va_cwS 3 hts gX7_fewest_X7_in rfl rfl rfl hd_X7_in ⟨Nat.le_of_ble_eq_true rfl, Nat.le_of_ble_eq_true rfl⟩) (pre_S E hw [] rfl rfl) rfl rfl hl.1 rfl (lv_room (Nat.le_of_ble_eq_true rfl)) dX7_fewest_8 ⟨Nat.zero_le _, Nat.zero_le _⟩) rfl rfl rfl (by decide) rfl rfl (fun H locs hw => ?_)
  refine lv_if_ne (tgt := 16) hx hb dX7_fewest_11 (by decide) (fun kc => ?_) (fun kc => ?_)
  · have hf := if_f hf kc
    refine lv_aload_n hx hb dX7_fewest_16 rfl (lv_at hl 0 rfl) ?_
    obtain ⟨r3, hu4, hf⟩ := bd1_some hf
    refine cl_i (wr := [(a_m_hands, .inl (cI, 16, .inl m_hands))]) (w2 := [(a_m, .inr (7, [.int (0 : Int32), .long m_trace, .ref a_m_text, .int m_typed, .int m_next, .int m_token, .int m_place, .int m_value, .int m_fault, .ref a_m_lifts, .ref a_m_price, .ref a_m_stood, .ref a_m_hands, .ref a_m_wanted, .int m_rooms, .int m_people, .int m_things, .int m_draftRooms, .int m_draftPeople, .int m_draftThings, .ref a_m_s, .ref a_m_kept, .ref a_m_isKept, .ref a_m_due, .int m_dueMany, .ref a_m_cost, .ref a_m_then, .ref a_m_by])), (a_m_hands, .inl (cI, 16, .inl m_hands)), (a_m_wanted, .inl (cI, 16, .inl m_wanted)), (a_m_s, .inl (cI, 21, .inl m_s))]) E hw [0, 2, 3] [1] [1, 0, 2, 3] (va_runV (As := []) (rest := []) E.1 (c_X7_barred l dC dI cI cB cZ aK aV a_m a_m_text a_m_lifts a_m_price a_m_stood a_m_hands a_m_wanted a_m_s a_m_kept a_m_isKept a_m_due a_m_cost a_m_then a_m_by H.size (0 : Int32) m_trace m_typed m_next m_token m_place m_value m_fault m_rooms m_people m_things m_draftRooms m_draftPeople m_draftThings m_dueMany m_wanted m_s r3 hu4) (cwV 0 hts gX7_fewest_X7_barred rfl rfl rfl hd_X7_barred ⟨Nat.le_of_ble_eq_true rfl, Nat.le_of_ble_eq_true rfl⟩) (pre_V E hw [0, 2, 3] rfl rfl rfl rfl) rfl rfl hl.1 rfl (lv_room (Nat.le_of_ble_eq_true rfl)) dX7_fewest_17 ⟨Nat.zero_le _, Nat.zero_le _⟩) rfl rfl rfl (by decide) rfl rfl (fun H locs hw => ?_)
    refine lv_if_eq (tgt := 26) hx hb dX7_fewest_20 (by decide) (fun kc => ?_) (fun kc => ?_)
    · have hf := if_t hf kc
      refine lv_iconst (v := (0 : Int32)) hx hb dX7_fewest_26 rfl ?_
      refine lv_istore_n (lv' := [(2, .int (0 : Int32)), (0, .ref a_m), (1, .int p1)]) hx hb dX7_fewest_27 rfl hl (by decide) rfl (fun ls hl => ?_)
      refine lv_iconst (v := (0 : Int32)) hx hb dX7_fewest_28 rfl ?_
      refine lv_istore_n (lv' := [(3, .int (0 : Int32)), (2, .int (0 : Int32)), (0, .ref a_m), (1, .int p1)]) hx hb dX7_fewest_29 rfl hl (by decide) rfl (fun ls hl => ?_)
      refine lv_iconst (v := (0 : Int32)) hx hb dX7_fewest_30 rfl ?_
      refine lv_istore (lv' := [(4, .int (0 : Int32)), (3, .int (0 : Int32)), (2, .int (0 : Int32)), (0, .ref a_m), (1, .int p1)]) hx hb dX7_fewest_31 hl (by decide) rfl (fun ls hl => ?_)
      refine (loop2_sound (r := (r, q0)) (P := fun (x99 : Int32) (x100 : Int32) => ∀ (ls : Array Slot) (H : Heap) (locs : List Loc), lv_has ls 11 [(4, .int x100), (3, .int (0 : Int32)), (2, .int x99), (0, .ref a_m), (1, .int p1)] → Wd A s.heap (dC, dI) [(a_m, .inr (7, [.int (0 : Int32), .long m_trace, .ref a_m_text, .int m_typed, .int m_next, .int m_token, .int m_place, .int m_value, .int m_fault, .ref a_m_lifts, .ref a_m_price, .ref a_m_stood, .ref a_m_hands, .ref a_m_wanted, .int m_rooms, .int m_people, .int m_things, .int m_draftRooms, .int m_draftPeople, .int m_draftThings, .ref a_m_s, .ref a_m_kept, .ref a_m_isKept, .ref a_m_due, .int m_dueMany, .ref a_m_cost, .ref a_m_then, .ref a_m_by])), (a_m_hands, .inl (cI, 16, .inl m_hands)), (a_m_wanted, .inl (cI, 16, .inl m_wanted)), (a_m_s, .inl (cI, 21, .inl m_s))] H locs → W p l e ({ frames := 3, cells := 0, slots := 0, locals := 67 } : Jvm.Room) s m args below meth c H locs 0 0 Q (F0 m 33 ls [])) (fun B33 x99 x100 ih33 hf => ?_) _ (0 : Int32) (0 : Int32) hf) ls H locs (lv_sub hl [0, 1, 2, 3, 4] rfl) hw
      intro ls H locs hl hw
      refine lv_iload hx hb dX7_fewest_33 (lv_at hl 0 rfl) ?_
      refine lv_aload_n hx hb dX7_fewest_35 rfl (lv_at hl 3 rfl) ?_
      refine r_get E hw iX7 0 16 rfl rfl (by decide) kf133 rfl rfl dX7_fewest_36 ?_
      refine lv_icmp_ge (tgt := 85) hx hb dX7_fewest_39 (by decide) (fun kc => ?_) (fun kc => ?_)
      · have hf := if_t hf kc
        refine lv_iconst (v := (0 : Int32)) hx hb dX7_fewest_85 rfl ?_
        refine lv_istore (lv' := [(4, .int (0 : Int32)), (3, .int (0 : Int32)), (2, .int x99), (0, .ref a_m), (1, .int p1)]) hx hb dX7_fewest_86 hl (by decide) rfl (fun ls hl => ?_)
        refine (loop3_sound (r := (r, q0)) (P := fun (x144 : Int32) (x145 : Int32) (x146 : Int32) => ∀ (ls : Array Slot) (H : Heap) (locs : List Loc), lv_has ls 11 [(4, .int x146), (3, .int x145), (2, .int x144), (0, .ref a_m), (1, .int p1)] → Wd A s.heap (dC, dI) [(a_m, .inr (7, [.int (0 : Int32), .long m_trace, .ref a_m_text, .int m_typed, .int m_next, .int m_token, .int m_place, .int m_value, .int m_fault, .ref a_m_lifts, .ref a_m_price, .ref a_m_stood, .ref a_m_hands, .ref a_m_wanted, .int m_rooms, .int m_people, .int m_things, .int m_draftRooms, .int m_draftPeople, .int m_draftThings, .ref a_m_s, .ref a_m_kept, .ref a_m_isKept, .ref a_m_due, .int m_dueMany, .ref a_m_cost, .ref a_m_then, .ref a_m_by])), (a_m_hands, .inl (cI, 16, .inl m_hands)), (a_m_wanted, .inl (cI, 16, .inl m_wanted)), (a_m_s, .inl (cI, 21, .inl m_s))] H locs → W p l e ({ frames := 3, cells := 0, slots := 0, locals := 67 } : Jvm.Room) s m args below meth c H locs 0 0 Q (F0 m 88 ls [])) (fun B88 x144 x145 x146 ih88 hf => ?_) _ x99 (0 : Int32) (0 : Int32) hf) ls H locs (lv_sub hl [0, 1, 2, 3, 4] rfl) hw
        intro ls H locs hl hw
        refine lv_iload hx hb dX7_fewest_88 (lv_at hl 0 rfl) ?_
        refine lv_aload_n hx hb dX7_fewest_90 rfl (lv_at hl 3 rfl) ?_
        refine r_get E hw iX7 0 14 rfl rfl (by decide) kf50 rfl rfl dX7_fewest_91 ?_
        refine lv_icmp_ge (tgt := 240) hx hb dX7_fewest_94 (by decide) (fun kc => ?_) (fun kc => ?_)
        · have hf := if_t hf kc
          refine lv_iload_n hx hb dX7_fewest_240 rfl (lv_at hl 4 rfl) ?_
          refine lv_if_ne (tgt := 248) hx hb dX7_fewest_241 (by decide) (fun kc => ?_) (fun kc => ?_)
          · have hf := if_f hf kc
            refine lv_iload_n hx hb dX7_fewest_248 rfl (lv_at hl 1 rfl) ?_
            obtain ⟨rfl, rfl⟩ := sm2 hf
            exact hret H locs ls 249 hw dX7_fewest_249
          · have hf := if_t hf kc
            refine lv_iload_n hx hb dX7_fewest_244 rfl (lv_at hl 2 rfl) ?_
            refine lv_goto (tgt := 249) hx hb dX7_fewest_245 (by decide) ?_
            obtain ⟨rfl, rfl⟩ := sm2 hf
            exact hret H locs ls 249 hw dX7_fewest_249
        · have hf := if_f hf kc
          refine lv_iconst (v := (0 : Int32)) hx hb dX7_fewest_97 rfl ?_
          refine lv_istore (lv' := [(5, .int (0 : Int32)), (4, .int x146), (3, .int x145), (2, .int x144), (0, .ref a_m), (1, .int p1)]) hx hb dX7_fewest_98 hl (by decide) rfl (fun ls hl => ?_)
          refine (loop3_sound (r := (r, q0)) (P := fun (x167 : Int32) (x168 : Int32) (x169 : Int32) => ∀ (ls : Array Slot) (H : Heap) (locs : List Loc), lv_has ls 11 [(5, .int x169), (4, .int x146), (3, .int x168), (2, .int x167), (0, .ref a_m), (1, .int p1)] → Wd A s.heap (dC, dI) [(a_m, .inr (7, [.int (0 : Int32), .long m_trace, .ref a_m_text, .int m_typed, .int m_next, .int m_token, .int m_place, .int m_value, .int m_fault, .ref a_m_lifts, .ref a_m_price, .ref a_m_stood, .ref a_m_hands, .ref a_m_wanted, .int m_rooms, .int m_people, .int m_things, .int m_draftRooms, .int m_draftPeople, .int m_draftThings, .ref a_m_s, .ref a_m_kept, .ref a_m_isKept, .ref a_m_due, .int m_dueMany, .ref a_m_cost, .ref a_m_then, .ref a_m_by])), (a_m_hands, .inl (cI, 16, .inl m_hands)), (a_m_wanted, .inl (cI, 16, .inl m_wanted)), (a_m_s, .inl (cI, 21, .inl m_s))] H locs → W p l e ({ frames := 3, cells := 0, slots := 0, locals := 67 } : Jvm.Room) s m args below meth c H locs 0 0 Q (F0 m 100 ls [])) (fun B100 x167 x168 x169 ih100 hf => ?_) _ x144 x145 (0 : Int32) hf) ls H locs (lv_sub hl [0, 1, 2, 3, 4, 5] rfl) hw
          intro ls H locs hl hw
          refine lv_iload hx hb dX7_fewest_100 (lv_at hl 0 rfl) ?_
          refine lv_aload_n hx hb dX7_fewest_102 rfl (lv_at hl 4 rfl) ?_
          refine r_get E hw iX7 0 14 rfl rfl (by decide) kf50 rfl rfl dX7_fewest_103 ?_
          refine lv_icmp_ge (tgt := 234) hx hb dX7_fewest_106 (by decide) (fun kc => ?_) (fun kc => ?_)
          · have hf := if_t hf kc
            refine lv_iinc (v := (x146 + (1 : Int32))) (lv' := [(4, .int (x146 + (1 : Int32))), (5, .int x169), (3, .int x168), (2, .int x167), (0, .ref a_m), (1, .int p1)]) hx hb dX7_fewest_234 hl (k := 1) rfl rfl (by decide) rfl (fun ls hl => ?_)
            refine lv_goto (tgt := 88) hx hb dX7_fewest_237 (by decide) ?_
            exact ih88 x167 x168 (x146 + (1 : Int32)) hf ls H locs (lv_sub hl [0, 2, 3, 4, 5] rfl) hw
          · have hf := if_f hf kc
            refine lv_aload_n hx hb dX7_fewest_109 rfl (lv_at hl 4 rfl) ?_
            refine lv_iload hx hb dX7_fewest_110 (lv_at hl 1 rfl) ?_
            refine lv_iload hx hb dX7_fewest_112 (lv_at hl 0 rfl) ?_
            obtain ⟨r170, hu171, hf⟩ := bd1_some hf
            refine cl_i (wr := [(a_m_hands, .inl (cI, 16, .inl m_hands))]) (w2 := [(a_m, .inr (7, [.int (0 : Int32), .long m_trace, .ref a_m_text, .int m_typed, .int m_next, .int m_token, .int m_place, .int m_value, .int m_fault, .ref a_m_lifts, .ref a_m_price, .ref a_m_stood, .ref a_m_hands, .ref a_m_wanted, .int m_rooms, .int m_people, .int m_things, .int m_draftRooms, .int m_draftPeople, .int m_draftThings, .ref a_m_s, .ref a_m_kept, .ref a_m_isKept, .ref a_m_due, .int m_dueMany, .ref a_m_cost, .ref a_m_then, .ref a_m_by])), (a_m_hands, .inl (cI, 16, .inl m_hands)), (a_m_wanted, .inl (cI, 16, .inl m_wanted)), (a_m_s, .inl (cI, 21, .inl m_s))]) E hw [0, 2, 3] [1] [1, 0, 2, 3] (va_runV (As := [.int x146, .int x169]) (rest := []) E.1 (c_X7_singles l dC dI cI cB cZ aK aV a_m a_m_text a_m_lifts a_m_price a_m_stood a_m_hands a_m_wanted a_m_s a_m_kept a_m_isKept a_m_due a_m_cost a_m_then a_m_by H.size (0 : Int32) m_trace m_typed m_next m_token m_place m_value m_fault m_rooms m_people m_things m_draftRooms m_draftPeople m_draftThings m_dueMany m_wanted m_s x146 x169 r170 hu171) (cwV 2 hts gX7_fewest_X7_singles rfl rfl rfl hd_X7_singles ⟨Nat.le_of_ble_eq_true rfl, Nat.le_of_ble_eq_true rfl⟩) (pre_V E hw [0, 2, 3] rfl rfl rfl rfl) rfl rfl hl.1 rfl (lv_room (Nat.le_of_ble_eq_true rfl)) dX7_fewest_114 ⟨Nat.zero_le _, Nat.zero_le _⟩) rfl rfl rfl (by decide) rfl rfl (fun H locs hw => ?_)
            refine lv_istore (lv' := [(6, .int r170), (5, .int x169), (4, .int x146), (3, .int x168), (2, .int x167), (0, .ref a_m), (1, .int p1)]) hx hb dX7_fewest_117 hl (by decide) rfl (fun ls hl => ?_)
            refine lv_aload_n hx hb dX7_fewest_119 rfl (lv_at hl 5 rfl) ?_
            refine lv_iload hx hb dX7_fewest_120 (lv_at hl 0 rfl) ?_
            refine lv_iconst (v := (0 : Int32)) hx hb dX7_fewest_122 rfl ?_
            obtain ⟨r172, hu173, hf⟩ := bd1_some hf
            refine cl_i (wr := [(a_m_wanted, .inl (cI, 16, .inl m_wanted)), (a_m_s, .inl (cI, 21, .inl m_s))]) (w2 := [(a_m, .inr (7, [.int (0 : Int32), .long m_trace, .ref a_m_text, .int m_typed, .int m_next, .int m_token, .int m_place, .int m_value, .int m_fault, .ref a_m_lifts, .ref a_m_price, .ref a_m_stood, .ref a_m_hands, .ref a_m_wanted, .int m_rooms, .int m_people, .int m_things, .int m_draftRooms, .int m_draftPeople, .int m_draftThings, .ref a_m_s, .ref a_m_kept, .ref a_m_isKept, .ref a_m_due, .int m_dueMany, .ref a_m_cost, .ref a_m_then, .ref a_m_by])), (a_m_hands, .inl (cI, 16, .inl m_hands)), (a_m_wanted, .inl (cI, 16, .inl m_wanted)), (a_m_s, .inl (cI, 21, .inl m_s))]) E hw [0, 1] [2, 3] [2, 3, 0, 1] (va_runV (As := [.int r170, .int (0 : Int32)]) (rest := []) E.1 (c_X7_liftsBy l dC dI cI cB cZ aK aV a_m a_m_text a_m_lifts a_m_price a_m_stood a_m_hands a_m_wanted a_m_s a_m_kept a_m_isKept a_m_due a_m_cost a_m_then a_m_by H.size (0 : Int32) m_trace m_typed m_next m_token m_place m_value m_fault m_rooms m_people m_things m_draftRooms m_draftPeople m_draftThings m_dueMany m_hands r170 (0 : Int32) r172 hu173) (cwV 2 hts gX7_fewest_X7_liftsBy rfl rfl rfl hd_X7_liftsBy ⟨Nat.le_of_ble_eq_true rfl, Nat.le_of_ble_eq_true rfl⟩) (pre_V E hw [0, 1] rfl rfl rfl rfl) rfl rfl hl.1 rfl (lv_room (Nat.le_of_ble_eq_true rfl)) dX7_fewest_123 ⟨Nat.zero_le _, Nat.zero_le _⟩) rfl rfl rfl (by decide) rfl rfl (fun H locs hw => ?_)
            refine lv_istore (lv' := [(7, .int r172), (6, .int r170), (5, .int x169), (4, .int x146), (3, .int x168), (2, .int x167), (0, .ref a_m), (1, .int p1)]) hx hb dX7_fewest_126 hl (by decide) rfl (fun ls hl => ?_)
            refine lv_iload hx hb dX7_fewest_128 (lv_at hl 0 rfl) ?_
            refine lv_istore (lv' := [(8, .int r172), (7, .int r172), (6, .int r170), (5, .int x169), (4, .int x146), (3, .int x168), (2, .int x167), (0, .ref a_m), (1, .int p1)]) hx hb dX7_fewest_130 hl (by decide) rfl (fun ls hl => ?_)
            refine lv_iconst (v := (1 : Int32)) hx hb dX7_fewest_132 rfl ?_
            refine lv_istore (lv' := [(9, .int (1 : Int32)), (8, .int r172), (7, .int r172), (6, .int r170), (5, .int x169), (4, .int x146), (3, .int x168), (2, .int x167), (0, .ref a_m), (1, .int p1)]) hx hb dX7_fewest_133 hl (by decide) rfl (fun ls hl => ?_)
            refine (loop2_sound (r := (r, q0)) (P := fun (x181 : Int32) (x182 : Int32) => ∀ (ls : Array Slot) (H : Heap) (locs : List Loc), lv_has ls 11 [(9, .int x182), (8, .int x181), (7, .int r172), (6, .int r170), (5, .int x169), (4, .int x146), (3, .int x168), (2, .int x167), (0, .ref a_m), (1, .int p1)] → Wd A s.heap (dC, dI) [(a_m, .inr (7, [.int (0 : Int32), .long m_trace, .ref a_m_text, .int m_typed, .int m_next, .int m_token, .int m_place, .int m_value, .int m_fault, .ref a_m_lifts, .ref a_m_price, .ref a_m_stood, .ref a_m_hands, .ref a_m_wanted, .int m_rooms, .int m_people, .int m_things, .int m_draftRooms, .int m_draftPeople, .int m_draftThings, .ref a_m_s, .ref a_m_kept, .ref a_m_isKept, .ref a_m_due, .int m_dueMany, .ref a_m_cost, .ref a_m_then, .ref a_m_by])), (a_m_hands, .inl (cI, 16, .inl m_hands)), (a_m_wanted, .inl (cI, 16, .inl m_wanted)), (a_m_s, .inl (cI, 21, .inl m_s))] H locs → W p l e ({ frames := 3, cells := 0, slots := 0, locals := 67 } : Jvm.Room) s m args below meth c H locs 0 0 Q (F0 m 135 ls [])) (fun B135 x181 x182 ih135 hf => ?_) _ r172 (1 : Int32) hf) ls H locs (lv_sub hl [0, 1, 2, 3, 4, 5, 6, 7, 8, 9] rfl) hw
            intro ls H locs hl hw
            refine lv_iload hx hb dX7_fewest_135 (lv_at hl 0 rfl) ?_
            refine lv_sipush (v := (256 : Int32)) hx hb dX7_fewest_137 rfl ?_
            refine lv_icmp_ge (tgt := 208) hx hb dX7_fewest_140 (by decide) (fun kc => ?_) (fun kc => ?_)
            · have hf := if_t hf kc
              refine lv_iload_n hx hb dX7_fewest_208 rfl (lv_at hl 7 rfl) ?_
              refine lv_iload hx hb dX7_fewest_209 (lv_at hl 1 rfl) ?_
              refine lv_iadd hx hb dX7_fewest_211 ?_
              refine lv_istore_n (lv' := [(2, .int (x167 + x181)), (9, .int x182), (8, .int x181), (7, .int r172), (6, .int r170), (5, .int x169), (4, .int x146), (3, .int x168), (0, .ref a_m), (1, .int p1)]) hx hb dX7_fewest_212 rfl hl (by decide) rfl (fun ls hl => ?_)
              refine lv_iload_n hx hb dX7_fewest_213 rfl (lv_at hl 7 rfl) ?_
              refine lv_iload hx hb dX7_fewest_214 (lv_at hl 2 rfl) ?_
              refine lv_iload hx hb dX7_fewest_216 (lv_at hl 3 rfl) ?_
              refine lv_icmp_ge (tgt := 225) hx hb dX7_fewest_218 (by decide) (fun kc => ?_) (fun kc => ?_)
              · have hf := if_t hf kc
                refine lv_iconst (v := (0 : Int32)) hx hb dX7_fewest_225 rfl ?_
                refine lv_iadd hx hb dX7_fewest_226 ?_
                refine lv_istore_n (lv' := [(3, .int (x168 + (0 : Int32))), (2, .int (x167 + x181)), (9, .int x182), (8, .int x181), (7, .int r172), (6, .int r170), (5, .int x169), (4, .int x146), (0, .ref a_m), (1, .int p1)]) hx hb dX7_fewest_227 rfl hl (by decide) rfl (fun ls hl => ?_)
                refine lv_iinc (v := (x169 + (1 : Int32))) (lv' := [(5, .int (x169 + (1 : Int32))), (3, .int (x168 + (0 : Int32))), (2, .int (x167 + x181)), (9, .int x182), (8, .int x181), (7, .int r172), (6, .int r170), (4, .int x146), (0, .ref a_m), (1, .int p1)]) hx hb dX7_fewest_228 hl (k := 6) rfl rfl (by decide) rfl (fun ls hl => ?_)
                refine lv_goto (tgt := 100) hx hb dX7_fewest_231 (by decide) ?_
                exact ih100 (x167 + x181) (x168 + (0 : Int32)) (x169 + (1 : Int32)) hf ls H locs (lv_sub hl [0, 7, 1, 2, 8, 9] rfl) hw
              · have hf := if_f hf kc
                refine lv_iconst (v := (1 : Int32)) hx hb dX7_fewest_221 rfl ?_
                refine lv_goto (tgt := 226) hx hb dX7_fewest_222 (by decide) ?_
                refine lv_iadd hx hb dX7_fewest_226 ?_
                refine lv_istore_n (lv' := [(3, .int (x168 + (1 : Int32))), (2, .int (x167 + x181)), (9, .int x182), (8, .int x181), (7, .int r172), (6, .int r170), (5, .int x169), (4, .int x146), (0, .ref a_m), (1, .int p1)]) hx hb dX7_fewest_227 rfl hl (by decide) rfl (fun ls hl => ?_)
                refine lv_iinc (v := (x169 + (1 : Int32))) (lv' := [(5, .int (x169 + (1 : Int32))), (3, .int (x168 + (1 : Int32))), (2, .int (x167 + x181)), (9, .int x182), (8, .int x181), (7, .int r172), (6, .int r170), (4, .int x146), (0, .ref a_m), (1, .int p1)]) hx hb dX7_fewest_228 hl (k := 6) rfl rfl (by decide) rfl (fun ls hl => ?_)
                refine lv_goto (tgt := 100) hx hb dX7_fewest_231 (by decide) ?_
                exact ih100 (x167 + x181) (x168 + (1 : Int32)) (x169 + (1 : Int32)) hf ls H locs (lv_sub hl [0, 7, 1, 2, 8, 9] rfl) hw
            · have hf := if_f hf kc
              refine lv_iload hx hb dX7_fewest_143 (lv_at hl 0 rfl) ?_
              refine lv_iload hx hb dX7_fewest_145 (lv_at hl 3 rfl) ?_
              refine lv_iconst (v := (-1 : Int32)) hx hb dX7_fewest_147 rfl ?_
              refine lv_ixor hx hb dX7_fewest_148 ?_
              refine lv_iand hx hb dX7_fewest_149 ?_
              refine jn_sound (P := fun J => ∀ (x185 : Int32) (ls : Array Slot) (H : Heap) (locs : List Loc), J x185 = some (r, q0) → lv_has ls 11 [(0, .ref a_m), (1, .int p1), (2, .int x167), (3, .int x168), (4, .int x146), (5, .int x169), (6, .int r170), (7, .int r172), (8, .int x181), (9, .int x182)] → Wd A s.heap (dC, dI) [(a_m, .inr (7, [.int (0 : Int32), .long m_trace, .ref a_m_text, .int m_typed, .int m_next, .int m_token, .int m_place, .int m_value, .int m_fault, .ref a_m_lifts, .ref a_m_price, .ref a_m_stood, .ref a_m_hands, .ref a_m_wanted, .int m_rooms, .int m_people, .int m_things, .int m_draftRooms, .int m_draftPeople, .int m_draftThings, .ref a_m_s, .ref a_m_kept, .ref a_m_isKept, .ref a_m_due, .int m_dueMany, .ref a_m_cost, .ref a_m_then, .ref a_m_by])), (a_m_hands, .inl (cI, 16, .inl m_hands)), (a_m_wanted, .inl (cI, 16, .inl m_wanted)), (a_m_s, .inl (cI, 21, .inl m_s))] H locs → W p l e ({ frames := 3, cells := 0, slots := 0, locals := 67 } : Jvm.Room) s m args below meth c H locs 0 0 Q (F0 m 167 ls [.int x185])) hf ?_ ?_
              · intro x185 ls H locs hf hl hw
                refine lv_istore (lv' := [(10, .int x185), (0, .ref a_m), (1, .int p1), (2, .int x167), (3, .int x168), (4, .int x146), (5, .int x169), (6, .int r170), (7, .int r172), (8, .int x181), (9, .int x182)]) hx hb dX7_fewest_167 hl (by decide) rfl (fun ls hl => ?_)
                refine lv_iload hx hb dX7_fewest_169 (lv_at hl 0 rfl) ?_
                refine jn_sound (P := fun J => ∀ (ls : Array Slot) (H : Heap) (locs : List Loc), J = some (r, q0) → lv_has ls 11 [(0, .ref a_m), (1, .int p1), (2, .int x167), (3, .int x168), (4, .int x146), (5, .int x169), (6, .int r170), (7, .int r172), (8, .int x181), (9, .int x182)] → Wd A s.heap (dC, dI) [(a_m, .inr (7, [.int (0 : Int32), .long m_trace, .ref a_m_text, .int m_typed, .int m_next, .int m_token, .int m_place, .int m_value, .int m_fault, .ref a_m_lifts, .ref a_m_price, .ref a_m_stood, .ref a_m_hands, .ref a_m_wanted, .int m_rooms, .int m_people, .int m_things, .int m_draftRooms, .int m_draftPeople, .int m_draftThings, .ref a_m_s, .ref a_m_kept, .ref a_m_isKept, .ref a_m_due, .int m_dueMany, .ref a_m_cost, .ref a_m_then, .ref a_m_by])), (a_m_hands, .inl (cI, 16, .inl m_hands)), (a_m_wanted, .inl (cI, 16, .inl m_wanted)), (a_m_s, .inl (cI, 21, .inl m_s))] H locs → W p l e ({ frames := 3, cells := 0, slots := 0, locals := 67 } : Jvm.Room) s m args below meth c H locs 0 0 Q (F0 m 198 ls [])) hf ?_ ?_
                · intro ls H locs hf hl hw
                  refine lv_iload hx hb dX7_fewest_198 (lv_at hl 8 rfl) ?_
                  refine lv_istore (lv' := [(8, .int x181), (0, .ref a_m), (1, .int p1), (2, .int x167), (3, .int x168), (4, .int x146), (5, .int x169), (6, .int r170), (7, .int r172), (9, .int x182)]) hx hb dX7_fewest_200 hl (by decide) rfl (fun ls hl => ?_)
                  refine lv_iinc (v := (x182 + (1 : Int32))) (lv' := [(9, .int (x182 + (1 : Int32))), (8, .int x181), (0, .ref a_m), (1, .int p1), (2, .int x167), (3, .int x168), (4, .int x146), (5, .int x169), (6, .int r170), (7, .int r172)]) hx hb dX7_fewest_202 hl (k := 9) rfl rfl (by decide) rfl (fun ls hl => ?_)
                  refine lv_goto (tgt := 135) hx hb dX7_fewest_205 (by decide) ?_
                  exact ih135 x181 (x182 + (1 : Int32)) hf ls H locs (lv_sub hl [0, 1, 9, 8, 7, 6, 5, 4, 2, 3] rfl) hw
                · intro J198 hJ198 hf
                  refine lv_if_eq (tgt := 198) hx hb dX7_fewest_171 (by decide) (fun kc => ?_) (fun kc => ?_)
                  · have hf := if_t hf kc
                    exact hJ198 ls H locs hf (lv_sub hl [1, 2, 3, 4, 5, 6, 7, 8, 9, 10] rfl) hw
                  · have hf := if_f hf kc
                    refine lv_aload_n hx hb dX7_fewest_174 rfl (lv_at hl 1 rfl) ?_
                    refine lv_iload hx hb dX7_fewest_175 (lv_at hl 7 rfl) ?_
                    refine lv_iload hx hb dX7_fewest_177 (lv_at hl 10 rfl) ?_
                    obtain ⟨r186, hu187, hf⟩ := bd1_some hf
                    refine cl_i (wr := [(a_m_wanted, .inl (cI, 16, .inl m_wanted)), (a_m_s, .inl (cI, 21, .inl m_s))]) (w2 := [(a_m, .inr (7, [.int (0 : Int32), .long m_trace, .ref a_m_text, .int m_typed, .int m_next, .int m_token, .int m_place, .int m_value, .int m_fault, .ref a_m_lifts, .ref a_m_price, .ref a_m_stood, .ref a_m_hands, .ref a_m_wanted, .int m_rooms, .int m_people, .int m_things, .int m_draftRooms, .int m_draftPeople, .int m_draftThings, .ref a_m_s, .ref a_m_kept, .ref a_m_isKept, .ref a_m_due, .int m_dueMany, .ref a_m_cost, .ref a_m_then, .ref a_m_by])), (a_m_hands, .inl (cI, 16, .inl m_hands)), (a_m_wanted, .inl (cI, 16, .inl m_wanted)), (a_m_s, .inl (cI, 21, .inl m_s))]) E hw [0, 1] [2, 3] [2, 3, 0, 1] (va_runV (As := [.int r170, .int x182]) (rest := []) E.1 (c_X7_liftsBy l dC dI cI cB cZ aK aV a_m a_m_text a_m_lifts a_m_price a_m_stood a_m_hands a_m_wanted a_m_s a_m_kept a_m_isKept a_m_due a_m_cost a_m_then a_m_by H.size (0 : Int32) m_trace m_typed m_next m_token m_place m_value m_fault m_rooms m_people m_things m_draftRooms m_draftPeople m_draftThings m_dueMany m_hands r170 x182 r186 hu187) (cwV 2 hts gX7_fewest_X7_liftsBy rfl rfl rfl hd_X7_liftsBy ⟨Nat.le_of_ble_eq_true rfl, Nat.le_of_ble_eq_true rfl⟩) (pre_V E hw [0, 1] rfl rfl rfl rfl) rfl rfl hl.1 rfl (lv_room (Nat.le_of_ble_eq_true rfl)) dX7_fewest_179 ⟨Nat.zero_le _, Nat.zero_le _⟩) rfl rfl rfl (by decide) rfl rfl (fun H locs hw => ?_)
                    refine lv_iload hx hb dX7_fewest_182 (lv_at hl 9 rfl) ?_
                    refine lv_icmp_ge (tgt := 198) hx hb dX7_fewest_184 (by decide) (fun kc => ?_) (fun kc => ?_)
                    · have hf := if_t hf kc
                      exact hJ198 ls H locs hf (lv_sub hl [1, 2, 3, 4, 5, 6, 7, 8, 9, 10] rfl) hw
                    · have hf := if_f hf kc
                      refine lv_aload_n hx hb dX7_fewest_187 rfl (lv_at hl 1 rfl) ?_
                      refine lv_iload hx hb dX7_fewest_188 (lv_at hl 7 rfl) ?_
                      refine lv_iload hx hb dX7_fewest_190 (lv_at hl 10 rfl) ?_
                      obtain ⟨r188, hu189, hf⟩ := bd1_some hf
                      refine cl_i (wr := [(a_m_wanted, .inl (cI, 16, .inl m_wanted)), (a_m_s, .inl (cI, 21, .inl m_s))]) (w2 := [(a_m, .inr (7, [.int (0 : Int32), .long m_trace, .ref a_m_text, .int m_typed, .int m_next, .int m_token, .int m_place, .int m_value, .int m_fault, .ref a_m_lifts, .ref a_m_price, .ref a_m_stood, .ref a_m_hands, .ref a_m_wanted, .int m_rooms, .int m_people, .int m_things, .int m_draftRooms, .int m_draftPeople, .int m_draftThings, .ref a_m_s, .ref a_m_kept, .ref a_m_isKept, .ref a_m_due, .int m_dueMany, .ref a_m_cost, .ref a_m_then, .ref a_m_by])), (a_m_hands, .inl (cI, 16, .inl m_hands)), (a_m_wanted, .inl (cI, 16, .inl m_wanted)), (a_m_s, .inl (cI, 21, .inl m_s))]) E hw [0, 1] [2, 3] [2, 3, 0, 1] (va_runV (As := [.int r170, .int x182]) (rest := []) E.1 (c_X7_liftsBy l dC dI cI cB cZ aK aV a_m a_m_text a_m_lifts a_m_price a_m_stood a_m_hands a_m_wanted a_m_s a_m_kept a_m_isKept a_m_due a_m_cost a_m_then a_m_by H.size (0 : Int32) m_trace m_typed m_next m_token m_place m_value m_fault m_rooms m_people m_things m_draftRooms m_draftPeople m_draftThings m_dueMany m_hands r170 x182 r188 hu189) (cwV 2 hts gX7_fewest_X7_liftsBy rfl rfl rfl hd_X7_liftsBy ⟨Nat.le_of_ble_eq_true rfl, Nat.le_of_ble_eq_true rfl⟩) (pre_V E hw [0, 1] rfl rfl rfl rfl) rfl rfl hl.1 rfl (lv_room (Nat.le_of_ble_eq_true rfl)) dX7_fewest_192 ⟨Nat.zero_le _, Nat.zero_le _⟩) rfl rfl rfl (by decide) rfl rfl (fun H locs hw => ?_)
                      refine lv_goto (tgt := 200) hx hb dX7_fewest_195 (by decide) ?_
                      refine lv_istore (lv' := [(8, .int r188), (10, .int x185), (0, .ref a_m), (1, .int p1), (2, .int x167), (3, .int x168), (4, .int x146), (5, .int x169), (6, .int r170), (7, .int r172), (9, .int x182)]) hx hb dX7_fewest_200 hl (by decide) rfl (fun ls hl => ?_)
                      refine lv_iinc (v := (x182 + (1 : Int32))) (lv' := [(9, .int (x182 + (1 : Int32))), (8, .int r188), (10, .int x185), (0, .ref a_m), (1, .int p1), (2, .int x167), (3, .int x168), (4, .int x146), (5, .int x169), (6, .int r170), (7, .int r172)]) hx hb dX7_fewest_202 hl (k := 10) rfl rfl (by decide) rfl (fun ls hl => ?_)
                      refine lv_goto (tgt := 135) hx hb dX7_fewest_205 (by decide) ?_
                      exact ih135 r188 (x182 + (1 : Int32)) hf ls H locs (lv_sub hl [0, 1, 10, 9, 8, 7, 6, 5, 3, 4] rfl) hw
              · intro J167 hJ167 hf
                refine jn_sound (P := fun J => ∀ (ls : Array Slot) (H : Heap) (locs : List Loc), J = some (r, q0) → lv_has ls 11 [(0, .ref a_m), (1, .int p1), (2, .int x167), (3, .int x168), (4, .int x146), (5, .int x169), (6, .int r170), (7, .int r172), (8, .int x181), (9, .int x182)] → Wd A s.heap (dC, dI) [(a_m, .inr (7, [.int (0 : Int32), .long m_trace, .ref a_m_text, .int m_typed, .int m_next, .int m_token, .int m_place, .int m_value, .int m_fault, .ref a_m_lifts, .ref a_m_price, .ref a_m_stood, .ref a_m_hands, .ref a_m_wanted, .int m_rooms, .int m_people, .int m_things, .int m_draftRooms, .int m_draftPeople, .int m_draftThings, .ref a_m_s, .ref a_m_kept, .ref a_m_isKept, .ref a_m_due, .int m_dueMany, .ref a_m_cost, .ref a_m_then, .ref a_m_by])), (a_m_hands, .inl (cI, 16, .inl m_hands)), (a_m_wanted, .inl (cI, 16, .inl m_wanted)), (a_m_s, .inl (cI, 21, .inl m_s))] H locs → W p l e ({ frames := 3, cells := 0, slots := 0, locals := 67 } : Jvm.Room) s m args below meth c H locs 0 0 Q (F0 m 166 ls [])) hf ?_ ?_
                · intro ls H locs hf hl hw
                  refine lv_iconst (v := (0 : Int32)) hx hb dX7_fewest_166 rfl ?_
                  exact hJ167 (0 : Int32) ls H locs hf hl hw
                · intro J166 hJ166 hf
                  refine lv_if_ne (tgt := 166) hx hb dX7_fewest_150 (by decide) (fun kc => ?_) (fun kc => ?_)
                  · have hf := if_f hf kc
                    exact hJ166 ls H locs hf (lv_sub hl [8, 9, 7, 6, 5, 4, 3, 2, 1, 0] rfl) hw
                  · have hf := if_t hf kc
                    refine lv_iload hx hb dX7_fewest_153 (lv_at hl 0 rfl) ?_
                    obtain ⟨r183, hu184, hf⟩ := bd1_some hf
                    refine cl_i (wr := [(a_m, .inr (7, [.int (0 : Int32), .long m_trace, .ref a_m_text, .int m_typed, .int m_next, .int m_token, .int m_place, .int m_value, .int m_fault, .ref a_m_lifts, .ref a_m_price, .ref a_m_stood, .ref a_m_hands, .ref a_m_wanted, .int m_rooms, .int m_people, .int m_things, .int m_draftRooms, .int m_draftPeople, .int m_draftThings, .ref a_m_s, .ref a_m_kept, .ref a_m_isKept, .ref a_m_due, .int m_dueMany, .ref a_m_cost, .ref a_m_then, .ref a_m_by])), (a_m_hands, .inl (cI, 16, .inl m_hands)), (a_m_wanted, .inl (cI, 16, .inl m_wanted)), (a_m_s, .inl (cI, 21, .inl m_s))]) (w2 := [(a_m, .inr (7, [.int (0 : Int32), .long m_trace, .ref a_m_text, .int m_typed, .int m_next, .int m_token, .int m_place, .int m_value, .int m_fault, .ref a_m_lifts, .ref a_m_price, .ref a_m_stood, .ref a_m_hands, .ref a_m_wanted, .int m_rooms, .int m_people, .int m_things, .int m_draftRooms, .int m_draftPeople, .int m_draftThings, .ref a_m_s, .ref a_m_kept, .ref a_m_isKept, .ref a_m_due, .int m_dueMany, .ref a_m_cost, .ref a_m_then, .ref a_m_by])), (a_m_hands, .inl (cI, 16, .inl m_hands)), (a_m_wanted, .inl (cI, 16, .inl m_wanted)), (a_m_s, .inl (cI, 21, .inl m_s))]) E hw [] [0, 1, 2, 3] [0, 1, 2, 3] (va_runS (As := [.int x182]) (rest := []) E.1 (c_X7_ones l dC dI cI cB cZ aK aV H.size x182 r183 hu184) (va_cwS 1 hts gX7_fewest_X7_ones rfl rfl rfl hd_X7_ones ⟨Nat.le_of_ble_eq_true rfl, Nat.le_of_ble_eq_true rfl⟩) (pre_S E hw [] rfl rfl) rfl rfl hl.1 rfl (lv_room (Nat.le_of_ble_eq_true rfl)) dX7_fewest_155 ⟨Nat.zero_le _, Nat.zero_le _⟩) rfl rfl rfl (by decide) rfl rfl (fun H locs hw => ?_)
                    refine lv_iconst (v := (1 : Int32)) hx hb dX7_fewest_158 rfl ?_
                    refine lv_icmp_le (tgt := 166) hx hb dX7_fewest_159 (by decide) (fun kc => ?_) (fun kc => ?_)
                    · have hf := if_t hf kc
                      exact hJ166 ls H locs hf (lv_sub hl [8, 9, 7, 6, 5, 4, 3, 2, 1, 0] rfl) hw
                    · have hf := if_f hf kc
                      refine lv_iconst (v := (1 : Int32)) hx hb dX7_fewest_162 rfl ?_
                      refine lv_goto (tgt := 167) hx hb dX7_fewest_163 (by decide) ?_
                      exact hJ167 (1 : Int32) ls H locs hf (lv_sub hl [8, 9, 7, 6, 5, 4, 3, 2, 1, 0] rfl) hw
      · have hf := if_f hf kc
        refine lv_iload_n hx hb dX7_fewest_42 rfl (lv_at hl 2 rfl) ?_
        refine lv_aload_n hx hb dX7_fewest_43 rfl (lv_at hl 3 rfl) ?_
        refine r_get E hw iX7 0 20 rfl rfl (by decide) kf28 rfl rfl dX7_fewest_44 ?_
        refine lv_bipush (v := (8 : Int32)) hx hb dX7_fewest_47 rfl ?_
        refine lv_iload hx hb dX7_fewest_49 (lv_at hl 0 rfl) ?_
        refine lv_iadd hx hb dX7_fewest_51 ?_
        obtain ⟨g190, hf⟩ := gd_some hf
        refine r_iald E hw 3 rfl g190 dX7_fewest_52 ?_
        refine lv_iload hx hb dX7_fewest_53 (lv_at hl 0 rfl) ?_
        refine jn_sound (P := fun J => ∀ (ls : Array Slot) (H : Heap) (locs : List Loc), J = some (r, q0) → lv_has ls 11 [(0, .ref a_m), (1, .int p1), (3, .int (0 : Int32)), (4, .int x100)] → Wd A s.heap (dC, dI) [(a_m, .inr (7, [.int (0 : Int32), .long m_trace, .ref a_m_text, .int m_typed, .int m_next, .int m_token, .int m_place, .int m_value, .int m_fault, .ref a_m_lifts, .ref a_m_price, .ref a_m_stood, .ref a_m_hands, .ref a_m_wanted, .int m_rooms, .int m_people, .int m_things, .int m_draftRooms, .int m_draftPeople, .int m_draftThings, .ref a_m_s, .ref a_m_kept, .ref a_m_isKept, .ref a_m_due, .int m_dueMany, .ref a_m_cost, .ref a_m_then, .ref a_m_by])), (a_m_hands, .inl (cI, 16, .inl m_hands)), (a_m_wanted, .inl (cI, 16, .inl m_wanted)), (a_m_s, .inl (cI, 21, .inl m_s))] H locs → W p l e ({ frames := 3, cells := 0, slots := 0, locals := 67 } : Jvm.Room) s m args below meth c H locs 0 0 Q (F0 m 76 ls [.int x99])) hf ?_ ?_
        · intro ls H locs hf hl hw
          refine lv_iconst (v := (0 : Int32)) hx hb dX7_fewest_76 rfl ?_
          refine lv_iadd hx hb dX7_fewest_77 ?_
          refine lv_istore_n (lv' := [(2, .int (x99 + (0 : Int32))), (0, .ref a_m), (1, .int p1), (3, .int (0 : Int32)), (4, .int x100)]) hx hb dX7_fewest_78 rfl hl (by decide) rfl (fun ls hl => ?_)
          refine lv_iinc (v := (x100 + (1 : Int32))) (lv' := [(4, .int (x100 + (1 : Int32))), (2, .int (x99 + (0 : Int32))), (0, .ref a_m), (1, .int p1), (3, .int (0 : Int32))]) hx hb dX7_fewest_79 hl (k := 4) rfl rfl (by decide) rfl (fun ls hl => ?_)
          refine lv_goto (tgt := 33) hx hb dX7_fewest_82 (by decide) ?_
          exact ih33 (x99 + (0 : Int32)) (x100 + (1 : Int32)) hf ls H locs (lv_sub hl [0, 4, 1, 2, 3] rfl) hw
        · intro J76 hJ76 hf
          refine lv_icmp_ne (tgt := 76) hx hb dX7_fewest_55 (by decide) (fun kc => ?_) (fun kc => ?_)
          · have hf := if_f hf kc
            exact hJ76 ls H locs hf (lv_sub hl [3, 4, 1, 0] rfl) hw
          · have hf := if_t hf kc
            refine lv_aload_n hx hb dX7_fewest_58 rfl (lv_at hl 3 rfl) ?_
            refine lv_iload hx hb dX7_fewest_59 (lv_at hl 0 rfl) ?_
            obtain ⟨r191, hu192, hf⟩ := bd1_some hf
            refine cl_i (wr := [(a_m_hands, .inl (cI, 16, .inl m_hands))]) (w2 := [(a_m, .inr (7, [.int (0 : Int32), .long m_trace, .ref a_m_text, .int m_typed, .int m_next, .int m_token, .int m_place, .int m_value, .int m_fault, .ref a_m_lifts, .ref a_m_price, .ref a_m_stood, .ref a_m_hands, .ref a_m_wanted, .int m_rooms, .int m_people, .int m_things, .int m_draftRooms, .int m_draftPeople, .int m_draftThings, .ref a_m_s, .ref a_m_kept, .ref a_m_isKept, .ref a_m_due, .int m_dueMany, .ref a_m_cost, .ref a_m_then, .ref a_m_by])), (a_m_hands, .inl (cI, 16, .inl m_hands)), (a_m_wanted, .inl (cI, 16, .inl m_wanted)), (a_m_s, .inl (cI, 21, .inl m_s))]) E hw [0, 2, 3] [1] [1, 0, 2, 3] (va_runV (As := [.int x100]) (rest := [.int x99]) E.1 (c_X7_isDue l dC dI cI cB cZ aK aV a_m a_m_text a_m_lifts a_m_price a_m_stood a_m_hands a_m_wanted a_m_s a_m_kept a_m_isKept a_m_due a_m_cost a_m_then a_m_by H.size (0 : Int32) m_trace m_typed m_next m_token m_place m_value m_fault m_rooms m_people m_things m_draftRooms m_draftPeople m_draftThings m_dueMany m_wanted m_s x100 r191 hu192) (cwV 1 hts gX7_fewest_X7_isDue rfl rfl rfl hd_X7_isDue ⟨Nat.le_of_ble_eq_true rfl, Nat.le_of_ble_eq_true rfl⟩) (pre_V E hw [0, 2, 3] rfl rfl rfl rfl) rfl rfl hl.1 rfl (lv_room (Nat.le_of_ble_eq_true rfl)) dX7_fewest_61 ⟨Nat.zero_le _, Nat.zero_le _⟩) rfl rfl rfl (by decide) rfl rfl (fun H locs hw => ?_)
            refine lv_if_eq (tgt := 76) hx hb dX7_fewest_64 (by decide) (fun kc => ?_) (fun kc => ?_)
            · have hf := if_t hf kc
              exact hJ76 ls H locs hf (lv_sub hl [3, 4, 1, 0] rfl) hw
            · have hf := if_f hf kc
              refine lv_aload_n hx hb dX7_fewest_67 rfl (lv_at hl 3 rfl) ?_
              refine lv_iload hx hb dX7_fewest_68 (lv_at hl 0 rfl) ?_
              obtain ⟨r193, hu194, hf⟩ := bd1_some hf
              refine cl_i (wr := [(a_m_wanted, .inl (cI, 16, .inl m_wanted))]) (w2 := [(a_m, .inr (7, [.int (0 : Int32), .long m_trace, .ref a_m_text, .int m_typed, .int m_next, .int m_token, .int m_place, .int m_value, .int m_fault, .ref a_m_lifts, .ref a_m_price, .ref a_m_stood, .ref a_m_hands, .ref a_m_wanted, .int m_rooms, .int m_people, .int m_things, .int m_draftRooms, .int m_draftPeople, .int m_draftThings, .ref a_m_s, .ref a_m_kept, .ref a_m_isKept, .ref a_m_due, .int m_dueMany, .ref a_m_cost, .ref a_m_then, .ref a_m_by])), (a_m_hands, .inl (cI, 16, .inl m_hands)), (a_m_wanted, .inl (cI, 16, .inl m_wanted)), (a_m_s, .inl (cI, 21, .inl m_s))]) E hw [0, 1, 3] [2] [1, 2, 0, 3] (va_runV (As := [.int x100]) (rest := [.int x99]) E.1 (c_X7_handsOf l dC dI cI cB cZ aK aV a_m a_m_text a_m_lifts a_m_price a_m_stood a_m_hands a_m_wanted a_m_s a_m_kept a_m_isKept a_m_due a_m_cost a_m_then a_m_by H.size (0 : Int32) m_trace m_typed m_next m_token m_place m_value m_fault m_rooms m_people m_things m_draftRooms m_draftPeople m_draftThings m_dueMany m_hands m_s x100 r193 hu194) (cwV 1 hts gX7_fewest_X7_handsOf rfl rfl rfl hd_X7_handsOf ⟨Nat.le_of_ble_eq_true rfl, Nat.le_of_ble_eq_true rfl⟩) (pre_V E hw [0, 1, 3] rfl rfl rfl rfl) rfl rfl hl.1 rfl (lv_room (Nat.le_of_ble_eq_true rfl)) dX7_fewest_70 ⟨Nat.zero_le _, Nat.zero_le _⟩) rfl rfl rfl (by decide) rfl rfl (fun H locs hw => ?_)
              refine lv_goto (tgt := 77) hx hb dX7_fewest_73 (by decide) ?_
              refine lv_iadd hx hb dX7_fewest_77 ?_
              refine lv_istore_n (lv' := [(2, .int (x99 + r193)), (4, .int x100), (3, .int (0 : Int32)), (0, .ref a_m), (1, .int p1)]) hx hb dX7_fewest_78 rfl hl (by decide) rfl (fun ls hl => ?_)
              refine lv_iinc (v := (x100 + (1 : Int32))) (lv' := [(4, .int (x100 + (1 : Int32))), (2, .int (x99 + r193)), (3, .int (0 : Int32)), (0, .ref a_m), (1, .int p1)]) hx hb dX7_fewest_79 hl (k := 1) rfl rfl (by decide) rfl (fun ls hl => ?_)
              refine lv_goto (tgt := 33) hx hb dX7_fewest_82 (by decide) ?_
              exact ih33 (x99 + r193) (x100 + (1 : Int32)) hf ls H locs (lv_sub hl [0, 2, 1, 3, 4] rfl) hw
    · have hf := if_f hf kc
      refine lv_bipush (v := (-9 : Int32)) hx hb dX7_fewest_23 rfl ?_
      obtain ⟨rfl, rfl⟩ := sm2 hf
      exact hret H locs ls 25 hw dX7_fewest_25
  · have hf := if_t hf kc
    refine lv_iconst (v := (-1 : Int32)) hx hb dX7_fewest_14 rfl ?_
    obtain ⟨rfl, rfl⟩ := sm2 hf
    exact hret H locs ls 15 hw dX7_fewest_15
def f_X7_gathersDue  (m_things : Int32) (m_hands : Nat → Int32) (m_wanted : Nat → Int32) (m_s : Nat → Int32) (m_due : Nat → Int32) : Option (Int32 × (Nat → Int32)) :=
  loop3 (fun B7 (x8 : Int32) (x9 : Int32) (x10 : Nat → Int32) => (if m_things ≤ x8 then some (x9, x10) else bd1 (f_X7_isJob x8 m_s) (fun r11 => (if r11 = 0 then B7 (x8 + (1 : Int32)) x9 x10 else bd1 (f_X7_isDue x8 m_things m_wanted m_s) (fun r13 => (if r13 = 0 then B7 (x8 + (1 : Int32)) x9 x10 else bd1 (f_X7_handsOf x8 m_things m_hands m_s) (fun r15 => gd (inb x9 8) (B7 (x8 + (1 : Int32)) (x9 + (1 : Int32)) (upd x10 x9.toNatClampNeg r15))))))))) FU (0 : Int32) (0 : Int32) m_due
theorem hd_X7_gathersDue : yX7_gathersDue.cls = RX7 ∧ yX7_gathersDue.cls ≠ "java/lang/invoke/MethodHandle" ∧ yX7_gathersDue.cls ≠ "java/lang/invoke/VarHandle" ∧ (parseMethodDescriptor yX7_gathersDue.desc).map (fun d => d.parameters.length) = some 0 := by decide +kernel
set_option maxHeartbeats 4000000 in
set_option maxRecDepth 100000 in
theorem c_X7_gathersDue (l : Launch) (dC : Nat → ClassId) (dI : Nat → Nat → Nat) (cI cB cZ : ClassId) (aK aV : Nat → Nat) (a_m a_m_text a_m_lifts a_m_price a_m_stood a_m_hands a_m_wanted a_m_s a_m_kept a_m_isKept a_m_due a_m_cost a_m_then a_m_by : Nat) (sz : Nat) (m_thrown : Int32) (m_trace : Int64) (m_typed : Int32) (m_next : Int32) (m_token : Int32) (m_place : Int32) (m_value : Int32) (m_fault : Int32) (m_rooms : Int32) (m_people : Int32) (m_things : Int32) (m_draftRooms : Int32) (m_draftPeople : Int32) (m_draftThings : Int32) (m_dueMany : Int32) (m_hands : Nat → Int32) (m_wanted : Nat → Int32) (m_s : Nat → Int32) (m_due : Nat → Int32) (q0 : Int32) (q1 : Nat → Int32) (hf : f_X7_gathersDue m_things m_hands m_wanted m_s m_due = some (q0, q1)) : Met l yX7_gathersDue wsX7_gathersDue ({ frames := 2, cells := 0, slots := 0, locals := 45 } : Jvm.Room) (va_Pc [.ref a_m] (preW (dC, dI) (tyL cI cB cZ) aK aV sz [(a_m, .inr (7, [.int m_thrown, .long m_trace, .ref a_m_text, .int m_typed, .int m_next, .int m_token, .int m_place, .int m_value, .int m_fault, .ref a_m_lifts, .ref a_m_price, .ref a_m_stood, .ref a_m_hands, .ref a_m_wanted, .int m_rooms, .int m_people, .int m_things, .int m_draftRooms, .int m_draftPeople, .int m_draftThings, .ref a_m_s, .ref a_m_kept, .ref a_m_isKept, .ref a_m_due, .int m_dueMany, .ref a_m_cost, .ref a_m_then, .ref a_m_by])), (a_m_hands, .inl (cI, 16, .inl m_hands)), (a_m_wanted, .inl (cI, 16, .inl m_wanted)), (a_m_s, .inl (cI, 21, .inl m_s)), (a_m_due, .inl (cI, 8, .inl m_due))])) (va_Qv (fun (_ : Unit) => True) (postW (dC, dI) (tyL cI cB cZ) (va_A [(a_m, .inr (7, [.int m_thrown, .long m_trace, .ref a_m_text, .int m_typed, .int m_next, .int m_token, .int m_place, .int m_value, .int m_fault, .ref a_m_lifts, .ref a_m_price, .ref a_m_stood, .ref a_m_hands, .ref a_m_wanted, .int m_rooms, .int m_people, .int m_things, .int m_draftRooms, .int m_draftPeople, .int m_draftThings, .ref a_m_s, .ref a_m_kept, .ref a_m_isKept, .ref a_m_due, .int m_dueMany, .ref a_m_cost, .ref a_m_then, .ref a_m_by])), (a_m_hands, .inl (cI, 16, .inl m_hands)), (a_m_wanted, .inl (cI, 16, .inl m_wanted)), (a_m_s, .inl (cI, 21, .inl m_s)), (a_m_due, .inl (cI, 8, .inl m_due))] sz) [(a_m, .inr (7, [.int m_thrown, .long m_trace, .ref a_m_text, .int m_typed, .int m_next, .int m_token, .int m_place, .int m_value, .int m_fault, .ref a_m_lifts, .ref a_m_price, .ref a_m_stood, .ref a_m_hands, .ref a_m_wanted, .int m_rooms, .int m_people, .int m_things, .int m_draftRooms, .int m_draftPeople, .int m_draftThings, .ref a_m_s, .ref a_m_kept, .ref a_m_isKept, .ref a_m_due, .int q0, .ref a_m_cost, .ref a_m_then, .ref a_m_by])), (a_m_hands, .inl (cI, 16, .inl m_hands)), (a_m_wanted, .inl (cI, 16, .inl m_wanted)), (a_m_s, .inl (cI, 21, .inl m_s)), (a_m_due, .inl (cI, 8, .inl q1))]) (va_A [(a_m, .inr (7, [.int m_thrown, .long m_trace, .ref a_m_text, .int m_typed, .int m_next, .int m_token, .int m_place, .int m_value, .int m_fault, .ref a_m_lifts, .ref a_m_price, .ref a_m_stood, .ref a_m_hands, .ref a_m_wanted, .int m_rooms, .int m_people, .int m_things, .int m_draftRooms, .int m_draftPeople, .int m_draftThings, .ref a_m_s, .ref a_m_kept, .ref a_m_isKept, .ref a_m_due, .int m_dueMany, .ref a_m_cost, .ref a_m_then, .ref a_m_by])), (a_m_hands, .inl (cI, 16, .inl m_hands)), (a_m_wanted, .inl (cI, 16, .inl m_wanted)), (a_m_s, .inl (cI, 21, .inl m_s)), (a_m_due, .inl (cI, 8, .inl m_due))] sz)) 0 0 (va_A [(a_m, .inr (7, [.int m_thrown, .long m_trace, .ref a_m_text, .int m_typed, .int m_next, .int m_token, .int m_place, .int m_value, .int m_fault, .ref a_m_lifts, .ref a_m_price, .ref a_m_stood, .ref a_m_hands, .ref a_m_wanted, .int m_rooms, .int m_people, .int m_things, .int m_draftRooms, .int m_draftPeople, .int m_draftThings, .ref a_m_s, .ref a_m_kept, .ref a_m_isKept, .ref a_m_due, .int m_dueMany, .ref a_m_cost, .ref a_m_then, .ref a_m_by])), (a_m_hands, .inl (cI, 16, .inl m_hands)), (a_m_wanted, .inl (cI, 16, .inl m_wanted)), (a_m_s, .inl (cI, 21, .inl m_s)), (a_m_due, .inl (cI, 8, .inl m_due))] sz) := by
  refine met_v (cc := cX7_gathersDue) (maxL := 2) (own := RX7) (by decide) rfl (Nat.le_of_ble_eq_true rfl) rfl (fun p e s m args below meth c Q A E hret ls H locs hl hw => ?_)
  obtain ⟨⟨hx, hb, hml, hown, hts⟩, hK, hN, hA, hX⟩ := id E
  have hl : lv_has ls 2 [(0, .ref a_m)] := hl
  have iX7 : ∀ w ∈ wsX70, w ∈ wsX7_gathersDue := by decide +kernel
  have kf179 := hts (.fieldLink RX7 179 "FiveThingsModel" "dueMany" "I") (by decide +kernel)
  have kf133 := hts (.fieldLink RX7 133 "FiveThingsModel" "things" "I") (by decide +kernel)
  have kf38 := hts (.fieldLink RX7 38 "FiveThingsModel" "due" "[I") (by decide +kernel)
  unfold f_X7_gathersDue at hf
  refine lv_aload_n hx hb dX7_gathersDue_0 rfl (lv_at hl 0 rfl) ?_
  refine lv_iconst (v := (0 : Int32)) hx hb dX7_gathersDue_1 rfl ?_
  refine r_put E hw iX7 tyX7_ok nmX7 0 24 rfl rfl (by decide) kf179 rfl rfl rfl rfl (Nat.le_of_ble_eq_true rfl) [(a_m, .inr (7, [.int m_thrown, .long m_trace, .ref a_m_text, .int m_typed, .int m_next, .int m_token, .int m_place, .int m_value, .int m_fault, .ref a_m_lifts, .ref a_m_price, .ref a_m_stood, .ref a_m_hands, .ref a_m_wanted, .int m_rooms, .int m_people, .int m_things, .int m_draftRooms, .int m_draftPeople, .int m_draftThings, .ref a_m_s, .ref a_m_kept, .ref a_m_isKept, .ref a_m_due, .int (0 : Int32), .ref a_m_cost, .ref a_m_then, .ref a_m_by])), (a_m_hands, .inl (cI, 16, .inl m_hands)), (a_m_wanted, .inl (cI, 16, .inl m_wanted)), (a_m_s, .inl (cI, 21, .inl m_s)), (a_m_due, .inl (cI, 8, .inl m_due))] rfl dX7_gathersDue_2 (fun H locs hw => ?_)
  refine lv_iconst (v := (0 : Int32)) hx hb dX7_gathersDue_5 rfl ?_
  refine lv_istore_n (lv' := [(1, .int (0 : Int32)), (0, .ref a_m)]) hx hb dX7_gathersDue_6 rfl hl (by decide) rfl (fun ls hl => ?_)
  refine (loop3_sound (r := (q0, q1)) (P := fun (x8 : Int32) (x9 : Int32) (x10 : Nat → Int32) => ∀ (ls : Array Slot) (H : Heap) (locs : List Loc), lv_has ls 2 [(1, .int x8), (0, .ref a_m)] → Wd A s.heap (dC, dI) [(a_m, .inr (7, [.int m_thrown, .long m_trace, .ref a_m_text, .int m_typed, .int m_next, .int m_token, .int m_place, .int m_value, .int m_fault, .ref a_m_lifts, .ref a_m_price, .ref a_m_stood, .ref a_m_hands, .ref a_m_wanted, .int m_rooms, .int m_people, .int m_things, .int m_draftRooms, .int m_draftPeople, .int m_draftThings, .ref a_m_s, .ref a_m_kept, .ref a_m_isKept, .ref a_m_due, .int x9, .ref a_m_cost, .ref a_m_then, .ref a_m_by])), (a_m_hands, .inl (cI, 16, .inl m_hands)), (a_m_wanted, .inl (cI, 16, .inl m_wanted)), (a_m_s, .inl (cI, 21, .inl m_s)), (a_m_due, .inl (cI, 8, .inl x10))] H locs → W p l e ({ frames := 2, cells := 0, slots := 0, locals := 45 } : Jvm.Room) s m args below meth c H locs 0 0 Q (F0 m 7 ls [])) (fun B7 x8 x9 x10 ih7 hf => ?_) _ (0 : Int32) (0 : Int32) m_due hf) ls H locs (lv_sub hl [0, 1] rfl) hw
  intro ls H locs hl hw
  refine lv_iload_n hx hb dX7_gathersDue_7 rfl (lv_at hl 0 rfl) ?_
  refine lv_aload_n hx hb dX7_gathersDue_8 rfl (lv_at hl 1 rfl) ?_
  refine r_get E hw iX7 0 16 rfl rfl (by decide) kf133 rfl rfl dX7_gathersDue_9 ?_
  refine lv_icmp_ge (tgt := 61) hx hb dX7_gathersDue_12 (by decide) (fun kc => ?_) (fun kc => ?_)
  · have hf := if_t hf kc
    obtain ⟨rfl, rfl⟩ := sm2 hf
    exact hret H locs ls 61 hw dX7_gathersDue_61
  · have hf := if_f hf kc
    refine lv_aload_n hx hb dX7_gathersDue_15 rfl (lv_at hl 1 rfl) ?_
    refine lv_iload_n hx hb dX7_gathersDue_16 rfl (lv_at hl 0 rfl) ?_
    obtain ⟨r11, hu12, hf⟩ := bd1_some hf
    refine cl_i (wr := [(a_m_hands, .inl (cI, 16, .inl m_hands)), (a_m_wanted, .inl (cI, 16, .inl m_wanted)), (a_m_due, .inl (cI, 8, .inl x10))]) (w2 := [(a_m, .inr (7, [.int m_thrown, .long m_trace, .ref a_m_text, .int m_typed, .int m_next, .int m_token, .int m_place, .int m_value, .int m_fault, .ref a_m_lifts, .ref a_m_price, .ref a_m_stood, .ref a_m_hands, .ref a_m_wanted, .int m_rooms, .int m_people, .int m_things, .int m_draftRooms, .int m_draftPeople, .int m_draftThings, .ref a_m_s, .ref a_m_kept, .ref a_m_isKept, .ref a_m_due, .int x9, .ref a_m_cost, .ref a_m_then, .ref a_m_by])), (a_m_hands, .inl (cI, 16, .inl m_hands)), (a_m_wanted, .inl (cI, 16, .inl m_wanted)), (a_m_s, .inl (cI, 21, .inl m_s)), (a_m_due, .inl (cI, 8, .inl x10))]) E hw [0, 3] [1, 2, 4] [3, 0, 1, 4, 2] (va_runV (As := [.int x8]) (rest := []) E.1 (c_X7_isJob l dC dI cI cB cZ aK aV a_m a_m_text a_m_lifts a_m_price a_m_stood a_m_hands a_m_wanted a_m_s a_m_kept a_m_isKept a_m_due a_m_cost a_m_then a_m_by H.size m_thrown m_trace m_typed m_next m_token m_place m_value m_fault m_rooms m_people m_things m_draftRooms m_draftPeople m_draftThings x9 m_s x8 r11 hu12) (cwV 1 hts gX7_gathersDue_X7_isJob rfl rfl rfl hd_X7_isJob ⟨Nat.le_of_ble_eq_true rfl, Nat.le_of_ble_eq_true rfl⟩) (pre_V E hw [0, 3] rfl rfl rfl rfl) rfl rfl hl.1 rfl (lv_room (Nat.le_of_ble_eq_true rfl)) dX7_gathersDue_17 ⟨Nat.zero_le _, Nat.zero_le _⟩) rfl rfl rfl (by decide) rfl rfl (fun H locs hw => ?_)
    refine lv_if_eq (tgt := 55) hx hb dX7_gathersDue_20 (by decide) (fun kc => ?_) (fun kc => ?_)
    · have hf := if_t hf kc
      refine lv_iinc (v := (x8 + (1 : Int32))) (lv' := [(1, .int (x8 + (1 : Int32))), (0, .ref a_m)]) hx hb dX7_gathersDue_55 hl (k := 0) rfl rfl (by decide) rfl (fun ls hl => ?_)
      refine lv_goto (tgt := 7) hx hb dX7_gathersDue_58 (by decide) ?_
      exact ih7 (x8 + (1 : Int32)) x9 x10 hf ls H locs (lv_sub hl [0, 1] rfl) hw
    · have hf := if_f hf kc
      refine lv_aload_n hx hb dX7_gathersDue_23 rfl (lv_at hl 1 rfl) ?_
      refine lv_iload_n hx hb dX7_gathersDue_24 rfl (lv_at hl 0 rfl) ?_
      obtain ⟨r13, hu14, hf⟩ := bd1_some hf
      refine cl_i (wr := [(a_m_hands, .inl (cI, 16, .inl m_hands)), (a_m_due, .inl (cI, 8, .inl x10))]) (w2 := [(a_m, .inr (7, [.int m_thrown, .long m_trace, .ref a_m_text, .int m_typed, .int m_next, .int m_token, .int m_place, .int m_value, .int m_fault, .ref a_m_lifts, .ref a_m_price, .ref a_m_stood, .ref a_m_hands, .ref a_m_wanted, .int m_rooms, .int m_people, .int m_things, .int m_draftRooms, .int m_draftPeople, .int m_draftThings, .ref a_m_s, .ref a_m_kept, .ref a_m_isKept, .ref a_m_due, .int x9, .ref a_m_cost, .ref a_m_then, .ref a_m_by])), (a_m_hands, .inl (cI, 16, .inl m_hands)), (a_m_wanted, .inl (cI, 16, .inl m_wanted)), (a_m_s, .inl (cI, 21, .inl m_s)), (a_m_due, .inl (cI, 8, .inl x10))]) E hw [0, 2, 3] [1, 4] [2, 0, 3, 4, 1] (va_runV (As := [.int x8]) (rest := []) E.1 (c_X7_isDue l dC dI cI cB cZ aK aV a_m a_m_text a_m_lifts a_m_price a_m_stood a_m_hands a_m_wanted a_m_s a_m_kept a_m_isKept a_m_due a_m_cost a_m_then a_m_by H.size m_thrown m_trace m_typed m_next m_token m_place m_value m_fault m_rooms m_people m_things m_draftRooms m_draftPeople m_draftThings x9 m_wanted m_s x8 r13 hu14) (cwV 1 hts gX7_gathersDue_X7_isDue rfl rfl rfl hd_X7_isDue ⟨Nat.le_of_ble_eq_true rfl, Nat.le_of_ble_eq_true rfl⟩) (pre_V E hw [0, 2, 3] rfl rfl rfl rfl) rfl rfl hl.1 rfl (lv_room (Nat.le_of_ble_eq_true rfl)) dX7_gathersDue_25 ⟨Nat.zero_le _, Nat.zero_le _⟩) rfl rfl rfl (by decide) rfl rfl (fun H locs hw => ?_)
      refine lv_if_eq (tgt := 55) hx hb dX7_gathersDue_28 (by decide) (fun kc => ?_) (fun kc => ?_)
      · have hf := if_t hf kc
        refine lv_iinc (v := (x8 + (1 : Int32))) (lv' := [(1, .int (x8 + (1 : Int32))), (0, .ref a_m)]) hx hb dX7_gathersDue_55 hl (k := 0) rfl rfl (by decide) rfl (fun ls hl => ?_)
        refine lv_goto (tgt := 7) hx hb dX7_gathersDue_58 (by decide) ?_
        exact ih7 (x8 + (1 : Int32)) x9 x10 hf ls H locs (lv_sub hl [0, 1] rfl) hw
      · have hf := if_f hf kc
        refine lv_aload_n hx hb dX7_gathersDue_31 rfl (lv_at hl 1 rfl) ?_
        refine r_get E hw iX7 0 23 rfl rfl (by decide) kf38 rfl rfl dX7_gathersDue_32 ?_
        refine lv_aload_n hx hb dX7_gathersDue_35 rfl (lv_at hl 1 rfl) ?_
        refine r_get E hw iX7 0 24 rfl rfl (by decide) kf179 rfl rfl dX7_gathersDue_36 ?_
        refine lv_aload_n hx hb dX7_gathersDue_39 rfl (lv_at hl 1 rfl) ?_
        refine lv_iload_n hx hb dX7_gathersDue_40 rfl (lv_at hl 0 rfl) ?_
        obtain ⟨r15, hu16, hf⟩ := bd1_some hf
        refine cl_i (wr := [(a_m_wanted, .inl (cI, 16, .inl m_wanted)), (a_m_due, .inl (cI, 8, .inl x10))]) (w2 := [(a_m, .inr (7, [.int m_thrown, .long m_trace, .ref a_m_text, .int m_typed, .int m_next, .int m_token, .int m_place, .int m_value, .int m_fault, .ref a_m_lifts, .ref a_m_price, .ref a_m_stood, .ref a_m_hands, .ref a_m_wanted, .int m_rooms, .int m_people, .int m_things, .int m_draftRooms, .int m_draftPeople, .int m_draftThings, .ref a_m_s, .ref a_m_kept, .ref a_m_isKept, .ref a_m_due, .int x9, .ref a_m_cost, .ref a_m_then, .ref a_m_by])), (a_m_hands, .inl (cI, 16, .inl m_hands)), (a_m_wanted, .inl (cI, 16, .inl m_wanted)), (a_m_s, .inl (cI, 21, .inl m_s)), (a_m_due, .inl (cI, 8, .inl x10))]) E hw [0, 1, 3] [2, 4] [2, 3, 0, 4, 1] (va_runV (As := [.int x8]) (rest := [.int x9, .ref a_m_due]) E.1 (c_X7_handsOf l dC dI cI cB cZ aK aV a_m a_m_text a_m_lifts a_m_price a_m_stood a_m_hands a_m_wanted a_m_s a_m_kept a_m_isKept a_m_due a_m_cost a_m_then a_m_by H.size m_thrown m_trace m_typed m_next m_token m_place m_value m_fault m_rooms m_people m_things m_draftRooms m_draftPeople m_draftThings x9 m_hands m_s x8 r15 hu16) (cwV 1 hts gX7_gathersDue_X7_handsOf rfl rfl rfl hd_X7_handsOf ⟨Nat.le_of_ble_eq_true rfl, Nat.le_of_ble_eq_true rfl⟩) (pre_V E hw [0, 1, 3] rfl rfl rfl rfl) rfl rfl hl.1 rfl (lv_room (Nat.le_of_ble_eq_true rfl)) dX7_gathersDue_41 ⟨Nat.zero_le _, Nat.zero_le _⟩) rfl rfl rfl (by decide) rfl rfl (fun H locs hw => ?_)
        obtain ⟨g17, hf⟩ := gd_some hf
        refine r_iast E hw 4 rfl g17 [(a_m, .inr (7, [.int m_thrown, .long m_trace, .ref a_m_text, .int m_typed, .int m_next, .int m_token, .int m_place, .int m_value, .int m_fault, .ref a_m_lifts, .ref a_m_price, .ref a_m_stood, .ref a_m_hands, .ref a_m_wanted, .int m_rooms, .int m_people, .int m_things, .int m_draftRooms, .int m_draftPeople, .int m_draftThings, .ref a_m_s, .ref a_m_kept, .ref a_m_isKept, .ref a_m_due, .int x9, .ref a_m_cost, .ref a_m_then, .ref a_m_by])), (a_m_hands, .inl (cI, 16, .inl m_hands)), (a_m_wanted, .inl (cI, 16, .inl m_wanted)), (a_m_s, .inl (cI, 21, .inl m_s)), (a_m_due, .inl (cI, 8, .inl (upd x10 x9.toNatClampNeg r15)))] rfl dX7_gathersDue_44 (fun H locs hw => ?_)
        refine lv_aload_n hx hb dX7_gathersDue_45 rfl (lv_at hl 1 rfl) ?_
        refine lv_dup hx hb dX7_gathersDue_46 rfl ?_
        refine r_get E hw iX7 0 24 rfl rfl (by decide) kf179 rfl rfl dX7_gathersDue_47 ?_
        refine lv_iconst (v := (1 : Int32)) hx hb dX7_gathersDue_50 rfl ?_
        refine lv_iadd hx hb dX7_gathersDue_51 ?_
        refine r_put E hw iX7 tyX7_ok nmX7 0 24 rfl rfl (by decide) kf179 rfl rfl rfl rfl (Nat.le_of_ble_eq_true rfl) [(a_m, .inr (7, [.int m_thrown, .long m_trace, .ref a_m_text, .int m_typed, .int m_next, .int m_token, .int m_place, .int m_value, .int m_fault, .ref a_m_lifts, .ref a_m_price, .ref a_m_stood, .ref a_m_hands, .ref a_m_wanted, .int m_rooms, .int m_people, .int m_things, .int m_draftRooms, .int m_draftPeople, .int m_draftThings, .ref a_m_s, .ref a_m_kept, .ref a_m_isKept, .ref a_m_due, .int (x9 + (1 : Int32)), .ref a_m_cost, .ref a_m_then, .ref a_m_by])), (a_m_hands, .inl (cI, 16, .inl m_hands)), (a_m_wanted, .inl (cI, 16, .inl m_wanted)), (a_m_s, .inl (cI, 21, .inl m_s)), (a_m_due, .inl (cI, 8, .inl (upd x10 x9.toNatClampNeg r15)))] rfl dX7_gathersDue_52 (fun H locs hw => ?_)
        refine lv_iinc (v := (x8 + (1 : Int32))) (lv' := [(1, .int (x8 + (1 : Int32))), (0, .ref a_m)]) hx hb dX7_gathersDue_55 hl (k := 0) rfl rfl (by decide) rfl (fun ls hl => ?_)
        refine lv_goto (tgt := 7) hx hb dX7_gathersDue_58 (by decide) ?_
        exact ih7 (x8 + (1 : Int32)) (x9 + (1 : Int32)) (upd x10 x9.toNatClampNeg r15) hf ls H locs (lv_sub hl [0, 1] rfl) hw
def f_X7_powerOfTen (p0 : Int32) : Option (Int32) :=
  (if p0 = 0 then some ((1 : Int32)) else (if p0 = (1 : Int32) then some ((10 : Int32)) else (if p0 = (2 : Int32) then some ((100 : Int32)) else some ((1000 : Int32)))))
theorem hd_X7_powerOfTen : yX7_powerOfTen.cls ≠ "java/lang/invoke/MethodHandle" ∧ yX7_powerOfTen.cls ≠ "java/lang/invoke/VarHandle" ∧ (parseMethodDescriptor yX7_powerOfTen.desc).map (fun d => d.parameters.length) = some 1 := by decide +kernel
set_option maxHeartbeats 4000000 in
set_option maxRecDepth 100000 in
theorem c_X7_powerOfTen (l : Launch) (dC : Nat → ClassId) (dI : Nat → Nat → Nat) (cI cB cZ : ClassId) (aK aV : Nat → Nat) (sz : Nat) (p0 : Int32) (r : Int32) (hf : f_X7_powerOfTen p0 = some r) : Met l yX7_powerOfTen wsX7_powerOfTen ({ frames := 0, cells := 0, slots := 0, locals := 0 } : Jvm.Room) (va_Pc [.int p0] (preW (dC, dI) (tyL cI cB cZ) aK aV sz [])) (va_Qi (fun v (_ : Unit) => v = r) (postW (dC, dI) (tyL cI cB cZ) (va_A [] sz) []) (va_A [] sz)) 0 0 (va_A [] sz) := by
  refine met_i (cc := cX7_powerOfTen) (maxL := 1) (own := RX7) (by decide) rfl (Nat.le_of_ble_eq_true rfl) rfl (fun p e s m args below meth c Q A E hret ls H locs hl hw => ?_)
  obtain ⟨⟨hx, hb, hml, hown, hts⟩, hK, hN, hA, hX⟩ := id E
  have hl : lv_has ls 1 [(0, .int p0)] := hl
  unfold f_X7_powerOfTen at hf
  refine lv_iload_n hx hb dX7_powerOfTen_0 rfl (lv_at hl 0 rfl) ?_
  refine lv_if_ne (tgt := 8) hx hb dX7_powerOfTen_1 (by decide) (fun kc => ?_) (fun kc => ?_)
  · have hf := if_f hf kc
    refine lv_iload_n hx hb dX7_powerOfTen_8 rfl (lv_at hl 0 rfl) ?_
    refine lv_iconst (v := (1 : Int32)) hx hb dX7_powerOfTen_9 rfl ?_
    refine lv_icmp_ne (tgt := 18) hx hb dX7_powerOfTen_10 (by decide) (fun kc => ?_) (fun kc => ?_)
    · have hf := if_f hf kc
      refine lv_iload_n hx hb dX7_powerOfTen_18 rfl (lv_at hl 0 rfl) ?_
      refine lv_iconst (v := (2 : Int32)) hx hb dX7_powerOfTen_19 rfl ?_
      refine lv_icmp_ne (tgt := 28) hx hb dX7_powerOfTen_20 (by decide) (fun kc => ?_) (fun kc => ?_)
      · have hf := if_f hf kc
        refine lv_sipush (v := (1000 : Int32)) hx hb dX7_powerOfTen_28 rfl ?_
        obtain rfl := sm1 hf
        exact hret H locs ls 31 hw dX7_powerOfTen_31
      · have hf := if_t hf kc
        refine lv_bipush (v := (100 : Int32)) hx hb dX7_powerOfTen_23 rfl ?_
        refine lv_goto (tgt := 31) hx hb dX7_powerOfTen_25 (by decide) ?_
        obtain rfl := sm1 hf
        exact hret H locs ls 31 hw dX7_powerOfTen_31
    · have hf := if_t hf kc
      refine lv_bipush (v := (10 : Int32)) hx hb dX7_powerOfTen_13 rfl ?_
      refine lv_goto (tgt := 31) hx hb dX7_powerOfTen_15 (by decide) ?_
      obtain rfl := sm1 hf
      exact hret H locs ls 31 hw dX7_powerOfTen_31
  · have hf := if_t hf kc
    refine lv_iconst (v := (1 : Int32)) hx hb dX7_powerOfTen_4 rfl ?_
    refine lv_goto (tgt := 31) hx hb dX7_powerOfTen_5 (by decide) ?_
    obtain rfl := sm1 hf
    exact hret H locs ls 31 hw dX7_powerOfTen_31
def f_X7_liftsAll (p1 : Int32) (m_people : Int32) (m_price : Nat → Int32) (m_s : Nat → Int32) (m_cost : Nat → Int32) (m_then : Nat → Int32) : Option ((Nat → Int32)) :=
  jn (fun (x3 : Int32) => loop3 (fun B30 (x62 : Int32) (x63 : Int32) (x64 : Int32) => (if m_people ≤ x64 then loop2 (fun B96 (x91 : Int32) (x92 : Nat → Int32) => (if x3 ≤ x91 then some (x92) else gd (inb x91 10000) (jn (fun (x94 : Int32) => loop2 (fun B124 (x106 : Int32) (x107 : Int32) => jn ((if x106 = 0 then B96 (x91 + (1 : Int32)) x92 else gd (inb x91 10000) (gd (inb (x91 + x62) 10000) (jn (fun (x117 : Int32) => gd (inb (x91 + x62) 10000) (B96 (x91 + (1 : Int32)) (upd x92 (x91 + x62).toNatClampNeg x117))) (fun J249 => jn (J249 ((m_cost x91.toNatClampNeg) + x63)) (fun J235 => (if (x92 (x91 + x62).toNatClampNeg) = (-9 : Int32) then J235 else gd (inb (x91 + x62) 10000) ((if (x92 (x91 + x62).toNatClampNeg) ≤ ((m_cost x91.toNatClampNeg) + x63) then gd (inb (x91 + x62) 10000) (J249 (x92 (x91 + x62).toNatClampNeg)) else J235))))))))) (fun J182 => (if m_people ≤ x107 then J182 else (if x106 = 0 then J182 else bd1 (f_X7_powerOfTen x107) (fun r108 => gd (decide (¬ r108 = 0)) (gd (decide (¬ (10 : Int32) = 0)) (gd (inb ((16 : Int32) + x107) 21) ((if (m_s ((16 : Int32) + x107).toNatClampNeg) < (((x91 / r108) - (x91 / r108) / (10 : Int32) * (10 : Int32)) + ((p1 >>> (x107 &&& 31)) &&& (1 : Int32))) then B124 (0 : Int32) (x107 + (1 : Int32)) else B124 (1 : Int32) (x107 + (1 : Int32))))))))))) FU x94 (0 : Int32)) (fun J119 => (if (m_cost x91.toNatClampNeg) = (-9 : Int32) then J119 (0 : Int32) else J119 (1 : Int32)))))) FU (0 : Int32) m_then else jn (fun (x121 : Int32) => (if ((p1 >>> (x64 &&& 31)) &&& (1 : Int32)) = (1 : Int32) then gd (inb x64 8) (B30 (x62 + x121) (x63 + (m_price x64.toNatClampNeg)) (x64 + (1 : Int32))) else B30 (x62 + x121) (x63 + (0 : Int32)) (x64 + (1 : Int32)))) (fun J59 => (if ((p1 >>> (x64 &&& 31)) &&& (1 : Int32)) = (1 : Int32) then bd1 (f_X7_powerOfTen x64) (fun r119 => J59 r119) else J59 (0 : Int32))))) FU (0 : Int32) (0 : Int32) (0 : Int32)) (fun J21 => (if m_people = (4 : Int32) then J21 (10000 : Int32) else bd1 (f_X7_powerOfTen m_people) (fun r1 => J21 r1)))
theorem hd_X7_liftsAll : yX7_liftsAll.cls = RX7 ∧ yX7_liftsAll.cls ≠ "java/lang/invoke/MethodHandle" ∧ yX7_liftsAll.cls ≠ "java/lang/invoke/VarHandle" ∧ (parseMethodDescriptor yX7_liftsAll.desc).map (fun d => d.parameters.length) = some 1 := by decide +kernel
set_option maxHeartbeats 4000000 in
set_option maxRecDepth 100000 in
theorem c_X7_liftsAll (l : Launch) (dC : Nat → ClassId) (dI : Nat → Nat → Nat) (cI cB cZ : ClassId) (aK aV : Nat → Nat) (a_m a_m_text a_m_lifts a_m_price a_m_stood a_m_hands a_m_wanted a_m_s a_m_kept a_m_isKept a_m_due a_m_cost a_m_then a_m_by : Nat) (sz : Nat) (m_thrown : Int32) (m_trace : Int64) (m_typed : Int32) (m_next : Int32) (m_token : Int32) (m_place : Int32) (m_value : Int32) (m_fault : Int32) (m_rooms : Int32) (m_people : Int32) (m_things : Int32) (m_draftRooms : Int32) (m_draftPeople : Int32) (m_draftThings : Int32) (m_dueMany : Int32) (m_price : Nat → Int32) (m_s : Nat → Int32) (m_cost : Nat → Int32) (m_then : Nat → Int32) (p1 : Int32) (q0 : Nat → Int32) (hf : f_X7_liftsAll p1 m_people m_price m_s m_cost m_then = some q0) : Met l yX7_liftsAll wsX7_liftsAll ({ frames := 1, cells := 0, slots := 0, locals := 20 } : Jvm.Room) (va_Pc [.ref a_m, .int p1] (preW (dC, dI) (tyL cI cB cZ) aK aV sz [(a_m, .inr (7, [.int m_thrown, .long m_trace, .ref a_m_text, .int m_typed, .int m_next, .int m_token, .int m_place, .int m_value, .int m_fault, .ref a_m_lifts, .ref a_m_price, .ref a_m_stood, .ref a_m_hands, .ref a_m_wanted, .int m_rooms, .int m_people, .int m_things, .int m_draftRooms, .int m_draftPeople, .int m_draftThings, .ref a_m_s, .ref a_m_kept, .ref a_m_isKept, .ref a_m_due, .int m_dueMany, .ref a_m_cost, .ref a_m_then, .ref a_m_by])), (a_m_price, .inl (cI, 8, .inl m_price)), (a_m_s, .inl (cI, 21, .inl m_s)), (a_m_cost, .inl (cI, 10000, .inl m_cost)), (a_m_then, .inl (cI, 10000, .inl m_then))])) (va_Qv (fun (_ : Unit) => True) (postW (dC, dI) (tyL cI cB cZ) (va_A [(a_m, .inr (7, [.int m_thrown, .long m_trace, .ref a_m_text, .int m_typed, .int m_next, .int m_token, .int m_place, .int m_value, .int m_fault, .ref a_m_lifts, .ref a_m_price, .ref a_m_stood, .ref a_m_hands, .ref a_m_wanted, .int m_rooms, .int m_people, .int m_things, .int m_draftRooms, .int m_draftPeople, .int m_draftThings, .ref a_m_s, .ref a_m_kept, .ref a_m_isKept, .ref a_m_due, .int m_dueMany, .ref a_m_cost, .ref a_m_then, .ref a_m_by])), (a_m_price, .inl (cI, 8, .inl m_price)), (a_m_s, .inl (cI, 21, .inl m_s)), (a_m_cost, .inl (cI, 10000, .inl m_cost)), (a_m_then, .inl (cI, 10000, .inl m_then))] sz) [(a_m, .inr (7, [.int m_thrown, .long m_trace, .ref a_m_text, .int m_typed, .int m_next, .int m_token, .int m_place, .int m_value, .int m_fault, .ref a_m_lifts, .ref a_m_price, .ref a_m_stood, .ref a_m_hands, .ref a_m_wanted, .int m_rooms, .int m_people, .int m_things, .int m_draftRooms, .int m_draftPeople, .int m_draftThings, .ref a_m_s, .ref a_m_kept, .ref a_m_isKept, .ref a_m_due, .int m_dueMany, .ref a_m_cost, .ref a_m_then, .ref a_m_by])), (a_m_price, .inl (cI, 8, .inl m_price)), (a_m_s, .inl (cI, 21, .inl m_s)), (a_m_cost, .inl (cI, 10000, .inl m_cost)), (a_m_then, .inl (cI, 10000, .inl q0))]) (va_A [(a_m, .inr (7, [.int m_thrown, .long m_trace, .ref a_m_text, .int m_typed, .int m_next, .int m_token, .int m_place, .int m_value, .int m_fault, .ref a_m_lifts, .ref a_m_price, .ref a_m_stood, .ref a_m_hands, .ref a_m_wanted, .int m_rooms, .int m_people, .int m_things, .int m_draftRooms, .int m_draftPeople, .int m_draftThings, .ref a_m_s, .ref a_m_kept, .ref a_m_isKept, .ref a_m_due, .int m_dueMany, .ref a_m_cost, .ref a_m_then, .ref a_m_by])), (a_m_price, .inl (cI, 8, .inl m_price)), (a_m_s, .inl (cI, 21, .inl m_s)), (a_m_cost, .inl (cI, 10000, .inl m_cost)), (a_m_then, .inl (cI, 10000, .inl m_then))] sz)) 0 0 (va_A [(a_m, .inr (7, [.int m_thrown, .long m_trace, .ref a_m_text, .int m_typed, .int m_next, .int m_token, .int m_place, .int m_value, .int m_fault, .ref a_m_lifts, .ref a_m_price, .ref a_m_stood, .ref a_m_hands, .ref a_m_wanted, .int m_rooms, .int m_people, .int m_things, .int m_draftRooms, .int m_draftPeople, .int m_draftThings, .ref a_m_s, .ref a_m_kept, .ref a_m_isKept, .ref a_m_due, .int m_dueMany, .ref a_m_cost, .ref a_m_then, .ref a_m_by])), (a_m_price, .inl (cI, 8, .inl m_price)), (a_m_s, .inl (cI, 21, .inl m_s)), (a_m_cost, .inl (cI, 10000, .inl m_cost)), (a_m_then, .inl (cI, 10000, .inl m_then))] sz) := by
  refine met_v (cc := cX7_liftsAll) (maxL := 8) (own := RX7) (by decide) rfl (Nat.le_of_ble_eq_true rfl) rfl (fun p e s m args below meth c Q A E hret ls H locs hl hw => ?_)
  obtain ⟨⟨hx, hb, hml, hown, hts⟩, hK, hN, hA, hX⟩ := id E
  have hl : lv_has ls 8 [(0, .ref a_m), (1, .int p1)] := hl
  have iX7 : ∀ w ∈ wsX70, w ∈ wsX7_liftsAll := by decide +kernel
  have kf130 := hts (.fieldLink RX7 130 "FiveThingsModel" "people" "I") (by decide +kernel)
  have kf41 := hts (.fieldLink RX7 41 "FiveThingsModel" "cost" "[I") (by decide +kernel)
  have kf28 := hts (.fieldLink RX7 28 "FiveThingsModel" "s" "[I") (by decide +kernel)
  have kf44 := hts (.fieldLink RX7 44 "FiveThingsModel" "then" "[I") (by decide +kernel)
  have kf16 := hts (.fieldLink RX7 16 "FiveThingsModel" "price" "[I") (by decide +kernel)
  unfold f_X7_liftsAll at hf
  refine lv_aload_n hx hb dX7_liftsAll_0 rfl (lv_at hl 0 rfl) ?_
  refine r_get E hw iX7 0 15 rfl rfl (by decide) kf130 rfl rfl dX7_liftsAll_1 ?_
  refine lv_iconst (v := (4 : Int32)) hx hb dX7_liftsAll_4 rfl ?_
  refine jn_sound (P := fun J => ∀ (x3 : Int32) (ls : Array Slot) (H : Heap) (locs : List Loc), J x3 = some q0 → lv_has ls 8 [(0, .ref a_m), (1, .int p1)] → Wd A s.heap (dC, dI) [(a_m, .inr (7, [.int m_thrown, .long m_trace, .ref a_m_text, .int m_typed, .int m_next, .int m_token, .int m_place, .int m_value, .int m_fault, .ref a_m_lifts, .ref a_m_price, .ref a_m_stood, .ref a_m_hands, .ref a_m_wanted, .int m_rooms, .int m_people, .int m_things, .int m_draftRooms, .int m_draftPeople, .int m_draftThings, .ref a_m_s, .ref a_m_kept, .ref a_m_isKept, .ref a_m_due, .int m_dueMany, .ref a_m_cost, .ref a_m_then, .ref a_m_by])), (a_m_price, .inl (cI, 8, .inl m_price)), (a_m_s, .inl (cI, 21, .inl m_s)), (a_m_cost, .inl (cI, 10000, .inl m_cost)), (a_m_then, .inl (cI, 10000, .inl m_then))] H locs → W p l e ({ frames := 1, cells := 0, slots := 0, locals := 20 } : Jvm.Room) s m args below meth c H locs 0 0 Q (F0 m 21 ls [.int x3])) hf ?_ ?_
  · intro x3 ls H locs hf hl hw
    refine lv_istore_n (lv' := [(2, .int x3), (0, .ref a_m), (1, .int p1)]) hx hb dX7_liftsAll_21 rfl hl (by decide) rfl (fun ls hl => ?_)
    refine lv_iconst (v := (0 : Int32)) hx hb dX7_liftsAll_22 rfl ?_
    refine lv_istore_n (lv' := [(3, .int (0 : Int32)), (2, .int x3), (0, .ref a_m), (1, .int p1)]) hx hb dX7_liftsAll_23 rfl hl (by decide) rfl (fun ls hl => ?_)
    refine lv_iconst (v := (0 : Int32)) hx hb dX7_liftsAll_24 rfl ?_
    refine lv_istore (lv' := [(4, .int (0 : Int32)), (3, .int (0 : Int32)), (2, .int x3), (0, .ref a_m), (1, .int p1)]) hx hb dX7_liftsAll_25 hl (by decide) rfl (fun ls hl => ?_)
    refine lv_iconst (v := (0 : Int32)) hx hb dX7_liftsAll_27 rfl ?_
    refine lv_istore (lv' := [(5, .int (0 : Int32)), (4, .int (0 : Int32)), (3, .int (0 : Int32)), (2, .int x3), (0, .ref a_m), (1, .int p1)]) hx hb dX7_liftsAll_28 hl (by decide) rfl (fun ls hl => ?_)
    refine (loop3_sound (r := q0) (P := fun (x62 : Int32) (x63 : Int32) (x64 : Int32) => ∀ (ls : Array Slot) (H : Heap) (locs : List Loc), lv_has ls 8 [(5, .int x64), (4, .int x63), (3, .int x62), (2, .int x3), (0, .ref a_m), (1, .int p1)] → Wd A s.heap (dC, dI) [(a_m, .inr (7, [.int m_thrown, .long m_trace, .ref a_m_text, .int m_typed, .int m_next, .int m_token, .int m_place, .int m_value, .int m_fault, .ref a_m_lifts, .ref a_m_price, .ref a_m_stood, .ref a_m_hands, .ref a_m_wanted, .int m_rooms, .int m_people, .int m_things, .int m_draftRooms, .int m_draftPeople, .int m_draftThings, .ref a_m_s, .ref a_m_kept, .ref a_m_isKept, .ref a_m_due, .int m_dueMany, .ref a_m_cost, .ref a_m_then, .ref a_m_by])), (a_m_price, .inl (cI, 8, .inl m_price)), (a_m_s, .inl (cI, 21, .inl m_s)), (a_m_cost, .inl (cI, 10000, .inl m_cost)), (a_m_then, .inl (cI, 10000, .inl m_then))] H locs → W p l e ({ frames := 1, cells := 0, slots := 0, locals := 20 } : Jvm.Room) s m args below meth c H locs 0 0 Q (F0 m 30 ls [])) (fun B30 x62 x63 x64 ih30 hf => ?_) _ (0 : Int32) (0 : Int32) (0 : Int32) hf) ls H locs (lv_sub hl [0, 1, 2, 3, 4, 5] rfl) hw
    intro ls H locs hl hw
    refine lv_iload hx hb dX7_liftsAll_30 (lv_at hl 0 rfl) ?_
    refine lv_aload_n hx hb dX7_liftsAll_32 rfl (lv_at hl 4 rfl) ?_
    refine r_get E hw iX7 0 15 rfl rfl (by decide) kf130 rfl rfl dX7_liftsAll_33 ?_
    refine lv_icmp_ge (tgt := 93) hx hb dX7_liftsAll_36 (by decide) (fun kc => ?_) (fun kc => ?_)
    · have hf := if_t hf kc
      refine lv_iconst (v := (0 : Int32)) hx hb dX7_liftsAll_93 rfl ?_
      refine lv_istore (lv' := [(5, .int (0 : Int32)), (4, .int x63), (3, .int x62), (2, .int x3), (0, .ref a_m), (1, .int p1)]) hx hb dX7_liftsAll_94 hl (by decide) rfl (fun ls hl => ?_)
      refine (loop2_sound (r := q0) (P := fun (x91 : Int32) (x92 : Nat → Int32) => ∀ (ls : Array Slot) (H : Heap) (locs : List Loc), lv_has ls 8 [(5, .int x91), (4, .int x63), (3, .int x62), (2, .int x3), (0, .ref a_m), (1, .int p1)] → Wd A s.heap (dC, dI) [(a_m, .inr (7, [.int m_thrown, .long m_trace, .ref a_m_text, .int m_typed, .int m_next, .int m_token, .int m_place, .int m_value, .int m_fault, .ref a_m_lifts, .ref a_m_price, .ref a_m_stood, .ref a_m_hands, .ref a_m_wanted, .int m_rooms, .int m_people, .int m_things, .int m_draftRooms, .int m_draftPeople, .int m_draftThings, .ref a_m_s, .ref a_m_kept, .ref a_m_isKept, .ref a_m_due, .int m_dueMany, .ref a_m_cost, .ref a_m_then, .ref a_m_by])), (a_m_price, .inl (cI, 8, .inl m_price)), (a_m_s, .inl (cI, 21, .inl m_s)), (a_m_cost, .inl (cI, 10000, .inl m_cost)), (a_m_then, .inl (cI, 10000, .inl x92))] H locs → W p l e ({ frames := 1, cells := 0, slots := 0, locals := 20 } : Jvm.Room) s m args below meth c H locs 0 0 Q (F0 m 96 ls [])) (fun B96 x91 x92 ih96 hf => ?_) _ (0 : Int32) m_then hf) ls H locs (lv_sub hl [0, 1, 2, 3, 4, 5] rfl) hw
      intro ls H locs hl hw
      refine lv_iload hx hb dX7_liftsAll_96 (lv_at hl 0 rfl) ?_
      refine lv_iload_n hx hb dX7_liftsAll_98 rfl (lv_at hl 3 rfl) ?_
      refine lv_icmp_ge (tgt := 256) hx hb dX7_liftsAll_99 (by decide) (fun kc => ?_) (fun kc => ?_)
      · have hf := if_t hf kc
        obtain rfl := sm1 hf
        exact hret H locs ls 256 hw dX7_liftsAll_256
      · have hf := if_f hf kc
        refine lv_aload_n hx hb dX7_liftsAll_102 rfl (lv_at hl 4 rfl) ?_
        refine r_get E hw iX7 0 25 rfl rfl (by decide) kf41 rfl rfl dX7_liftsAll_103 ?_
        refine lv_iload hx hb dX7_liftsAll_106 (lv_at hl 0 rfl) ?_
        obtain ⟨g93, hf⟩ := gd_some hf
        refine r_iald E hw 3 rfl g93 dX7_liftsAll_108 ?_
        refine lv_bipush (v := (-9 : Int32)) hx hb dX7_liftsAll_109 rfl ?_
        refine jn_sound (P := fun J => ∀ (x94 : Int32) (ls : Array Slot) (H : Heap) (locs : List Loc), J x94 = some q0 → lv_has ls 8 [(0, .ref a_m), (1, .int p1), (2, .int x3), (3, .int x62), (4, .int x63), (5, .int x91)] → Wd A s.heap (dC, dI) [(a_m, .inr (7, [.int m_thrown, .long m_trace, .ref a_m_text, .int m_typed, .int m_next, .int m_token, .int m_place, .int m_value, .int m_fault, .ref a_m_lifts, .ref a_m_price, .ref a_m_stood, .ref a_m_hands, .ref a_m_wanted, .int m_rooms, .int m_people, .int m_things, .int m_draftRooms, .int m_draftPeople, .int m_draftThings, .ref a_m_s, .ref a_m_kept, .ref a_m_isKept, .ref a_m_due, .int m_dueMany, .ref a_m_cost, .ref a_m_then, .ref a_m_by])), (a_m_price, .inl (cI, 8, .inl m_price)), (a_m_s, .inl (cI, 21, .inl m_s)), (a_m_cost, .inl (cI, 10000, .inl m_cost)), (a_m_then, .inl (cI, 10000, .inl x92))] H locs → W p l e ({ frames := 1, cells := 0, slots := 0, locals := 20 } : Jvm.Room) s m args below meth c H locs 0 0 Q (F0 m 119 ls [.int x94])) hf ?_ ?_
        · intro x94 ls H locs hf hl hw
          refine lv_istore (lv' := [(6, .int x94), (0, .ref a_m), (1, .int p1), (2, .int x3), (3, .int x62), (4, .int x63), (5, .int x91)]) hx hb dX7_liftsAll_119 hl (by decide) rfl (fun ls hl => ?_)
          refine lv_iconst (v := (0 : Int32)) hx hb dX7_liftsAll_121 rfl ?_
          refine lv_istore (lv' := [(7, .int (0 : Int32)), (6, .int x94), (0, .ref a_m), (1, .int p1), (2, .int x3), (3, .int x62), (4, .int x63), (5, .int x91)]) hx hb dX7_liftsAll_122 hl (by decide) rfl (fun ls hl => ?_)
          refine (loop2_sound (r := q0) (P := fun (x106 : Int32) (x107 : Int32) => ∀ (ls : Array Slot) (H : Heap) (locs : List Loc), lv_has ls 8 [(7, .int x107), (6, .int x106), (0, .ref a_m), (1, .int p1), (2, .int x3), (3, .int x62), (4, .int x63), (5, .int x91)] → Wd A s.heap (dC, dI) [(a_m, .inr (7, [.int m_thrown, .long m_trace, .ref a_m_text, .int m_typed, .int m_next, .int m_token, .int m_place, .int m_value, .int m_fault, .ref a_m_lifts, .ref a_m_price, .ref a_m_stood, .ref a_m_hands, .ref a_m_wanted, .int m_rooms, .int m_people, .int m_things, .int m_draftRooms, .int m_draftPeople, .int m_draftThings, .ref a_m_s, .ref a_m_kept, .ref a_m_isKept, .ref a_m_due, .int m_dueMany, .ref a_m_cost, .ref a_m_then, .ref a_m_by])), (a_m_price, .inl (cI, 8, .inl m_price)), (a_m_s, .inl (cI, 21, .inl m_s)), (a_m_cost, .inl (cI, 10000, .inl m_cost)), (a_m_then, .inl (cI, 10000, .inl x92))] H locs → W p l e ({ frames := 1, cells := 0, slots := 0, locals := 20 } : Jvm.Room) s m args below meth c H locs 0 0 Q (F0 m 124 ls [])) (fun B124 x106 x107 ih124 hf => ?_) _ x94 (0 : Int32) hf) ls H locs (lv_sub hl [0, 1, 2, 3, 4, 5, 6, 7] rfl) hw
          intro ls H locs hl hw
          refine lv_iload hx hb dX7_liftsAll_124 (lv_at hl 0 rfl) ?_
          refine lv_aload_n hx hb dX7_liftsAll_126 rfl (lv_at hl 2 rfl) ?_
          refine r_get E hw iX7 0 15 rfl rfl (by decide) kf130 rfl rfl dX7_liftsAll_127 ?_
          refine jn_sound (P := fun J => ∀ (ls : Array Slot) (H : Heap) (locs : List Loc), J = some q0 → lv_has ls 8 [(0, .ref a_m), (1, .int p1), (2, .int x3), (3, .int x62), (4, .int x63), (5, .int x91), (6, .int x106)] → Wd A s.heap (dC, dI) [(a_m, .inr (7, [.int m_thrown, .long m_trace, .ref a_m_text, .int m_typed, .int m_next, .int m_token, .int m_place, .int m_value, .int m_fault, .ref a_m_lifts, .ref a_m_price, .ref a_m_stood, .ref a_m_hands, .ref a_m_wanted, .int m_rooms, .int m_people, .int m_things, .int m_draftRooms, .int m_draftPeople, .int m_draftThings, .ref a_m_s, .ref a_m_kept, .ref a_m_isKept, .ref a_m_due, .int m_dueMany, .ref a_m_cost, .ref a_m_then, .ref a_m_by])), (a_m_price, .inl (cI, 8, .inl m_price)), (a_m_s, .inl (cI, 21, .inl m_s)), (a_m_cost, .inl (cI, 10000, .inl m_cost)), (a_m_then, .inl (cI, 10000, .inl x92))] H locs → W p l e ({ frames := 1, cells := 0, slots := 0, locals := 20 } : Jvm.Room) s m args below meth c H locs 0 0 Q (F0 m 182 ls [])) hf ?_ ?_
          · intro ls H locs hf hl hw
            refine lv_iload hx hb dX7_liftsAll_182 (lv_at hl 6 rfl) ?_
            refine lv_if_eq (tgt := 250) hx hb dX7_liftsAll_184 (by decide) (fun kc => ?_) (fun kc => ?_)
            · have hf := if_t hf kc
              refine lv_iinc (v := (x91 + (1 : Int32))) (lv' := [(5, .int (x91 + (1 : Int32))), (0, .ref a_m), (1, .int p1), (2, .int x3), (3, .int x62), (4, .int x63), (6, .int x106)]) hx hb dX7_liftsAll_250 hl (k := 5) rfl rfl (by decide) rfl (fun ls hl => ?_)
              refine lv_goto (tgt := 96) hx hb dX7_liftsAll_253 (by decide) ?_
              exact ih96 (x91 + (1 : Int32)) x92 hf ls H locs (lv_sub hl [0, 5, 4, 3, 1, 2] rfl) hw
            · have hf := if_f hf kc
              refine lv_aload_n hx hb dX7_liftsAll_187 rfl (lv_at hl 0 rfl) ?_
              refine r_get E hw iX7 0 25 rfl rfl (by decide) kf41 rfl rfl dX7_liftsAll_188 ?_
              refine lv_iload hx hb dX7_liftsAll_191 (lv_at hl 5 rfl) ?_
              obtain ⟨g113, hf⟩ := gd_some hf
              refine r_iald E hw 3 rfl g113 dX7_liftsAll_193 ?_
              refine lv_iload hx hb dX7_liftsAll_194 (lv_at hl 4 rfl) ?_
              refine lv_iadd hx hb dX7_liftsAll_196 ?_
              refine lv_istore (lv' := [(7, .int ((m_cost x91.toNatClampNeg) + x63)), (0, .ref a_m), (1, .int p1), (2, .int x3), (3, .int x62), (4, .int x63), (5, .int x91), (6, .int x106)]) hx hb dX7_liftsAll_197 hl (by decide) rfl (fun ls hl => ?_)
              refine lv_aload_n hx hb dX7_liftsAll_199 rfl (lv_at hl 1 rfl) ?_
              refine r_get E hw iX7 0 26 rfl rfl (by decide) kf44 rfl rfl dX7_liftsAll_200 ?_
              refine lv_iload hx hb dX7_liftsAll_203 (lv_at hl 6 rfl) ?_
              refine lv_iload_n hx hb dX7_liftsAll_205 rfl (lv_at hl 4 rfl) ?_
              refine lv_iadd hx hb dX7_liftsAll_206 ?_
              refine lv_aload_n hx hb dX7_liftsAll_207 rfl (lv_at hl 1 rfl) ?_
              refine r_get E hw iX7 0 26 rfl rfl (by decide) kf44 rfl rfl dX7_liftsAll_208 ?_
              refine lv_iload hx hb dX7_liftsAll_211 (lv_at hl 6 rfl) ?_
              refine lv_iload_n hx hb dX7_liftsAll_213 rfl (lv_at hl 4 rfl) ?_
              refine lv_iadd hx hb dX7_liftsAll_214 ?_
              obtain ⟨g114, hf⟩ := gd_some hf
              refine r_iald E hw 4 rfl g114 dX7_liftsAll_215 ?_
              refine lv_bipush (v := (-9 : Int32)) hx hb dX7_liftsAll_216 rfl ?_
              refine jn_sound (P := fun J => ∀ (x117 : Int32) (ls : Array Slot) (H : Heap) (locs : List Loc), J x117 = some q0 → lv_has ls 8 [(0, .ref a_m), (1, .int p1), (2, .int x3), (3, .int x62), (4, .int x63), (5, .int x91)] → Wd A s.heap (dC, dI) [(a_m, .inr (7, [.int m_thrown, .long m_trace, .ref a_m_text, .int m_typed, .int m_next, .int m_token, .int m_place, .int m_value, .int m_fault, .ref a_m_lifts, .ref a_m_price, .ref a_m_stood, .ref a_m_hands, .ref a_m_wanted, .int m_rooms, .int m_people, .int m_things, .int m_draftRooms, .int m_draftPeople, .int m_draftThings, .ref a_m_s, .ref a_m_kept, .ref a_m_isKept, .ref a_m_due, .int m_dueMany, .ref a_m_cost, .ref a_m_then, .ref a_m_by])), (a_m_price, .inl (cI, 8, .inl m_price)), (a_m_s, .inl (cI, 21, .inl m_s)), (a_m_cost, .inl (cI, 10000, .inl m_cost)), (a_m_then, .inl (cI, 10000, .inl x92))] H locs → W p l e ({ frames := 1, cells := 0, slots := 0, locals := 20 } : Jvm.Room) s m args below meth c H locs 0 0 Q (F0 m 249 ls [.int x117, .int (x91 + x62), .ref a_m_then])) hf ?_ ?_
              · intro x117 ls H locs hf hl hw
                obtain ⟨g118, hf⟩ := gd_some hf
                refine r_iast E hw 4 rfl g118 [(a_m, .inr (7, [.int m_thrown, .long m_trace, .ref a_m_text, .int m_typed, .int m_next, .int m_token, .int m_place, .int m_value, .int m_fault, .ref a_m_lifts, .ref a_m_price, .ref a_m_stood, .ref a_m_hands, .ref a_m_wanted, .int m_rooms, .int m_people, .int m_things, .int m_draftRooms, .int m_draftPeople, .int m_draftThings, .ref a_m_s, .ref a_m_kept, .ref a_m_isKept, .ref a_m_due, .int m_dueMany, .ref a_m_cost, .ref a_m_then, .ref a_m_by])), (a_m_price, .inl (cI, 8, .inl m_price)), (a_m_s, .inl (cI, 21, .inl m_s)), (a_m_cost, .inl (cI, 10000, .inl m_cost)), (a_m_then, .inl (cI, 10000, .inl (upd x92 (x91 + x62).toNatClampNeg x117)))] rfl dX7_liftsAll_249 (fun H locs hw => ?_)
                refine lv_iinc (v := (x91 + (1 : Int32))) (lv' := [(5, .int (x91 + (1 : Int32))), (0, .ref a_m), (1, .int p1), (2, .int x3), (3, .int x62), (4, .int x63)]) hx hb dX7_liftsAll_250 hl (k := 5) rfl rfl (by decide) rfl (fun ls hl => ?_)
                refine lv_goto (tgt := 96) hx hb dX7_liftsAll_253 (by decide) ?_
                exact ih96 (x91 + (1 : Int32)) (upd x92 (x91 + x62).toNatClampNeg x117) hf ls H locs (lv_sub hl [0, 5, 4, 3, 1, 2] rfl) hw
              · intro J249 hJ249 hf
                refine jn_sound (P := fun J => ∀ (ls : Array Slot) (H : Heap) (locs : List Loc), J = some q0 → lv_has ls 8 [(0, .ref a_m), (1, .int p1), (2, .int x3), (3, .int x62), (4, .int x63), (5, .int x91), (7, .int ((m_cost x91.toNatClampNeg) + x63))] → Wd A s.heap (dC, dI) [(a_m, .inr (7, [.int m_thrown, .long m_trace, .ref a_m_text, .int m_typed, .int m_next, .int m_token, .int m_place, .int m_value, .int m_fault, .ref a_m_lifts, .ref a_m_price, .ref a_m_stood, .ref a_m_hands, .ref a_m_wanted, .int m_rooms, .int m_people, .int m_things, .int m_draftRooms, .int m_draftPeople, .int m_draftThings, .ref a_m_s, .ref a_m_kept, .ref a_m_isKept, .ref a_m_due, .int m_dueMany, .ref a_m_cost, .ref a_m_then, .ref a_m_by])), (a_m_price, .inl (cI, 8, .inl m_price)), (a_m_s, .inl (cI, 21, .inl m_s)), (a_m_cost, .inl (cI, 10000, .inl m_cost)), (a_m_then, .inl (cI, 10000, .inl x92))] H locs → W p l e ({ frames := 1, cells := 0, slots := 0, locals := 20 } : Jvm.Room) s m args below meth c H locs 0 0 Q (F0 m 235 ls [.int (x91 + x62), .ref a_m_then])) hf ?_ ?_
                · intro ls H locs hf hl hw
                  refine lv_iload hx hb dX7_liftsAll_235 (lv_at hl 6 rfl) ?_
                  refine lv_goto (tgt := 249) hx hb dX7_liftsAll_237 (by decide) ?_
                  exact hJ249 ((m_cost x91.toNatClampNeg) + x63) ls H locs hf (lv_sub hl [0, 1, 2, 3, 4, 5] rfl) hw
                · intro J235 hJ235 hf
                  refine lv_icmp_eq (tgt := 235) hx hb dX7_liftsAll_218 (by decide) (fun kc => ?_) (fun kc => ?_)
                  · have hf := if_t hf kc
                    exact hJ235 ls H locs hf (lv_sub hl [1, 2, 3, 4, 5, 6, 0] rfl) hw
                  · have hf := if_f hf kc
                    refine lv_iload hx hb dX7_liftsAll_221 (lv_at hl 0 rfl) ?_
                    refine lv_aload_n hx hb dX7_liftsAll_223 rfl (lv_at hl 1 rfl) ?_
                    refine r_get E hw iX7 0 26 rfl rfl (by decide) kf44 rfl rfl dX7_liftsAll_224 ?_
                    refine lv_iload hx hb dX7_liftsAll_227 (lv_at hl 6 rfl) ?_
                    refine lv_iload_n hx hb dX7_liftsAll_229 rfl (lv_at hl 4 rfl) ?_
                    refine lv_iadd hx hb dX7_liftsAll_230 ?_
                    obtain ⟨g115, hf⟩ := gd_some hf
                    refine r_iald E hw 4 rfl g115 dX7_liftsAll_231 ?_
                    refine lv_icmp_ge (tgt := 240) hx hb dX7_liftsAll_232 (by decide) (fun kc => ?_) (fun kc => ?_)
                    · have hf := if_t hf kc
                      refine lv_aload_n hx hb dX7_liftsAll_240 rfl (lv_at hl 1 rfl) ?_
                      refine r_get E hw iX7 0 26 rfl rfl (by decide) kf44 rfl rfl dX7_liftsAll_241 ?_
                      refine lv_iload hx hb dX7_liftsAll_244 (lv_at hl 6 rfl) ?_
                      refine lv_iload_n hx hb dX7_liftsAll_246 rfl (lv_at hl 4 rfl) ?_
                      refine lv_iadd hx hb dX7_liftsAll_247 ?_
                      obtain ⟨g116, hf⟩ := gd_some hf
                      refine r_iald E hw 4 rfl g116 dX7_liftsAll_248 ?_
                      exact hJ249 (x92 (x91 + x62).toNatClampNeg) ls H locs hf (lv_sub hl [1, 2, 3, 4, 5, 6] rfl) hw
                    · have hf := if_f hf kc
                      exact hJ235 ls H locs hf (lv_sub hl [1, 2, 3, 4, 5, 6, 0] rfl) hw
          · intro J182 hJ182 hf
            refine lv_icmp_ge (tgt := 182) hx hb dX7_liftsAll_130 (by decide) (fun kc => ?_) (fun kc => ?_)
            · have hf := if_t hf kc
              exact hJ182 ls H locs hf (lv_sub hl [2, 3, 4, 5, 6, 7, 1] rfl) hw
            · have hf := if_f hf kc
              refine lv_iload hx hb dX7_liftsAll_133 (lv_at hl 1 rfl) ?_
              refine lv_if_eq (tgt := 182) hx hb dX7_liftsAll_135 (by decide) (fun kc => ?_) (fun kc => ?_)
              · have hf := if_t hf kc
                exact hJ182 ls H locs hf (lv_sub hl [2, 3, 4, 5, 6, 7, 1] rfl) hw
              · have hf := if_f hf kc
                refine lv_iload hx hb dX7_liftsAll_138 (lv_at hl 7 rfl) ?_
                refine lv_iload hx hb dX7_liftsAll_140 (lv_at hl 0 rfl) ?_
                obtain ⟨r108, hu109, hf⟩ := bd1_some hf
                refine cl_i (wr := [(a_m, .inr (7, [.int m_thrown, .long m_trace, .ref a_m_text, .int m_typed, .int m_next, .int m_token, .int m_place, .int m_value, .int m_fault, .ref a_m_lifts, .ref a_m_price, .ref a_m_stood, .ref a_m_hands, .ref a_m_wanted, .int m_rooms, .int m_people, .int m_things, .int m_draftRooms, .int m_draftPeople, .int m_draftThings, .ref a_m_s, .ref a_m_kept, .ref a_m_isKept, .ref a_m_due, .int m_dueMany, .ref a_m_cost, .ref a_m_then, .ref a_m_by])), (a_m_price, .inl (cI, 8, .inl m_price)), (a_m_s, .inl (cI, 21, .inl m_s)), (a_m_cost, .inl (cI, 10000, .inl m_cost)), (a_m_then, .inl (cI, 10000, .inl x92))]) (w2 := [(a_m, .inr (7, [.int m_thrown, .long m_trace, .ref a_m_text, .int m_typed, .int m_next, .int m_token, .int m_place, .int m_value, .int m_fault, .ref a_m_lifts, .ref a_m_price, .ref a_m_stood, .ref a_m_hands, .ref a_m_wanted, .int m_rooms, .int m_people, .int m_things, .int m_draftRooms, .int m_draftPeople, .int m_draftThings, .ref a_m_s, .ref a_m_kept, .ref a_m_isKept, .ref a_m_due, .int m_dueMany, .ref a_m_cost, .ref a_m_then, .ref a_m_by])), (a_m_price, .inl (cI, 8, .inl m_price)), (a_m_s, .inl (cI, 21, .inl m_s)), (a_m_cost, .inl (cI, 10000, .inl m_cost)), (a_m_then, .inl (cI, 10000, .inl x92))]) E hw [] [0, 1, 2, 3, 4] [0, 1, 2, 3, 4] (va_runS (As := [.int x107]) (rest := [.int x91]) E.1 (c_X7_powerOfTen l dC dI cI cB cZ aK aV H.size x107 r108 hu109) (va_cwS 1 hts gX7_liftsAll_X7_powerOfTen rfl rfl rfl hd_X7_powerOfTen ⟨Nat.le_of_ble_eq_true rfl, Nat.le_of_ble_eq_true rfl⟩) (pre_S E hw [] rfl rfl) rfl rfl hl.1 rfl (lv_room (Nat.le_of_ble_eq_true rfl)) dX7_liftsAll_142 ⟨Nat.zero_le _, Nat.zero_le _⟩) rfl rfl rfl (by decide) rfl rfl (fun H locs hw => ?_)
                obtain ⟨g110, hf⟩ := gd_some hf
                refine lv_idiv hx hb dX7_liftsAll_145 (of_decide_eq_true g110) ?_
                refine lv_bipush (v := (10 : Int32)) hx hb dX7_liftsAll_146 rfl ?_
                obtain ⟨g111, hf⟩ := gd_some hf
                refine lv_irem hx hb dX7_liftsAll_148 (of_decide_eq_true g111) ?_
                refine lv_iload_n hx hb dX7_liftsAll_149 rfl (lv_at hl 3 rfl) ?_
                refine lv_iload hx hb dX7_liftsAll_150 (lv_at hl 0 rfl) ?_
                refine lv_ishr hx hb dX7_liftsAll_152 ?_
                refine lv_iconst (v := (1 : Int32)) hx hb dX7_liftsAll_153 rfl ?_
                refine lv_iand hx hb dX7_liftsAll_154 ?_
                refine lv_iadd hx hb dX7_liftsAll_155 ?_
                refine lv_aload_n hx hb dX7_liftsAll_156 rfl (lv_at hl 2 rfl) ?_
                refine r_get E hw iX7 0 20 rfl rfl (by decide) kf28 rfl rfl dX7_liftsAll_157 ?_
                refine lv_bipush (v := (16 : Int32)) hx hb dX7_liftsAll_160 rfl ?_
                refine lv_iload hx hb dX7_liftsAll_162 (lv_at hl 0 rfl) ?_
                refine lv_iadd hx hb dX7_liftsAll_164 ?_
                obtain ⟨g112, hf⟩ := gd_some hf
                refine r_iald E hw 2 rfl g112 dX7_liftsAll_165 ?_
                refine lv_icmp_gt (tgt := 173) hx hb dX7_liftsAll_166 (by decide) (fun kc => ?_) (fun kc => ?_)
                · have hf := if_t hf kc
                  refine lv_iconst (v := (0 : Int32)) hx hb dX7_liftsAll_173 rfl ?_
                  refine lv_istore (lv' := [(6, .int (0 : Int32)), (7, .int x107), (0, .ref a_m), (1, .int p1), (2, .int x3), (3, .int x62), (4, .int x63), (5, .int x91)]) hx hb dX7_liftsAll_174 hl (by decide) rfl (fun ls hl => ?_)
                  refine lv_iinc (v := (x107 + (1 : Int32))) (lv' := [(7, .int (x107 + (1 : Int32))), (6, .int (0 : Int32)), (0, .ref a_m), (1, .int p1), (2, .int x3), (3, .int x62), (4, .int x63), (5, .int x91)]) hx hb dX7_liftsAll_176 hl (k := 1) rfl rfl (by decide) rfl (fun ls hl => ?_)
                  refine lv_goto (tgt := 124) hx hb dX7_liftsAll_179 (by decide) ?_
                  exact ih124 (0 : Int32) (x107 + (1 : Int32)) hf ls H locs (lv_sub hl [0, 1, 2, 3, 4, 5, 6, 7] rfl) hw
                · have hf := if_f hf kc
                  refine lv_iconst (v := (1 : Int32)) hx hb dX7_liftsAll_169 rfl ?_
                  refine lv_goto (tgt := 174) hx hb dX7_liftsAll_170 (by decide) ?_
                  refine lv_istore (lv' := [(6, .int (1 : Int32)), (7, .int x107), (0, .ref a_m), (1, .int p1), (2, .int x3), (3, .int x62), (4, .int x63), (5, .int x91)]) hx hb dX7_liftsAll_174 hl (by decide) rfl (fun ls hl => ?_)
                  refine lv_iinc (v := (x107 + (1 : Int32))) (lv' := [(7, .int (x107 + (1 : Int32))), (6, .int (1 : Int32)), (0, .ref a_m), (1, .int p1), (2, .int x3), (3, .int x62), (4, .int x63), (5, .int x91)]) hx hb dX7_liftsAll_176 hl (k := 1) rfl rfl (by decide) rfl (fun ls hl => ?_)
                  refine lv_goto (tgt := 124) hx hb dX7_liftsAll_179 (by decide) ?_
                  exact ih124 (1 : Int32) (x107 + (1 : Int32)) hf ls H locs (lv_sub hl [0, 1, 2, 3, 4, 5, 6, 7] rfl) hw
        · intro J119 hJ119 hf
          refine lv_icmp_eq (tgt := 118) hx hb dX7_liftsAll_111 (by decide) (fun kc => ?_) (fun kc => ?_)
          · have hf := if_t hf kc
            refine lv_iconst (v := (0 : Int32)) hx hb dX7_liftsAll_118 rfl ?_
            exact hJ119 (0 : Int32) ls H locs hf (lv_sub hl [4, 5, 3, 2, 1, 0] rfl) hw
          · have hf := if_f hf kc
            refine lv_iconst (v := (1 : Int32)) hx hb dX7_liftsAll_114 rfl ?_
            refine lv_goto (tgt := 119) hx hb dX7_liftsAll_115 (by decide) ?_
            exact hJ119 (1 : Int32) ls H locs hf (lv_sub hl [4, 5, 3, 2, 1, 0] rfl) hw
    · have hf := if_f hf kc
      refine lv_iload_n hx hb dX7_liftsAll_39 rfl (lv_at hl 2 rfl) ?_
      refine lv_iload_n hx hb dX7_liftsAll_40 rfl (lv_at hl 5 rfl) ?_
      refine lv_iload hx hb dX7_liftsAll_41 (lv_at hl 0 rfl) ?_
      refine lv_ishr hx hb dX7_liftsAll_43 ?_
      refine lv_iconst (v := (1 : Int32)) hx hb dX7_liftsAll_44 rfl ?_
      refine lv_iand hx hb dX7_liftsAll_45 ?_
      refine lv_iconst (v := (1 : Int32)) hx hb dX7_liftsAll_46 rfl ?_
      refine jn_sound (P := fun J => ∀ (x121 : Int32) (ls : Array Slot) (H : Heap) (locs : List Loc), J x121 = some q0 → lv_has ls 8 [(0, .ref a_m), (1, .int p1), (2, .int x3), (4, .int x63), (5, .int x64)] → Wd A s.heap (dC, dI) [(a_m, .inr (7, [.int m_thrown, .long m_trace, .ref a_m_text, .int m_typed, .int m_next, .int m_token, .int m_place, .int m_value, .int m_fault, .ref a_m_lifts, .ref a_m_price, .ref a_m_stood, .ref a_m_hands, .ref a_m_wanted, .int m_rooms, .int m_people, .int m_things, .int m_draftRooms, .int m_draftPeople, .int m_draftThings, .ref a_m_s, .ref a_m_kept, .ref a_m_isKept, .ref a_m_due, .int m_dueMany, .ref a_m_cost, .ref a_m_then, .ref a_m_by])), (a_m_price, .inl (cI, 8, .inl m_price)), (a_m_s, .inl (cI, 21, .inl m_s)), (a_m_cost, .inl (cI, 10000, .inl m_cost)), (a_m_then, .inl (cI, 10000, .inl m_then))] H locs → W p l e ({ frames := 1, cells := 0, slots := 0, locals := 20 } : Jvm.Room) s m args below meth c H locs 0 0 Q (F0 m 59 ls [.int x121, .int x62])) hf ?_ ?_
      · intro x121 ls H locs hf hl hw
        refine lv_iadd hx hb dX7_liftsAll_59 ?_
        refine lv_istore_n (lv' := [(3, .int (x62 + x121)), (0, .ref a_m), (1, .int p1), (2, .int x3), (4, .int x63), (5, .int x64)]) hx hb dX7_liftsAll_60 rfl hl (by decide) rfl (fun ls hl => ?_)
        refine lv_iload hx hb dX7_liftsAll_61 (lv_at hl 4 rfl) ?_
        refine lv_iload_n hx hb dX7_liftsAll_63 rfl (lv_at hl 2 rfl) ?_
        refine lv_iload hx hb dX7_liftsAll_64 (lv_at hl 5 rfl) ?_
        refine lv_ishr hx hb dX7_liftsAll_66 ?_
        refine lv_iconst (v := (1 : Int32)) hx hb dX7_liftsAll_67 rfl ?_
        refine lv_iand hx hb dX7_liftsAll_68 ?_
        refine lv_iconst (v := (1 : Int32)) hx hb dX7_liftsAll_69 rfl ?_
        refine lv_icmp_ne (tgt := 83) hx hb dX7_liftsAll_70 (by decide) (fun kc => ?_) (fun kc => ?_)
        · have hf := if_f hf kc
          refine lv_iconst (v := (0 : Int32)) hx hb dX7_liftsAll_83 rfl ?_
          refine lv_iadd hx hb dX7_liftsAll_84 ?_
          refine lv_istore (lv' := [(4, .int (x63 + (0 : Int32))), (3, .int (x62 + x121)), (0, .ref a_m), (1, .int p1), (2, .int x3), (5, .int x64)]) hx hb dX7_liftsAll_85 hl (by decide) rfl (fun ls hl => ?_)
          refine lv_iinc (v := (x64 + (1 : Int32))) (lv' := [(5, .int (x64 + (1 : Int32))), (4, .int (x63 + (0 : Int32))), (3, .int (x62 + x121)), (0, .ref a_m), (1, .int p1), (2, .int x3)]) hx hb dX7_liftsAll_87 hl (k := 5) rfl rfl (by decide) rfl (fun ls hl => ?_)
          refine lv_goto (tgt := 30) hx hb dX7_liftsAll_90 (by decide) ?_
          exact ih30 (x62 + x121) (x63 + (0 : Int32)) (x64 + (1 : Int32)) hf ls H locs (lv_sub hl [0, 1, 2, 5, 3, 4] rfl) hw
        · have hf := if_t hf kc
          refine lv_aload_n hx hb dX7_liftsAll_73 rfl (lv_at hl 1 rfl) ?_
          refine r_get E hw iX7 0 10 rfl rfl (by decide) kf16 rfl rfl dX7_liftsAll_74 ?_
          refine lv_iload hx hb dX7_liftsAll_77 (lv_at hl 5 rfl) ?_
          obtain ⟨g122, hf⟩ := gd_some hf
          refine r_iald E hw 1 rfl g122 dX7_liftsAll_79 ?_
          refine lv_goto (tgt := 84) hx hb dX7_liftsAll_80 (by decide) ?_
          refine lv_iadd hx hb dX7_liftsAll_84 ?_
          refine lv_istore (lv' := [(4, .int (x63 + (m_price x64.toNatClampNeg))), (3, .int (x62 + x121)), (0, .ref a_m), (1, .int p1), (2, .int x3), (5, .int x64)]) hx hb dX7_liftsAll_85 hl (by decide) rfl (fun ls hl => ?_)
          refine lv_iinc (v := (x64 + (1 : Int32))) (lv' := [(5, .int (x64 + (1 : Int32))), (4, .int (x63 + (m_price x64.toNatClampNeg))), (3, .int (x62 + x121)), (0, .ref a_m), (1, .int p1), (2, .int x3)]) hx hb dX7_liftsAll_87 hl (k := 5) rfl rfl (by decide) rfl (fun ls hl => ?_)
          refine lv_goto (tgt := 30) hx hb dX7_liftsAll_90 (by decide) ?_
          exact ih30 (x62 + x121) (x63 + (m_price x64.toNatClampNeg)) (x64 + (1 : Int32)) hf ls H locs (lv_sub hl [0, 1, 2, 5, 3, 4] rfl) hw
      · intro J59 hJ59 hf
        refine lv_icmp_ne (tgt := 58) hx hb dX7_liftsAll_47 (by decide) (fun kc => ?_) (fun kc => ?_)
        · have hf := if_f hf kc
          refine lv_iconst (v := (0 : Int32)) hx hb dX7_liftsAll_58 rfl ?_
          exact hJ59 (0 : Int32) ls H locs hf (lv_sub hl [4, 5, 3, 1, 0] rfl) hw
        · have hf := if_t hf kc
          refine lv_iload hx hb dX7_liftsAll_50 (lv_at hl 0 rfl) ?_
          obtain ⟨r119, hu120, hf⟩ := bd1_some hf
          refine cl_i (wr := [(a_m, .inr (7, [.int m_thrown, .long m_trace, .ref a_m_text, .int m_typed, .int m_next, .int m_token, .int m_place, .int m_value, .int m_fault, .ref a_m_lifts, .ref a_m_price, .ref a_m_stood, .ref a_m_hands, .ref a_m_wanted, .int m_rooms, .int m_people, .int m_things, .int m_draftRooms, .int m_draftPeople, .int m_draftThings, .ref a_m_s, .ref a_m_kept, .ref a_m_isKept, .ref a_m_due, .int m_dueMany, .ref a_m_cost, .ref a_m_then, .ref a_m_by])), (a_m_price, .inl (cI, 8, .inl m_price)), (a_m_s, .inl (cI, 21, .inl m_s)), (a_m_cost, .inl (cI, 10000, .inl m_cost)), (a_m_then, .inl (cI, 10000, .inl m_then))]) (w2 := [(a_m, .inr (7, [.int m_thrown, .long m_trace, .ref a_m_text, .int m_typed, .int m_next, .int m_token, .int m_place, .int m_value, .int m_fault, .ref a_m_lifts, .ref a_m_price, .ref a_m_stood, .ref a_m_hands, .ref a_m_wanted, .int m_rooms, .int m_people, .int m_things, .int m_draftRooms, .int m_draftPeople, .int m_draftThings, .ref a_m_s, .ref a_m_kept, .ref a_m_isKept, .ref a_m_due, .int m_dueMany, .ref a_m_cost, .ref a_m_then, .ref a_m_by])), (a_m_price, .inl (cI, 8, .inl m_price)), (a_m_s, .inl (cI, 21, .inl m_s)), (a_m_cost, .inl (cI, 10000, .inl m_cost)), (a_m_then, .inl (cI, 10000, .inl m_then))]) E hw [] [0, 1, 2, 3, 4] [0, 1, 2, 3, 4] (va_runS (As := [.int x64]) (rest := [.int x62]) E.1 (c_X7_powerOfTen l dC dI cI cB cZ aK aV H.size x64 r119 hu120) (va_cwS 1 hts gX7_liftsAll_X7_powerOfTen rfl rfl rfl hd_X7_powerOfTen ⟨Nat.le_of_ble_eq_true rfl, Nat.le_of_ble_eq_true rfl⟩) (pre_S E hw [] rfl rfl) rfl rfl hl.1 rfl (lv_room (Nat.le_of_ble_eq_true rfl)) dX7_liftsAll_52 ⟨Nat.zero_le _, Nat.zero_le _⟩) rfl rfl rfl (by decide) rfl rfl (fun H locs hw => ?_)
          refine lv_goto (tgt := 59) hx hb dX7_liftsAll_55 (by decide) ?_
          exact hJ59 r119 ls H locs hf (lv_sub hl [4, 5, 3, 1, 0] rfl) hw
  · intro J21 hJ21 hf
    refine lv_icmp_ne (tgt := 14) hx hb dX7_liftsAll_5 (by decide) (fun kc => ?_) (fun kc => ?_)
    · have hf := if_f hf kc
      refine lv_aload_n hx hb dX7_liftsAll_14 rfl (lv_at hl 0 rfl) ?_
      refine r_get E hw iX7 0 15 rfl rfl (by decide) kf130 rfl rfl dX7_liftsAll_15 ?_
      obtain ⟨r1, hu2, hf⟩ := bd1_some hf
      refine cl_i (wr := [(a_m, .inr (7, [.int m_thrown, .long m_trace, .ref a_m_text, .int m_typed, .int m_next, .int m_token, .int m_place, .int m_value, .int m_fault, .ref a_m_lifts, .ref a_m_price, .ref a_m_stood, .ref a_m_hands, .ref a_m_wanted, .int m_rooms, .int m_people, .int m_things, .int m_draftRooms, .int m_draftPeople, .int m_draftThings, .ref a_m_s, .ref a_m_kept, .ref a_m_isKept, .ref a_m_due, .int m_dueMany, .ref a_m_cost, .ref a_m_then, .ref a_m_by])), (a_m_price, .inl (cI, 8, .inl m_price)), (a_m_s, .inl (cI, 21, .inl m_s)), (a_m_cost, .inl (cI, 10000, .inl m_cost)), (a_m_then, .inl (cI, 10000, .inl m_then))]) (w2 := [(a_m, .inr (7, [.int m_thrown, .long m_trace, .ref a_m_text, .int m_typed, .int m_next, .int m_token, .int m_place, .int m_value, .int m_fault, .ref a_m_lifts, .ref a_m_price, .ref a_m_stood, .ref a_m_hands, .ref a_m_wanted, .int m_rooms, .int m_people, .int m_things, .int m_draftRooms, .int m_draftPeople, .int m_draftThings, .ref a_m_s, .ref a_m_kept, .ref a_m_isKept, .ref a_m_due, .int m_dueMany, .ref a_m_cost, .ref a_m_then, .ref a_m_by])), (a_m_price, .inl (cI, 8, .inl m_price)), (a_m_s, .inl (cI, 21, .inl m_s)), (a_m_cost, .inl (cI, 10000, .inl m_cost)), (a_m_then, .inl (cI, 10000, .inl m_then))]) E hw [] [0, 1, 2, 3, 4] [0, 1, 2, 3, 4] (va_runS (As := [.int m_people]) (rest := []) E.1 (c_X7_powerOfTen l dC dI cI cB cZ aK aV H.size m_people r1 hu2) (va_cwS 1 hts gX7_liftsAll_X7_powerOfTen rfl rfl rfl hd_X7_powerOfTen ⟨Nat.le_of_ble_eq_true rfl, Nat.le_of_ble_eq_true rfl⟩) (pre_S E hw [] rfl rfl) rfl rfl hl.1 rfl (lv_room (Nat.le_of_ble_eq_true rfl)) dX7_liftsAll_18 ⟨Nat.zero_le _, Nat.zero_le _⟩) rfl rfl rfl (by decide) rfl rfl (fun H locs hw => ?_)
      exact hJ21 r1 ls H locs hf hl hw
    · have hf := if_t hf kc
      refine lv_sipush (v := (10000 : Int32)) hx hb dX7_liftsAll_8 rfl ?_
      refine lv_goto (tgt := 21) hx hb dX7_liftsAll_11 (by decide) ?_
      exact hJ21 (10000 : Int32) ls H locs hf hl hw
def f_X7_cheapestBy (p1 : Int32) (m_people : Int32) (m_things : Int32) (m_price : Nat → Int32) (m_hands : Nat → Int32) (m_wanted : Nat → Int32) (m_s : Nat → Int32) (m_due : Nat → Int32) (m_cost : Nat → Int32) (m_then : Nat → Int32) : Option (Int32 × Int32 × (Nat → Int32) × (Nat → Int32) × (Nat → Int32)) :=
  bd2 (f_X7_gathersDue m_things m_hands m_wanted m_s m_due) (fun u1 u2 => jn (fun (x6 : Int32) => loop2 (fun B28 (x132 : Int32) (x133 : Nat → Int32) => (if x6 ≤ x132 then loop3 (fun B57 (x194 : Int32) (x195 : Nat → Int32) (x196 : Nat → Int32) => (if u1 ≤ x194 then loop2 (fun B175 (x200 : Int32) (x201 : Int32) => (if x6 ≤ x201 then some (x200, u1, u2, x195, x196) else gd (inb x201 10000) (jn (B175 x200 (x201 + (1 : Int32))) (fun J220 => (if (x195 x201.toNatClampNeg) = (-9 : Int32) then J220 else jn (gd (inb x201 10000) (B175 (x195 x201.toNatClampNeg) (x201 + (1 : Int32)))) (fun J210 => (if x200 = (-9 : Int32) then J210 else gd (inb x201 10000) ((if x200 ≤ (x195 x201.toNatClampNeg) then J220 else J210))))))))) FU (-9 : Int32) (0 : Int32) else loop2 (fun B68 (x230 : Int32) (x231 : Nat → Int32) => (if x6 ≤ x230 then loop2 (fun B92 (x243 : Int32) (x244 : Nat → Int32) => (if (16 : Int32) ≤ x243 then loop2 (fun B137 (x247 : Int32) (x248 : Nat → Int32) => (if x6 ≤ x247 then B57 (x194 + (1 : Int32)) x248 x244 else gd (inb x247 10000) (gd (inb x247 10000) (B137 (x247 + (1 : Int32)) (upd x248 x247.toNatClampNeg (x244 x247.toNatClampNeg)))))) FU (0 : Int32) x195 else (if (x243 &&& (p1 ^^^ (-1 : Int32))) = 0 then bd1 (f_X7_ones x243) (fun r251 => gd (inb x194 8) ((if r251 = (u2 x194.toNatClampNeg) then bd1 (f_X7_liftsAll x243 m_people m_price m_s x195 x244) (fun u254 => B92 (x243 + (1 : Int32)) u254) else B92 (x243 + (1 : Int32)) x244))) else B92 (x243 + (1 : Int32)) x244))) FU (0 : Int32) x231 else gd (inb x230 10000) (B68 (x230 + (1 : Int32)) (upd x231 x230.toNatClampNeg (-9 : Int32))))) FU (0 : Int32) x196)) FU (0 : Int32) x133 m_then else jn (fun (x257 : Int32) => gd (inb x132 10000) (B28 (x132 + (1 : Int32)) (upd x133 x132.toNatClampNeg x257))) (fun J48 => (if x132 = 0 then J48 (0 : Int32) else J48 (-9 : Int32))))) FU (0 : Int32) m_cost) (fun J25 => (if m_people = (4 : Int32) then J25 (10000 : Int32) else bd1 (f_X7_powerOfTen m_people) (fun r4 => J25 r4))))
theorem hd_X7_cheapestBy : yX7_cheapestBy.cls = RX7 ∧ yX7_cheapestBy.cls ≠ "java/lang/invoke/MethodHandle" ∧ yX7_cheapestBy.cls ≠ "java/lang/invoke/VarHandle" ∧ (parseMethodDescriptor yX7_cheapestBy.desc).map (fun d => d.parameters.length) = some 1 := by decide +kernel
set_option maxHeartbeats 4000000 in
set_option maxRecDepth 100000 in
theorem c_X7_cheapestBy (l : Launch) (dC : Nat → ClassId) (dI : Nat → Nat → Nat) (cI cB cZ : ClassId) (aK aV : Nat → Nat) (a_m a_m_text a_m_lifts a_m_price a_m_stood a_m_hands a_m_wanted a_m_s a_m_kept a_m_isKept a_m_due a_m_cost a_m_then a_m_by : Nat) (sz : Nat) (m_thrown : Int32) (m_trace : Int64) (m_typed : Int32) (m_next : Int32) (m_token : Int32) (m_place : Int32) (m_value : Int32) (m_fault : Int32) (m_rooms : Int32) (m_people : Int32) (m_things : Int32) (m_draftRooms : Int32) (m_draftPeople : Int32) (m_draftThings : Int32) (m_dueMany : Int32) (m_price : Nat → Int32) (m_hands : Nat → Int32) (m_wanted : Nat → Int32) (m_s : Nat → Int32) (m_due : Nat → Int32) (m_cost : Nat → Int32) (m_then : Nat → Int32) (p1 : Int32) (r : Int32) (q0 : Int32) (q1 : Nat → Int32) (q2 : Nat → Int32) (q3 : Nat → Int32) (hf : f_X7_cheapestBy p1 m_people m_things m_price m_hands m_wanted m_s m_due m_cost m_then = some (r, q0, q1, q2, q3)) : Met l yX7_cheapestBy wsX7_cheapestBy ({ frames := 3, cells := 0, slots := 0, locals := 66 } : Jvm.Room) (va_Pc [.ref a_m, .int p1] (preW (dC, dI) (tyL cI cB cZ) aK aV sz [(a_m, .inr (7, [.int m_thrown, .long m_trace, .ref a_m_text, .int m_typed, .int m_next, .int m_token, .int m_place, .int m_value, .int m_fault, .ref a_m_lifts, .ref a_m_price, .ref a_m_stood, .ref a_m_hands, .ref a_m_wanted, .int m_rooms, .int m_people, .int m_things, .int m_draftRooms, .int m_draftPeople, .int m_draftThings, .ref a_m_s, .ref a_m_kept, .ref a_m_isKept, .ref a_m_due, .int m_dueMany, .ref a_m_cost, .ref a_m_then, .ref a_m_by])), (a_m_price, .inl (cI, 8, .inl m_price)), (a_m_hands, .inl (cI, 16, .inl m_hands)), (a_m_wanted, .inl (cI, 16, .inl m_wanted)), (a_m_s, .inl (cI, 21, .inl m_s)), (a_m_due, .inl (cI, 8, .inl m_due)), (a_m_cost, .inl (cI, 10000, .inl m_cost)), (a_m_then, .inl (cI, 10000, .inl m_then))])) (va_Qi (fun v (_ : Unit) => v = r) (postW (dC, dI) (tyL cI cB cZ) (va_A [(a_m, .inr (7, [.int m_thrown, .long m_trace, .ref a_m_text, .int m_typed, .int m_next, .int m_token, .int m_place, .int m_value, .int m_fault, .ref a_m_lifts, .ref a_m_price, .ref a_m_stood, .ref a_m_hands, .ref a_m_wanted, .int m_rooms, .int m_people, .int m_things, .int m_draftRooms, .int m_draftPeople, .int m_draftThings, .ref a_m_s, .ref a_m_kept, .ref a_m_isKept, .ref a_m_due, .int m_dueMany, .ref a_m_cost, .ref a_m_then, .ref a_m_by])), (a_m_price, .inl (cI, 8, .inl m_price)), (a_m_hands, .inl (cI, 16, .inl m_hands)), (a_m_wanted, .inl (cI, 16, .inl m_wanted)), (a_m_s, .inl (cI, 21, .inl m_s)), (a_m_due, .inl (cI, 8, .inl m_due)), (a_m_cost, .inl (cI, 10000, .inl m_cost)), (a_m_then, .inl (cI, 10000, .inl m_then))] sz) [(a_m, .inr (7, [.int m_thrown, .long m_trace, .ref a_m_text, .int m_typed, .int m_next, .int m_token, .int m_place, .int m_value, .int m_fault, .ref a_m_lifts, .ref a_m_price, .ref a_m_stood, .ref a_m_hands, .ref a_m_wanted, .int m_rooms, .int m_people, .int m_things, .int m_draftRooms, .int m_draftPeople, .int m_draftThings, .ref a_m_s, .ref a_m_kept, .ref a_m_isKept, .ref a_m_due, .int q0, .ref a_m_cost, .ref a_m_then, .ref a_m_by])), (a_m_price, .inl (cI, 8, .inl m_price)), (a_m_hands, .inl (cI, 16, .inl m_hands)), (a_m_wanted, .inl (cI, 16, .inl m_wanted)), (a_m_s, .inl (cI, 21, .inl m_s)), (a_m_due, .inl (cI, 8, .inl q1)), (a_m_cost, .inl (cI, 10000, .inl q2)), (a_m_then, .inl (cI, 10000, .inl q3))]) (va_A [(a_m, .inr (7, [.int m_thrown, .long m_trace, .ref a_m_text, .int m_typed, .int m_next, .int m_token, .int m_place, .int m_value, .int m_fault, .ref a_m_lifts, .ref a_m_price, .ref a_m_stood, .ref a_m_hands, .ref a_m_wanted, .int m_rooms, .int m_people, .int m_things, .int m_draftRooms, .int m_draftPeople, .int m_draftThings, .ref a_m_s, .ref a_m_kept, .ref a_m_isKept, .ref a_m_due, .int m_dueMany, .ref a_m_cost, .ref a_m_then, .ref a_m_by])), (a_m_price, .inl (cI, 8, .inl m_price)), (a_m_hands, .inl (cI, 16, .inl m_hands)), (a_m_wanted, .inl (cI, 16, .inl m_wanted)), (a_m_s, .inl (cI, 21, .inl m_s)), (a_m_due, .inl (cI, 8, .inl m_due)), (a_m_cost, .inl (cI, 10000, .inl m_cost)), (a_m_then, .inl (cI, 10000, .inl m_then))] sz)) 0 0 (va_A [(a_m, .inr (7, [.int m_thrown, .long m_trace, .ref a_m_text, .int m_typed, .int m_next, .int m_token, .int m_place, .int m_value, .int m_fault, .ref a_m_lifts, .ref a_m_price, .ref a_m_stood, .ref a_m_hands, .ref a_m_wanted, .int m_rooms, .int m_people, .int m_things, .int m_draftRooms, .int m_draftPeople, .int m_draftThings, .ref a_m_s, .ref a_m_kept, .ref a_m_isKept, .ref a_m_due, .int m_dueMany, .ref a_m_cost, .ref a_m_then, .ref a_m_by])), (a_m_price, .inl (cI, 8, .inl m_price)), (a_m_hands, .inl (cI, 16, .inl m_hands)), (a_m_wanted, .inl (cI, 16, .inl m_wanted)), (a_m_s, .inl (cI, 21, .inl m_s)), (a_m_due, .inl (cI, 8, .inl m_due)), (a_m_cost, .inl (cI, 10000, .inl m_cost)), (a_m_then, .inl (cI, 10000, .inl m_then))] sz) := by
  refine met_i (cc := cX7_cheapestBy) (maxL := 5) (own := RX7) (by decide) rfl (Nat.le_of_ble_eq_true rfl) rfl (fun p e s m args below meth c Q A E hret ls H locs hl hw => ?_)
  obtain ⟨⟨hx, hb, hml, hown, hts⟩, hK, hN, hA, hX⟩ := id E
  have hl : lv_has ls 5 [(0, .ref a_m), (1, .int p1)] := hl
  have iX7 : ∀ w ∈ wsX70, w ∈ wsX7_cheapestBy := by decide +kernel
  have kf130 := hts (.fieldLink RX7 130 "FiveThingsModel" "people" "I") (by decide +kernel)
  have kf179 := hts (.fieldLink RX7 179 "FiveThingsModel" "dueMany" "I") (by decide +kernel)
  have kf41 := hts (.fieldLink RX7 41 "FiveThingsModel" "cost" "[I") (by decide +kernel)
  have kf44 := hts (.fieldLink RX7 44 "FiveThingsModel" "then" "[I") (by decide +kernel)
  have kf38 := hts (.fieldLink RX7 38 "FiveThingsModel" "due" "[I") (by decide +kernel)
  unfold f_X7_cheapestBy at hf
  refine lv_aload_n hx hb dX7_cheapestBy_0 rfl (lv_at hl 0 rfl) ?_
  obtain ⟨u1, u2, hu3, hf⟩ := bd2_some hf
  refine cl_v (wr := [(a_m_price, .inl (cI, 8, .inl m_price)), (a_m_cost, .inl (cI, 10000, .inl m_cost)), (a_m_then, .inl (cI, 10000, .inl m_then))]) (w2 := [(a_m, .inr (7, [.int m_thrown, .long m_trace, .ref a_m_text, .int m_typed, .int m_next, .int m_token, .int m_place, .int m_value, .int m_fault, .ref a_m_lifts, .ref a_m_price, .ref a_m_stood, .ref a_m_hands, .ref a_m_wanted, .int m_rooms, .int m_people, .int m_things, .int m_draftRooms, .int m_draftPeople, .int m_draftThings, .ref a_m_s, .ref a_m_kept, .ref a_m_isKept, .ref a_m_due, .int u1, .ref a_m_cost, .ref a_m_then, .ref a_m_by])), (a_m_price, .inl (cI, 8, .inl m_price)), (a_m_hands, .inl (cI, 16, .inl m_hands)), (a_m_wanted, .inl (cI, 16, .inl m_wanted)), (a_m_s, .inl (cI, 21, .inl m_s)), (a_m_due, .inl (cI, 8, .inl u2)), (a_m_cost, .inl (cI, 10000, .inl m_cost)), (a_m_then, .inl (cI, 10000, .inl m_then))]) E hw [0, 2, 3, 4, 5] [1, 6, 7] [3, 0, 4, 5, 6, 7, 1, 2] (va_runV (As := []) (rest := []) E.1 (c_X7_gathersDue l dC dI cI cB cZ aK aV a_m a_m_text a_m_lifts a_m_price a_m_stood a_m_hands a_m_wanted a_m_s a_m_kept a_m_isKept a_m_due a_m_cost a_m_then a_m_by H.size m_thrown m_trace m_typed m_next m_token m_place m_value m_fault m_rooms m_people m_things m_draftRooms m_draftPeople m_draftThings m_dueMany m_hands m_wanted m_s m_due u1 u2 hu3) (cwV 0 hts gX7_cheapestBy_X7_gathersDue rfl rfl rfl hd_X7_gathersDue ⟨Nat.le_of_ble_eq_true rfl, Nat.le_of_ble_eq_true rfl⟩) (pre_V E hw [0, 2, 3, 4, 5] rfl rfl rfl rfl) rfl rfl hl.1 rfl (lv_room (Nat.le_of_ble_eq_true rfl)) dX7_cheapestBy_1 ⟨Nat.zero_le _, Nat.zero_le _⟩) rfl rfl rfl (by decide) rfl rfl (fun H locs hw => ?_)
  refine lv_aload_n hx hb dX7_cheapestBy_4 rfl (lv_at hl 0 rfl) ?_
  refine r_get E hw iX7 0 15 rfl rfl (by decide) kf130 rfl rfl dX7_cheapestBy_5 ?_
  refine lv_iconst (v := (4 : Int32)) hx hb dX7_cheapestBy_8 rfl ?_
  refine jn_sound (P := fun J => ∀ (x6 : Int32) (ls : Array Slot) (H : Heap) (locs : List Loc), J x6 = some (r, q0, q1, q2, q3) → lv_has ls 5 [(0, .ref a_m), (1, .int p1)] → Wd A s.heap (dC, dI) [(a_m, .inr (7, [.int m_thrown, .long m_trace, .ref a_m_text, .int m_typed, .int m_next, .int m_token, .int m_place, .int m_value, .int m_fault, .ref a_m_lifts, .ref a_m_price, .ref a_m_stood, .ref a_m_hands, .ref a_m_wanted, .int m_rooms, .int m_people, .int m_things, .int m_draftRooms, .int m_draftPeople, .int m_draftThings, .ref a_m_s, .ref a_m_kept, .ref a_m_isKept, .ref a_m_due, .int u1, .ref a_m_cost, .ref a_m_then, .ref a_m_by])), (a_m_price, .inl (cI, 8, .inl m_price)), (a_m_hands, .inl (cI, 16, .inl m_hands)), (a_m_wanted, .inl (cI, 16, .inl m_wanted)), (a_m_s, .inl (cI, 21, .inl m_s)), (a_m_due, .inl (cI, 8, .inl u2)), (a_m_cost, .inl (cI, 10000, .inl m_cost)), (a_m_then, .inl (cI, 10000, .inl m_then))] H locs → W p l e ({ frames := 3, cells := 0, slots := 0, locals := 66 } : Jvm.Room) s m args below meth c H locs 0 0 Q (F0 m 25 ls [.int x6])) hf ?_ ?_
  · intro x6 ls H locs hf hl hw
    refine lv_istore_n (lv' := [(2, .int x6), (0, .ref a_m), (1, .int p1)]) hx hb dX7_cheapestBy_25 rfl hl (by decide) rfl (fun ls hl => ?_)
    refine lv_iconst (v := (0 : Int32)) hx hb dX7_cheapestBy_26 rfl ?_
    refine lv_istore_n (lv' := [(3, .int (0 : Int32)), (2, .int x6), (0, .ref a_m), (1, .int p1)]) hx hb dX7_cheapestBy_27 rfl hl (by decide) rfl (fun ls hl => ?_)
    refine (loop2_sound (r := (r, q0, q1, q2, q3)) (P := fun (x132 : Int32) (x133 : Nat → Int32) => ∀ (ls : Array Slot) (H : Heap) (locs : List Loc), lv_has ls 5 [(3, .int x132), (2, .int x6), (0, .ref a_m), (1, .int p1)] → Wd A s.heap (dC, dI) [(a_m, .inr (7, [.int m_thrown, .long m_trace, .ref a_m_text, .int m_typed, .int m_next, .int m_token, .int m_place, .int m_value, .int m_fault, .ref a_m_lifts, .ref a_m_price, .ref a_m_stood, .ref a_m_hands, .ref a_m_wanted, .int m_rooms, .int m_people, .int m_things, .int m_draftRooms, .int m_draftPeople, .int m_draftThings, .ref a_m_s, .ref a_m_kept, .ref a_m_isKept, .ref a_m_due, .int u1, .ref a_m_cost, .ref a_m_then, .ref a_m_by])), (a_m_price, .inl (cI, 8, .inl m_price)), (a_m_hands, .inl (cI, 16, .inl m_hands)), (a_m_wanted, .inl (cI, 16, .inl m_wanted)), (a_m_s, .inl (cI, 21, .inl m_s)), (a_m_due, .inl (cI, 8, .inl u2)), (a_m_cost, .inl (cI, 10000, .inl x133)), (a_m_then, .inl (cI, 10000, .inl m_then))] H locs → W p l e ({ frames := 3, cells := 0, slots := 0, locals := 66 } : Jvm.Room) s m args below meth c H locs 0 0 Q (F0 m 28 ls [])) (fun B28 x132 x133 ih28 hf => ?_) _ (0 : Int32) m_cost hf) ls H locs (lv_sub hl [0, 1, 2, 3] rfl) hw
    intro ls H locs hl hw
    refine lv_iload_n hx hb dX7_cheapestBy_28 rfl (lv_at hl 0 rfl) ?_
    refine lv_iload_n hx hb dX7_cheapestBy_29 rfl (lv_at hl 1 rfl) ?_
    refine lv_icmp_ge (tgt := 55) hx hb dX7_cheapestBy_30 (by decide) (fun kc => ?_) (fun kc => ?_)
    · have hf := if_t hf kc
      refine lv_iconst (v := (0 : Int32)) hx hb dX7_cheapestBy_55 rfl ?_
      refine lv_istore_n (lv' := [(3, .int (0 : Int32)), (2, .int x6), (0, .ref a_m), (1, .int p1)]) hx hb dX7_cheapestBy_56 rfl hl (by decide) rfl (fun ls hl => ?_)
      refine (loop3_sound (r := (r, q0, q1, q2, q3)) (P := fun (x194 : Int32) (x195 : Nat → Int32) (x196 : Nat → Int32) => ∀ (ls : Array Slot) (H : Heap) (locs : List Loc), lv_has ls 5 [(3, .int x194), (2, .int x6), (0, .ref a_m), (1, .int p1)] → Wd A s.heap (dC, dI) [(a_m, .inr (7, [.int m_thrown, .long m_trace, .ref a_m_text, .int m_typed, .int m_next, .int m_token, .int m_place, .int m_value, .int m_fault, .ref a_m_lifts, .ref a_m_price, .ref a_m_stood, .ref a_m_hands, .ref a_m_wanted, .int m_rooms, .int m_people, .int m_things, .int m_draftRooms, .int m_draftPeople, .int m_draftThings, .ref a_m_s, .ref a_m_kept, .ref a_m_isKept, .ref a_m_due, .int u1, .ref a_m_cost, .ref a_m_then, .ref a_m_by])), (a_m_price, .inl (cI, 8, .inl m_price)), (a_m_hands, .inl (cI, 16, .inl m_hands)), (a_m_wanted, .inl (cI, 16, .inl m_wanted)), (a_m_s, .inl (cI, 21, .inl m_s)), (a_m_due, .inl (cI, 8, .inl u2)), (a_m_cost, .inl (cI, 10000, .inl x195)), (a_m_then, .inl (cI, 10000, .inl x196))] H locs → W p l e ({ frames := 3, cells := 0, slots := 0, locals := 66 } : Jvm.Room) s m args below meth c H locs 0 0 Q (F0 m 57 ls [])) (fun B57 x194 x195 x196 ih57 hf => ?_) _ (0 : Int32) x133 m_then hf) ls H locs (lv_sub hl [0, 1, 2, 3] rfl) hw
      intro ls H locs hl hw
      refine lv_iload_n hx hb dX7_cheapestBy_57 rfl (lv_at hl 0 rfl) ?_
      refine lv_aload_n hx hb dX7_cheapestBy_58 rfl (lv_at hl 2 rfl) ?_
      refine r_get E hw iX7 0 24 rfl rfl (by decide) kf179 rfl rfl dX7_cheapestBy_59 ?_
      refine lv_icmp_ge (tgt := 169) hx hb dX7_cheapestBy_62 (by decide) (fun kc => ?_) (fun kc => ?_)
      · have hf := if_t hf kc
        refine lv_bipush (v := (-9 : Int32)) hx hb dX7_cheapestBy_169 rfl ?_
        refine lv_istore_n (lv' := [(3, .int (-9 : Int32)), (2, .int x6), (0, .ref a_m), (1, .int p1)]) hx hb dX7_cheapestBy_171 rfl hl (by decide) rfl (fun ls hl => ?_)
        refine lv_iconst (v := (0 : Int32)) hx hb dX7_cheapestBy_172 rfl ?_
        refine lv_istore (lv' := [(4, .int (0 : Int32)), (3, .int (-9 : Int32)), (2, .int x6), (0, .ref a_m), (1, .int p1)]) hx hb dX7_cheapestBy_173 hl (by decide) rfl (fun ls hl => ?_)
        refine (loop2_sound (r := (r, q0, q1, q2, q3)) (P := fun (x200 : Int32) (x201 : Int32) => ∀ (ls : Array Slot) (H : Heap) (locs : List Loc), lv_has ls 5 [(4, .int x201), (3, .int x200), (2, .int x6), (0, .ref a_m)] → Wd A s.heap (dC, dI) [(a_m, .inr (7, [.int m_thrown, .long m_trace, .ref a_m_text, .int m_typed, .int m_next, .int m_token, .int m_place, .int m_value, .int m_fault, .ref a_m_lifts, .ref a_m_price, .ref a_m_stood, .ref a_m_hands, .ref a_m_wanted, .int m_rooms, .int m_people, .int m_things, .int m_draftRooms, .int m_draftPeople, .int m_draftThings, .ref a_m_s, .ref a_m_kept, .ref a_m_isKept, .ref a_m_due, .int u1, .ref a_m_cost, .ref a_m_then, .ref a_m_by])), (a_m_price, .inl (cI, 8, .inl m_price)), (a_m_hands, .inl (cI, 16, .inl m_hands)), (a_m_wanted, .inl (cI, 16, .inl m_wanted)), (a_m_s, .inl (cI, 21, .inl m_s)), (a_m_due, .inl (cI, 8, .inl u2)), (a_m_cost, .inl (cI, 10000, .inl x195)), (a_m_then, .inl (cI, 10000, .inl x196))] H locs → W p l e ({ frames := 3, cells := 0, slots := 0, locals := 66 } : Jvm.Room) s m args below meth c H locs 0 0 Q (F0 m 175 ls [])) (fun B175 x200 x201 ih175 hf => ?_) _ (-9 : Int32) (0 : Int32) hf) ls H locs (lv_sub hl [0, 1, 2, 3] rfl) hw
        intro ls H locs hl hw
        refine lv_iload hx hb dX7_cheapestBy_175 (lv_at hl 0 rfl) ?_
        refine lv_iload_n hx hb dX7_cheapestBy_177 rfl (lv_at hl 2 rfl) ?_
        refine lv_icmp_ge (tgt := 228) hx hb dX7_cheapestBy_178 (by decide) (fun kc => ?_) (fun kc => ?_)
        · have hf := if_t hf kc
          refine lv_iload_n hx hb dX7_cheapestBy_228 rfl (lv_at hl 1 rfl) ?_
          obtain ⟨rfl, rfl, rfl, rfl, rfl⟩ := sm5 hf
          exact hret H locs ls 229 hw dX7_cheapestBy_229
        · have hf := if_f hf kc
          refine lv_aload_n hx hb dX7_cheapestBy_181 rfl (lv_at hl 3 rfl) ?_
          refine r_get E hw iX7 0 25 rfl rfl (by decide) kf41 rfl rfl dX7_cheapestBy_182 ?_
          refine lv_iload hx hb dX7_cheapestBy_185 (lv_at hl 0 rfl) ?_
          obtain ⟨g202, hf⟩ := gd_some hf
          refine r_iald E hw 6 rfl g202 dX7_cheapestBy_187 ?_
          refine lv_bipush (v := (-9 : Int32)) hx hb dX7_cheapestBy_188 rfl ?_
          refine jn_sound (P := fun J => ∀ (ls : Array Slot) (H : Heap) (locs : List Loc), J = some (r, q0, q1, q2, q3) → lv_has ls 5 [(0, .ref a_m), (2, .int x6), (3, .int x200), (4, .int x201)] → Wd A s.heap (dC, dI) [(a_m, .inr (7, [.int m_thrown, .long m_trace, .ref a_m_text, .int m_typed, .int m_next, .int m_token, .int m_place, .int m_value, .int m_fault, .ref a_m_lifts, .ref a_m_price, .ref a_m_stood, .ref a_m_hands, .ref a_m_wanted, .int m_rooms, .int m_people, .int m_things, .int m_draftRooms, .int m_draftPeople, .int m_draftThings, .ref a_m_s, .ref a_m_kept, .ref a_m_isKept, .ref a_m_due, .int u1, .ref a_m_cost, .ref a_m_then, .ref a_m_by])), (a_m_price, .inl (cI, 8, .inl m_price)), (a_m_hands, .inl (cI, 16, .inl m_hands)), (a_m_wanted, .inl (cI, 16, .inl m_wanted)), (a_m_s, .inl (cI, 21, .inl m_s)), (a_m_due, .inl (cI, 8, .inl u2)), (a_m_cost, .inl (cI, 10000, .inl x195)), (a_m_then, .inl (cI, 10000, .inl x196))] H locs → W p l e ({ frames := 3, cells := 0, slots := 0, locals := 66 } : Jvm.Room) s m args below meth c H locs 0 0 Q (F0 m 220 ls [])) hf ?_ ?_
          · intro ls H locs hf hl hw
            refine lv_iload_n hx hb dX7_cheapestBy_220 rfl (lv_at hl 2 rfl) ?_
            refine lv_istore_n (lv' := [(3, .int x200), (0, .ref a_m), (2, .int x6), (4, .int x201)]) hx hb dX7_cheapestBy_221 rfl hl (by decide) rfl (fun ls hl => ?_)
            refine lv_iinc (v := (x201 + (1 : Int32))) (lv' := [(4, .int (x201 + (1 : Int32))), (3, .int x200), (0, .ref a_m), (2, .int x6)]) hx hb dX7_cheapestBy_222 hl (k := 3) rfl rfl (by decide) rfl (fun ls hl => ?_)
            refine lv_goto (tgt := 175) hx hb dX7_cheapestBy_225 (by decide) ?_
            exact ih175 x200 (x201 + (1 : Int32)) hf ls H locs (lv_sub hl [0, 1, 3, 2] rfl) hw
          · intro J220 hJ220 hf
            refine lv_icmp_eq (tgt := 220) hx hb dX7_cheapestBy_190 (by decide) (fun kc => ?_) (fun kc => ?_)
            · have hf := if_t hf kc
              exact hJ220 ls H locs hf (lv_sub hl [3, 2, 1, 0] rfl) hw
            · have hf := if_f hf kc
              refine lv_iload_n hx hb dX7_cheapestBy_193 rfl (lv_at hl 1 rfl) ?_
              refine lv_bipush (v := (-9 : Int32)) hx hb dX7_cheapestBy_194 rfl ?_
              refine jn_sound (P := fun J => ∀ (ls : Array Slot) (H : Heap) (locs : List Loc), J = some (r, q0, q1, q2, q3) → lv_has ls 5 [(0, .ref a_m), (2, .int x6), (4, .int x201)] → Wd A s.heap (dC, dI) [(a_m, .inr (7, [.int m_thrown, .long m_trace, .ref a_m_text, .int m_typed, .int m_next, .int m_token, .int m_place, .int m_value, .int m_fault, .ref a_m_lifts, .ref a_m_price, .ref a_m_stood, .ref a_m_hands, .ref a_m_wanted, .int m_rooms, .int m_people, .int m_things, .int m_draftRooms, .int m_draftPeople, .int m_draftThings, .ref a_m_s, .ref a_m_kept, .ref a_m_isKept, .ref a_m_due, .int u1, .ref a_m_cost, .ref a_m_then, .ref a_m_by])), (a_m_price, .inl (cI, 8, .inl m_price)), (a_m_hands, .inl (cI, 16, .inl m_hands)), (a_m_wanted, .inl (cI, 16, .inl m_wanted)), (a_m_s, .inl (cI, 21, .inl m_s)), (a_m_due, .inl (cI, 8, .inl u2)), (a_m_cost, .inl (cI, 10000, .inl x195)), (a_m_then, .inl (cI, 10000, .inl x196))] H locs → W p l e ({ frames := 3, cells := 0, slots := 0, locals := 66 } : Jvm.Room) s m args below meth c H locs 0 0 Q (F0 m 210 ls [])) hf ?_ ?_
              · intro ls H locs hf hl hw
                refine lv_aload_n hx hb dX7_cheapestBy_210 rfl (lv_at hl 0 rfl) ?_
                refine r_get E hw iX7 0 25 rfl rfl (by decide) kf41 rfl rfl dX7_cheapestBy_211 ?_
                refine lv_iload hx hb dX7_cheapestBy_214 (lv_at hl 2 rfl) ?_
                obtain ⟨g204, hf⟩ := gd_some hf
                refine r_iald E hw 6 rfl g204 dX7_cheapestBy_216 ?_
                refine lv_goto (tgt := 221) hx hb dX7_cheapestBy_217 (by decide) ?_
                refine lv_istore_n (lv' := [(3, .int (x195 x201.toNatClampNeg)), (0, .ref a_m), (2, .int x6), (4, .int x201)]) hx hb dX7_cheapestBy_221 rfl hl (by decide) rfl (fun ls hl => ?_)
                refine lv_iinc (v := (x201 + (1 : Int32))) (lv' := [(4, .int (x201 + (1 : Int32))), (3, .int (x195 x201.toNatClampNeg)), (0, .ref a_m), (2, .int x6)]) hx hb dX7_cheapestBy_222 hl (k := 3) rfl rfl (by decide) rfl (fun ls hl => ?_)
                refine lv_goto (tgt := 175) hx hb dX7_cheapestBy_225 (by decide) ?_
                exact ih175 (x195 x201.toNatClampNeg) (x201 + (1 : Int32)) hf ls H locs (lv_sub hl [0, 1, 3, 2] rfl) hw
              · intro J210 hJ210 hf
                refine lv_icmp_eq (tgt := 210) hx hb dX7_cheapestBy_196 (by decide) (fun kc => ?_) (fun kc => ?_)
                · have hf := if_t hf kc
                  exact hJ210 ls H locs hf (lv_sub hl [3, 2, 0] rfl) hw
                · have hf := if_f hf kc
                  refine lv_aload_n hx hb dX7_cheapestBy_199 rfl (lv_at hl 3 rfl) ?_
                  refine r_get E hw iX7 0 25 rfl rfl (by decide) kf41 rfl rfl dX7_cheapestBy_200 ?_
                  refine lv_iload hx hb dX7_cheapestBy_203 (lv_at hl 0 rfl) ?_
                  obtain ⟨g203, hf⟩ := gd_some hf
                  refine r_iald E hw 6 rfl g203 dX7_cheapestBy_205 ?_
                  refine lv_iload_n hx hb dX7_cheapestBy_206 rfl (lv_at hl 1 rfl) ?_
                  refine lv_icmp_ge (tgt := 220) hx hb dX7_cheapestBy_207 (by decide) (fun kc => ?_) (fun kc => ?_)
                  · have hf := if_t hf kc
                    exact hJ220 ls H locs hf (lv_sub hl [3, 2, 1, 0] rfl) hw
                  · have hf := if_f hf kc
                    exact hJ210 ls H locs hf (lv_sub hl [3, 2, 0] rfl) hw
      · have hf := if_f hf kc
        refine lv_iconst (v := (0 : Int32)) hx hb dX7_cheapestBy_65 rfl ?_
        refine lv_istore (lv' := [(4, .int (0 : Int32)), (3, .int x194), (2, .int x6), (0, .ref a_m), (1, .int p1)]) hx hb dX7_cheapestBy_66 hl (by decide) rfl (fun ls hl => ?_)
        refine (loop2_sound (r := (r, q0, q1, q2, q3)) (P := fun (x230 : Int32) (x231 : Nat → Int32) => ∀ (ls : Array Slot) (H : Heap) (locs : List Loc), lv_has ls 5 [(4, .int x230), (3, .int x194), (2, .int x6), (0, .ref a_m), (1, .int p1)] → Wd A s.heap (dC, dI) [(a_m, .inr (7, [.int m_thrown, .long m_trace, .ref a_m_text, .int m_typed, .int m_next, .int m_token, .int m_place, .int m_value, .int m_fault, .ref a_m_lifts, .ref a_m_price, .ref a_m_stood, .ref a_m_hands, .ref a_m_wanted, .int m_rooms, .int m_people, .int m_things, .int m_draftRooms, .int m_draftPeople, .int m_draftThings, .ref a_m_s, .ref a_m_kept, .ref a_m_isKept, .ref a_m_due, .int u1, .ref a_m_cost, .ref a_m_then, .ref a_m_by])), (a_m_price, .inl (cI, 8, .inl m_price)), (a_m_hands, .inl (cI, 16, .inl m_hands)), (a_m_wanted, .inl (cI, 16, .inl m_wanted)), (a_m_s, .inl (cI, 21, .inl m_s)), (a_m_due, .inl (cI, 8, .inl u2)), (a_m_cost, .inl (cI, 10000, .inl x195)), (a_m_then, .inl (cI, 10000, .inl x231))] H locs → W p l e ({ frames := 3, cells := 0, slots := 0, locals := 66 } : Jvm.Room) s m args below meth c H locs 0 0 Q (F0 m 68 ls [])) (fun B68 x230 x231 ih68 hf => ?_) _ (0 : Int32) x196 hf) ls H locs (lv_sub hl [0, 1, 2, 3, 4] rfl) hw
        intro ls H locs hl hw
        refine lv_iload hx hb dX7_cheapestBy_68 (lv_at hl 0 rfl) ?_
        refine lv_iload_n hx hb dX7_cheapestBy_70 rfl (lv_at hl 2 rfl) ?_
        refine lv_icmp_ge (tgt := 89) hx hb dX7_cheapestBy_71 (by decide) (fun kc => ?_) (fun kc => ?_)
        · have hf := if_t hf kc
          refine lv_iconst (v := (0 : Int32)) hx hb dX7_cheapestBy_89 rfl ?_
          refine lv_istore (lv' := [(4, .int (0 : Int32)), (3, .int x194), (2, .int x6), (0, .ref a_m), (1, .int p1)]) hx hb dX7_cheapestBy_90 hl (by decide) rfl (fun ls hl => ?_)
          refine (loop2_sound (r := (r, q0, q1, q2, q3)) (P := fun (x243 : Int32) (x244 : Nat → Int32) => ∀ (ls : Array Slot) (H : Heap) (locs : List Loc), lv_has ls 5 [(4, .int x243), (3, .int x194), (2, .int x6), (0, .ref a_m), (1, .int p1)] → Wd A s.heap (dC, dI) [(a_m, .inr (7, [.int m_thrown, .long m_trace, .ref a_m_text, .int m_typed, .int m_next, .int m_token, .int m_place, .int m_value, .int m_fault, .ref a_m_lifts, .ref a_m_price, .ref a_m_stood, .ref a_m_hands, .ref a_m_wanted, .int m_rooms, .int m_people, .int m_things, .int m_draftRooms, .int m_draftPeople, .int m_draftThings, .ref a_m_s, .ref a_m_kept, .ref a_m_isKept, .ref a_m_due, .int u1, .ref a_m_cost, .ref a_m_then, .ref a_m_by])), (a_m_price, .inl (cI, 8, .inl m_price)), (a_m_hands, .inl (cI, 16, .inl m_hands)), (a_m_wanted, .inl (cI, 16, .inl m_wanted)), (a_m_s, .inl (cI, 21, .inl m_s)), (a_m_due, .inl (cI, 8, .inl u2)), (a_m_cost, .inl (cI, 10000, .inl x195)), (a_m_then, .inl (cI, 10000, .inl x244))] H locs → W p l e ({ frames := 3, cells := 0, slots := 0, locals := 66 } : Jvm.Room) s m args below meth c H locs 0 0 Q (F0 m 92 ls [])) (fun B92 x243 x244 ih92 hf => ?_) _ (0 : Int32) x231 hf) ls H locs (lv_sub hl [0, 1, 2, 3, 4] rfl) hw
          intro ls H locs hl hw
          refine lv_iload hx hb dX7_cheapestBy_92 (lv_at hl 0 rfl) ?_
          refine lv_bipush (v := (16 : Int32)) hx hb dX7_cheapestBy_94 rfl ?_
          refine lv_icmp_ge (tgt := 134) hx hb dX7_cheapestBy_96 (by decide) (fun kc => ?_) (fun kc => ?_)
          · have hf := if_t hf kc
            refine lv_iconst (v := (0 : Int32)) hx hb dX7_cheapestBy_134 rfl ?_
            refine lv_istore (lv' := [(4, .int (0 : Int32)), (3, .int x194), (2, .int x6), (0, .ref a_m), (1, .int p1)]) hx hb dX7_cheapestBy_135 hl (by decide) rfl (fun ls hl => ?_)
            refine (loop2_sound (r := (r, q0, q1, q2, q3)) (P := fun (x247 : Int32) (x248 : Nat → Int32) => ∀ (ls : Array Slot) (H : Heap) (locs : List Loc), lv_has ls 5 [(4, .int x247), (3, .int x194), (2, .int x6), (0, .ref a_m), (1, .int p1)] → Wd A s.heap (dC, dI) [(a_m, .inr (7, [.int m_thrown, .long m_trace, .ref a_m_text, .int m_typed, .int m_next, .int m_token, .int m_place, .int m_value, .int m_fault, .ref a_m_lifts, .ref a_m_price, .ref a_m_stood, .ref a_m_hands, .ref a_m_wanted, .int m_rooms, .int m_people, .int m_things, .int m_draftRooms, .int m_draftPeople, .int m_draftThings, .ref a_m_s, .ref a_m_kept, .ref a_m_isKept, .ref a_m_due, .int u1, .ref a_m_cost, .ref a_m_then, .ref a_m_by])), (a_m_price, .inl (cI, 8, .inl m_price)), (a_m_hands, .inl (cI, 16, .inl m_hands)), (a_m_wanted, .inl (cI, 16, .inl m_wanted)), (a_m_s, .inl (cI, 21, .inl m_s)), (a_m_due, .inl (cI, 8, .inl u2)), (a_m_cost, .inl (cI, 10000, .inl x248)), (a_m_then, .inl (cI, 10000, .inl x244))] H locs → W p l e ({ frames := 3, cells := 0, slots := 0, locals := 66 } : Jvm.Room) s m args below meth c H locs 0 0 Q (F0 m 137 ls [])) (fun B137 x247 x248 ih137 hf => ?_) _ (0 : Int32) x195 hf) ls H locs (lv_sub hl [0, 1, 2, 3, 4] rfl) hw
            intro ls H locs hl hw
            refine lv_iload hx hb dX7_cheapestBy_137 (lv_at hl 0 rfl) ?_
            refine lv_iload_n hx hb dX7_cheapestBy_139 rfl (lv_at hl 2 rfl) ?_
            refine lv_icmp_ge (tgt := 163) hx hb dX7_cheapestBy_140 (by decide) (fun kc => ?_) (fun kc => ?_)
            · have hf := if_t hf kc
              refine lv_iinc (v := (x194 + (1 : Int32))) (lv' := [(3, .int (x194 + (1 : Int32))), (4, .int x247), (2, .int x6), (0, .ref a_m), (1, .int p1)]) hx hb dX7_cheapestBy_163 hl (k := 1) rfl rfl (by decide) rfl (fun ls hl => ?_)
              refine lv_goto (tgt := 57) hx hb dX7_cheapestBy_166 (by decide) ?_
              exact ih57 (x194 + (1 : Int32)) x248 x244 hf ls H locs (lv_sub hl [0, 2, 3, 4] rfl) hw
            · have hf := if_f hf kc
              refine lv_aload_n hx hb dX7_cheapestBy_143 rfl (lv_at hl 3 rfl) ?_
              refine r_get E hw iX7 0 25 rfl rfl (by decide) kf41 rfl rfl dX7_cheapestBy_144 ?_
              refine lv_iload hx hb dX7_cheapestBy_147 (lv_at hl 0 rfl) ?_
              refine lv_aload_n hx hb dX7_cheapestBy_149 rfl (lv_at hl 3 rfl) ?_
              refine r_get E hw iX7 0 26 rfl rfl (by decide) kf44 rfl rfl dX7_cheapestBy_150 ?_
              refine lv_iload hx hb dX7_cheapestBy_153 (lv_at hl 0 rfl) ?_
              obtain ⟨g249, hf⟩ := gd_some hf
              refine r_iald E hw 7 rfl g249 dX7_cheapestBy_155 ?_
              obtain ⟨g250, hf⟩ := gd_some hf
              refine r_iast E hw 6 rfl g250 [(a_m, .inr (7, [.int m_thrown, .long m_trace, .ref a_m_text, .int m_typed, .int m_next, .int m_token, .int m_place, .int m_value, .int m_fault, .ref a_m_lifts, .ref a_m_price, .ref a_m_stood, .ref a_m_hands, .ref a_m_wanted, .int m_rooms, .int m_people, .int m_things, .int m_draftRooms, .int m_draftPeople, .int m_draftThings, .ref a_m_s, .ref a_m_kept, .ref a_m_isKept, .ref a_m_due, .int u1, .ref a_m_cost, .ref a_m_then, .ref a_m_by])), (a_m_price, .inl (cI, 8, .inl m_price)), (a_m_hands, .inl (cI, 16, .inl m_hands)), (a_m_wanted, .inl (cI, 16, .inl m_wanted)), (a_m_s, .inl (cI, 21, .inl m_s)), (a_m_due, .inl (cI, 8, .inl u2)), (a_m_cost, .inl (cI, 10000, .inl (upd x248 x247.toNatClampNeg (x244 x247.toNatClampNeg)))), (a_m_then, .inl (cI, 10000, .inl x244))] rfl dX7_cheapestBy_156 (fun H locs hw => ?_)
              refine lv_iinc (v := (x247 + (1 : Int32))) (lv' := [(4, .int (x247 + (1 : Int32))), (3, .int x194), (2, .int x6), (0, .ref a_m), (1, .int p1)]) hx hb dX7_cheapestBy_157 hl (k := 0) rfl rfl (by decide) rfl (fun ls hl => ?_)
              refine lv_goto (tgt := 137) hx hb dX7_cheapestBy_160 (by decide) ?_
              exact ih137 (x247 + (1 : Int32)) (upd x248 x247.toNatClampNeg (x244 x247.toNatClampNeg)) hf ls H locs (lv_sub hl [0, 1, 2, 3, 4] rfl) hw
          · have hf := if_f hf kc
            refine lv_iload hx hb dX7_cheapestBy_99 (lv_at hl 0 rfl) ?_
            refine lv_iload_n hx hb dX7_cheapestBy_101 rfl (lv_at hl 4 rfl) ?_
            refine lv_iconst (v := (-1 : Int32)) hx hb dX7_cheapestBy_102 rfl ?_
            refine lv_ixor hx hb dX7_cheapestBy_103 ?_
            refine lv_iand hx hb dX7_cheapestBy_104 ?_
            refine lv_if_ne (tgt := 128) hx hb dX7_cheapestBy_105 (by decide) (fun kc => ?_) (fun kc => ?_)
            · have hf := if_f hf kc
              refine lv_iinc (v := (x243 + (1 : Int32))) (lv' := [(4, .int (x243 + (1 : Int32))), (3, .int x194), (2, .int x6), (0, .ref a_m), (1, .int p1)]) hx hb dX7_cheapestBy_128 hl (k := 0) rfl rfl (by decide) rfl (fun ls hl => ?_)
              refine lv_goto (tgt := 92) hx hb dX7_cheapestBy_131 (by decide) ?_
              exact ih92 (x243 + (1 : Int32)) x244 hf ls H locs (lv_sub hl [0, 1, 2, 3, 4] rfl) hw
            · have hf := if_t hf kc
              refine lv_iload hx hb dX7_cheapestBy_108 (lv_at hl 0 rfl) ?_
              obtain ⟨r251, hu252, hf⟩ := bd1_some hf
              refine cl_i (wr := [(a_m, .inr (7, [.int m_thrown, .long m_trace, .ref a_m_text, .int m_typed, .int m_next, .int m_token, .int m_place, .int m_value, .int m_fault, .ref a_m_lifts, .ref a_m_price, .ref a_m_stood, .ref a_m_hands, .ref a_m_wanted, .int m_rooms, .int m_people, .int m_things, .int m_draftRooms, .int m_draftPeople, .int m_draftThings, .ref a_m_s, .ref a_m_kept, .ref a_m_isKept, .ref a_m_due, .int u1, .ref a_m_cost, .ref a_m_then, .ref a_m_by])), (a_m_price, .inl (cI, 8, .inl m_price)), (a_m_hands, .inl (cI, 16, .inl m_hands)), (a_m_wanted, .inl (cI, 16, .inl m_wanted)), (a_m_s, .inl (cI, 21, .inl m_s)), (a_m_due, .inl (cI, 8, .inl u2)), (a_m_cost, .inl (cI, 10000, .inl x195)), (a_m_then, .inl (cI, 10000, .inl x244))]) (w2 := [(a_m, .inr (7, [.int m_thrown, .long m_trace, .ref a_m_text, .int m_typed, .int m_next, .int m_token, .int m_place, .int m_value, .int m_fault, .ref a_m_lifts, .ref a_m_price, .ref a_m_stood, .ref a_m_hands, .ref a_m_wanted, .int m_rooms, .int m_people, .int m_things, .int m_draftRooms, .int m_draftPeople, .int m_draftThings, .ref a_m_s, .ref a_m_kept, .ref a_m_isKept, .ref a_m_due, .int u1, .ref a_m_cost, .ref a_m_then, .ref a_m_by])), (a_m_price, .inl (cI, 8, .inl m_price)), (a_m_hands, .inl (cI, 16, .inl m_hands)), (a_m_wanted, .inl (cI, 16, .inl m_wanted)), (a_m_s, .inl (cI, 21, .inl m_s)), (a_m_due, .inl (cI, 8, .inl u2)), (a_m_cost, .inl (cI, 10000, .inl x195)), (a_m_then, .inl (cI, 10000, .inl x244))]) E hw [] [0, 1, 2, 3, 4, 5, 6, 7] [0, 1, 2, 3, 4, 5, 6, 7] (va_runS (As := [.int x243]) (rest := []) E.1 (c_X7_ones l dC dI cI cB cZ aK aV H.size x243 r251 hu252) (va_cwS 1 hts gX7_cheapestBy_X7_ones rfl rfl rfl hd_X7_ones ⟨Nat.le_of_ble_eq_true rfl, Nat.le_of_ble_eq_true rfl⟩) (pre_S E hw [] rfl rfl) rfl rfl hl.1 rfl (lv_room (Nat.le_of_ble_eq_true rfl)) dX7_cheapestBy_110 ⟨Nat.zero_le _, Nat.zero_le _⟩) rfl rfl rfl (by decide) rfl rfl (fun H locs hw => ?_)
              refine lv_aload_n hx hb dX7_cheapestBy_113 rfl (lv_at hl 3 rfl) ?_
              refine r_get E hw iX7 0 23 rfl rfl (by decide) kf38 rfl rfl dX7_cheapestBy_114 ?_
              refine lv_iload_n hx hb dX7_cheapestBy_117 rfl (lv_at hl 1 rfl) ?_
              obtain ⟨g253, hf⟩ := gd_some hf
              refine r_iald E hw 5 rfl g253 dX7_cheapestBy_118 ?_
              refine lv_icmp_ne (tgt := 128) hx hb dX7_cheapestBy_119 (by decide) (fun kc => ?_) (fun kc => ?_)
              · have hf := if_f hf kc
                refine lv_iinc (v := (x243 + (1 : Int32))) (lv' := [(4, .int (x243 + (1 : Int32))), (3, .int x194), (2, .int x6), (0, .ref a_m), (1, .int p1)]) hx hb dX7_cheapestBy_128 hl (k := 0) rfl rfl (by decide) rfl (fun ls hl => ?_)
                refine lv_goto (tgt := 92) hx hb dX7_cheapestBy_131 (by decide) ?_
                exact ih92 (x243 + (1 : Int32)) x244 hf ls H locs (lv_sub hl [0, 1, 2, 3, 4] rfl) hw
              · have hf := if_t hf kc
                refine lv_aload_n hx hb dX7_cheapestBy_122 rfl (lv_at hl 3 rfl) ?_
                refine lv_iload hx hb dX7_cheapestBy_123 (lv_at hl 0 rfl) ?_
                obtain ⟨u254, hu255, hf⟩ := bd1_some hf
                refine cl_v (wr := [(a_m_hands, .inl (cI, 16, .inl m_hands)), (a_m_wanted, .inl (cI, 16, .inl m_wanted)), (a_m_due, .inl (cI, 8, .inl u2))]) (w2 := [(a_m, .inr (7, [.int m_thrown, .long m_trace, .ref a_m_text, .int m_typed, .int m_next, .int m_token, .int m_place, .int m_value, .int m_fault, .ref a_m_lifts, .ref a_m_price, .ref a_m_stood, .ref a_m_hands, .ref a_m_wanted, .int m_rooms, .int m_people, .int m_things, .int m_draftRooms, .int m_draftPeople, .int m_draftThings, .ref a_m_s, .ref a_m_kept, .ref a_m_isKept, .ref a_m_due, .int u1, .ref a_m_cost, .ref a_m_then, .ref a_m_by])), (a_m_price, .inl (cI, 8, .inl m_price)), (a_m_hands, .inl (cI, 16, .inl m_hands)), (a_m_wanted, .inl (cI, 16, .inl m_wanted)), (a_m_s, .inl (cI, 21, .inl m_s)), (a_m_due, .inl (cI, 8, .inl u2)), (a_m_cost, .inl (cI, 10000, .inl x195)), (a_m_then, .inl (cI, 10000, .inl u254))]) E hw [0, 1, 4, 6, 7] [2, 3, 5] [3, 4, 0, 1, 5, 2, 6, 7] (va_runV (As := [.int x243]) (rest := []) E.1 (c_X7_liftsAll l dC dI cI cB cZ aK aV a_m a_m_text a_m_lifts a_m_price a_m_stood a_m_hands a_m_wanted a_m_s a_m_kept a_m_isKept a_m_due a_m_cost a_m_then a_m_by H.size m_thrown m_trace m_typed m_next m_token m_place m_value m_fault m_rooms m_people m_things m_draftRooms m_draftPeople m_draftThings u1 m_price m_s x195 x244 x243 u254 hu255) (cwV 1 hts gX7_cheapestBy_X7_liftsAll rfl rfl rfl hd_X7_liftsAll ⟨Nat.le_of_ble_eq_true rfl, Nat.le_of_ble_eq_true rfl⟩) (pre_V E hw [0, 1, 4, 6, 7] rfl rfl rfl rfl) rfl rfl hl.1 rfl (lv_room (Nat.le_of_ble_eq_true rfl)) dX7_cheapestBy_125 ⟨Nat.zero_le _, Nat.zero_le _⟩) rfl rfl rfl (by decide) rfl rfl (fun H locs hw => ?_)
                refine lv_iinc (v := (x243 + (1 : Int32))) (lv' := [(4, .int (x243 + (1 : Int32))), (3, .int x194), (2, .int x6), (0, .ref a_m), (1, .int p1)]) hx hb dX7_cheapestBy_128 hl (k := 0) rfl rfl (by decide) rfl (fun ls hl => ?_)
                refine lv_goto (tgt := 92) hx hb dX7_cheapestBy_131 (by decide) ?_
                exact ih92 (x243 + (1 : Int32)) u254 hf ls H locs (lv_sub hl [0, 1, 2, 3, 4] rfl) hw
        · have hf := if_f hf kc
          refine lv_aload_n hx hb dX7_cheapestBy_74 rfl (lv_at hl 3 rfl) ?_
          refine r_get E hw iX7 0 26 rfl rfl (by decide) kf44 rfl rfl dX7_cheapestBy_75 ?_
          refine lv_iload hx hb dX7_cheapestBy_78 (lv_at hl 0 rfl) ?_
          refine lv_bipush (v := (-9 : Int32)) hx hb dX7_cheapestBy_80 rfl ?_
          obtain ⟨g256, hf⟩ := gd_some hf
          refine r_iast E hw 7 rfl g256 [(a_m, .inr (7, [.int m_thrown, .long m_trace, .ref a_m_text, .int m_typed, .int m_next, .int m_token, .int m_place, .int m_value, .int m_fault, .ref a_m_lifts, .ref a_m_price, .ref a_m_stood, .ref a_m_hands, .ref a_m_wanted, .int m_rooms, .int m_people, .int m_things, .int m_draftRooms, .int m_draftPeople, .int m_draftThings, .ref a_m_s, .ref a_m_kept, .ref a_m_isKept, .ref a_m_due, .int u1, .ref a_m_cost, .ref a_m_then, .ref a_m_by])), (a_m_price, .inl (cI, 8, .inl m_price)), (a_m_hands, .inl (cI, 16, .inl m_hands)), (a_m_wanted, .inl (cI, 16, .inl m_wanted)), (a_m_s, .inl (cI, 21, .inl m_s)), (a_m_due, .inl (cI, 8, .inl u2)), (a_m_cost, .inl (cI, 10000, .inl x195)), (a_m_then, .inl (cI, 10000, .inl (upd x231 x230.toNatClampNeg (-9 : Int32))))] rfl dX7_cheapestBy_82 (fun H locs hw => ?_)
          refine lv_iinc (v := (x230 + (1 : Int32))) (lv' := [(4, .int (x230 + (1 : Int32))), (3, .int x194), (2, .int x6), (0, .ref a_m), (1, .int p1)]) hx hb dX7_cheapestBy_83 hl (k := 0) rfl rfl (by decide) rfl (fun ls hl => ?_)
          refine lv_goto (tgt := 68) hx hb dX7_cheapestBy_86 (by decide) ?_
          exact ih68 (x230 + (1 : Int32)) (upd x231 x230.toNatClampNeg (-9 : Int32)) hf ls H locs (lv_sub hl [0, 1, 2, 3, 4] rfl) hw
    · have hf := if_f hf kc
      refine lv_aload_n hx hb dX7_cheapestBy_33 rfl (lv_at hl 2 rfl) ?_
      refine r_get E hw iX7 0 25 rfl rfl (by decide) kf41 rfl rfl dX7_cheapestBy_34 ?_
      refine lv_iload_n hx hb dX7_cheapestBy_37 rfl (lv_at hl 0 rfl) ?_
      refine lv_iload_n hx hb dX7_cheapestBy_38 rfl (lv_at hl 0 rfl) ?_
      refine jn_sound (P := fun J => ∀ (x257 : Int32) (ls : Array Slot) (H : Heap) (locs : List Loc), J x257 = some (r, q0, q1, q2, q3) → lv_has ls 5 [(0, .ref a_m), (1, .int p1), (2, .int x6), (3, .int x132)] → Wd A s.heap (dC, dI) [(a_m, .inr (7, [.int m_thrown, .long m_trace, .ref a_m_text, .int m_typed, .int m_next, .int m_token, .int m_place, .int m_value, .int m_fault, .ref a_m_lifts, .ref a_m_price, .ref a_m_stood, .ref a_m_hands, .ref a_m_wanted, .int m_rooms, .int m_people, .int m_things, .int m_draftRooms, .int m_draftPeople, .int m_draftThings, .ref a_m_s, .ref a_m_kept, .ref a_m_isKept, .ref a_m_due, .int u1, .ref a_m_cost, .ref a_m_then, .ref a_m_by])), (a_m_price, .inl (cI, 8, .inl m_price)), (a_m_hands, .inl (cI, 16, .inl m_hands)), (a_m_wanted, .inl (cI, 16, .inl m_wanted)), (a_m_s, .inl (cI, 21, .inl m_s)), (a_m_due, .inl (cI, 8, .inl u2)), (a_m_cost, .inl (cI, 10000, .inl x133)), (a_m_then, .inl (cI, 10000, .inl m_then))] H locs → W p l e ({ frames := 3, cells := 0, slots := 0, locals := 66 } : Jvm.Room) s m args below meth c H locs 0 0 Q (F0 m 48 ls [.int x257, .int x132, .ref a_m_cost])) hf ?_ ?_
      · intro x257 ls H locs hf hl hw
        obtain ⟨g258, hf⟩ := gd_some hf
        refine r_iast E hw 6 rfl g258 [(a_m, .inr (7, [.int m_thrown, .long m_trace, .ref a_m_text, .int m_typed, .int m_next, .int m_token, .int m_place, .int m_value, .int m_fault, .ref a_m_lifts, .ref a_m_price, .ref a_m_stood, .ref a_m_hands, .ref a_m_wanted, .int m_rooms, .int m_people, .int m_things, .int m_draftRooms, .int m_draftPeople, .int m_draftThings, .ref a_m_s, .ref a_m_kept, .ref a_m_isKept, .ref a_m_due, .int u1, .ref a_m_cost, .ref a_m_then, .ref a_m_by])), (a_m_price, .inl (cI, 8, .inl m_price)), (a_m_hands, .inl (cI, 16, .inl m_hands)), (a_m_wanted, .inl (cI, 16, .inl m_wanted)), (a_m_s, .inl (cI, 21, .inl m_s)), (a_m_due, .inl (cI, 8, .inl u2)), (a_m_cost, .inl (cI, 10000, .inl (upd x133 x132.toNatClampNeg x257))), (a_m_then, .inl (cI, 10000, .inl m_then))] rfl dX7_cheapestBy_48 (fun H locs hw => ?_)
        refine lv_iinc (v := (x132 + (1 : Int32))) (lv' := [(3, .int (x132 + (1 : Int32))), (0, .ref a_m), (1, .int p1), (2, .int x6)]) hx hb dX7_cheapestBy_49 hl (k := 3) rfl rfl (by decide) rfl (fun ls hl => ?_)
        refine lv_goto (tgt := 28) hx hb dX7_cheapestBy_52 (by decide) ?_
        exact ih28 (x132 + (1 : Int32)) (upd x133 x132.toNatClampNeg x257) hf ls H locs (lv_sub hl [0, 3, 1, 2] rfl) hw
      · intro J48 hJ48 hf
        refine lv_if_ne (tgt := 46) hx hb dX7_cheapestBy_39 (by decide) (fun kc => ?_) (fun kc => ?_)
        · have hf := if_f hf kc
          refine lv_bipush (v := (-9 : Int32)) hx hb dX7_cheapestBy_46 rfl ?_
          exact hJ48 (-9 : Int32) ls H locs hf (lv_sub hl [2, 3, 1, 0] rfl) hw
        · have hf := if_t hf kc
          refine lv_iconst (v := (0 : Int32)) hx hb dX7_cheapestBy_42 rfl ?_
          refine lv_goto (tgt := 48) hx hb dX7_cheapestBy_43 (by decide) ?_
          exact hJ48 (0 : Int32) ls H locs hf (lv_sub hl [2, 3, 1, 0] rfl) hw
  · intro J25 hJ25 hf
    refine lv_icmp_ne (tgt := 18) hx hb dX7_cheapestBy_9 (by decide) (fun kc => ?_) (fun kc => ?_)
    · have hf := if_f hf kc
      refine lv_aload_n hx hb dX7_cheapestBy_18 rfl (lv_at hl 0 rfl) ?_
      refine r_get E hw iX7 0 15 rfl rfl (by decide) kf130 rfl rfl dX7_cheapestBy_19 ?_
      obtain ⟨r4, hu5, hf⟩ := bd1_some hf
      refine cl_i (wr := [(a_m, .inr (7, [.int m_thrown, .long m_trace, .ref a_m_text, .int m_typed, .int m_next, .int m_token, .int m_place, .int m_value, .int m_fault, .ref a_m_lifts, .ref a_m_price, .ref a_m_stood, .ref a_m_hands, .ref a_m_wanted, .int m_rooms, .int m_people, .int m_things, .int m_draftRooms, .int m_draftPeople, .int m_draftThings, .ref a_m_s, .ref a_m_kept, .ref a_m_isKept, .ref a_m_due, .int u1, .ref a_m_cost, .ref a_m_then, .ref a_m_by])), (a_m_price, .inl (cI, 8, .inl m_price)), (a_m_hands, .inl (cI, 16, .inl m_hands)), (a_m_wanted, .inl (cI, 16, .inl m_wanted)), (a_m_s, .inl (cI, 21, .inl m_s)), (a_m_due, .inl (cI, 8, .inl u2)), (a_m_cost, .inl (cI, 10000, .inl m_cost)), (a_m_then, .inl (cI, 10000, .inl m_then))]) (w2 := [(a_m, .inr (7, [.int m_thrown, .long m_trace, .ref a_m_text, .int m_typed, .int m_next, .int m_token, .int m_place, .int m_value, .int m_fault, .ref a_m_lifts, .ref a_m_price, .ref a_m_stood, .ref a_m_hands, .ref a_m_wanted, .int m_rooms, .int m_people, .int m_things, .int m_draftRooms, .int m_draftPeople, .int m_draftThings, .ref a_m_s, .ref a_m_kept, .ref a_m_isKept, .ref a_m_due, .int u1, .ref a_m_cost, .ref a_m_then, .ref a_m_by])), (a_m_price, .inl (cI, 8, .inl m_price)), (a_m_hands, .inl (cI, 16, .inl m_hands)), (a_m_wanted, .inl (cI, 16, .inl m_wanted)), (a_m_s, .inl (cI, 21, .inl m_s)), (a_m_due, .inl (cI, 8, .inl u2)), (a_m_cost, .inl (cI, 10000, .inl m_cost)), (a_m_then, .inl (cI, 10000, .inl m_then))]) E hw [] [0, 1, 2, 3, 4, 5, 6, 7] [0, 1, 2, 3, 4, 5, 6, 7] (va_runS (As := [.int m_people]) (rest := []) E.1 (c_X7_powerOfTen l dC dI cI cB cZ aK aV H.size m_people r4 hu5) (va_cwS 1 hts gX7_cheapestBy_X7_powerOfTen rfl rfl rfl hd_X7_powerOfTen ⟨Nat.le_of_ble_eq_true rfl, Nat.le_of_ble_eq_true rfl⟩) (pre_S E hw [] rfl rfl) rfl rfl hl.1 rfl (lv_room (Nat.le_of_ble_eq_true rfl)) dX7_cheapestBy_22 ⟨Nat.zero_le _, Nat.zero_le _⟩) rfl rfl rfl (by decide) rfl rfl (fun H locs hw => ?_)
      exact hJ25 r4 ls H locs hf hl hw
    · have hf := if_t hf kc
      refine lv_sipush (v := (10000 : Int32)) hx hb dX7_cheapestBy_12 rfl ?_
      refine lv_goto (tgt := 25) hx hb dX7_cheapestBy_15 (by decide) ?_
      exact hJ25 (10000 : Int32) ls H locs hf hl hw
def f_X7_canBy (p1 : Int32) (m_people : Int32) (m_things : Int32) (m_hands : Nat → Int32) (m_wanted : Nat → Int32) (m_s : Nat → Int32) (m_due : Nat → Int32) : Option (Int32 × Int32 × (Nat → Int32)) :=
  bd2 (f_X7_gathersDue m_things m_hands m_wanted m_s m_due) (fun u1 u2 => loop2 (fun B8 (x30 : Int32) (x31 : Int32) => (if p1 < x31 then gd (decide (x30 = 0 ∨ x30 = 1)) (some (x30, u1, u2)) else (if (x31 &&& (p1 ^^^ (-1 : Int32))) = 0 then loop2 (fun B27 (x44 : Int32) (x45 : Int32) => (if u1 ≤ x45 then loop2 (fun B73 (x49 : Int32) (x50 : Int32) => (if m_people ≤ x50 then jn (fun (x51 : Int32) => B8 x51 (x31 + (1 : Int32))) (fun J133 => jn (J133 (0 : Int32)) (fun J132 => (if x30 = 0 then J132 else (if x49 < x44 then J132 else J133 (1 : Int32))))) else (if ((x31 >>> (x50 &&& 31)) &&& (1 : Int32)) = (1 : Int32) then gd (inb ((16 : Int32) + x50) 21) (B73 (x49 + (m_s ((16 : Int32) + x50).toNatClampNeg)) (x50 + (1 : Int32))) else B73 (x49 + (0 : Int32)) (x50 + (1 : Int32))))) FU (0 : Int32) (0 : Int32) else gd (inb x45 8) (bd1 (f_X7_ones (p1 &&& (x31 ^^^ (-1 : Int32)))) (fun r54 => bd1 (f_X7_greater (0 : Int32) ((u2 x45.toNatClampNeg) - r54)) (fun r56 => B27 (x44 + r56) (x45 + (1 : Int32))))))) FU (0 : Int32) (0 : Int32) else B8 x30 (x31 + (1 : Int32))))) FU (1 : Int32) (0 : Int32))
theorem hd_X7_canBy : yX7_canBy.cls = RX7 ∧ yX7_canBy.cls ≠ "java/lang/invoke/MethodHandle" ∧ yX7_canBy.cls ≠ "java/lang/invoke/VarHandle" ∧ (parseMethodDescriptor yX7_canBy.desc).map (fun d => d.parameters.length) = some 1 := by decide +kernel
set_option maxHeartbeats 4000000 in
set_option maxRecDepth 100000 in
theorem c_X7_canBy (l : Launch) (dC : Nat → ClassId) (dI : Nat → Nat → Nat) (cI cB cZ : ClassId) (aK aV : Nat → Nat) (a_m a_m_text a_m_lifts a_m_price a_m_stood a_m_hands a_m_wanted a_m_s a_m_kept a_m_isKept a_m_due a_m_cost a_m_then a_m_by : Nat) (sz : Nat) (m_thrown : Int32) (m_trace : Int64) (m_typed : Int32) (m_next : Int32) (m_token : Int32) (m_place : Int32) (m_value : Int32) (m_fault : Int32) (m_rooms : Int32) (m_people : Int32) (m_things : Int32) (m_draftRooms : Int32) (m_draftPeople : Int32) (m_draftThings : Int32) (m_dueMany : Int32) (m_hands : Nat → Int32) (m_wanted : Nat → Int32) (m_s : Nat → Int32) (m_due : Nat → Int32) (p1 : Int32) (r : Int32) (q0 : Int32) (q1 : Nat → Int32) (hf : f_X7_canBy p1 m_people m_things m_hands m_wanted m_s m_due = some (r, q0, q1)) : Met l yX7_canBy wsX7_canBy ({ frames := 3, cells := 0, slots := 0, locals := 66 } : Jvm.Room) (va_Pc [.ref a_m, .int p1] (preW (dC, dI) (tyL cI cB cZ) aK aV sz [(a_m, .inr (7, [.int m_thrown, .long m_trace, .ref a_m_text, .int m_typed, .int m_next, .int m_token, .int m_place, .int m_value, .int m_fault, .ref a_m_lifts, .ref a_m_price, .ref a_m_stood, .ref a_m_hands, .ref a_m_wanted, .int m_rooms, .int m_people, .int m_things, .int m_draftRooms, .int m_draftPeople, .int m_draftThings, .ref a_m_s, .ref a_m_kept, .ref a_m_isKept, .ref a_m_due, .int m_dueMany, .ref a_m_cost, .ref a_m_then, .ref a_m_by])), (a_m_hands, .inl (cI, 16, .inl m_hands)), (a_m_wanted, .inl (cI, 16, .inl m_wanted)), (a_m_s, .inl (cI, 21, .inl m_s)), (a_m_due, .inl (cI, 8, .inl m_due))])) (va_Qi (fun v (_ : Unit) => v = r) (postW (dC, dI) (tyL cI cB cZ) (va_A [(a_m, .inr (7, [.int m_thrown, .long m_trace, .ref a_m_text, .int m_typed, .int m_next, .int m_token, .int m_place, .int m_value, .int m_fault, .ref a_m_lifts, .ref a_m_price, .ref a_m_stood, .ref a_m_hands, .ref a_m_wanted, .int m_rooms, .int m_people, .int m_things, .int m_draftRooms, .int m_draftPeople, .int m_draftThings, .ref a_m_s, .ref a_m_kept, .ref a_m_isKept, .ref a_m_due, .int m_dueMany, .ref a_m_cost, .ref a_m_then, .ref a_m_by])), (a_m_hands, .inl (cI, 16, .inl m_hands)), (a_m_wanted, .inl (cI, 16, .inl m_wanted)), (a_m_s, .inl (cI, 21, .inl m_s)), (a_m_due, .inl (cI, 8, .inl m_due))] sz) [(a_m, .inr (7, [.int m_thrown, .long m_trace, .ref a_m_text, .int m_typed, .int m_next, .int m_token, .int m_place, .int m_value, .int m_fault, .ref a_m_lifts, .ref a_m_price, .ref a_m_stood, .ref a_m_hands, .ref a_m_wanted, .int m_rooms, .int m_people, .int m_things, .int m_draftRooms, .int m_draftPeople, .int m_draftThings, .ref a_m_s, .ref a_m_kept, .ref a_m_isKept, .ref a_m_due, .int q0, .ref a_m_cost, .ref a_m_then, .ref a_m_by])), (a_m_hands, .inl (cI, 16, .inl m_hands)), (a_m_wanted, .inl (cI, 16, .inl m_wanted)), (a_m_s, .inl (cI, 21, .inl m_s)), (a_m_due, .inl (cI, 8, .inl q1))]) (va_A [(a_m, .inr (7, [.int m_thrown, .long m_trace, .ref a_m_text, .int m_typed, .int m_next, .int m_token, .int m_place, .int m_value, .int m_fault, .ref a_m_lifts, .ref a_m_price, .ref a_m_stood, .ref a_m_hands, .ref a_m_wanted, .int m_rooms, .int m_people, .int m_things, .int m_draftRooms, .int m_draftPeople, .int m_draftThings, .ref a_m_s, .ref a_m_kept, .ref a_m_isKept, .ref a_m_due, .int m_dueMany, .ref a_m_cost, .ref a_m_then, .ref a_m_by])), (a_m_hands, .inl (cI, 16, .inl m_hands)), (a_m_wanted, .inl (cI, 16, .inl m_wanted)), (a_m_s, .inl (cI, 21, .inl m_s)), (a_m_due, .inl (cI, 8, .inl m_due))] sz)) 0 0 (va_A [(a_m, .inr (7, [.int m_thrown, .long m_trace, .ref a_m_text, .int m_typed, .int m_next, .int m_token, .int m_place, .int m_value, .int m_fault, .ref a_m_lifts, .ref a_m_price, .ref a_m_stood, .ref a_m_hands, .ref a_m_wanted, .int m_rooms, .int m_people, .int m_things, .int m_draftRooms, .int m_draftPeople, .int m_draftThings, .ref a_m_s, .ref a_m_kept, .ref a_m_isKept, .ref a_m_due, .int m_dueMany, .ref a_m_cost, .ref a_m_then, .ref a_m_by])), (a_m_hands, .inl (cI, 16, .inl m_hands)), (a_m_wanted, .inl (cI, 16, .inl m_wanted)), (a_m_s, .inl (cI, 21, .inl m_s)), (a_m_due, .inl (cI, 8, .inl m_due))] sz) := by
  refine met_z (cc := cX7_canBy) (maxL := 7) (own := RX7) (by decide) rfl (Nat.le_of_ble_eq_true rfl) rfl (fun p e s m args below meth c Q A E hret ls H locs hl hw => ?_)
  obtain ⟨⟨hx, hb, hml, hown, hts⟩, hK, hN, hA, hX⟩ := id E
  have hl : lv_has ls 7 [(0, .ref a_m), (1, .int p1)] := hl
  have iX7 : ∀ w ∈ wsX70, w ∈ wsX7_canBy := by decide +kernel
  have kf179 := hts (.fieldLink RX7 179 "FiveThingsModel" "dueMany" "I") (by decide +kernel)
  have kf130 := hts (.fieldLink RX7 130 "FiveThingsModel" "people" "I") (by decide +kernel)
  have kf28 := hts (.fieldLink RX7 28 "FiveThingsModel" "s" "[I") (by decide +kernel)
  have kf38 := hts (.fieldLink RX7 38 "FiveThingsModel" "due" "[I") (by decide +kernel)
  unfold f_X7_canBy at hf
  refine lv_aload_n hx hb dX7_canBy_0 rfl (lv_at hl 0 rfl) ?_
  obtain ⟨u1, u2, hu3, hf⟩ := bd2_some hf
  refine cl_v (wr := []) (w2 := [(a_m, .inr (7, [.int m_thrown, .long m_trace, .ref a_m_text, .int m_typed, .int m_next, .int m_token, .int m_place, .int m_value, .int m_fault, .ref a_m_lifts, .ref a_m_price, .ref a_m_stood, .ref a_m_hands, .ref a_m_wanted, .int m_rooms, .int m_people, .int m_things, .int m_draftRooms, .int m_draftPeople, .int m_draftThings, .ref a_m_s, .ref a_m_kept, .ref a_m_isKept, .ref a_m_due, .int u1, .ref a_m_cost, .ref a_m_then, .ref a_m_by])), (a_m_hands, .inl (cI, 16, .inl m_hands)), (a_m_wanted, .inl (cI, 16, .inl m_wanted)), (a_m_s, .inl (cI, 21, .inl m_s)), (a_m_due, .inl (cI, 8, .inl u2))]) E hw [0, 1, 2, 3, 4] [] [0, 1, 2, 3, 4] (va_runV (As := []) (rest := []) E.1 (c_X7_gathersDue l dC dI cI cB cZ aK aV a_m a_m_text a_m_lifts a_m_price a_m_stood a_m_hands a_m_wanted a_m_s a_m_kept a_m_isKept a_m_due a_m_cost a_m_then a_m_by H.size m_thrown m_trace m_typed m_next m_token m_place m_value m_fault m_rooms m_people m_things m_draftRooms m_draftPeople m_draftThings m_dueMany m_hands m_wanted m_s m_due u1 u2 hu3) (cwV 0 hts gX7_canBy_X7_gathersDue rfl rfl rfl hd_X7_gathersDue ⟨Nat.le_of_ble_eq_true rfl, Nat.le_of_ble_eq_true rfl⟩) (pre_V E hw [0, 1, 2, 3, 4] rfl rfl rfl rfl) rfl rfl hl.1 rfl (lv_room (Nat.le_of_ble_eq_true rfl)) dX7_canBy_1 ⟨Nat.zero_le _, Nat.zero_le _⟩) rfl rfl rfl (by decide) rfl rfl (fun H locs hw => ?_)
  refine lv_iconst (v := (1 : Int32)) hx hb dX7_canBy_4 rfl ?_
  refine lv_istore_n (lv' := [(2, .int (1 : Int32)), (0, .ref a_m), (1, .int p1)]) hx hb dX7_canBy_5 rfl hl (by decide) rfl (fun ls hl => ?_)
  refine lv_iconst (v := (0 : Int32)) hx hb dX7_canBy_6 rfl ?_
  refine lv_istore_n (lv' := [(3, .int (0 : Int32)), (2, .int (1 : Int32)), (0, .ref a_m), (1, .int p1)]) hx hb dX7_canBy_7 rfl hl (by decide) rfl (fun ls hl => ?_)
  refine (loop2_sound (r := (r, q0, q1)) (P := fun (x30 : Int32) (x31 : Int32) => ∀ (ls : Array Slot) (H : Heap) (locs : List Loc), lv_has ls 7 [(3, .int x31), (2, .int x30), (0, .ref a_m), (1, .int p1)] → Wd A s.heap (dC, dI) [(a_m, .inr (7, [.int m_thrown, .long m_trace, .ref a_m_text, .int m_typed, .int m_next, .int m_token, .int m_place, .int m_value, .int m_fault, .ref a_m_lifts, .ref a_m_price, .ref a_m_stood, .ref a_m_hands, .ref a_m_wanted, .int m_rooms, .int m_people, .int m_things, .int m_draftRooms, .int m_draftPeople, .int m_draftThings, .ref a_m_s, .ref a_m_kept, .ref a_m_isKept, .ref a_m_due, .int u1, .ref a_m_cost, .ref a_m_then, .ref a_m_by])), (a_m_hands, .inl (cI, 16, .inl m_hands)), (a_m_wanted, .inl (cI, 16, .inl m_wanted)), (a_m_s, .inl (cI, 21, .inl m_s)), (a_m_due, .inl (cI, 8, .inl u2))] H locs → W p l e ({ frames := 3, cells := 0, slots := 0, locals := 66 } : Jvm.Room) s m args below meth c H locs 0 0 Q (F0 m 8 ls [])) (fun B8 x30 x31 ih8 hf => ?_) _ (1 : Int32) (0 : Int32) hf) ls H locs (lv_sub hl [0, 1, 2, 3] rfl) hw
  intro ls H locs hl hw
  refine lv_iload_n hx hb dX7_canBy_8 rfl (lv_at hl 0 rfl) ?_
  refine lv_iload_n hx hb dX7_canBy_9 rfl (lv_at hl 3 rfl) ?_
  refine lv_icmp_gt (tgt := 140) hx hb dX7_canBy_10 (by decide) (fun kc => ?_) (fun kc => ?_)
  · have hf := if_t hf kc
    refine lv_iload_n hx hb dX7_canBy_140 rfl (lv_at hl 1 rfl) ?_
    obtain ⟨gz, hf⟩ := gd_some hf
    have gz := of_decide_eq_true gz
    obtain ⟨rfl, rfl, rfl⟩ := sm3 hf
    exact hret H locs ls 141 hw gz dX7_canBy_141
  · have hf := if_f hf kc
    refine lv_iload_n hx hb dX7_canBy_13 rfl (lv_at hl 0 rfl) ?_
    refine lv_iload_n hx hb dX7_canBy_14 rfl (lv_at hl 3 rfl) ?_
    refine lv_iconst (v := (-1 : Int32)) hx hb dX7_canBy_15 rfl ?_
    refine lv_ixor hx hb dX7_canBy_16 ?_
    refine lv_iand hx hb dX7_canBy_17 ?_
    refine lv_if_ne (tgt := 134) hx hb dX7_canBy_18 (by decide) (fun kc => ?_) (fun kc => ?_)
    · have hf := if_f hf kc
      refine lv_iinc (v := (x31 + (1 : Int32))) (lv' := [(3, .int (x31 + (1 : Int32))), (2, .int x30), (0, .ref a_m), (1, .int p1)]) hx hb dX7_canBy_134 hl (k := 0) rfl rfl (by decide) rfl (fun ls hl => ?_)
      refine lv_goto (tgt := 8) hx hb dX7_canBy_137 (by decide) ?_
      exact ih8 x30 (x31 + (1 : Int32)) hf ls H locs (lv_sub hl [0, 1, 2, 3] rfl) hw
    · have hf := if_t hf kc
      refine lv_iconst (v := (0 : Int32)) hx hb dX7_canBy_21 rfl ?_
      refine lv_istore (lv' := [(4, .int (0 : Int32)), (3, .int x31), (2, .int x30), (0, .ref a_m), (1, .int p1)]) hx hb dX7_canBy_22 hl (by decide) rfl (fun ls hl => ?_)
      refine lv_iconst (v := (0 : Int32)) hx hb dX7_canBy_24 rfl ?_
      refine lv_istore (lv' := [(5, .int (0 : Int32)), (4, .int (0 : Int32)), (3, .int x31), (2, .int x30), (0, .ref a_m), (1, .int p1)]) hx hb dX7_canBy_25 hl (by decide) rfl (fun ls hl => ?_)
      refine (loop2_sound (r := (r, q0, q1)) (P := fun (x44 : Int32) (x45 : Int32) => ∀ (ls : Array Slot) (H : Heap) (locs : List Loc), lv_has ls 7 [(5, .int x45), (4, .int x44), (3, .int x31), (2, .int x30), (0, .ref a_m), (1, .int p1)] → Wd A s.heap (dC, dI) [(a_m, .inr (7, [.int m_thrown, .long m_trace, .ref a_m_text, .int m_typed, .int m_next, .int m_token, .int m_place, .int m_value, .int m_fault, .ref a_m_lifts, .ref a_m_price, .ref a_m_stood, .ref a_m_hands, .ref a_m_wanted, .int m_rooms, .int m_people, .int m_things, .int m_draftRooms, .int m_draftPeople, .int m_draftThings, .ref a_m_s, .ref a_m_kept, .ref a_m_isKept, .ref a_m_due, .int u1, .ref a_m_cost, .ref a_m_then, .ref a_m_by])), (a_m_hands, .inl (cI, 16, .inl m_hands)), (a_m_wanted, .inl (cI, 16, .inl m_wanted)), (a_m_s, .inl (cI, 21, .inl m_s)), (a_m_due, .inl (cI, 8, .inl u2))] H locs → W p l e ({ frames := 3, cells := 0, slots := 0, locals := 66 } : Jvm.Room) s m args below meth c H locs 0 0 Q (F0 m 27 ls [])) (fun B27 x44 x45 ih27 hf => ?_) _ (0 : Int32) (0 : Int32) hf) ls H locs (lv_sub hl [0, 1, 2, 3, 4, 5] rfl) hw
      intro ls H locs hl hw
      refine lv_iload hx hb dX7_canBy_27 (lv_at hl 0 rfl) ?_
      refine lv_aload_n hx hb dX7_canBy_29 rfl (lv_at hl 4 rfl) ?_
      refine r_get E hw iX7 0 24 rfl rfl (by decide) kf179 rfl rfl dX7_canBy_30 ?_
      refine lv_icmp_ge (tgt := 67) hx hb dX7_canBy_33 (by decide) (fun kc => ?_) (fun kc => ?_)
      · have hf := if_t hf kc
        refine lv_iconst (v := (0 : Int32)) hx hb dX7_canBy_67 rfl ?_
        refine lv_istore (lv' := [(5, .int (0 : Int32)), (4, .int x44), (3, .int x31), (2, .int x30), (0, .ref a_m), (1, .int p1)]) hx hb dX7_canBy_68 hl (by decide) rfl (fun ls hl => ?_)
        refine lv_iconst (v := (0 : Int32)) hx hb dX7_canBy_70 rfl ?_
        refine lv_istore (lv' := [(6, .int (0 : Int32)), (5, .int (0 : Int32)), (4, .int x44), (3, .int x31), (2, .int x30), (0, .ref a_m), (1, .int p1)]) hx hb dX7_canBy_71 hl (by decide) rfl (fun ls hl => ?_)
        refine (loop2_sound (r := (r, q0, q1)) (P := fun (x49 : Int32) (x50 : Int32) => ∀ (ls : Array Slot) (H : Heap) (locs : List Loc), lv_has ls 7 [(6, .int x50), (5, .int x49), (4, .int x44), (3, .int x31), (2, .int x30), (0, .ref a_m), (1, .int p1)] → Wd A s.heap (dC, dI) [(a_m, .inr (7, [.int m_thrown, .long m_trace, .ref a_m_text, .int m_typed, .int m_next, .int m_token, .int m_place, .int m_value, .int m_fault, .ref a_m_lifts, .ref a_m_price, .ref a_m_stood, .ref a_m_hands, .ref a_m_wanted, .int m_rooms, .int m_people, .int m_things, .int m_draftRooms, .int m_draftPeople, .int m_draftThings, .ref a_m_s, .ref a_m_kept, .ref a_m_isKept, .ref a_m_due, .int u1, .ref a_m_cost, .ref a_m_then, .ref a_m_by])), (a_m_hands, .inl (cI, 16, .inl m_hands)), (a_m_wanted, .inl (cI, 16, .inl m_wanted)), (a_m_s, .inl (cI, 21, .inl m_s)), (a_m_due, .inl (cI, 8, .inl u2))] H locs → W p l e ({ frames := 3, cells := 0, slots := 0, locals := 66 } : Jvm.Room) s m args below meth c H locs 0 0 Q (F0 m 73 ls [])) (fun B73 x49 x50 ih73 hf => ?_) _ (0 : Int32) (0 : Int32) hf) ls H locs (lv_sub hl [0, 1, 2, 3, 4, 5, 6] rfl) hw
        intro ls H locs hl hw
        refine lv_iload hx hb dX7_canBy_73 (lv_at hl 0 rfl) ?_
        refine lv_aload_n hx hb dX7_canBy_75 rfl (lv_at hl 5 rfl) ?_
        refine r_get E hw iX7 0 15 rfl rfl (by decide) kf130 rfl rfl dX7_canBy_76 ?_
        refine lv_icmp_ge (tgt := 117) hx hb dX7_canBy_79 (by decide) (fun kc => ?_) (fun kc => ?_)
        · have hf := if_t hf kc
          refine lv_iload_n hx hb dX7_canBy_117 rfl (lv_at hl 4 rfl) ?_
          refine jn_sound (P := fun J => ∀ (x51 : Int32) (ls : Array Slot) (H : Heap) (locs : List Loc), J x51 = some (r, q0, q1) → lv_has ls 7 [(0, .ref a_m), (1, .int p1), (3, .int x31)] → Wd A s.heap (dC, dI) [(a_m, .inr (7, [.int m_thrown, .long m_trace, .ref a_m_text, .int m_typed, .int m_next, .int m_token, .int m_place, .int m_value, .int m_fault, .ref a_m_lifts, .ref a_m_price, .ref a_m_stood, .ref a_m_hands, .ref a_m_wanted, .int m_rooms, .int m_people, .int m_things, .int m_draftRooms, .int m_draftPeople, .int m_draftThings, .ref a_m_s, .ref a_m_kept, .ref a_m_isKept, .ref a_m_due, .int u1, .ref a_m_cost, .ref a_m_then, .ref a_m_by])), (a_m_hands, .inl (cI, 16, .inl m_hands)), (a_m_wanted, .inl (cI, 16, .inl m_wanted)), (a_m_s, .inl (cI, 21, .inl m_s)), (a_m_due, .inl (cI, 8, .inl u2))] H locs → W p l e ({ frames := 3, cells := 0, slots := 0, locals := 66 } : Jvm.Room) s m args below meth c H locs 0 0 Q (F0 m 133 ls [.int x51])) hf ?_ ?_
          · intro x51 ls H locs hf hl hw
            refine lv_istore_n (lv' := [(2, .int x51), (0, .ref a_m), (1, .int p1), (3, .int x31)]) hx hb dX7_canBy_133 rfl hl (by decide) rfl (fun ls hl => ?_)
            refine lv_iinc (v := (x31 + (1 : Int32))) (lv' := [(3, .int (x31 + (1 : Int32))), (2, .int x51), (0, .ref a_m), (1, .int p1)]) hx hb dX7_canBy_134 hl (k := 3) rfl rfl (by decide) rfl (fun ls hl => ?_)
            refine lv_goto (tgt := 8) hx hb dX7_canBy_137 (by decide) ?_
            exact ih8 x51 (x31 + (1 : Int32)) hf ls H locs (lv_sub hl [0, 1, 2, 3] rfl) hw
          · intro J133 hJ133 hf
            refine jn_sound (P := fun J => ∀ (ls : Array Slot) (H : Heap) (locs : List Loc), J = some (r, q0, q1) → lv_has ls 7 [(0, .ref a_m), (1, .int p1), (3, .int x31)] → Wd A s.heap (dC, dI) [(a_m, .inr (7, [.int m_thrown, .long m_trace, .ref a_m_text, .int m_typed, .int m_next, .int m_token, .int m_place, .int m_value, .int m_fault, .ref a_m_lifts, .ref a_m_price, .ref a_m_stood, .ref a_m_hands, .ref a_m_wanted, .int m_rooms, .int m_people, .int m_things, .int m_draftRooms, .int m_draftPeople, .int m_draftThings, .ref a_m_s, .ref a_m_kept, .ref a_m_isKept, .ref a_m_due, .int u1, .ref a_m_cost, .ref a_m_then, .ref a_m_by])), (a_m_hands, .inl (cI, 16, .inl m_hands)), (a_m_wanted, .inl (cI, 16, .inl m_wanted)), (a_m_s, .inl (cI, 21, .inl m_s)), (a_m_due, .inl (cI, 8, .inl u2))] H locs → W p l e ({ frames := 3, cells := 0, slots := 0, locals := 66 } : Jvm.Room) s m args below meth c H locs 0 0 Q (F0 m 132 ls [])) hf ?_ ?_
            · intro ls H locs hf hl hw
              refine lv_iconst (v := (0 : Int32)) hx hb dX7_canBy_132 rfl ?_
              exact hJ133 (0 : Int32) ls H locs hf hl hw
            · intro J132 hJ132 hf
              refine lv_if_eq (tgt := 132) hx hb dX7_canBy_118 (by decide) (fun kc => ?_) (fun kc => ?_)
              · have hf := if_t hf kc
                exact hJ132 ls H locs hf (lv_sub hl [5, 6, 3] rfl) hw
              · have hf := if_f hf kc
                refine lv_iload hx hb dX7_canBy_121 (lv_at hl 2 rfl) ?_
                refine lv_iload hx hb dX7_canBy_123 (lv_at hl 1 rfl) ?_
                refine lv_icmp_gt (tgt := 132) hx hb dX7_canBy_125 (by decide) (fun kc => ?_) (fun kc => ?_)
                · have hf := if_t hf kc
                  exact hJ132 ls H locs hf (lv_sub hl [5, 6, 3] rfl) hw
                · have hf := if_f hf kc
                  refine lv_iconst (v := (1 : Int32)) hx hb dX7_canBy_128 rfl ?_
                  refine lv_goto (tgt := 133) hx hb dX7_canBy_129 (by decide) ?_
                  exact hJ133 (1 : Int32) ls H locs hf (lv_sub hl [5, 6, 3] rfl) hw
        · have hf := if_f hf kc
          refine lv_iload hx hb dX7_canBy_82 (lv_at hl 1 rfl) ?_
          refine lv_iload_n hx hb dX7_canBy_84 rfl (lv_at hl 3 rfl) ?_
          refine lv_iload hx hb dX7_canBy_85 (lv_at hl 0 rfl) ?_
          refine lv_ishr hx hb dX7_canBy_87 ?_
          refine lv_iconst (v := (1 : Int32)) hx hb dX7_canBy_88 rfl ?_
          refine lv_iand hx hb dX7_canBy_89 ?_
          refine lv_iconst (v := (1 : Int32)) hx hb dX7_canBy_90 rfl ?_
          refine lv_icmp_ne (tgt := 107) hx hb dX7_canBy_91 (by decide) (fun kc => ?_) (fun kc => ?_)
          · have hf := if_f hf kc
            refine lv_iconst (v := (0 : Int32)) hx hb dX7_canBy_107 rfl ?_
            refine lv_iadd hx hb dX7_canBy_108 ?_
            refine lv_istore (lv' := [(5, .int (x49 + (0 : Int32))), (6, .int x50), (4, .int x44), (3, .int x31), (2, .int x30), (0, .ref a_m), (1, .int p1)]) hx hb dX7_canBy_109 hl (by decide) rfl (fun ls hl => ?_)
            refine lv_iinc (v := (x50 + (1 : Int32))) (lv' := [(6, .int (x50 + (1 : Int32))), (5, .int (x49 + (0 : Int32))), (4, .int x44), (3, .int x31), (2, .int x30), (0, .ref a_m), (1, .int p1)]) hx hb dX7_canBy_111 hl (k := 1) rfl rfl (by decide) rfl (fun ls hl => ?_)
            refine lv_goto (tgt := 73) hx hb dX7_canBy_114 (by decide) ?_
            exact ih73 (x49 + (0 : Int32)) (x50 + (1 : Int32)) hf ls H locs (lv_sub hl [0, 1, 2, 3, 4, 5, 6] rfl) hw
          · have hf := if_t hf kc
            refine lv_aload_n hx hb dX7_canBy_94 rfl (lv_at hl 5 rfl) ?_
            refine r_get E hw iX7 0 20 rfl rfl (by decide) kf28 rfl rfl dX7_canBy_95 ?_
            refine lv_bipush (v := (16 : Int32)) hx hb dX7_canBy_98 rfl ?_
            refine lv_iload hx hb dX7_canBy_100 (lv_at hl 0 rfl) ?_
            refine lv_iadd hx hb dX7_canBy_102 ?_
            obtain ⟨g52, hf⟩ := gd_some hf
            refine r_iald E hw 3 rfl g52 dX7_canBy_103 ?_
            refine lv_goto (tgt := 108) hx hb dX7_canBy_104 (by decide) ?_
            refine lv_iadd hx hb dX7_canBy_108 ?_
            refine lv_istore (lv' := [(5, .int (x49 + (m_s ((16 : Int32) + x50).toNatClampNeg))), (6, .int x50), (4, .int x44), (3, .int x31), (2, .int x30), (0, .ref a_m), (1, .int p1)]) hx hb dX7_canBy_109 hl (by decide) rfl (fun ls hl => ?_)
            refine lv_iinc (v := (x50 + (1 : Int32))) (lv' := [(6, .int (x50 + (1 : Int32))), (5, .int (x49 + (m_s ((16 : Int32) + x50).toNatClampNeg))), (4, .int x44), (3, .int x31), (2, .int x30), (0, .ref a_m), (1, .int p1)]) hx hb dX7_canBy_111 hl (k := 1) rfl rfl (by decide) rfl (fun ls hl => ?_)
            refine lv_goto (tgt := 73) hx hb dX7_canBy_114 (by decide) ?_
            exact ih73 (x49 + (m_s ((16 : Int32) + x50).toNatClampNeg)) (x50 + (1 : Int32)) hf ls H locs (lv_sub hl [0, 1, 2, 3, 4, 5, 6] rfl) hw
      · have hf := if_f hf kc
        refine lv_iload hx hb dX7_canBy_36 (lv_at hl 1 rfl) ?_
        refine lv_iconst (v := (0 : Int32)) hx hb dX7_canBy_38 rfl ?_
        refine lv_aload_n hx hb dX7_canBy_39 rfl (lv_at hl 4 rfl) ?_
        refine r_get E hw iX7 0 23 rfl rfl (by decide) kf38 rfl rfl dX7_canBy_40 ?_
        refine lv_iload hx hb dX7_canBy_43 (lv_at hl 0 rfl) ?_
        obtain ⟨g53, hf⟩ := gd_some hf
        refine r_iald E hw 4 rfl g53 dX7_canBy_45 ?_
        refine lv_iload_n hx hb dX7_canBy_46 rfl (lv_at hl 5 rfl) ?_
        refine lv_iload_n hx hb dX7_canBy_47 rfl (lv_at hl 2 rfl) ?_
        refine lv_iconst (v := (-1 : Int32)) hx hb dX7_canBy_48 rfl ?_
        refine lv_ixor hx hb dX7_canBy_49 ?_
        refine lv_iand hx hb dX7_canBy_50 ?_
        obtain ⟨r54, hu55, hf⟩ := bd1_some hf
        refine cl_i (wr := [(a_m, .inr (7, [.int m_thrown, .long m_trace, .ref a_m_text, .int m_typed, .int m_next, .int m_token, .int m_place, .int m_value, .int m_fault, .ref a_m_lifts, .ref a_m_price, .ref a_m_stood, .ref a_m_hands, .ref a_m_wanted, .int m_rooms, .int m_people, .int m_things, .int m_draftRooms, .int m_draftPeople, .int m_draftThings, .ref a_m_s, .ref a_m_kept, .ref a_m_isKept, .ref a_m_due, .int u1, .ref a_m_cost, .ref a_m_then, .ref a_m_by])), (a_m_hands, .inl (cI, 16, .inl m_hands)), (a_m_wanted, .inl (cI, 16, .inl m_wanted)), (a_m_s, .inl (cI, 21, .inl m_s)), (a_m_due, .inl (cI, 8, .inl u2))]) (w2 := [(a_m, .inr (7, [.int m_thrown, .long m_trace, .ref a_m_text, .int m_typed, .int m_next, .int m_token, .int m_place, .int m_value, .int m_fault, .ref a_m_lifts, .ref a_m_price, .ref a_m_stood, .ref a_m_hands, .ref a_m_wanted, .int m_rooms, .int m_people, .int m_things, .int m_draftRooms, .int m_draftPeople, .int m_draftThings, .ref a_m_s, .ref a_m_kept, .ref a_m_isKept, .ref a_m_due, .int u1, .ref a_m_cost, .ref a_m_then, .ref a_m_by])), (a_m_hands, .inl (cI, 16, .inl m_hands)), (a_m_wanted, .inl (cI, 16, .inl m_wanted)), (a_m_s, .inl (cI, 21, .inl m_s)), (a_m_due, .inl (cI, 8, .inl u2))]) E hw [] [0, 1, 2, 3, 4] [0, 1, 2, 3, 4] (va_runS (As := [.int (p1 &&& (x31 ^^^ (-1 : Int32)))]) (rest := [.int (u2 x45.toNatClampNeg), .int (0 : Int32), .int x44]) E.1 (c_X7_ones l dC dI cI cB cZ aK aV H.size (p1 &&& (x31 ^^^ (-1 : Int32))) r54 hu55) (va_cwS 1 hts gX7_canBy_X7_ones rfl rfl rfl hd_X7_ones ⟨Nat.le_of_ble_eq_true rfl, Nat.le_of_ble_eq_true rfl⟩) (pre_S E hw [] rfl rfl) rfl rfl hl.1 rfl (lv_room (Nat.le_of_ble_eq_true rfl)) dX7_canBy_51 ⟨Nat.zero_le _, Nat.zero_le _⟩) rfl rfl rfl (by decide) rfl rfl (fun H locs hw => ?_)
        refine lv_isub hx hb dX7_canBy_54 ?_
        obtain ⟨r56, hu57, hf⟩ := bd1_some hf
        refine cl_i (wr := [(a_m, .inr (7, [.int m_thrown, .long m_trace, .ref a_m_text, .int m_typed, .int m_next, .int m_token, .int m_place, .int m_value, .int m_fault, .ref a_m_lifts, .ref a_m_price, .ref a_m_stood, .ref a_m_hands, .ref a_m_wanted, .int m_rooms, .int m_people, .int m_things, .int m_draftRooms, .int m_draftPeople, .int m_draftThings, .ref a_m_s, .ref a_m_kept, .ref a_m_isKept, .ref a_m_due, .int u1, .ref a_m_cost, .ref a_m_then, .ref a_m_by])), (a_m_hands, .inl (cI, 16, .inl m_hands)), (a_m_wanted, .inl (cI, 16, .inl m_wanted)), (a_m_s, .inl (cI, 21, .inl m_s)), (a_m_due, .inl (cI, 8, .inl u2))]) (w2 := [(a_m, .inr (7, [.int m_thrown, .long m_trace, .ref a_m_text, .int m_typed, .int m_next, .int m_token, .int m_place, .int m_value, .int m_fault, .ref a_m_lifts, .ref a_m_price, .ref a_m_stood, .ref a_m_hands, .ref a_m_wanted, .int m_rooms, .int m_people, .int m_things, .int m_draftRooms, .int m_draftPeople, .int m_draftThings, .ref a_m_s, .ref a_m_kept, .ref a_m_isKept, .ref a_m_due, .int u1, .ref a_m_cost, .ref a_m_then, .ref a_m_by])), (a_m_hands, .inl (cI, 16, .inl m_hands)), (a_m_wanted, .inl (cI, 16, .inl m_wanted)), (a_m_s, .inl (cI, 21, .inl m_s)), (a_m_due, .inl (cI, 8, .inl u2))]) E hw [] [0, 1, 2, 3, 4] [0, 1, 2, 3, 4] (va_runS (As := [.int (0 : Int32), .int ((u2 x45.toNatClampNeg) - r54)]) (rest := [.int x44]) E.1 (c_X7_greater l dC dI cI cB cZ aK aV H.size (0 : Int32) ((u2 x45.toNatClampNeg) - r54) r56 hu57) (va_cwS 2 hts gX7_canBy_X7_greater rfl rfl rfl hd_X7_greater ⟨Nat.le_of_ble_eq_true rfl, Nat.le_of_ble_eq_true rfl⟩) (pre_S E hw [] rfl rfl) rfl rfl hl.1 rfl (lv_room (Nat.le_of_ble_eq_true rfl)) dX7_canBy_55 ⟨Nat.zero_le _, Nat.zero_le _⟩) rfl rfl rfl (by decide) rfl rfl (fun H locs hw => ?_)
        refine lv_iadd hx hb dX7_canBy_58 ?_
        refine lv_istore (lv' := [(4, .int (x44 + r56)), (5, .int x45), (3, .int x31), (2, .int x30), (0, .ref a_m), (1, .int p1)]) hx hb dX7_canBy_59 hl (by decide) rfl (fun ls hl => ?_)
        refine lv_iinc (v := (x45 + (1 : Int32))) (lv' := [(5, .int (x45 + (1 : Int32))), (4, .int (x44 + r56)), (3, .int x31), (2, .int x30), (0, .ref a_m), (1, .int p1)]) hx hb dX7_canBy_61 hl (k := 1) rfl rfl (by decide) rfl (fun ls hl => ?_)
        refine lv_goto (tgt := 27) hx hb dX7_canBy_64 (by decide) ?_
        exact ih27 (x44 + r56) (x45 + (1 : Int32)) hf ls H locs (lv_sub hl [0, 1, 2, 3, 4, 5] rfl) hw
def f_X7_everybody  (m_people : Int32) : Option (Int32) :=
  some ((((1 : Int32) <<< (m_people &&& 31)) - (1 : Int32)))
theorem hd_X7_everybody : yX7_everybody.cls = RX7 ∧ yX7_everybody.cls ≠ "java/lang/invoke/MethodHandle" ∧ yX7_everybody.cls ≠ "java/lang/invoke/VarHandle" ∧ (parseMethodDescriptor yX7_everybody.desc).map (fun d => d.parameters.length) = some 0 := by decide +kernel
set_option maxHeartbeats 4000000 in
set_option maxRecDepth 100000 in
theorem c_X7_everybody (l : Launch) (dC : Nat → ClassId) (dI : Nat → Nat → Nat) (cI cB cZ : ClassId) (aK aV : Nat → Nat) (a_m a_m_text a_m_lifts a_m_price a_m_stood a_m_hands a_m_wanted a_m_s a_m_kept a_m_isKept a_m_due a_m_cost a_m_then a_m_by : Nat) (sz : Nat) (m_thrown : Int32) (m_trace : Int64) (m_typed : Int32) (m_next : Int32) (m_token : Int32) (m_place : Int32) (m_value : Int32) (m_fault : Int32) (m_rooms : Int32) (m_people : Int32) (m_things : Int32) (m_draftRooms : Int32) (m_draftPeople : Int32) (m_draftThings : Int32) (m_dueMany : Int32) (r : Int32) (hf : f_X7_everybody m_people = some r) : Met l yX7_everybody wsX7_everybody ({ frames := 0, cells := 0, slots := 0, locals := 0 } : Jvm.Room) (va_Pc [.ref a_m] (preW (dC, dI) (tyL cI cB cZ) aK aV sz [(a_m, .inr (7, [.int m_thrown, .long m_trace, .ref a_m_text, .int m_typed, .int m_next, .int m_token, .int m_place, .int m_value, .int m_fault, .ref a_m_lifts, .ref a_m_price, .ref a_m_stood, .ref a_m_hands, .ref a_m_wanted, .int m_rooms, .int m_people, .int m_things, .int m_draftRooms, .int m_draftPeople, .int m_draftThings, .ref a_m_s, .ref a_m_kept, .ref a_m_isKept, .ref a_m_due, .int m_dueMany, .ref a_m_cost, .ref a_m_then, .ref a_m_by]))])) (va_Qi (fun v (_ : Unit) => v = r) (postW (dC, dI) (tyL cI cB cZ) (va_A [(a_m, .inr (7, [.int m_thrown, .long m_trace, .ref a_m_text, .int m_typed, .int m_next, .int m_token, .int m_place, .int m_value, .int m_fault, .ref a_m_lifts, .ref a_m_price, .ref a_m_stood, .ref a_m_hands, .ref a_m_wanted, .int m_rooms, .int m_people, .int m_things, .int m_draftRooms, .int m_draftPeople, .int m_draftThings, .ref a_m_s, .ref a_m_kept, .ref a_m_isKept, .ref a_m_due, .int m_dueMany, .ref a_m_cost, .ref a_m_then, .ref a_m_by]))] sz) [(a_m, .inr (7, [.int m_thrown, .long m_trace, .ref a_m_text, .int m_typed, .int m_next, .int m_token, .int m_place, .int m_value, .int m_fault, .ref a_m_lifts, .ref a_m_price, .ref a_m_stood, .ref a_m_hands, .ref a_m_wanted, .int m_rooms, .int m_people, .int m_things, .int m_draftRooms, .int m_draftPeople, .int m_draftThings, .ref a_m_s, .ref a_m_kept, .ref a_m_isKept, .ref a_m_due, .int m_dueMany, .ref a_m_cost, .ref a_m_then, .ref a_m_by]))]) (va_A [(a_m, .inr (7, [.int m_thrown, .long m_trace, .ref a_m_text, .int m_typed, .int m_next, .int m_token, .int m_place, .int m_value, .int m_fault, .ref a_m_lifts, .ref a_m_price, .ref a_m_stood, .ref a_m_hands, .ref a_m_wanted, .int m_rooms, .int m_people, .int m_things, .int m_draftRooms, .int m_draftPeople, .int m_draftThings, .ref a_m_s, .ref a_m_kept, .ref a_m_isKept, .ref a_m_due, .int m_dueMany, .ref a_m_cost, .ref a_m_then, .ref a_m_by]))] sz)) 0 0 (va_A [(a_m, .inr (7, [.int m_thrown, .long m_trace, .ref a_m_text, .int m_typed, .int m_next, .int m_token, .int m_place, .int m_value, .int m_fault, .ref a_m_lifts, .ref a_m_price, .ref a_m_stood, .ref a_m_hands, .ref a_m_wanted, .int m_rooms, .int m_people, .int m_things, .int m_draftRooms, .int m_draftPeople, .int m_draftThings, .ref a_m_s, .ref a_m_kept, .ref a_m_isKept, .ref a_m_due, .int m_dueMany, .ref a_m_cost, .ref a_m_then, .ref a_m_by]))] sz) := by
  refine met_i (cc := cX7_everybody) (maxL := 1) (own := RX7) (by decide) rfl (Nat.le_of_ble_eq_true rfl) rfl (fun p e s m args below meth c Q A E hret ls H locs hl hw => ?_)
  obtain ⟨⟨hx, hb, hml, hown, hts⟩, hK, hN, hA, hX⟩ := id E
  have hl : lv_has ls 1 [(0, .ref a_m)] := hl
  have iX7 : ∀ w ∈ wsX70, w ∈ wsX7_everybody := by decide +kernel
  have kf130 := hts (.fieldLink RX7 130 "FiveThingsModel" "people" "I") (by decide +kernel)
  unfold f_X7_everybody at hf
  refine lv_iconst (v := (1 : Int32)) hx hb dX7_everybody_0 rfl ?_
  refine lv_aload_n hx hb dX7_everybody_1 rfl (lv_at hl 0 rfl) ?_
  refine r_get E hw iX7 0 15 rfl rfl (by decide) kf130 rfl rfl dX7_everybody_2 ?_
  refine lv_ishl hx hb dX7_everybody_5 ?_
  refine lv_iconst (v := (1 : Int32)) hx hb dX7_everybody_6 rfl ?_
  refine lv_isub hx hb dX7_everybody_7 ?_
  obtain rfl := sm1 hf
  exact hret H locs ls 8 hw dX7_everybody_8
def f_X7_can  (m_people : Int32) (m_things : Int32) (m_dueMany : Int32) (m_hands : Nat → Int32) (m_wanted : Nat → Int32) (m_s : Nat → Int32) (m_due : Nat → Int32) : Option (Int32 × Int32 × Int32 × (Nat → Int32)) :=
  bd1 (f_X7_barred m_things m_wanted m_s) (fun r1 => (if r1 = 0 then bd1 (f_X7_everybody m_people) (fun r3 => bd3 (f_X7_canBy r3 m_people m_things m_hands m_wanted m_s m_due) (fun r5 u6 u7 => (if r5 = 0 then some ((0 : Int32), (0 : Int32), u6, u7) else some ((1 : Int32), (0 : Int32), u6, u7)))) else some ((-9 : Int32), (0 : Int32), m_dueMany, m_due)))
theorem hd_X7_can : yX7_can.cls = RX7 ∧ yX7_can.cls ≠ "java/lang/invoke/MethodHandle" ∧ yX7_can.cls ≠ "java/lang/invoke/VarHandle" ∧ (parseMethodDescriptor yX7_can.desc).map (fun d => d.parameters.length) = some 0 := by decide +kernel
set_option maxHeartbeats 4000000 in
set_option maxRecDepth 100000 in
theorem c_X7_can (l : Launch) (dC : Nat → ClassId) (dI : Nat → Nat → Nat) (cI cB cZ : ClassId) (aK aV : Nat → Nat) (a_m a_m_text a_m_lifts a_m_price a_m_stood a_m_hands a_m_wanted a_m_s a_m_kept a_m_isKept a_m_due a_m_cost a_m_then a_m_by : Nat) (sz : Nat) (m_thrown : Int32) (m_trace : Int64) (m_typed : Int32) (m_next : Int32) (m_token : Int32) (m_place : Int32) (m_value : Int32) (m_fault : Int32) (m_rooms : Int32) (m_people : Int32) (m_things : Int32) (m_draftRooms : Int32) (m_draftPeople : Int32) (m_draftThings : Int32) (m_dueMany : Int32) (m_hands : Nat → Int32) (m_wanted : Nat → Int32) (m_s : Nat → Int32) (m_due : Nat → Int32) (r : Int32) (q0 : Int32) (q1 : Int32) (q2 : Nat → Int32) (hf : f_X7_can m_people m_things m_dueMany m_hands m_wanted m_s m_due = some (r, q0, q1, q2)) : Met l yX7_can wsX7_can ({ frames := 4, cells := 0, slots := 0, locals := 92 } : Jvm.Room) (va_Pc [.ref a_m] (preW (dC, dI) (tyL cI cB cZ) aK aV sz [(a_m, .inr (7, [.int m_thrown, .long m_trace, .ref a_m_text, .int m_typed, .int m_next, .int m_token, .int m_place, .int m_value, .int m_fault, .ref a_m_lifts, .ref a_m_price, .ref a_m_stood, .ref a_m_hands, .ref a_m_wanted, .int m_rooms, .int m_people, .int m_things, .int m_draftRooms, .int m_draftPeople, .int m_draftThings, .ref a_m_s, .ref a_m_kept, .ref a_m_isKept, .ref a_m_due, .int m_dueMany, .ref a_m_cost, .ref a_m_then, .ref a_m_by])), (a_m_hands, .inl (cI, 16, .inl m_hands)), (a_m_wanted, .inl (cI, 16, .inl m_wanted)), (a_m_s, .inl (cI, 21, .inl m_s)), (a_m_due, .inl (cI, 8, .inl m_due))])) (va_Qi (fun v (_ : Unit) => v = r) (postW (dC, dI) (tyL cI cB cZ) (va_A [(a_m, .inr (7, [.int m_thrown, .long m_trace, .ref a_m_text, .int m_typed, .int m_next, .int m_token, .int m_place, .int m_value, .int m_fault, .ref a_m_lifts, .ref a_m_price, .ref a_m_stood, .ref a_m_hands, .ref a_m_wanted, .int m_rooms, .int m_people, .int m_things, .int m_draftRooms, .int m_draftPeople, .int m_draftThings, .ref a_m_s, .ref a_m_kept, .ref a_m_isKept, .ref a_m_due, .int m_dueMany, .ref a_m_cost, .ref a_m_then, .ref a_m_by])), (a_m_hands, .inl (cI, 16, .inl m_hands)), (a_m_wanted, .inl (cI, 16, .inl m_wanted)), (a_m_s, .inl (cI, 21, .inl m_s)), (a_m_due, .inl (cI, 8, .inl m_due))] sz) [(a_m, .inr (7, [.int q0, .long m_trace, .ref a_m_text, .int m_typed, .int m_next, .int m_token, .int m_place, .int m_value, .int m_fault, .ref a_m_lifts, .ref a_m_price, .ref a_m_stood, .ref a_m_hands, .ref a_m_wanted, .int m_rooms, .int m_people, .int m_things, .int m_draftRooms, .int m_draftPeople, .int m_draftThings, .ref a_m_s, .ref a_m_kept, .ref a_m_isKept, .ref a_m_due, .int q1, .ref a_m_cost, .ref a_m_then, .ref a_m_by])), (a_m_hands, .inl (cI, 16, .inl m_hands)), (a_m_wanted, .inl (cI, 16, .inl m_wanted)), (a_m_s, .inl (cI, 21, .inl m_s)), (a_m_due, .inl (cI, 8, .inl q2))]) (va_A [(a_m, .inr (7, [.int m_thrown, .long m_trace, .ref a_m_text, .int m_typed, .int m_next, .int m_token, .int m_place, .int m_value, .int m_fault, .ref a_m_lifts, .ref a_m_price, .ref a_m_stood, .ref a_m_hands, .ref a_m_wanted, .int m_rooms, .int m_people, .int m_things, .int m_draftRooms, .int m_draftPeople, .int m_draftThings, .ref a_m_s, .ref a_m_kept, .ref a_m_isKept, .ref a_m_due, .int m_dueMany, .ref a_m_cost, .ref a_m_then, .ref a_m_by])), (a_m_hands, .inl (cI, 16, .inl m_hands)), (a_m_wanted, .inl (cI, 16, .inl m_wanted)), (a_m_s, .inl (cI, 21, .inl m_s)), (a_m_due, .inl (cI, 8, .inl m_due))] sz)) 0 0 (va_A [(a_m, .inr (7, [.int m_thrown, .long m_trace, .ref a_m_text, .int m_typed, .int m_next, .int m_token, .int m_place, .int m_value, .int m_fault, .ref a_m_lifts, .ref a_m_price, .ref a_m_stood, .ref a_m_hands, .ref a_m_wanted, .int m_rooms, .int m_people, .int m_things, .int m_draftRooms, .int m_draftPeople, .int m_draftThings, .ref a_m_s, .ref a_m_kept, .ref a_m_isKept, .ref a_m_due, .int m_dueMany, .ref a_m_cost, .ref a_m_then, .ref a_m_by])), (a_m_hands, .inl (cI, 16, .inl m_hands)), (a_m_wanted, .inl (cI, 16, .inl m_wanted)), (a_m_s, .inl (cI, 21, .inl m_s)), (a_m_due, .inl (cI, 8, .inl m_due))] sz) := by
  refine met_i (cc := cX7_can) (maxL := 1) (own := RX7) (by decide) rfl (Nat.le_of_ble_eq_true rfl) rfl (fun p e s m args below meth c Q A E hret ls H locs hl hw => ?_)
  obtain ⟨⟨hx, hb, hml, hown, hts⟩, hK, hN, hA, hX⟩ := id E
  have hl : lv_has ls 1 [(0, .ref a_m)] := hl
  have iX7 : ∀ w ∈ wsX70, w ∈ wsX7_can := by decide +kernel
  have kf57 := hts (.fieldLink RX7 57 "FiveThingsModel" "thrown" "I") (by decide +kernel)
  unfold f_X7_can at hf
  refine lv_aload_n hx hb dX7_can_0 rfl (lv_at hl 0 rfl) ?_
  refine lv_iconst (v := (0 : Int32)) hx hb dX7_can_1 rfl ?_
  refine r_put E hw iX7 tyX7_ok nmX7 0 0 rfl rfl (by decide) kf57 rfl rfl rfl rfl (Nat.le_of_ble_eq_true rfl) [(a_m, .inr (7, [.int (0 : Int32), .long m_trace, .ref a_m_text, .int m_typed, .int m_next, .int m_token, .int m_place, .int m_value, .int m_fault, .ref a_m_lifts, .ref a_m_price, .ref a_m_stood, .ref a_m_hands, .ref a_m_wanted, .int m_rooms, .int m_people, .int m_things, .int m_draftRooms, .int m_draftPeople, .int m_draftThings, .ref a_m_s, .ref a_m_kept, .ref a_m_isKept, .ref a_m_due, .int m_dueMany, .ref a_m_cost, .ref a_m_then, .ref a_m_by])), (a_m_hands, .inl (cI, 16, .inl m_hands)), (a_m_wanted, .inl (cI, 16, .inl m_wanted)), (a_m_s, .inl (cI, 21, .inl m_s)), (a_m_due, .inl (cI, 8, .inl m_due))] rfl dX7_can_2 (fun H locs hw => ?_)
  refine lv_aload_n hx hb dX7_can_5 rfl (lv_at hl 0 rfl) ?_
  obtain ⟨r1, hu2, hf⟩ := bd1_some hf
  refine cl_i (wr := [(a_m_hands, .inl (cI, 16, .inl m_hands)), (a_m_due, .inl (cI, 8, .inl m_due))]) (w2 := [(a_m, .inr (7, [.int (0 : Int32), .long m_trace, .ref a_m_text, .int m_typed, .int m_next, .int m_token, .int m_place, .int m_value, .int m_fault, .ref a_m_lifts, .ref a_m_price, .ref a_m_stood, .ref a_m_hands, .ref a_m_wanted, .int m_rooms, .int m_people, .int m_things, .int m_draftRooms, .int m_draftPeople, .int m_draftThings, .ref a_m_s, .ref a_m_kept, .ref a_m_isKept, .ref a_m_due, .int m_dueMany, .ref a_m_cost, .ref a_m_then, .ref a_m_by])), (a_m_hands, .inl (cI, 16, .inl m_hands)), (a_m_wanted, .inl (cI, 16, .inl m_wanted)), (a_m_s, .inl (cI, 21, .inl m_s)), (a_m_due, .inl (cI, 8, .inl m_due))]) E hw [0, 2, 3] [1, 4] [2, 0, 3, 4, 1] (va_runV (As := []) (rest := []) E.1 (c_X7_barred l dC dI cI cB cZ aK aV a_m a_m_text a_m_lifts a_m_price a_m_stood a_m_hands a_m_wanted a_m_s a_m_kept a_m_isKept a_m_due a_m_cost a_m_then a_m_by H.size (0 : Int32) m_trace m_typed m_next m_token m_place m_value m_fault m_rooms m_people m_things m_draftRooms m_draftPeople m_draftThings m_dueMany m_wanted m_s r1 hu2) (cwV 0 hts gX7_can_X7_barred rfl rfl rfl hd_X7_barred ⟨Nat.le_of_ble_eq_true rfl, Nat.le_of_ble_eq_true rfl⟩) (pre_V E hw [0, 2, 3] rfl rfl rfl rfl) rfl rfl hl.1 rfl (lv_room (Nat.le_of_ble_eq_true rfl)) dX7_can_6 ⟨Nat.zero_le _, Nat.zero_le _⟩) rfl rfl rfl (by decide) rfl rfl (fun H locs hw => ?_)
  refine lv_if_eq (tgt := 17) hx hb dX7_can_9 (by decide) (fun kc => ?_) (fun kc => ?_)
  · have hf := if_t hf kc
    refine lv_aload_n hx hb dX7_can_17 rfl (lv_at hl 0 rfl) ?_
    refine lv_aload_n hx hb dX7_can_18 rfl (lv_at hl 0 rfl) ?_
    obtain ⟨r3, hu4, hf⟩ := bd1_some hf
    refine cl_i (wr := [(a_m_hands, .inl (cI, 16, .inl m_hands)), (a_m_wanted, .inl (cI, 16, .inl m_wanted)), (a_m_s, .inl (cI, 21, .inl m_s)), (a_m_due, .inl (cI, 8, .inl m_due))]) (w2 := [(a_m, .inr (7, [.int (0 : Int32), .long m_trace, .ref a_m_text, .int m_typed, .int m_next, .int m_token, .int m_place, .int m_value, .int m_fault, .ref a_m_lifts, .ref a_m_price, .ref a_m_stood, .ref a_m_hands, .ref a_m_wanted, .int m_rooms, .int m_people, .int m_things, .int m_draftRooms, .int m_draftPeople, .int m_draftThings, .ref a_m_s, .ref a_m_kept, .ref a_m_isKept, .ref a_m_due, .int m_dueMany, .ref a_m_cost, .ref a_m_then, .ref a_m_by])), (a_m_hands, .inl (cI, 16, .inl m_hands)), (a_m_wanted, .inl (cI, 16, .inl m_wanted)), (a_m_s, .inl (cI, 21, .inl m_s)), (a_m_due, .inl (cI, 8, .inl m_due))]) E hw [0] [1, 2, 3, 4] [4, 0, 1, 2, 3] (va_runV (As := []) (rest := [.ref a_m]) E.1 (c_X7_everybody l dC dI cI cB cZ aK aV a_m a_m_text a_m_lifts a_m_price a_m_stood a_m_hands a_m_wanted a_m_s a_m_kept a_m_isKept a_m_due a_m_cost a_m_then a_m_by H.size (0 : Int32) m_trace m_typed m_next m_token m_place m_value m_fault m_rooms m_people m_things m_draftRooms m_draftPeople m_draftThings m_dueMany r3 hu4) (cwV 0 hts gX7_can_X7_everybody rfl rfl rfl hd_X7_everybody ⟨Nat.le_of_ble_eq_true rfl, Nat.le_of_ble_eq_true rfl⟩) (pre_V E hw [0] rfl rfl rfl rfl) rfl rfl hl.1 rfl (lv_room (Nat.le_of_ble_eq_true rfl)) dX7_can_19 ⟨Nat.zero_le _, Nat.zero_le _⟩) rfl rfl rfl (by decide) rfl rfl (fun H locs hw => ?_)
    obtain ⟨r5, u6, u7, hu8, hf⟩ := bd3_some hf
    refine cl_i (wr := []) (w2 := [(a_m, .inr (7, [.int (0 : Int32), .long m_trace, .ref a_m_text, .int m_typed, .int m_next, .int m_token, .int m_place, .int m_value, .int m_fault, .ref a_m_lifts, .ref a_m_price, .ref a_m_stood, .ref a_m_hands, .ref a_m_wanted, .int m_rooms, .int m_people, .int m_things, .int m_draftRooms, .int m_draftPeople, .int m_draftThings, .ref a_m_s, .ref a_m_kept, .ref a_m_isKept, .ref a_m_due, .int u6, .ref a_m_cost, .ref a_m_then, .ref a_m_by])), (a_m_hands, .inl (cI, 16, .inl m_hands)), (a_m_wanted, .inl (cI, 16, .inl m_wanted)), (a_m_s, .inl (cI, 21, .inl m_s)), (a_m_due, .inl (cI, 8, .inl u7))]) E hw [0, 1, 2, 3, 4] [] [0, 1, 2, 3, 4] (va_runV (As := [.int r3]) (rest := []) E.1 (c_X7_canBy l dC dI cI cB cZ aK aV a_m a_m_text a_m_lifts a_m_price a_m_stood a_m_hands a_m_wanted a_m_s a_m_kept a_m_isKept a_m_due a_m_cost a_m_then a_m_by H.size (0 : Int32) m_trace m_typed m_next m_token m_place m_value m_fault m_rooms m_people m_things m_draftRooms m_draftPeople m_draftThings m_dueMany m_hands m_wanted m_s m_due r3 r5 u6 u7 hu8) (cwV 1 hts gX7_can_X7_canBy rfl rfl rfl hd_X7_canBy ⟨Nat.le_of_ble_eq_true rfl, Nat.le_of_ble_eq_true rfl⟩) (pre_V E hw [0, 1, 2, 3, 4] rfl rfl rfl rfl) rfl rfl hl.1 rfl (lv_room (Nat.le_of_ble_eq_true rfl)) dX7_can_22 ⟨Nat.zero_le _, Nat.zero_le _⟩) rfl rfl rfl (by decide) rfl rfl (fun H locs hw => ?_)
    refine lv_if_eq (tgt := 32) hx hb dX7_can_25 (by decide) (fun kc => ?_) (fun kc => ?_)
    · have hf := if_t hf kc
      refine lv_iconst (v := (0 : Int32)) hx hb dX7_can_32 rfl ?_
      obtain ⟨rfl, rfl, rfl, rfl⟩ := sm4 hf
      exact hret H locs ls 33 hw dX7_can_33
    · have hf := if_f hf kc
      refine lv_iconst (v := (1 : Int32)) hx hb dX7_can_28 rfl ?_
      refine lv_goto (tgt := 33) hx hb dX7_can_29 (by decide) ?_
      obtain ⟨rfl, rfl, rfl, rfl⟩ := sm4 hf
      exact hret H locs ls 33 hw dX7_can_33
  · have hf := if_f hf kc
    refine lv_bipush (v := (-9 : Int32)) hx hb dX7_can_12 rfl ?_
    refine lv_goto (tgt := 33) hx hb dX7_can_14 (by decide) ?_
    obtain ⟨rfl, rfl, rfl, rfl⟩ := sm4 hf
    exact hret H locs ls 33 hw dX7_can_33
def f_X7_cheap  (m_people : Int32) (m_things : Int32) (m_dueMany : Int32) (m_price : Nat → Int32) (m_hands : Nat → Int32) (m_wanted : Nat → Int32) (m_s : Nat → Int32) (m_due : Nat → Int32) (m_cost : Nat → Int32) (m_then : Nat → Int32) : Option (Int32 × Int32 × Int32 × (Nat → Int32) × (Nat → Int32) × (Nat → Int32)) :=
  bd1 (f_X7_barred m_things m_wanted m_s) (fun r1 => (if r1 = 0 then bd1 (f_X7_everybody m_people) (fun r3 => bd5 (f_X7_cheapestBy r3 m_people m_things m_price m_hands m_wanted m_s m_due m_cost m_then) (fun r5 u6 u7 u8 u9 => some (r5, (0 : Int32), u6, u7, u8, u9))) else some ((-9 : Int32), (0 : Int32), m_dueMany, m_due, m_cost, m_then)))
theorem hd_X7_cheap : yX7_cheap.cls = RX7 ∧ yX7_cheap.cls ≠ "java/lang/invoke/MethodHandle" ∧ yX7_cheap.cls ≠ "java/lang/invoke/VarHandle" ∧ (parseMethodDescriptor yX7_cheap.desc).map (fun d => d.parameters.length) = some 0 := by decide +kernel
set_option maxHeartbeats 4000000 in
set_option maxRecDepth 100000 in
theorem c_X7_cheap (l : Launch) (dC : Nat → ClassId) (dI : Nat → Nat → Nat) (cI cB cZ : ClassId) (aK aV : Nat → Nat) (a_m a_m_text a_m_lifts a_m_price a_m_stood a_m_hands a_m_wanted a_m_s a_m_kept a_m_isKept a_m_due a_m_cost a_m_then a_m_by : Nat) (sz : Nat) (m_thrown : Int32) (m_trace : Int64) (m_typed : Int32) (m_next : Int32) (m_token : Int32) (m_place : Int32) (m_value : Int32) (m_fault : Int32) (m_rooms : Int32) (m_people : Int32) (m_things : Int32) (m_draftRooms : Int32) (m_draftPeople : Int32) (m_draftThings : Int32) (m_dueMany : Int32) (m_price : Nat → Int32) (m_hands : Nat → Int32) (m_wanted : Nat → Int32) (m_s : Nat → Int32) (m_due : Nat → Int32) (m_cost : Nat → Int32) (m_then : Nat → Int32) (r : Int32) (q0 : Int32) (q1 : Int32) (q2 : Nat → Int32) (q3 : Nat → Int32) (q4 : Nat → Int32) (hf : f_X7_cheap m_people m_things m_dueMany m_price m_hands m_wanted m_s m_due m_cost m_then = some (r, q0, q1, q2, q3, q4)) : Met l yX7_cheap wsX7_cheap ({ frames := 4, cells := 0, slots := 0, locals := 90 } : Jvm.Room) (va_Pc [.ref a_m] (preW (dC, dI) (tyL cI cB cZ) aK aV sz [(a_m, .inr (7, [.int m_thrown, .long m_trace, .ref a_m_text, .int m_typed, .int m_next, .int m_token, .int m_place, .int m_value, .int m_fault, .ref a_m_lifts, .ref a_m_price, .ref a_m_stood, .ref a_m_hands, .ref a_m_wanted, .int m_rooms, .int m_people, .int m_things, .int m_draftRooms, .int m_draftPeople, .int m_draftThings, .ref a_m_s, .ref a_m_kept, .ref a_m_isKept, .ref a_m_due, .int m_dueMany, .ref a_m_cost, .ref a_m_then, .ref a_m_by])), (a_m_price, .inl (cI, 8, .inl m_price)), (a_m_hands, .inl (cI, 16, .inl m_hands)), (a_m_wanted, .inl (cI, 16, .inl m_wanted)), (a_m_s, .inl (cI, 21, .inl m_s)), (a_m_due, .inl (cI, 8, .inl m_due)), (a_m_cost, .inl (cI, 10000, .inl m_cost)), (a_m_then, .inl (cI, 10000, .inl m_then))])) (va_Qi (fun v (_ : Unit) => v = r) (postW (dC, dI) (tyL cI cB cZ) (va_A [(a_m, .inr (7, [.int m_thrown, .long m_trace, .ref a_m_text, .int m_typed, .int m_next, .int m_token, .int m_place, .int m_value, .int m_fault, .ref a_m_lifts, .ref a_m_price, .ref a_m_stood, .ref a_m_hands, .ref a_m_wanted, .int m_rooms, .int m_people, .int m_things, .int m_draftRooms, .int m_draftPeople, .int m_draftThings, .ref a_m_s, .ref a_m_kept, .ref a_m_isKept, .ref a_m_due, .int m_dueMany, .ref a_m_cost, .ref a_m_then, .ref a_m_by])), (a_m_price, .inl (cI, 8, .inl m_price)), (a_m_hands, .inl (cI, 16, .inl m_hands)), (a_m_wanted, .inl (cI, 16, .inl m_wanted)), (a_m_s, .inl (cI, 21, .inl m_s)), (a_m_due, .inl (cI, 8, .inl m_due)), (a_m_cost, .inl (cI, 10000, .inl m_cost)), (a_m_then, .inl (cI, 10000, .inl m_then))] sz) [(a_m, .inr (7, [.int q0, .long m_trace, .ref a_m_text, .int m_typed, .int m_next, .int m_token, .int m_place, .int m_value, .int m_fault, .ref a_m_lifts, .ref a_m_price, .ref a_m_stood, .ref a_m_hands, .ref a_m_wanted, .int m_rooms, .int m_people, .int m_things, .int m_draftRooms, .int m_draftPeople, .int m_draftThings, .ref a_m_s, .ref a_m_kept, .ref a_m_isKept, .ref a_m_due, .int q1, .ref a_m_cost, .ref a_m_then, .ref a_m_by])), (a_m_price, .inl (cI, 8, .inl m_price)), (a_m_hands, .inl (cI, 16, .inl m_hands)), (a_m_wanted, .inl (cI, 16, .inl m_wanted)), (a_m_s, .inl (cI, 21, .inl m_s)), (a_m_due, .inl (cI, 8, .inl q2)), (a_m_cost, .inl (cI, 10000, .inl q3)), (a_m_then, .inl (cI, 10000, .inl q4))]) (va_A [(a_m, .inr (7, [.int m_thrown, .long m_trace, .ref a_m_text, .int m_typed, .int m_next, .int m_token, .int m_place, .int m_value, .int m_fault, .ref a_m_lifts, .ref a_m_price, .ref a_m_stood, .ref a_m_hands, .ref a_m_wanted, .int m_rooms, .int m_people, .int m_things, .int m_draftRooms, .int m_draftPeople, .int m_draftThings, .ref a_m_s, .ref a_m_kept, .ref a_m_isKept, .ref a_m_due, .int m_dueMany, .ref a_m_cost, .ref a_m_then, .ref a_m_by])), (a_m_price, .inl (cI, 8, .inl m_price)), (a_m_hands, .inl (cI, 16, .inl m_hands)), (a_m_wanted, .inl (cI, 16, .inl m_wanted)), (a_m_s, .inl (cI, 21, .inl m_s)), (a_m_due, .inl (cI, 8, .inl m_due)), (a_m_cost, .inl (cI, 10000, .inl m_cost)), (a_m_then, .inl (cI, 10000, .inl m_then))] sz)) 0 0 (va_A [(a_m, .inr (7, [.int m_thrown, .long m_trace, .ref a_m_text, .int m_typed, .int m_next, .int m_token, .int m_place, .int m_value, .int m_fault, .ref a_m_lifts, .ref a_m_price, .ref a_m_stood, .ref a_m_hands, .ref a_m_wanted, .int m_rooms, .int m_people, .int m_things, .int m_draftRooms, .int m_draftPeople, .int m_draftThings, .ref a_m_s, .ref a_m_kept, .ref a_m_isKept, .ref a_m_due, .int m_dueMany, .ref a_m_cost, .ref a_m_then, .ref a_m_by])), (a_m_price, .inl (cI, 8, .inl m_price)), (a_m_hands, .inl (cI, 16, .inl m_hands)), (a_m_wanted, .inl (cI, 16, .inl m_wanted)), (a_m_s, .inl (cI, 21, .inl m_s)), (a_m_due, .inl (cI, 8, .inl m_due)), (a_m_cost, .inl (cI, 10000, .inl m_cost)), (a_m_then, .inl (cI, 10000, .inl m_then))] sz) := by
  refine met_i (cc := cX7_cheap) (maxL := 1) (own := RX7) (by decide) rfl (Nat.le_of_ble_eq_true rfl) rfl (fun p e s m args below meth c Q A E hret ls H locs hl hw => ?_)
  obtain ⟨⟨hx, hb, hml, hown, hts⟩, hK, hN, hA, hX⟩ := id E
  have hl : lv_has ls 1 [(0, .ref a_m)] := hl
  have iX7 : ∀ w ∈ wsX70, w ∈ wsX7_cheap := by decide +kernel
  have kf57 := hts (.fieldLink RX7 57 "FiveThingsModel" "thrown" "I") (by decide +kernel)
  unfold f_X7_cheap at hf
  refine lv_aload_n hx hb dX7_cheap_0 rfl (lv_at hl 0 rfl) ?_
  refine lv_iconst (v := (0 : Int32)) hx hb dX7_cheap_1 rfl ?_
  refine r_put E hw iX7 tyX7_ok nmX7 0 0 rfl rfl (by decide) kf57 rfl rfl rfl rfl (Nat.le_of_ble_eq_true rfl) [(a_m, .inr (7, [.int (0 : Int32), .long m_trace, .ref a_m_text, .int m_typed, .int m_next, .int m_token, .int m_place, .int m_value, .int m_fault, .ref a_m_lifts, .ref a_m_price, .ref a_m_stood, .ref a_m_hands, .ref a_m_wanted, .int m_rooms, .int m_people, .int m_things, .int m_draftRooms, .int m_draftPeople, .int m_draftThings, .ref a_m_s, .ref a_m_kept, .ref a_m_isKept, .ref a_m_due, .int m_dueMany, .ref a_m_cost, .ref a_m_then, .ref a_m_by])), (a_m_price, .inl (cI, 8, .inl m_price)), (a_m_hands, .inl (cI, 16, .inl m_hands)), (a_m_wanted, .inl (cI, 16, .inl m_wanted)), (a_m_s, .inl (cI, 21, .inl m_s)), (a_m_due, .inl (cI, 8, .inl m_due)), (a_m_cost, .inl (cI, 10000, .inl m_cost)), (a_m_then, .inl (cI, 10000, .inl m_then))] rfl dX7_cheap_2 (fun H locs hw => ?_)
  refine lv_aload_n hx hb dX7_cheap_5 rfl (lv_at hl 0 rfl) ?_
  obtain ⟨r1, hu2, hf⟩ := bd1_some hf
  refine cl_i (wr := [(a_m_price, .inl (cI, 8, .inl m_price)), (a_m_hands, .inl (cI, 16, .inl m_hands)), (a_m_due, .inl (cI, 8, .inl m_due)), (a_m_cost, .inl (cI, 10000, .inl m_cost)), (a_m_then, .inl (cI, 10000, .inl m_then))]) (w2 := [(a_m, .inr (7, [.int (0 : Int32), .long m_trace, .ref a_m_text, .int m_typed, .int m_next, .int m_token, .int m_place, .int m_value, .int m_fault, .ref a_m_lifts, .ref a_m_price, .ref a_m_stood, .ref a_m_hands, .ref a_m_wanted, .int m_rooms, .int m_people, .int m_things, .int m_draftRooms, .int m_draftPeople, .int m_draftThings, .ref a_m_s, .ref a_m_kept, .ref a_m_isKept, .ref a_m_due, .int m_dueMany, .ref a_m_cost, .ref a_m_then, .ref a_m_by])), (a_m_price, .inl (cI, 8, .inl m_price)), (a_m_hands, .inl (cI, 16, .inl m_hands)), (a_m_wanted, .inl (cI, 16, .inl m_wanted)), (a_m_s, .inl (cI, 21, .inl m_s)), (a_m_due, .inl (cI, 8, .inl m_due)), (a_m_cost, .inl (cI, 10000, .inl m_cost)), (a_m_then, .inl (cI, 10000, .inl m_then))]) E hw [0, 3, 4] [1, 2, 5, 6, 7] [5, 0, 1, 6, 7, 2, 3, 4] (va_runV (As := []) (rest := []) E.1 (c_X7_barred l dC dI cI cB cZ aK aV a_m a_m_text a_m_lifts a_m_price a_m_stood a_m_hands a_m_wanted a_m_s a_m_kept a_m_isKept a_m_due a_m_cost a_m_then a_m_by H.size (0 : Int32) m_trace m_typed m_next m_token m_place m_value m_fault m_rooms m_people m_things m_draftRooms m_draftPeople m_draftThings m_dueMany m_wanted m_s r1 hu2) (cwV 0 hts gX7_cheap_X7_barred rfl rfl rfl hd_X7_barred ⟨Nat.le_of_ble_eq_true rfl, Nat.le_of_ble_eq_true rfl⟩) (pre_V E hw [0, 3, 4] rfl rfl rfl rfl) rfl rfl hl.1 rfl (lv_room (Nat.le_of_ble_eq_true rfl)) dX7_cheap_6 ⟨Nat.zero_le _, Nat.zero_le _⟩) rfl rfl rfl (by decide) rfl rfl (fun H locs hw => ?_)
  refine lv_if_eq (tgt := 17) hx hb dX7_cheap_9 (by decide) (fun kc => ?_) (fun kc => ?_)
  · have hf := if_t hf kc
    refine lv_aload_n hx hb dX7_cheap_17 rfl (lv_at hl 0 rfl) ?_
    refine lv_aload_n hx hb dX7_cheap_18 rfl (lv_at hl 0 rfl) ?_
    obtain ⟨r3, hu4, hf⟩ := bd1_some hf
    refine cl_i (wr := [(a_m_price, .inl (cI, 8, .inl m_price)), (a_m_hands, .inl (cI, 16, .inl m_hands)), (a_m_wanted, .inl (cI, 16, .inl m_wanted)), (a_m_s, .inl (cI, 21, .inl m_s)), (a_m_due, .inl (cI, 8, .inl m_due)), (a_m_cost, .inl (cI, 10000, .inl m_cost)), (a_m_then, .inl (cI, 10000, .inl m_then))]) (w2 := [(a_m, .inr (7, [.int (0 : Int32), .long m_trace, .ref a_m_text, .int m_typed, .int m_next, .int m_token, .int m_place, .int m_value, .int m_fault, .ref a_m_lifts, .ref a_m_price, .ref a_m_stood, .ref a_m_hands, .ref a_m_wanted, .int m_rooms, .int m_people, .int m_things, .int m_draftRooms, .int m_draftPeople, .int m_draftThings, .ref a_m_s, .ref a_m_kept, .ref a_m_isKept, .ref a_m_due, .int m_dueMany, .ref a_m_cost, .ref a_m_then, .ref a_m_by])), (a_m_price, .inl (cI, 8, .inl m_price)), (a_m_hands, .inl (cI, 16, .inl m_hands)), (a_m_wanted, .inl (cI, 16, .inl m_wanted)), (a_m_s, .inl (cI, 21, .inl m_s)), (a_m_due, .inl (cI, 8, .inl m_due)), (a_m_cost, .inl (cI, 10000, .inl m_cost)), (a_m_then, .inl (cI, 10000, .inl m_then))]) E hw [0] [1, 2, 3, 4, 5, 6, 7] [7, 0, 1, 2, 3, 4, 5, 6] (va_runV (As := []) (rest := [.ref a_m]) E.1 (c_X7_everybody l dC dI cI cB cZ aK aV a_m a_m_text a_m_lifts a_m_price a_m_stood a_m_hands a_m_wanted a_m_s a_m_kept a_m_isKept a_m_due a_m_cost a_m_then a_m_by H.size (0 : Int32) m_trace m_typed m_next m_token m_place m_value m_fault m_rooms m_people m_things m_draftRooms m_draftPeople m_draftThings m_dueMany r3 hu4) (cwV 0 hts gX7_cheap_X7_everybody rfl rfl rfl hd_X7_everybody ⟨Nat.le_of_ble_eq_true rfl, Nat.le_of_ble_eq_true rfl⟩) (pre_V E hw [0] rfl rfl rfl rfl) rfl rfl hl.1 rfl (lv_room (Nat.le_of_ble_eq_true rfl)) dX7_cheap_19 ⟨Nat.zero_le _, Nat.zero_le _⟩) rfl rfl rfl (by decide) rfl rfl (fun H locs hw => ?_)
    obtain ⟨r5, u6, u7, u8, u9, hu10, hf⟩ := bd5_some hf
    refine cl_i (wr := []) (w2 := [(a_m, .inr (7, [.int (0 : Int32), .long m_trace, .ref a_m_text, .int m_typed, .int m_next, .int m_token, .int m_place, .int m_value, .int m_fault, .ref a_m_lifts, .ref a_m_price, .ref a_m_stood, .ref a_m_hands, .ref a_m_wanted, .int m_rooms, .int m_people, .int m_things, .int m_draftRooms, .int m_draftPeople, .int m_draftThings, .ref a_m_s, .ref a_m_kept, .ref a_m_isKept, .ref a_m_due, .int u6, .ref a_m_cost, .ref a_m_then, .ref a_m_by])), (a_m_price, .inl (cI, 8, .inl m_price)), (a_m_hands, .inl (cI, 16, .inl m_hands)), (a_m_wanted, .inl (cI, 16, .inl m_wanted)), (a_m_s, .inl (cI, 21, .inl m_s)), (a_m_due, .inl (cI, 8, .inl u7)), (a_m_cost, .inl (cI, 10000, .inl u8)), (a_m_then, .inl (cI, 10000, .inl u9))]) E hw [0, 1, 2, 3, 4, 5, 6, 7] [] [0, 1, 2, 3, 4, 5, 6, 7] (va_runV (As := [.int r3]) (rest := []) E.1 (c_X7_cheapestBy l dC dI cI cB cZ aK aV a_m a_m_text a_m_lifts a_m_price a_m_stood a_m_hands a_m_wanted a_m_s a_m_kept a_m_isKept a_m_due a_m_cost a_m_then a_m_by H.size (0 : Int32) m_trace m_typed m_next m_token m_place m_value m_fault m_rooms m_people m_things m_draftRooms m_draftPeople m_draftThings m_dueMany m_price m_hands m_wanted m_s m_due m_cost m_then r3 r5 u6 u7 u8 u9 hu10) (cwV 1 hts gX7_cheap_X7_cheapestBy rfl rfl rfl hd_X7_cheapestBy ⟨Nat.le_of_ble_eq_true rfl, Nat.le_of_ble_eq_true rfl⟩) (pre_V E hw [0, 1, 2, 3, 4, 5, 6, 7] rfl rfl rfl rfl) rfl rfl hl.1 rfl (lv_room (Nat.le_of_ble_eq_true rfl)) dX7_cheap_22 ⟨Nat.zero_le _, Nat.zero_le _⟩) rfl rfl rfl (by decide) rfl rfl (fun H locs hw => ?_)
    obtain ⟨rfl, rfl, rfl, rfl, rfl, rfl⟩ := sm6 hf
    exact hret H locs ls 25 hw dX7_cheap_25
  · have hf := if_f hf kc
    refine lv_bipush (v := (-9 : Int32)) hx hb dX7_cheap_12 rfl ?_
    refine lv_goto (tgt := 25) hx hb dX7_cheap_14 (by decide) ?_
    obtain ⟨rfl, rfl, rfl, rfl, rfl, rfl⟩ := sm6 hf
    exact hret H locs ls 25 hw dX7_cheap_25
def f_X7_leastPeople  (m_people : Int32) (m_things : Int32) (m_dueMany : Int32) (m_hands : Nat → Int32) (m_wanted : Nat → Int32) (m_s : Nat → Int32) (m_due : Nat → Int32) : Option (Int32 × Int32 × Int32 × (Nat → Int32)) :=
  bd1 (f_X7_barred m_things m_wanted m_s) (fun r1 => (if r1 = 0 then loop4 (fun B20 (x14 : Int32) (x15 : Int32) (x16 : Int32) (x17 : Nat → Int32) => (if ((1 : Int32) <<< (m_people &&& 31)) ≤ x15 then some (x14, (0 : Int32), x16, x17) else jn (fun (x22 : Int32) => jn (fun (x27 : Int32) (x28 : Nat → Int32) => B20 x14 (x15 + (1 : Int32)) x27 x28) (fun J69 => (if x22 = 0 then J69 x16 x17 else bd3 (f_X7_canBy x15 m_people m_things m_hands m_wanted m_s x17) (fun r23 u24 u25 => (if r23 = 0 then J69 u24 u25 else B20 x15 (x15 + (1 : Int32)) u24 u25))))) (fun J52 => jn (J52 (1 : Int32)) (fun J47 => (if x14 = (-9 : Int32) then J47 else bd1 (f_X7_ones x15) (fun r18 => bd1 (f_X7_ones x14) (fun r20 => (if r20 ≤ r18 then J52 (0 : Int32) else J47)))))))) FU (-9 : Int32) (0 : Int32) m_dueMany m_due else some ((-9 : Int32), (0 : Int32), m_dueMany, m_due)))
theorem hd_X7_leastPeople : yX7_leastPeople.cls = RX7 ∧ yX7_leastPeople.cls ≠ "java/lang/invoke/MethodHandle" ∧ yX7_leastPeople.cls ≠ "java/lang/invoke/VarHandle" ∧ (parseMethodDescriptor yX7_leastPeople.desc).map (fun d => d.parameters.length) = some 0 := by decide +kernel
set_option maxHeartbeats 4000000 in
set_option maxRecDepth 100000 in
theorem c_X7_leastPeople (l : Launch) (dC : Nat → ClassId) (dI : Nat → Nat → Nat) (cI cB cZ : ClassId) (aK aV : Nat → Nat) (a_m a_m_text a_m_lifts a_m_price a_m_stood a_m_hands a_m_wanted a_m_s a_m_kept a_m_isKept a_m_due a_m_cost a_m_then a_m_by : Nat) (sz : Nat) (m_thrown : Int32) (m_trace : Int64) (m_typed : Int32) (m_next : Int32) (m_token : Int32) (m_place : Int32) (m_value : Int32) (m_fault : Int32) (m_rooms : Int32) (m_people : Int32) (m_things : Int32) (m_draftRooms : Int32) (m_draftPeople : Int32) (m_draftThings : Int32) (m_dueMany : Int32) (m_hands : Nat → Int32) (m_wanted : Nat → Int32) (m_s : Nat → Int32) (m_due : Nat → Int32) (r : Int32) (q0 : Int32) (q1 : Int32) (q2 : Nat → Int32) (hf : f_X7_leastPeople m_people m_things m_dueMany m_hands m_wanted m_s m_due = some (r, q0, q1, q2)) : Met l yX7_leastPeople wsX7_leastPeople ({ frames := 4, cells := 0, slots := 0, locals := 92 } : Jvm.Room) (va_Pc [.ref a_m] (preW (dC, dI) (tyL cI cB cZ) aK aV sz [(a_m, .inr (7, [.int m_thrown, .long m_trace, .ref a_m_text, .int m_typed, .int m_next, .int m_token, .int m_place, .int m_value, .int m_fault, .ref a_m_lifts, .ref a_m_price, .ref a_m_stood, .ref a_m_hands, .ref a_m_wanted, .int m_rooms, .int m_people, .int m_things, .int m_draftRooms, .int m_draftPeople, .int m_draftThings, .ref a_m_s, .ref a_m_kept, .ref a_m_isKept, .ref a_m_due, .int m_dueMany, .ref a_m_cost, .ref a_m_then, .ref a_m_by])), (a_m_hands, .inl (cI, 16, .inl m_hands)), (a_m_wanted, .inl (cI, 16, .inl m_wanted)), (a_m_s, .inl (cI, 21, .inl m_s)), (a_m_due, .inl (cI, 8, .inl m_due))])) (va_Qi (fun v (_ : Unit) => v = r) (postW (dC, dI) (tyL cI cB cZ) (va_A [(a_m, .inr (7, [.int m_thrown, .long m_trace, .ref a_m_text, .int m_typed, .int m_next, .int m_token, .int m_place, .int m_value, .int m_fault, .ref a_m_lifts, .ref a_m_price, .ref a_m_stood, .ref a_m_hands, .ref a_m_wanted, .int m_rooms, .int m_people, .int m_things, .int m_draftRooms, .int m_draftPeople, .int m_draftThings, .ref a_m_s, .ref a_m_kept, .ref a_m_isKept, .ref a_m_due, .int m_dueMany, .ref a_m_cost, .ref a_m_then, .ref a_m_by])), (a_m_hands, .inl (cI, 16, .inl m_hands)), (a_m_wanted, .inl (cI, 16, .inl m_wanted)), (a_m_s, .inl (cI, 21, .inl m_s)), (a_m_due, .inl (cI, 8, .inl m_due))] sz) [(a_m, .inr (7, [.int q0, .long m_trace, .ref a_m_text, .int m_typed, .int m_next, .int m_token, .int m_place, .int m_value, .int m_fault, .ref a_m_lifts, .ref a_m_price, .ref a_m_stood, .ref a_m_hands, .ref a_m_wanted, .int m_rooms, .int m_people, .int m_things, .int m_draftRooms, .int m_draftPeople, .int m_draftThings, .ref a_m_s, .ref a_m_kept, .ref a_m_isKept, .ref a_m_due, .int q1, .ref a_m_cost, .ref a_m_then, .ref a_m_by])), (a_m_hands, .inl (cI, 16, .inl m_hands)), (a_m_wanted, .inl (cI, 16, .inl m_wanted)), (a_m_s, .inl (cI, 21, .inl m_s)), (a_m_due, .inl (cI, 8, .inl q2))]) (va_A [(a_m, .inr (7, [.int m_thrown, .long m_trace, .ref a_m_text, .int m_typed, .int m_next, .int m_token, .int m_place, .int m_value, .int m_fault, .ref a_m_lifts, .ref a_m_price, .ref a_m_stood, .ref a_m_hands, .ref a_m_wanted, .int m_rooms, .int m_people, .int m_things, .int m_draftRooms, .int m_draftPeople, .int m_draftThings, .ref a_m_s, .ref a_m_kept, .ref a_m_isKept, .ref a_m_due, .int m_dueMany, .ref a_m_cost, .ref a_m_then, .ref a_m_by])), (a_m_hands, .inl (cI, 16, .inl m_hands)), (a_m_wanted, .inl (cI, 16, .inl m_wanted)), (a_m_s, .inl (cI, 21, .inl m_s)), (a_m_due, .inl (cI, 8, .inl m_due))] sz)) 0 0 (va_A [(a_m, .inr (7, [.int m_thrown, .long m_trace, .ref a_m_text, .int m_typed, .int m_next, .int m_token, .int m_place, .int m_value, .int m_fault, .ref a_m_lifts, .ref a_m_price, .ref a_m_stood, .ref a_m_hands, .ref a_m_wanted, .int m_rooms, .int m_people, .int m_things, .int m_draftRooms, .int m_draftPeople, .int m_draftThings, .ref a_m_s, .ref a_m_kept, .ref a_m_isKept, .ref a_m_due, .int m_dueMany, .ref a_m_cost, .ref a_m_then, .ref a_m_by])), (a_m_hands, .inl (cI, 16, .inl m_hands)), (a_m_wanted, .inl (cI, 16, .inl m_wanted)), (a_m_s, .inl (cI, 21, .inl m_s)), (a_m_due, .inl (cI, 8, .inl m_due))] sz) := by
  refine met_i (cc := cX7_leastPeople) (maxL := 4) (own := RX7) (by decide) rfl (Nat.le_of_ble_eq_true rfl) rfl (fun p e s m args below meth c Q A E hret ls H locs hl hw => ?_)
  obtain ⟨⟨hx, hb, hml, hown, hts⟩, hK, hN, hA, hX⟩ := id E
  have hl : lv_has ls 4 [(0, .ref a_m)] := hl
  have iX7 : ∀ w ∈ wsX70, w ∈ wsX7_leastPeople := by decide +kernel
  have kf57 := hts (.fieldLink RX7 57 "FiveThingsModel" "thrown" "I") (by decide +kernel)
  have kf130 := hts (.fieldLink RX7 130 "FiveThingsModel" "people" "I") (by decide +kernel)
  unfold f_X7_leastPeople at hf
  refine lv_aload_n hx hb dX7_leastPeople_0 rfl (lv_at hl 0 rfl) ?_
  refine lv_iconst (v := (0 : Int32)) hx hb dX7_leastPeople_1 rfl ?_
  refine r_put E hw iX7 tyX7_ok nmX7 0 0 rfl rfl (by decide) kf57 rfl rfl rfl rfl (Nat.le_of_ble_eq_true rfl) [(a_m, .inr (7, [.int (0 : Int32), .long m_trace, .ref a_m_text, .int m_typed, .int m_next, .int m_token, .int m_place, .int m_value, .int m_fault, .ref a_m_lifts, .ref a_m_price, .ref a_m_stood, .ref a_m_hands, .ref a_m_wanted, .int m_rooms, .int m_people, .int m_things, .int m_draftRooms, .int m_draftPeople, .int m_draftThings, .ref a_m_s, .ref a_m_kept, .ref a_m_isKept, .ref a_m_due, .int m_dueMany, .ref a_m_cost, .ref a_m_then, .ref a_m_by])), (a_m_hands, .inl (cI, 16, .inl m_hands)), (a_m_wanted, .inl (cI, 16, .inl m_wanted)), (a_m_s, .inl (cI, 21, .inl m_s)), (a_m_due, .inl (cI, 8, .inl m_due))] rfl dX7_leastPeople_2 (fun H locs hw => ?_)
  refine lv_aload_n hx hb dX7_leastPeople_5 rfl (lv_at hl 0 rfl) ?_
  obtain ⟨r1, hu2, hf⟩ := bd1_some hf
  refine cl_i (wr := [(a_m_hands, .inl (cI, 16, .inl m_hands)), (a_m_due, .inl (cI, 8, .inl m_due))]) (w2 := [(a_m, .inr (7, [.int (0 : Int32), .long m_trace, .ref a_m_text, .int m_typed, .int m_next, .int m_token, .int m_place, .int m_value, .int m_fault, .ref a_m_lifts, .ref a_m_price, .ref a_m_stood, .ref a_m_hands, .ref a_m_wanted, .int m_rooms, .int m_people, .int m_things, .int m_draftRooms, .int m_draftPeople, .int m_draftThings, .ref a_m_s, .ref a_m_kept, .ref a_m_isKept, .ref a_m_due, .int m_dueMany, .ref a_m_cost, .ref a_m_then, .ref a_m_by])), (a_m_hands, .inl (cI, 16, .inl m_hands)), (a_m_wanted, .inl (cI, 16, .inl m_wanted)), (a_m_s, .inl (cI, 21, .inl m_s)), (a_m_due, .inl (cI, 8, .inl m_due))]) E hw [0, 2, 3] [1, 4] [2, 0, 3, 4, 1] (va_runV (As := []) (rest := []) E.1 (c_X7_barred l dC dI cI cB cZ aK aV a_m a_m_text a_m_lifts a_m_price a_m_stood a_m_hands a_m_wanted a_m_s a_m_kept a_m_isKept a_m_due a_m_cost a_m_then a_m_by H.size (0 : Int32) m_trace m_typed m_next m_token m_place m_value m_fault m_rooms m_people m_things m_draftRooms m_draftPeople m_draftThings m_dueMany m_wanted m_s r1 hu2) (cwV 0 hts gX7_leastPeople_X7_barred rfl rfl rfl hd_X7_barred ⟨Nat.le_of_ble_eq_true rfl, Nat.le_of_ble_eq_true rfl⟩) (pre_V E hw [0, 2, 3] rfl rfl rfl rfl) rfl rfl hl.1 rfl (lv_room (Nat.le_of_ble_eq_true rfl)) dX7_leastPeople_6 ⟨Nat.zero_le _, Nat.zero_le _⟩) rfl rfl rfl (by decide) rfl rfl (fun H locs hw => ?_)
  refine lv_if_eq (tgt := 15) hx hb dX7_leastPeople_9 (by decide) (fun kc => ?_) (fun kc => ?_)
  · have hf := if_t hf kc
    refine lv_bipush (v := (-9 : Int32)) hx hb dX7_leastPeople_15 rfl ?_
    refine lv_istore_n (lv' := [(1, .int (-9 : Int32)), (0, .ref a_m)]) hx hb dX7_leastPeople_17 rfl hl (by decide) rfl (fun ls hl => ?_)
    refine lv_iconst (v := (0 : Int32)) hx hb dX7_leastPeople_18 rfl ?_
    refine lv_istore_n (lv' := [(2, .int (0 : Int32)), (1, .int (-9 : Int32)), (0, .ref a_m)]) hx hb dX7_leastPeople_19 rfl hl (by decide) rfl (fun ls hl => ?_)
    refine (loop4_sound (r := (r, q0, q1, q2)) (P := fun (x14 : Int32) (x15 : Int32) (x16 : Int32) (x17 : Nat → Int32) => ∀ (ls : Array Slot) (H : Heap) (locs : List Loc), lv_has ls 4 [(2, .int x15), (1, .int x14), (0, .ref a_m)] → Wd A s.heap (dC, dI) [(a_m, .inr (7, [.int (0 : Int32), .long m_trace, .ref a_m_text, .int m_typed, .int m_next, .int m_token, .int m_place, .int m_value, .int m_fault, .ref a_m_lifts, .ref a_m_price, .ref a_m_stood, .ref a_m_hands, .ref a_m_wanted, .int m_rooms, .int m_people, .int m_things, .int m_draftRooms, .int m_draftPeople, .int m_draftThings, .ref a_m_s, .ref a_m_kept, .ref a_m_isKept, .ref a_m_due, .int x16, .ref a_m_cost, .ref a_m_then, .ref a_m_by])), (a_m_hands, .inl (cI, 16, .inl m_hands)), (a_m_wanted, .inl (cI, 16, .inl m_wanted)), (a_m_s, .inl (cI, 21, .inl m_s)), (a_m_due, .inl (cI, 8, .inl x17))] H locs → W p l e ({ frames := 4, cells := 0, slots := 0, locals := 92 } : Jvm.Room) s m args below meth c H locs 0 0 Q (F0 m 20 ls [])) (fun B20 x14 x15 x16 x17 ih20 hf => ?_) _ (-9 : Int32) (0 : Int32) m_dueMany m_due hf) ls H locs (lv_sub hl [0, 1, 2] rfl) hw
    intro ls H locs hl hw
    refine lv_iload_n hx hb dX7_leastPeople_20 rfl (lv_at hl 0 rfl) ?_
    refine lv_iconst (v := (1 : Int32)) hx hb dX7_leastPeople_21 rfl ?_
    refine lv_aload_n hx hb dX7_leastPeople_22 rfl (lv_at hl 2 rfl) ?_
    refine r_get E hw iX7 0 15 rfl rfl (by decide) kf130 rfl rfl dX7_leastPeople_23 ?_
    refine lv_ishl hx hb dX7_leastPeople_26 ?_
    refine lv_icmp_ge (tgt := 77) hx hb dX7_leastPeople_27 (by decide) (fun kc => ?_) (fun kc => ?_)
    · have hf := if_t hf kc
      refine lv_iload_n hx hb dX7_leastPeople_77 rfl (lv_at hl 1 rfl) ?_
      obtain ⟨rfl, rfl, rfl, rfl⟩ := sm4 hf
      exact hret H locs ls 78 hw dX7_leastPeople_78
    · have hf := if_f hf kc
      refine lv_iload_n hx hb dX7_leastPeople_30 rfl (lv_at hl 1 rfl) ?_
      refine lv_bipush (v := (-9 : Int32)) hx hb dX7_leastPeople_31 rfl ?_
      refine jn_sound (P := fun J => ∀ (x22 : Int32) (ls : Array Slot) (H : Heap) (locs : List Loc), J x22 = some (r, q0, q1, q2) → lv_has ls 4 [(0, .ref a_m), (1, .int x14), (2, .int x15)] → Wd A s.heap (dC, dI) [(a_m, .inr (7, [.int (0 : Int32), .long m_trace, .ref a_m_text, .int m_typed, .int m_next, .int m_token, .int m_place, .int m_value, .int m_fault, .ref a_m_lifts, .ref a_m_price, .ref a_m_stood, .ref a_m_hands, .ref a_m_wanted, .int m_rooms, .int m_people, .int m_things, .int m_draftRooms, .int m_draftPeople, .int m_draftThings, .ref a_m_s, .ref a_m_kept, .ref a_m_isKept, .ref a_m_due, .int x16, .ref a_m_cost, .ref a_m_then, .ref a_m_by])), (a_m_hands, .inl (cI, 16, .inl m_hands)), (a_m_wanted, .inl (cI, 16, .inl m_wanted)), (a_m_s, .inl (cI, 21, .inl m_s)), (a_m_due, .inl (cI, 8, .inl x17))] H locs → W p l e ({ frames := 4, cells := 0, slots := 0, locals := 92 } : Jvm.Room) s m args below meth c H locs 0 0 Q (F0 m 52 ls [.int x22])) hf ?_ ?_
      · intro x22 ls H locs hf hl hw
        refine lv_istore_n (lv' := [(3, .int x22), (0, .ref a_m), (1, .int x14), (2, .int x15)]) hx hb dX7_leastPeople_52 rfl hl (by decide) rfl (fun ls hl => ?_)
        refine lv_iload_n hx hb dX7_leastPeople_53 rfl (lv_at hl 0 rfl) ?_
        refine jn_sound (P := fun J => ∀ (x27 : Int32) (x28 : Nat → Int32) (ls : Array Slot) (H : Heap) (locs : List Loc), J x27 x28 = some (r, q0, q1, q2) → lv_has ls 4 [(0, .ref a_m), (1, .int x14), (2, .int x15)] → Wd A s.heap (dC, dI) [(a_m, .inr (7, [.int (0 : Int32), .long m_trace, .ref a_m_text, .int m_typed, .int m_next, .int m_token, .int m_place, .int m_value, .int m_fault, .ref a_m_lifts, .ref a_m_price, .ref a_m_stood, .ref a_m_hands, .ref a_m_wanted, .int m_rooms, .int m_people, .int m_things, .int m_draftRooms, .int m_draftPeople, .int m_draftThings, .ref a_m_s, .ref a_m_kept, .ref a_m_isKept, .ref a_m_due, .int x27, .ref a_m_cost, .ref a_m_then, .ref a_m_by])), (a_m_hands, .inl (cI, 16, .inl m_hands)), (a_m_wanted, .inl (cI, 16, .inl m_wanted)), (a_m_s, .inl (cI, 21, .inl m_s)), (a_m_due, .inl (cI, 8, .inl x28))] H locs → W p l e ({ frames := 4, cells := 0, slots := 0, locals := 92 } : Jvm.Room) s m args below meth c H locs 0 0 Q (F0 m 69 ls [])) hf ?_ ?_
        · intro x27 x28 ls H locs hf hl hw
          refine lv_iload_n hx hb dX7_leastPeople_69 rfl (lv_at hl 1 rfl) ?_
          refine lv_istore_n (lv' := [(1, .int x14), (0, .ref a_m), (2, .int x15)]) hx hb dX7_leastPeople_70 rfl hl (by decide) rfl (fun ls hl => ?_)
          refine lv_iinc (v := (x15 + (1 : Int32))) (lv' := [(2, .int (x15 + (1 : Int32))), (1, .int x14), (0, .ref a_m)]) hx hb dX7_leastPeople_71 hl (k := 2) rfl rfl (by decide) rfl (fun ls hl => ?_)
          refine lv_goto (tgt := 20) hx hb dX7_leastPeople_74 (by decide) ?_
          exact ih20 x14 (x15 + (1 : Int32)) x27 x28 hf ls H locs (lv_sub hl [0, 1, 2] rfl) hw
        · intro J69 hJ69 hf
          refine lv_if_eq (tgt := 69) hx hb dX7_leastPeople_54 (by decide) (fun kc => ?_) (fun kc => ?_)
          · have hf := if_t hf kc
            exact hJ69 x16 x17 ls H locs hf (lv_sub hl [1, 2, 3] rfl) hw
          · have hf := if_f hf kc
            refine lv_aload_n hx hb dX7_leastPeople_57 rfl (lv_at hl 1 rfl) ?_
            refine lv_iload_n hx hb dX7_leastPeople_58 rfl (lv_at hl 3 rfl) ?_
            obtain ⟨r23, u24, u25, hu26, hf⟩ := bd3_some hf
            refine cl_i (wr := []) (w2 := [(a_m, .inr (7, [.int (0 : Int32), .long m_trace, .ref a_m_text, .int m_typed, .int m_next, .int m_token, .int m_place, .int m_value, .int m_fault, .ref a_m_lifts, .ref a_m_price, .ref a_m_stood, .ref a_m_hands, .ref a_m_wanted, .int m_rooms, .int m_people, .int m_things, .int m_draftRooms, .int m_draftPeople, .int m_draftThings, .ref a_m_s, .ref a_m_kept, .ref a_m_isKept, .ref a_m_due, .int u24, .ref a_m_cost, .ref a_m_then, .ref a_m_by])), (a_m_hands, .inl (cI, 16, .inl m_hands)), (a_m_wanted, .inl (cI, 16, .inl m_wanted)), (a_m_s, .inl (cI, 21, .inl m_s)), (a_m_due, .inl (cI, 8, .inl u25))]) E hw [0, 1, 2, 3, 4] [] [0, 1, 2, 3, 4] (va_runV (As := [.int x15]) (rest := []) E.1 (c_X7_canBy l dC dI cI cB cZ aK aV a_m a_m_text a_m_lifts a_m_price a_m_stood a_m_hands a_m_wanted a_m_s a_m_kept a_m_isKept a_m_due a_m_cost a_m_then a_m_by H.size (0 : Int32) m_trace m_typed m_next m_token m_place m_value m_fault m_rooms m_people m_things m_draftRooms m_draftPeople m_draftThings x16 m_hands m_wanted m_s x17 x15 r23 u24 u25 hu26) (cwV 1 hts gX7_leastPeople_X7_canBy rfl rfl rfl hd_X7_canBy ⟨Nat.le_of_ble_eq_true rfl, Nat.le_of_ble_eq_true rfl⟩) (pre_V E hw [0, 1, 2, 3, 4] rfl rfl rfl rfl) rfl rfl hl.1 rfl (lv_room (Nat.le_of_ble_eq_true rfl)) dX7_leastPeople_59 ⟨Nat.zero_le _, Nat.zero_le _⟩) rfl rfl rfl (by decide) rfl rfl (fun H locs hw => ?_)
            refine lv_if_eq (tgt := 69) hx hb dX7_leastPeople_62 (by decide) (fun kc => ?_) (fun kc => ?_)
            · have hf := if_t hf kc
              exact hJ69 u24 u25 ls H locs hf (lv_sub hl [1, 2, 3] rfl) hw
            · have hf := if_f hf kc
              refine lv_iload_n hx hb dX7_leastPeople_65 rfl (lv_at hl 3 rfl) ?_
              refine lv_goto (tgt := 70) hx hb dX7_leastPeople_66 (by decide) ?_
              refine lv_istore_n (lv' := [(1, .int x15), (3, .int x22), (0, .ref a_m), (2, .int x15)]) hx hb dX7_leastPeople_70 rfl hl (by decide) rfl (fun ls hl => ?_)
              refine lv_iinc (v := (x15 + (1 : Int32))) (lv' := [(2, .int (x15 + (1 : Int32))), (1, .int x15), (3, .int x22), (0, .ref a_m)]) hx hb dX7_leastPeople_71 hl (k := 3) rfl rfl (by decide) rfl (fun ls hl => ?_)
              refine lv_goto (tgt := 20) hx hb dX7_leastPeople_74 (by decide) ?_
              exact ih20 x15 (x15 + (1 : Int32)) u24 u25 hf ls H locs (lv_sub hl [0, 1, 3] rfl) hw
      · intro J52 hJ52 hf
        refine jn_sound (P := fun J => ∀ (ls : Array Slot) (H : Heap) (locs : List Loc), J = some (r, q0, q1, q2) → lv_has ls 4 [(0, .ref a_m), (1, .int x14), (2, .int x15)] → Wd A s.heap (dC, dI) [(a_m, .inr (7, [.int (0 : Int32), .long m_trace, .ref a_m_text, .int m_typed, .int m_next, .int m_token, .int m_place, .int m_value, .int m_fault, .ref a_m_lifts, .ref a_m_price, .ref a_m_stood, .ref a_m_hands, .ref a_m_wanted, .int m_rooms, .int m_people, .int m_things, .int m_draftRooms, .int m_draftPeople, .int m_draftThings, .ref a_m_s, .ref a_m_kept, .ref a_m_isKept, .ref a_m_due, .int x16, .ref a_m_cost, .ref a_m_then, .ref a_m_by])), (a_m_hands, .inl (cI, 16, .inl m_hands)), (a_m_wanted, .inl (cI, 16, .inl m_wanted)), (a_m_s, .inl (cI, 21, .inl m_s)), (a_m_due, .inl (cI, 8, .inl x17))] H locs → W p l e ({ frames := 4, cells := 0, slots := 0, locals := 92 } : Jvm.Room) s m args below meth c H locs 0 0 Q (F0 m 47 ls [])) hf ?_ ?_
        · intro ls H locs hf hl hw
          refine lv_iconst (v := (1 : Int32)) hx hb dX7_leastPeople_47 rfl ?_
          refine lv_goto (tgt := 52) hx hb dX7_leastPeople_48 (by decide) ?_
          exact hJ52 (1 : Int32) ls H locs hf hl hw
        · intro J47 hJ47 hf
          refine lv_icmp_eq (tgt := 47) hx hb dX7_leastPeople_33 (by decide) (fun kc => ?_) (fun kc => ?_)
          · have hf := if_t hf kc
            exact hJ47 ls H locs hf (lv_sub hl [2, 1, 0] rfl) hw
          · have hf := if_f hf kc
            refine lv_iload_n hx hb dX7_leastPeople_36 rfl (lv_at hl 0 rfl) ?_
            obtain ⟨r18, hu19, hf⟩ := bd1_some hf
            refine cl_i (wr := [(a_m, .inr (7, [.int (0 : Int32), .long m_trace, .ref a_m_text, .int m_typed, .int m_next, .int m_token, .int m_place, .int m_value, .int m_fault, .ref a_m_lifts, .ref a_m_price, .ref a_m_stood, .ref a_m_hands, .ref a_m_wanted, .int m_rooms, .int m_people, .int m_things, .int m_draftRooms, .int m_draftPeople, .int m_draftThings, .ref a_m_s, .ref a_m_kept, .ref a_m_isKept, .ref a_m_due, .int x16, .ref a_m_cost, .ref a_m_then, .ref a_m_by])), (a_m_hands, .inl (cI, 16, .inl m_hands)), (a_m_wanted, .inl (cI, 16, .inl m_wanted)), (a_m_s, .inl (cI, 21, .inl m_s)), (a_m_due, .inl (cI, 8, .inl x17))]) (w2 := [(a_m, .inr (7, [.int (0 : Int32), .long m_trace, .ref a_m_text, .int m_typed, .int m_next, .int m_token, .int m_place, .int m_value, .int m_fault, .ref a_m_lifts, .ref a_m_price, .ref a_m_stood, .ref a_m_hands, .ref a_m_wanted, .int m_rooms, .int m_people, .int m_things, .int m_draftRooms, .int m_draftPeople, .int m_draftThings, .ref a_m_s, .ref a_m_kept, .ref a_m_isKept, .ref a_m_due, .int x16, .ref a_m_cost, .ref a_m_then, .ref a_m_by])), (a_m_hands, .inl (cI, 16, .inl m_hands)), (a_m_wanted, .inl (cI, 16, .inl m_wanted)), (a_m_s, .inl (cI, 21, .inl m_s)), (a_m_due, .inl (cI, 8, .inl x17))]) E hw [] [0, 1, 2, 3, 4] [0, 1, 2, 3, 4] (va_runS (As := [.int x15]) (rest := []) E.1 (c_X7_ones l dC dI cI cB cZ aK aV H.size x15 r18 hu19) (va_cwS 1 hts gX7_leastPeople_X7_ones rfl rfl rfl hd_X7_ones ⟨Nat.le_of_ble_eq_true rfl, Nat.le_of_ble_eq_true rfl⟩) (pre_S E hw [] rfl rfl) rfl rfl hl.1 rfl (lv_room (Nat.le_of_ble_eq_true rfl)) dX7_leastPeople_37 ⟨Nat.zero_le _, Nat.zero_le _⟩) rfl rfl rfl (by decide) rfl rfl (fun H locs hw => ?_)
            refine lv_iload_n hx hb dX7_leastPeople_40 rfl (lv_at hl 1 rfl) ?_
            obtain ⟨r20, hu21, hf⟩ := bd1_some hf
            refine cl_i (wr := [(a_m, .inr (7, [.int (0 : Int32), .long m_trace, .ref a_m_text, .int m_typed, .int m_next, .int m_token, .int m_place, .int m_value, .int m_fault, .ref a_m_lifts, .ref a_m_price, .ref a_m_stood, .ref a_m_hands, .ref a_m_wanted, .int m_rooms, .int m_people, .int m_things, .int m_draftRooms, .int m_draftPeople, .int m_draftThings, .ref a_m_s, .ref a_m_kept, .ref a_m_isKept, .ref a_m_due, .int x16, .ref a_m_cost, .ref a_m_then, .ref a_m_by])), (a_m_hands, .inl (cI, 16, .inl m_hands)), (a_m_wanted, .inl (cI, 16, .inl m_wanted)), (a_m_s, .inl (cI, 21, .inl m_s)), (a_m_due, .inl (cI, 8, .inl x17))]) (w2 := [(a_m, .inr (7, [.int (0 : Int32), .long m_trace, .ref a_m_text, .int m_typed, .int m_next, .int m_token, .int m_place, .int m_value, .int m_fault, .ref a_m_lifts, .ref a_m_price, .ref a_m_stood, .ref a_m_hands, .ref a_m_wanted, .int m_rooms, .int m_people, .int m_things, .int m_draftRooms, .int m_draftPeople, .int m_draftThings, .ref a_m_s, .ref a_m_kept, .ref a_m_isKept, .ref a_m_due, .int x16, .ref a_m_cost, .ref a_m_then, .ref a_m_by])), (a_m_hands, .inl (cI, 16, .inl m_hands)), (a_m_wanted, .inl (cI, 16, .inl m_wanted)), (a_m_s, .inl (cI, 21, .inl m_s)), (a_m_due, .inl (cI, 8, .inl x17))]) E hw [] [0, 1, 2, 3, 4] [0, 1, 2, 3, 4] (va_runS (As := [.int x14]) (rest := [.int r18]) E.1 (c_X7_ones l dC dI cI cB cZ aK aV H.size x14 r20 hu21) (va_cwS 1 hts gX7_leastPeople_X7_ones rfl rfl rfl hd_X7_ones ⟨Nat.le_of_ble_eq_true rfl, Nat.le_of_ble_eq_true rfl⟩) (pre_S E hw [] rfl rfl) rfl rfl hl.1 rfl (lv_room (Nat.le_of_ble_eq_true rfl)) dX7_leastPeople_41 ⟨Nat.zero_le _, Nat.zero_le _⟩) rfl rfl rfl (by decide) rfl rfl (fun H locs hw => ?_)
            refine lv_icmp_ge (tgt := 51) hx hb dX7_leastPeople_44 (by decide) (fun kc => ?_) (fun kc => ?_)
            · have hf := if_t hf kc
              refine lv_iconst (v := (0 : Int32)) hx hb dX7_leastPeople_51 rfl ?_
              exact hJ52 (0 : Int32) ls H locs hf (lv_sub hl [2, 1, 0] rfl) hw
            · have hf := if_f hf kc
              exact hJ47 ls H locs hf (lv_sub hl [2, 1, 0] rfl) hw
  · have hf := if_f hf kc
    refine lv_bipush (v := (-9 : Int32)) hx hb dX7_leastPeople_12 rfl ?_
    obtain ⟨rfl, rfl, rfl, rfl⟩ := sm4 hf
    exact hret H locs ls 14 hw dX7_leastPeople_14
def f_X7_lost  (m_people : Int32) (m_things : Int32) (m_hands : Nat → Int32) (m_wanted : Nat → Int32) (m_s : Nat → Int32) : Option (Int32 × Int32) :=
  bd1 (f_X7_barred m_things m_wanted m_s) (fun r1 => (if r1 = 0 then loop2 (fun B19 (x14 : Int32) (x15 : Int32) => (if m_people ≤ x15 then loop2 (fun B57 (x20 : Int32) (x21 : Int32) => (if m_things ≤ x21 then some (x20, (0 : Int32)) else bd1 (f_X7_isDue x21 m_things m_wanted m_s) (fun r22 => jn (B57 (x20 ||| (0 : Int32)) (x21 + (1 : Int32))) (fun J89 => (if r22 = 0 then J89 else bd1 (f_X7_handsOf x21 m_things m_hands m_s) (fun r24 => (if r24 ≤ x14 then J89 else B57 (x20 ||| ((1 : Int32) <<< (x21 &&& 31))) (x21 + (1 : Int32))))))))) FU (0 : Int32) (0 : Int32) else gd (inb ((16 : Int32) + x15) 21) ((if (m_s ((16 : Int32) + x15).toNatClampNeg) ≤ 0 then B19 (x14 + (0 : Int32)) (x15 + (1 : Int32)) else B19 (x14 + (1 : Int32)) (x15 + (1 : Int32)))))) FU (0 : Int32) (0 : Int32) else some ((-9 : Int32), (0 : Int32))))
theorem hd_X7_lost : yX7_lost.cls = RX7 ∧ yX7_lost.cls ≠ "java/lang/invoke/MethodHandle" ∧ yX7_lost.cls ≠ "java/lang/invoke/VarHandle" ∧ (parseMethodDescriptor yX7_lost.desc).map (fun d => d.parameters.length) = some 0 := by decide +kernel
set_option maxHeartbeats 4000000 in
set_option maxRecDepth 100000 in
theorem c_X7_lost (l : Launch) (dC : Nat → ClassId) (dI : Nat → Nat → Nat) (cI cB cZ : ClassId) (aK aV : Nat → Nat) (a_m a_m_text a_m_lifts a_m_price a_m_stood a_m_hands a_m_wanted a_m_s a_m_kept a_m_isKept a_m_due a_m_cost a_m_then a_m_by : Nat) (sz : Nat) (m_thrown : Int32) (m_trace : Int64) (m_typed : Int32) (m_next : Int32) (m_token : Int32) (m_place : Int32) (m_value : Int32) (m_fault : Int32) (m_rooms : Int32) (m_people : Int32) (m_things : Int32) (m_draftRooms : Int32) (m_draftPeople : Int32) (m_draftThings : Int32) (m_dueMany : Int32) (m_hands : Nat → Int32) (m_wanted : Nat → Int32) (m_s : Nat → Int32) (r : Int32) (q0 : Int32) (hf : f_X7_lost m_people m_things m_hands m_wanted m_s = some (r, q0)) : Met l yX7_lost wsX7_lost ({ frames := 3, cells := 0, slots := 0, locals := 67 } : Jvm.Room) (va_Pc [.ref a_m] (preW (dC, dI) (tyL cI cB cZ) aK aV sz [(a_m, .inr (7, [.int m_thrown, .long m_trace, .ref a_m_text, .int m_typed, .int m_next, .int m_token, .int m_place, .int m_value, .int m_fault, .ref a_m_lifts, .ref a_m_price, .ref a_m_stood, .ref a_m_hands, .ref a_m_wanted, .int m_rooms, .int m_people, .int m_things, .int m_draftRooms, .int m_draftPeople, .int m_draftThings, .ref a_m_s, .ref a_m_kept, .ref a_m_isKept, .ref a_m_due, .int m_dueMany, .ref a_m_cost, .ref a_m_then, .ref a_m_by])), (a_m_hands, .inl (cI, 16, .inl m_hands)), (a_m_wanted, .inl (cI, 16, .inl m_wanted)), (a_m_s, .inl (cI, 21, .inl m_s))])) (va_Qi (fun v (_ : Unit) => v = r) (postW (dC, dI) (tyL cI cB cZ) (va_A [(a_m, .inr (7, [.int m_thrown, .long m_trace, .ref a_m_text, .int m_typed, .int m_next, .int m_token, .int m_place, .int m_value, .int m_fault, .ref a_m_lifts, .ref a_m_price, .ref a_m_stood, .ref a_m_hands, .ref a_m_wanted, .int m_rooms, .int m_people, .int m_things, .int m_draftRooms, .int m_draftPeople, .int m_draftThings, .ref a_m_s, .ref a_m_kept, .ref a_m_isKept, .ref a_m_due, .int m_dueMany, .ref a_m_cost, .ref a_m_then, .ref a_m_by])), (a_m_hands, .inl (cI, 16, .inl m_hands)), (a_m_wanted, .inl (cI, 16, .inl m_wanted)), (a_m_s, .inl (cI, 21, .inl m_s))] sz) [(a_m, .inr (7, [.int q0, .long m_trace, .ref a_m_text, .int m_typed, .int m_next, .int m_token, .int m_place, .int m_value, .int m_fault, .ref a_m_lifts, .ref a_m_price, .ref a_m_stood, .ref a_m_hands, .ref a_m_wanted, .int m_rooms, .int m_people, .int m_things, .int m_draftRooms, .int m_draftPeople, .int m_draftThings, .ref a_m_s, .ref a_m_kept, .ref a_m_isKept, .ref a_m_due, .int m_dueMany, .ref a_m_cost, .ref a_m_then, .ref a_m_by])), (a_m_hands, .inl (cI, 16, .inl m_hands)), (a_m_wanted, .inl (cI, 16, .inl m_wanted)), (a_m_s, .inl (cI, 21, .inl m_s))]) (va_A [(a_m, .inr (7, [.int m_thrown, .long m_trace, .ref a_m_text, .int m_typed, .int m_next, .int m_token, .int m_place, .int m_value, .int m_fault, .ref a_m_lifts, .ref a_m_price, .ref a_m_stood, .ref a_m_hands, .ref a_m_wanted, .int m_rooms, .int m_people, .int m_things, .int m_draftRooms, .int m_draftPeople, .int m_draftThings, .ref a_m_s, .ref a_m_kept, .ref a_m_isKept, .ref a_m_due, .int m_dueMany, .ref a_m_cost, .ref a_m_then, .ref a_m_by])), (a_m_hands, .inl (cI, 16, .inl m_hands)), (a_m_wanted, .inl (cI, 16, .inl m_wanted)), (a_m_s, .inl (cI, 21, .inl m_s))] sz)) 0 0 (va_A [(a_m, .inr (7, [.int m_thrown, .long m_trace, .ref a_m_text, .int m_typed, .int m_next, .int m_token, .int m_place, .int m_value, .int m_fault, .ref a_m_lifts, .ref a_m_price, .ref a_m_stood, .ref a_m_hands, .ref a_m_wanted, .int m_rooms, .int m_people, .int m_things, .int m_draftRooms, .int m_draftPeople, .int m_draftThings, .ref a_m_s, .ref a_m_kept, .ref a_m_isKept, .ref a_m_due, .int m_dueMany, .ref a_m_cost, .ref a_m_then, .ref a_m_by])), (a_m_hands, .inl (cI, 16, .inl m_hands)), (a_m_wanted, .inl (cI, 16, .inl m_wanted)), (a_m_s, .inl (cI, 21, .inl m_s))] sz) := by
  refine met_i (cc := cX7_lost) (maxL := 4) (own := RX7) (by decide) rfl (Nat.le_of_ble_eq_true rfl) rfl (fun p e s m args below meth c Q A E hret ls H locs hl hw => ?_)
  obtain ⟨⟨hx, hb, hml, hown, hts⟩, hK, hN, hA, hX⟩ := id E
  have hl : lv_has ls 4 [(0, .ref a_m)] := hl
  have iX7 : ∀ w ∈ wsX70, w ∈ wsX7_lost := by decide +kernel
  have kf57 := hts (.fieldLink RX7 57 "FiveThingsModel" "thrown" "I") (by decide +kernel)
  have kf130 := hts (.fieldLink RX7 130 "FiveThingsModel" "people" "I") (by decide +kernel)
  have kf133 := hts (.fieldLink RX7 133 "FiveThingsModel" "things" "I") (by decide +kernel)
  have kf28 := hts (.fieldLink RX7 28 "FiveThingsModel" "s" "[I") (by decide +kernel)
  unfold f_X7_lost at hf
  refine lv_aload_n hx hb dX7_lost_0 rfl (lv_at hl 0 rfl) ?_
  refine lv_iconst (v := (0 : Int32)) hx hb dX7_lost_1 rfl ?_
  refine r_put E hw iX7 tyX7_ok nmX7 0 0 rfl rfl (by decide) kf57 rfl rfl rfl rfl (Nat.le_of_ble_eq_true rfl) [(a_m, .inr (7, [.int (0 : Int32), .long m_trace, .ref a_m_text, .int m_typed, .int m_next, .int m_token, .int m_place, .int m_value, .int m_fault, .ref a_m_lifts, .ref a_m_price, .ref a_m_stood, .ref a_m_hands, .ref a_m_wanted, .int m_rooms, .int m_people, .int m_things, .int m_draftRooms, .int m_draftPeople, .int m_draftThings, .ref a_m_s, .ref a_m_kept, .ref a_m_isKept, .ref a_m_due, .int m_dueMany, .ref a_m_cost, .ref a_m_then, .ref a_m_by])), (a_m_hands, .inl (cI, 16, .inl m_hands)), (a_m_wanted, .inl (cI, 16, .inl m_wanted)), (a_m_s, .inl (cI, 21, .inl m_s))] rfl dX7_lost_2 (fun H locs hw => ?_)
  refine lv_aload_n hx hb dX7_lost_5 rfl (lv_at hl 0 rfl) ?_
  obtain ⟨r1, hu2, hf⟩ := bd1_some hf
  refine cl_i (wr := [(a_m_hands, .inl (cI, 16, .inl m_hands))]) (w2 := [(a_m, .inr (7, [.int (0 : Int32), .long m_trace, .ref a_m_text, .int m_typed, .int m_next, .int m_token, .int m_place, .int m_value, .int m_fault, .ref a_m_lifts, .ref a_m_price, .ref a_m_stood, .ref a_m_hands, .ref a_m_wanted, .int m_rooms, .int m_people, .int m_things, .int m_draftRooms, .int m_draftPeople, .int m_draftThings, .ref a_m_s, .ref a_m_kept, .ref a_m_isKept, .ref a_m_due, .int m_dueMany, .ref a_m_cost, .ref a_m_then, .ref a_m_by])), (a_m_hands, .inl (cI, 16, .inl m_hands)), (a_m_wanted, .inl (cI, 16, .inl m_wanted)), (a_m_s, .inl (cI, 21, .inl m_s))]) E hw [0, 2, 3] [1] [1, 0, 2, 3] (va_runV (As := []) (rest := []) E.1 (c_X7_barred l dC dI cI cB cZ aK aV a_m a_m_text a_m_lifts a_m_price a_m_stood a_m_hands a_m_wanted a_m_s a_m_kept a_m_isKept a_m_due a_m_cost a_m_then a_m_by H.size (0 : Int32) m_trace m_typed m_next m_token m_place m_value m_fault m_rooms m_people m_things m_draftRooms m_draftPeople m_draftThings m_dueMany m_wanted m_s r1 hu2) (cwV 0 hts gX7_lost_X7_barred rfl rfl rfl hd_X7_barred ⟨Nat.le_of_ble_eq_true rfl, Nat.le_of_ble_eq_true rfl⟩) (pre_V E hw [0, 2, 3] rfl rfl rfl rfl) rfl rfl hl.1 rfl (lv_room (Nat.le_of_ble_eq_true rfl)) dX7_lost_6 ⟨Nat.zero_le _, Nat.zero_le _⟩) rfl rfl rfl (by decide) rfl rfl (fun H locs hw => ?_)
  refine lv_if_eq (tgt := 15) hx hb dX7_lost_9 (by decide) (fun kc => ?_) (fun kc => ?_)
  · have hf := if_t hf kc
    refine lv_iconst (v := (0 : Int32)) hx hb dX7_lost_15 rfl ?_
    refine lv_istore_n (lv' := [(1, .int (0 : Int32)), (0, .ref a_m)]) hx hb dX7_lost_16 rfl hl (by decide) rfl (fun ls hl => ?_)
    refine lv_iconst (v := (0 : Int32)) hx hb dX7_lost_17 rfl ?_
    refine lv_istore_n (lv' := [(2, .int (0 : Int32)), (1, .int (0 : Int32)), (0, .ref a_m)]) hx hb dX7_lost_18 rfl hl (by decide) rfl (fun ls hl => ?_)
    refine (loop2_sound (r := (r, q0)) (P := fun (x14 : Int32) (x15 : Int32) => ∀ (ls : Array Slot) (H : Heap) (locs : List Loc), lv_has ls 4 [(2, .int x15), (1, .int x14), (0, .ref a_m)] → Wd A s.heap (dC, dI) [(a_m, .inr (7, [.int (0 : Int32), .long m_trace, .ref a_m_text, .int m_typed, .int m_next, .int m_token, .int m_place, .int m_value, .int m_fault, .ref a_m_lifts, .ref a_m_price, .ref a_m_stood, .ref a_m_hands, .ref a_m_wanted, .int m_rooms, .int m_people, .int m_things, .int m_draftRooms, .int m_draftPeople, .int m_draftThings, .ref a_m_s, .ref a_m_kept, .ref a_m_isKept, .ref a_m_due, .int m_dueMany, .ref a_m_cost, .ref a_m_then, .ref a_m_by])), (a_m_hands, .inl (cI, 16, .inl m_hands)), (a_m_wanted, .inl (cI, 16, .inl m_wanted)), (a_m_s, .inl (cI, 21, .inl m_s))] H locs → W p l e ({ frames := 3, cells := 0, slots := 0, locals := 67 } : Jvm.Room) s m args below meth c H locs 0 0 Q (F0 m 19 ls [])) (fun B19 x14 x15 ih19 hf => ?_) _ (0 : Int32) (0 : Int32) hf) ls H locs (lv_sub hl [0, 1, 2] rfl) hw
    intro ls H locs hl hw
    refine lv_iload_n hx hb dX7_lost_19 rfl (lv_at hl 0 rfl) ?_
    refine lv_aload_n hx hb dX7_lost_20 rfl (lv_at hl 2 rfl) ?_
    refine r_get E hw iX7 0 15 rfl rfl (by decide) kf130 rfl rfl dX7_lost_21 ?_
    refine lv_icmp_ge (tgt := 53) hx hb dX7_lost_24 (by decide) (fun kc => ?_) (fun kc => ?_)
    · have hf := if_t hf kc
      refine lv_iconst (v := (0 : Int32)) hx hb dX7_lost_53 rfl ?_
      refine lv_istore_n (lv' := [(2, .int (0 : Int32)), (1, .int x14), (0, .ref a_m)]) hx hb dX7_lost_54 rfl hl (by decide) rfl (fun ls hl => ?_)
      refine lv_iconst (v := (0 : Int32)) hx hb dX7_lost_55 rfl ?_
      refine lv_istore_n (lv' := [(3, .int (0 : Int32)), (2, .int (0 : Int32)), (1, .int x14), (0, .ref a_m)]) hx hb dX7_lost_56 rfl hl (by decide) rfl (fun ls hl => ?_)
      refine (loop2_sound (r := (r, q0)) (P := fun (x20 : Int32) (x21 : Int32) => ∀ (ls : Array Slot) (H : Heap) (locs : List Loc), lv_has ls 4 [(3, .int x21), (2, .int x20), (1, .int x14), (0, .ref a_m)] → Wd A s.heap (dC, dI) [(a_m, .inr (7, [.int (0 : Int32), .long m_trace, .ref a_m_text, .int m_typed, .int m_next, .int m_token, .int m_place, .int m_value, .int m_fault, .ref a_m_lifts, .ref a_m_price, .ref a_m_stood, .ref a_m_hands, .ref a_m_wanted, .int m_rooms, .int m_people, .int m_things, .int m_draftRooms, .int m_draftPeople, .int m_draftThings, .ref a_m_s, .ref a_m_kept, .ref a_m_isKept, .ref a_m_due, .int m_dueMany, .ref a_m_cost, .ref a_m_then, .ref a_m_by])), (a_m_hands, .inl (cI, 16, .inl m_hands)), (a_m_wanted, .inl (cI, 16, .inl m_wanted)), (a_m_s, .inl (cI, 21, .inl m_s))] H locs → W p l e ({ frames := 3, cells := 0, slots := 0, locals := 67 } : Jvm.Room) s m args below meth c H locs 0 0 Q (F0 m 57 ls [])) (fun B57 x20 x21 ih57 hf => ?_) _ (0 : Int32) (0 : Int32) hf) ls H locs (lv_sub hl [0, 1, 2, 3] rfl) hw
      intro ls H locs hl hw
      refine lv_iload_n hx hb dX7_lost_57 rfl (lv_at hl 0 rfl) ?_
      refine lv_aload_n hx hb dX7_lost_58 rfl (lv_at hl 3 rfl) ?_
      refine r_get E hw iX7 0 16 rfl rfl (by decide) kf133 rfl rfl dX7_lost_59 ?_
      refine lv_icmp_ge (tgt := 98) hx hb dX7_lost_62 (by decide) (fun kc => ?_) (fun kc => ?_)
      · have hf := if_t hf kc
        refine lv_iload_n hx hb dX7_lost_98 rfl (lv_at hl 1 rfl) ?_
        obtain ⟨rfl, rfl⟩ := sm2 hf
        exact hret H locs ls 99 hw dX7_lost_99
      · have hf := if_f hf kc
        refine lv_iload_n hx hb dX7_lost_65 rfl (lv_at hl 1 rfl) ?_
        refine lv_aload_n hx hb dX7_lost_66 rfl (lv_at hl 3 rfl) ?_
        refine lv_iload_n hx hb dX7_lost_67 rfl (lv_at hl 0 rfl) ?_
        obtain ⟨r22, hu23, hf⟩ := bd1_some hf
        refine cl_i (wr := [(a_m_hands, .inl (cI, 16, .inl m_hands))]) (w2 := [(a_m, .inr (7, [.int (0 : Int32), .long m_trace, .ref a_m_text, .int m_typed, .int m_next, .int m_token, .int m_place, .int m_value, .int m_fault, .ref a_m_lifts, .ref a_m_price, .ref a_m_stood, .ref a_m_hands, .ref a_m_wanted, .int m_rooms, .int m_people, .int m_things, .int m_draftRooms, .int m_draftPeople, .int m_draftThings, .ref a_m_s, .ref a_m_kept, .ref a_m_isKept, .ref a_m_due, .int m_dueMany, .ref a_m_cost, .ref a_m_then, .ref a_m_by])), (a_m_hands, .inl (cI, 16, .inl m_hands)), (a_m_wanted, .inl (cI, 16, .inl m_wanted)), (a_m_s, .inl (cI, 21, .inl m_s))]) E hw [0, 2, 3] [1] [1, 0, 2, 3] (va_runV (As := [.int x21]) (rest := [.int x20]) E.1 (c_X7_isDue l dC dI cI cB cZ aK aV a_m a_m_text a_m_lifts a_m_price a_m_stood a_m_hands a_m_wanted a_m_s a_m_kept a_m_isKept a_m_due a_m_cost a_m_then a_m_by H.size (0 : Int32) m_trace m_typed m_next m_token m_place m_value m_fault m_rooms m_people m_things m_draftRooms m_draftPeople m_draftThings m_dueMany m_wanted m_s x21 r22 hu23) (cwV 1 hts gX7_lost_X7_isDue rfl rfl rfl hd_X7_isDue ⟨Nat.le_of_ble_eq_true rfl, Nat.le_of_ble_eq_true rfl⟩) (pre_V E hw [0, 2, 3] rfl rfl rfl rfl) rfl rfl hl.1 rfl (lv_room (Nat.le_of_ble_eq_true rfl)) dX7_lost_68 ⟨Nat.zero_le _, Nat.zero_le _⟩) rfl rfl rfl (by decide) rfl rfl (fun H locs hw => ?_)
        refine jn_sound (P := fun J => ∀ (ls : Array Slot) (H : Heap) (locs : List Loc), J = some (r, q0) → lv_has ls 4 [(0, .ref a_m), (1, .int x14), (3, .int x21)] → Wd A s.heap (dC, dI) [(a_m, .inr (7, [.int (0 : Int32), .long m_trace, .ref a_m_text, .int m_typed, .int m_next, .int m_token, .int m_place, .int m_value, .int m_fault, .ref a_m_lifts, .ref a_m_price, .ref a_m_stood, .ref a_m_hands, .ref a_m_wanted, .int m_rooms, .int m_people, .int m_things, .int m_draftRooms, .int m_draftPeople, .int m_draftThings, .ref a_m_s, .ref a_m_kept, .ref a_m_isKept, .ref a_m_due, .int m_dueMany, .ref a_m_cost, .ref a_m_then, .ref a_m_by])), (a_m_hands, .inl (cI, 16, .inl m_hands)), (a_m_wanted, .inl (cI, 16, .inl m_wanted)), (a_m_s, .inl (cI, 21, .inl m_s))] H locs → W p l e ({ frames := 3, cells := 0, slots := 0, locals := 67 } : Jvm.Room) s m args below meth c H locs 0 0 Q (F0 m 89 ls [.int x20])) hf ?_ ?_
        · intro ls H locs hf hl hw
          refine lv_iconst (v := (0 : Int32)) hx hb dX7_lost_89 rfl ?_
          refine lv_ior hx hb dX7_lost_90 ?_
          refine lv_istore_n (lv' := [(2, .int (x20 ||| (0 : Int32))), (0, .ref a_m), (1, .int x14), (3, .int x21)]) hx hb dX7_lost_91 rfl hl (by decide) rfl (fun ls hl => ?_)
          refine lv_iinc (v := (x21 + (1 : Int32))) (lv' := [(3, .int (x21 + (1 : Int32))), (2, .int (x20 ||| (0 : Int32))), (0, .ref a_m), (1, .int x14)]) hx hb dX7_lost_92 hl (k := 3) rfl rfl (by decide) rfl (fun ls hl => ?_)
          refine lv_goto (tgt := 57) hx hb dX7_lost_95 (by decide) ?_
          exact ih57 (x20 ||| (0 : Int32)) (x21 + (1 : Int32)) hf ls H locs (lv_sub hl [0, 1, 3, 2] rfl) hw
        · intro J89 hJ89 hf
          refine lv_if_eq (tgt := 89) hx hb dX7_lost_71 (by decide) (fun kc => ?_) (fun kc => ?_)
          · have hf := if_t hf kc
            exact hJ89 ls H locs hf (lv_sub hl [3, 2, 0] rfl) hw
          · have hf := if_f hf kc
            refine lv_aload_n hx hb dX7_lost_74 rfl (lv_at hl 3 rfl) ?_
            refine lv_iload_n hx hb dX7_lost_75 rfl (lv_at hl 0 rfl) ?_
            obtain ⟨r24, hu25, hf⟩ := bd1_some hf
            refine cl_i (wr := [(a_m_wanted, .inl (cI, 16, .inl m_wanted))]) (w2 := [(a_m, .inr (7, [.int (0 : Int32), .long m_trace, .ref a_m_text, .int m_typed, .int m_next, .int m_token, .int m_place, .int m_value, .int m_fault, .ref a_m_lifts, .ref a_m_price, .ref a_m_stood, .ref a_m_hands, .ref a_m_wanted, .int m_rooms, .int m_people, .int m_things, .int m_draftRooms, .int m_draftPeople, .int m_draftThings, .ref a_m_s, .ref a_m_kept, .ref a_m_isKept, .ref a_m_due, .int m_dueMany, .ref a_m_cost, .ref a_m_then, .ref a_m_by])), (a_m_hands, .inl (cI, 16, .inl m_hands)), (a_m_wanted, .inl (cI, 16, .inl m_wanted)), (a_m_s, .inl (cI, 21, .inl m_s))]) E hw [0, 1, 3] [2] [1, 2, 0, 3] (va_runV (As := [.int x21]) (rest := [.int x20]) E.1 (c_X7_handsOf l dC dI cI cB cZ aK aV a_m a_m_text a_m_lifts a_m_price a_m_stood a_m_hands a_m_wanted a_m_s a_m_kept a_m_isKept a_m_due a_m_cost a_m_then a_m_by H.size (0 : Int32) m_trace m_typed m_next m_token m_place m_value m_fault m_rooms m_people m_things m_draftRooms m_draftPeople m_draftThings m_dueMany m_hands m_s x21 r24 hu25) (cwV 1 hts gX7_lost_X7_handsOf rfl rfl rfl hd_X7_handsOf ⟨Nat.le_of_ble_eq_true rfl, Nat.le_of_ble_eq_true rfl⟩) (pre_V E hw [0, 1, 3] rfl rfl rfl rfl) rfl rfl hl.1 rfl (lv_room (Nat.le_of_ble_eq_true rfl)) dX7_lost_76 ⟨Nat.zero_le _, Nat.zero_le _⟩) rfl rfl rfl (by decide) rfl rfl (fun H locs hw => ?_)
            refine lv_iload_n hx hb dX7_lost_79 rfl (lv_at hl 2 rfl) ?_
            refine lv_icmp_le (tgt := 89) hx hb dX7_lost_80 (by decide) (fun kc => ?_) (fun kc => ?_)
            · have hf := if_t hf kc
              exact hJ89 ls H locs hf (lv_sub hl [3, 2, 0] rfl) hw
            · have hf := if_f hf kc
              refine lv_iconst (v := (1 : Int32)) hx hb dX7_lost_83 rfl ?_
              refine lv_iload_n hx hb dX7_lost_84 rfl (lv_at hl 0 rfl) ?_
              refine lv_ishl hx hb dX7_lost_85 ?_
              refine lv_goto (tgt := 90) hx hb dX7_lost_86 (by decide) ?_
              refine lv_ior hx hb dX7_lost_90 ?_
              refine lv_istore_n (lv' := [(2, .int (x20 ||| ((1 : Int32) <<< (x21 &&& 31)))), (3, .int x21), (1, .int x14), (0, .ref a_m)]) hx hb dX7_lost_91 rfl hl (by decide) rfl (fun ls hl => ?_)
              refine lv_iinc (v := (x21 + (1 : Int32))) (lv' := [(3, .int (x21 + (1 : Int32))), (2, .int (x20 ||| ((1 : Int32) <<< (x21 &&& 31)))), (1, .int x14), (0, .ref a_m)]) hx hb dX7_lost_92 hl (k := 1) rfl rfl (by decide) rfl (fun ls hl => ?_)
              refine lv_goto (tgt := 57) hx hb dX7_lost_95 (by decide) ?_
              exact ih57 (x20 ||| ((1 : Int32) <<< (x21 &&& 31))) (x21 + (1 : Int32)) hf ls H locs (lv_sub hl [0, 1, 2, 3] rfl) hw
    · have hf := if_f hf kc
      refine lv_iload_n hx hb dX7_lost_27 rfl (lv_at hl 1 rfl) ?_
      refine lv_aload_n hx hb dX7_lost_28 rfl (lv_at hl 2 rfl) ?_
      refine r_get E hw iX7 0 20 rfl rfl (by decide) kf28 rfl rfl dX7_lost_29 ?_
      refine lv_bipush (v := (16 : Int32)) hx hb dX7_lost_32 rfl ?_
      refine lv_iload_n hx hb dX7_lost_34 rfl (lv_at hl 0 rfl) ?_
      refine lv_iadd hx hb dX7_lost_35 ?_
      obtain ⟨g26, hf⟩ := gd_some hf
      refine r_iald E hw 3 rfl g26 dX7_lost_36 ?_
      refine lv_if_le (tgt := 44) hx hb dX7_lost_37 (by decide) (fun kc => ?_) (fun kc => ?_)
      · have hf := if_t hf kc
        refine lv_iconst (v := (0 : Int32)) hx hb dX7_lost_44 rfl ?_
        refine lv_iadd hx hb dX7_lost_45 ?_
        refine lv_istore_n (lv' := [(1, .int (x14 + (0 : Int32))), (2, .int x15), (0, .ref a_m)]) hx hb dX7_lost_46 rfl hl (by decide) rfl (fun ls hl => ?_)
        refine lv_iinc (v := (x15 + (1 : Int32))) (lv' := [(2, .int (x15 + (1 : Int32))), (1, .int (x14 + (0 : Int32))), (0, .ref a_m)]) hx hb dX7_lost_47 hl (k := 1) rfl rfl (by decide) rfl (fun ls hl => ?_)
        refine lv_goto (tgt := 19) hx hb dX7_lost_50 (by decide) ?_
        exact ih19 (x14 + (0 : Int32)) (x15 + (1 : Int32)) hf ls H locs (lv_sub hl [0, 1, 2] rfl) hw
      · have hf := if_f hf kc
        refine lv_iconst (v := (1 : Int32)) hx hb dX7_lost_40 rfl ?_
        refine lv_goto (tgt := 45) hx hb dX7_lost_41 (by decide) ?_
        refine lv_iadd hx hb dX7_lost_45 ?_
        refine lv_istore_n (lv' := [(1, .int (x14 + (1 : Int32))), (2, .int x15), (0, .ref a_m)]) hx hb dX7_lost_46 rfl hl (by decide) rfl (fun ls hl => ?_)
        refine lv_iinc (v := (x15 + (1 : Int32))) (lv' := [(2, .int (x15 + (1 : Int32))), (1, .int (x14 + (1 : Int32))), (0, .ref a_m)]) hx hb dX7_lost_47 hl (k := 1) rfl rfl (by decide) rfl (fun ls hl => ?_)
        refine lv_goto (tgt := 19) hx hb dX7_lost_50 (by decide) ?_
        exact ih19 (x14 + (1 : Int32)) (x15 + (1 : Int32)) hf ls H locs (lv_sub hl [0, 1, 2] rfl) hw
  · have hf := if_f hf kc
    refine lv_bipush (v := (-9 : Int32)) hx hb dX7_lost_12 rfl ?_
    obtain ⟨rfl, rfl⟩ := sm2 hf
    exact hret H locs ls 14 hw dX7_lost_14
def f_X7_due (p1 : Int32) (m_things : Int32) (m_dueMany : Int32) (m_hands : Nat → Int32) (m_wanted : Nat → Int32) (m_s : Nat → Int32) (m_due : Nat → Int32) : Option (Int32 × Int32 × Int32 × (Nat → Int32)) :=
  (if p1 = 0 then bd2 (f_X7_gathersDue m_things m_hands m_wanted m_s m_due) (fun u3 u4 => some (u3, (0 : Int32), u3, u4)) else (if p1 = (1 : Int32) then bd1 (f_X7_barred m_things m_wanted m_s) (fun r1 => some (r1, (0 : Int32), m_dueMany, m_due)) else some ((-1 : Int32), (0 : Int32), m_dueMany, m_due)))
theorem hd_X7_due : yX7_due.cls = RX7 ∧ yX7_due.cls ≠ "java/lang/invoke/MethodHandle" ∧ yX7_due.cls ≠ "java/lang/invoke/VarHandle" ∧ (parseMethodDescriptor yX7_due.desc).map (fun d => d.parameters.length) = some 1 := by decide +kernel
set_option maxHeartbeats 4000000 in
set_option maxRecDepth 100000 in
theorem c_X7_due (l : Launch) (dC : Nat → ClassId) (dI : Nat → Nat → Nat) (cI cB cZ : ClassId) (aK aV : Nat → Nat) (a_m a_m_text a_m_lifts a_m_price a_m_stood a_m_hands a_m_wanted a_m_s a_m_kept a_m_isKept a_m_due a_m_cost a_m_then a_m_by : Nat) (sz : Nat) (m_thrown : Int32) (m_trace : Int64) (m_typed : Int32) (m_next : Int32) (m_token : Int32) (m_place : Int32) (m_value : Int32) (m_fault : Int32) (m_rooms : Int32) (m_people : Int32) (m_things : Int32) (m_draftRooms : Int32) (m_draftPeople : Int32) (m_draftThings : Int32) (m_dueMany : Int32) (m_hands : Nat → Int32) (m_wanted : Nat → Int32) (m_s : Nat → Int32) (m_due : Nat → Int32) (p1 : Int32) (r : Int32) (q0 : Int32) (q1 : Int32) (q2 : Nat → Int32) (hf : f_X7_due p1 m_things m_dueMany m_hands m_wanted m_s m_due = some (r, q0, q1, q2)) : Met l yX7_due wsX7_due ({ frames := 3, cells := 0, slots := 0, locals := 67 } : Jvm.Room) (va_Pc [.ref a_m, .int p1] (preW (dC, dI) (tyL cI cB cZ) aK aV sz [(a_m, .inr (7, [.int m_thrown, .long m_trace, .ref a_m_text, .int m_typed, .int m_next, .int m_token, .int m_place, .int m_value, .int m_fault, .ref a_m_lifts, .ref a_m_price, .ref a_m_stood, .ref a_m_hands, .ref a_m_wanted, .int m_rooms, .int m_people, .int m_things, .int m_draftRooms, .int m_draftPeople, .int m_draftThings, .ref a_m_s, .ref a_m_kept, .ref a_m_isKept, .ref a_m_due, .int m_dueMany, .ref a_m_cost, .ref a_m_then, .ref a_m_by])), (a_m_hands, .inl (cI, 16, .inl m_hands)), (a_m_wanted, .inl (cI, 16, .inl m_wanted)), (a_m_s, .inl (cI, 21, .inl m_s)), (a_m_due, .inl (cI, 8, .inl m_due))])) (va_Qi (fun v (_ : Unit) => v = r) (postW (dC, dI) (tyL cI cB cZ) (va_A [(a_m, .inr (7, [.int m_thrown, .long m_trace, .ref a_m_text, .int m_typed, .int m_next, .int m_token, .int m_place, .int m_value, .int m_fault, .ref a_m_lifts, .ref a_m_price, .ref a_m_stood, .ref a_m_hands, .ref a_m_wanted, .int m_rooms, .int m_people, .int m_things, .int m_draftRooms, .int m_draftPeople, .int m_draftThings, .ref a_m_s, .ref a_m_kept, .ref a_m_isKept, .ref a_m_due, .int m_dueMany, .ref a_m_cost, .ref a_m_then, .ref a_m_by])), (a_m_hands, .inl (cI, 16, .inl m_hands)), (a_m_wanted, .inl (cI, 16, .inl m_wanted)), (a_m_s, .inl (cI, 21, .inl m_s)), (a_m_due, .inl (cI, 8, .inl m_due))] sz) [(a_m, .inr (7, [.int q0, .long m_trace, .ref a_m_text, .int m_typed, .int m_next, .int m_token, .int m_place, .int m_value, .int m_fault, .ref a_m_lifts, .ref a_m_price, .ref a_m_stood, .ref a_m_hands, .ref a_m_wanted, .int m_rooms, .int m_people, .int m_things, .int m_draftRooms, .int m_draftPeople, .int m_draftThings, .ref a_m_s, .ref a_m_kept, .ref a_m_isKept, .ref a_m_due, .int q1, .ref a_m_cost, .ref a_m_then, .ref a_m_by])), (a_m_hands, .inl (cI, 16, .inl m_hands)), (a_m_wanted, .inl (cI, 16, .inl m_wanted)), (a_m_s, .inl (cI, 21, .inl m_s)), (a_m_due, .inl (cI, 8, .inl q2))]) (va_A [(a_m, .inr (7, [.int m_thrown, .long m_trace, .ref a_m_text, .int m_typed, .int m_next, .int m_token, .int m_place, .int m_value, .int m_fault, .ref a_m_lifts, .ref a_m_price, .ref a_m_stood, .ref a_m_hands, .ref a_m_wanted, .int m_rooms, .int m_people, .int m_things, .int m_draftRooms, .int m_draftPeople, .int m_draftThings, .ref a_m_s, .ref a_m_kept, .ref a_m_isKept, .ref a_m_due, .int m_dueMany, .ref a_m_cost, .ref a_m_then, .ref a_m_by])), (a_m_hands, .inl (cI, 16, .inl m_hands)), (a_m_wanted, .inl (cI, 16, .inl m_wanted)), (a_m_s, .inl (cI, 21, .inl m_s)), (a_m_due, .inl (cI, 8, .inl m_due))] sz)) 0 0 (va_A [(a_m, .inr (7, [.int m_thrown, .long m_trace, .ref a_m_text, .int m_typed, .int m_next, .int m_token, .int m_place, .int m_value, .int m_fault, .ref a_m_lifts, .ref a_m_price, .ref a_m_stood, .ref a_m_hands, .ref a_m_wanted, .int m_rooms, .int m_people, .int m_things, .int m_draftRooms, .int m_draftPeople, .int m_draftThings, .ref a_m_s, .ref a_m_kept, .ref a_m_isKept, .ref a_m_due, .int m_dueMany, .ref a_m_cost, .ref a_m_then, .ref a_m_by])), (a_m_hands, .inl (cI, 16, .inl m_hands)), (a_m_wanted, .inl (cI, 16, .inl m_wanted)), (a_m_s, .inl (cI, 21, .inl m_s)), (a_m_due, .inl (cI, 8, .inl m_due))] sz) := by
  refine met_i (cc := cX7_due) (maxL := 2) (own := RX7) (by decide) rfl (Nat.le_of_ble_eq_true rfl) rfl (fun p e s m args below meth c Q A E hret ls H locs hl hw => ?_)
  obtain ⟨⟨hx, hb, hml, hown, hts⟩, hK, hN, hA, hX⟩ := id E
  have hl : lv_has ls 2 [(0, .ref a_m), (1, .int p1)] := hl
  have iX7 : ∀ w ∈ wsX70, w ∈ wsX7_due := by decide +kernel
  have kf57 := hts (.fieldLink RX7 57 "FiveThingsModel" "thrown" "I") (by decide +kernel)
  have kf179 := hts (.fieldLink RX7 179 "FiveThingsModel" "dueMany" "I") (by decide +kernel)
  unfold f_X7_due at hf
  refine lv_aload_n hx hb dX7_due_0 rfl (lv_at hl 0 rfl) ?_
  refine lv_iconst (v := (0 : Int32)) hx hb dX7_due_1 rfl ?_
  refine r_put E hw iX7 tyX7_ok nmX7 0 0 rfl rfl (by decide) kf57 rfl rfl rfl rfl (Nat.le_of_ble_eq_true rfl) [(a_m, .inr (7, [.int (0 : Int32), .long m_trace, .ref a_m_text, .int m_typed, .int m_next, .int m_token, .int m_place, .int m_value, .int m_fault, .ref a_m_lifts, .ref a_m_price, .ref a_m_stood, .ref a_m_hands, .ref a_m_wanted, .int m_rooms, .int m_people, .int m_things, .int m_draftRooms, .int m_draftPeople, .int m_draftThings, .ref a_m_s, .ref a_m_kept, .ref a_m_isKept, .ref a_m_due, .int m_dueMany, .ref a_m_cost, .ref a_m_then, .ref a_m_by])), (a_m_hands, .inl (cI, 16, .inl m_hands)), (a_m_wanted, .inl (cI, 16, .inl m_wanted)), (a_m_s, .inl (cI, 21, .inl m_s)), (a_m_due, .inl (cI, 8, .inl m_due))] rfl dX7_due_2 (fun H locs hw => ?_)
  refine lv_iload_n hx hb dX7_due_5 rfl (lv_at hl 1 rfl) ?_
  refine lv_if_ne (tgt := 18) hx hb dX7_due_6 (by decide) (fun kc => ?_) (fun kc => ?_)
  · have hf := if_f hf kc
    refine lv_iload_n hx hb dX7_due_18 rfl (lv_at hl 1 rfl) ?_
    refine lv_iconst (v := (1 : Int32)) hx hb dX7_due_19 rfl ?_
    refine lv_icmp_ne (tgt := 30) hx hb dX7_due_20 (by decide) (fun kc => ?_) (fun kc => ?_)
    · have hf := if_f hf kc
      refine lv_iconst (v := (-1 : Int32)) hx hb dX7_due_30 rfl ?_
      obtain ⟨rfl, rfl, rfl, rfl⟩ := sm4 hf
      exact hret H locs ls 31 hw dX7_due_31
    · have hf := if_t hf kc
      refine lv_aload_n hx hb dX7_due_23 rfl (lv_at hl 0 rfl) ?_
      obtain ⟨r1, hu2, hf⟩ := bd1_some hf
      refine cl_i (wr := [(a_m_hands, .inl (cI, 16, .inl m_hands)), (a_m_due, .inl (cI, 8, .inl m_due))]) (w2 := [(a_m, .inr (7, [.int (0 : Int32), .long m_trace, .ref a_m_text, .int m_typed, .int m_next, .int m_token, .int m_place, .int m_value, .int m_fault, .ref a_m_lifts, .ref a_m_price, .ref a_m_stood, .ref a_m_hands, .ref a_m_wanted, .int m_rooms, .int m_people, .int m_things, .int m_draftRooms, .int m_draftPeople, .int m_draftThings, .ref a_m_s, .ref a_m_kept, .ref a_m_isKept, .ref a_m_due, .int m_dueMany, .ref a_m_cost, .ref a_m_then, .ref a_m_by])), (a_m_hands, .inl (cI, 16, .inl m_hands)), (a_m_wanted, .inl (cI, 16, .inl m_wanted)), (a_m_s, .inl (cI, 21, .inl m_s)), (a_m_due, .inl (cI, 8, .inl m_due))]) E hw [0, 2, 3] [1, 4] [2, 0, 3, 4, 1] (va_runV (As := []) (rest := []) E.1 (c_X7_barred l dC dI cI cB cZ aK aV a_m a_m_text a_m_lifts a_m_price a_m_stood a_m_hands a_m_wanted a_m_s a_m_kept a_m_isKept a_m_due a_m_cost a_m_then a_m_by H.size (0 : Int32) m_trace m_typed m_next m_token m_place m_value m_fault m_rooms m_people m_things m_draftRooms m_draftPeople m_draftThings m_dueMany m_wanted m_s r1 hu2) (cwV 0 hts gX7_due_X7_barred rfl rfl rfl hd_X7_barred ⟨Nat.le_of_ble_eq_true rfl, Nat.le_of_ble_eq_true rfl⟩) (pre_V E hw [0, 2, 3] rfl rfl rfl rfl) rfl rfl hl.1 rfl (lv_room (Nat.le_of_ble_eq_true rfl)) dX7_due_24 ⟨Nat.zero_le _, Nat.zero_le _⟩) rfl rfl rfl (by decide) rfl rfl (fun H locs hw => ?_)
      refine lv_goto (tgt := 31) hx hb dX7_due_27 (by decide) ?_
      obtain ⟨rfl, rfl, rfl, rfl⟩ := sm4 hf
      exact hret H locs ls 31 hw dX7_due_31
  · have hf := if_t hf kc
    refine lv_aload_n hx hb dX7_due_9 rfl (lv_at hl 0 rfl) ?_
    obtain ⟨u3, u4, hu5, hf⟩ := bd2_some hf
    refine cl_v (wr := []) (w2 := [(a_m, .inr (7, [.int (0 : Int32), .long m_trace, .ref a_m_text, .int m_typed, .int m_next, .int m_token, .int m_place, .int m_value, .int m_fault, .ref a_m_lifts, .ref a_m_price, .ref a_m_stood, .ref a_m_hands, .ref a_m_wanted, .int m_rooms, .int m_people, .int m_things, .int m_draftRooms, .int m_draftPeople, .int m_draftThings, .ref a_m_s, .ref a_m_kept, .ref a_m_isKept, .ref a_m_due, .int u3, .ref a_m_cost, .ref a_m_then, .ref a_m_by])), (a_m_hands, .inl (cI, 16, .inl m_hands)), (a_m_wanted, .inl (cI, 16, .inl m_wanted)), (a_m_s, .inl (cI, 21, .inl m_s)), (a_m_due, .inl (cI, 8, .inl u4))]) E hw [0, 1, 2, 3, 4] [] [0, 1, 2, 3, 4] (va_runV (As := []) (rest := []) E.1 (c_X7_gathersDue l dC dI cI cB cZ aK aV a_m a_m_text a_m_lifts a_m_price a_m_stood a_m_hands a_m_wanted a_m_s a_m_kept a_m_isKept a_m_due a_m_cost a_m_then a_m_by H.size (0 : Int32) m_trace m_typed m_next m_token m_place m_value m_fault m_rooms m_people m_things m_draftRooms m_draftPeople m_draftThings m_dueMany m_hands m_wanted m_s m_due u3 u4 hu5) (cwV 0 hts gX7_due_X7_gathersDue rfl rfl rfl hd_X7_gathersDue ⟨Nat.le_of_ble_eq_true rfl, Nat.le_of_ble_eq_true rfl⟩) (pre_V E hw [0, 1, 2, 3, 4] rfl rfl rfl rfl) rfl rfl hl.1 rfl (lv_room (Nat.le_of_ble_eq_true rfl)) dX7_due_10 ⟨Nat.zero_le _, Nat.zero_le _⟩) rfl rfl rfl (by decide) rfl rfl (fun H locs hw => ?_)
    refine lv_aload_n hx hb dX7_due_13 rfl (lv_at hl 0 rfl) ?_
    refine r_get E hw iX7 0 24 rfl rfl (by decide) kf179 rfl rfl dX7_due_14 ?_
    obtain ⟨rfl, rfl, rfl, rfl⟩ := sm4 hf
    exact hret H locs ls 17 hw dX7_due_17
