def f_X7_isPerson (p1 : Int32) (m_people : Int32) : Option (Int32) :=
  bd1 (f_X7_in p1 (0 : Int32) (m_people - (1 : Int32))) (fun r1 => gd (decide (r1 = 0 ∨ r1 = 1)) (some (r1)))
theorem hd_X7_isPerson : yX7_isPerson.cls = RX7 ∧ yX7_isPerson.cls ≠ "java/lang/invoke/MethodHandle" ∧ yX7_isPerson.cls ≠ "java/lang/invoke/VarHandle" ∧ (parseMethodDescriptor yX7_isPerson.desc).map (fun d => d.parameters.length) = some 1 := by decide +kernel
set_option maxHeartbeats 4000000 in
set_option maxRecDepth 100000 in
theorem c_X7_isPerson (l : Launch) (dC : Nat → ClassId) (dI : Nat → Nat → Nat) (cI cB cZ : ClassId) (aK aV : Nat → Nat) (a_m a_m_text a_m_lifts a_m_price a_m_stood a_m_hands a_m_wanted a_m_s a_m_kept a_m_isKept a_m_due a_m_cost a_m_then a_m_by : Nat) (sz : Nat) (m_thrown : Int32) (m_trace : Int64) (m_typed : Int32) (m_next : Int32) (m_token : Int32) (m_place : Int32) (m_value : Int32) (m_fault : Int32) (m_rooms : Int32) (m_people : Int32) (m_things : Int32) (m_draftRooms : Int32) (m_draftPeople : Int32) (m_draftThings : Int32) (m_dueMany : Int32) (p1 : Int32) (r : Int32) (hf : f_X7_isPerson p1 m_people = some r) : Met l yX7_isPerson wsX7_isPerson ({ frames := 1, cells := 0, slots := 0, locals := 22 } : Jvm.Room) (va_Pc [.ref a_m, .int p1] (preW (dC, dI) (tyL cI cB cZ) aK aV sz [(a_m, .inr (7, [.int m_thrown, .long m_trace, .ref a_m_text, .int m_typed, .int m_next, .int m_token, .int m_place, .int m_value, .int m_fault, .ref a_m_lifts, .ref a_m_price, .ref a_m_stood, .ref a_m_hands, .ref a_m_wanted, .int m_rooms, .int m_people, .int m_things, .int m_draftRooms, .int m_draftPeople, .int m_draftThings, .ref a_m_s, .ref a_m_kept, .ref a_m_isKept, .ref a_m_due, .int m_dueMany, .ref a_m_cost, .ref a_m_then, .ref a_m_by]))])) (va_Qi (fun v (_ : Unit) => v = r) (postW (dC, dI) (tyL cI cB cZ) (va_A [(a_m, .inr (7, [.int m_thrown, .long m_trace, .ref a_m_text, .int m_typed, .int m_next, .int m_token, .int m_place, .int m_value, .int m_fault, .ref a_m_lifts, .ref a_m_price, .ref a_m_stood, .ref a_m_hands, .ref a_m_wanted, .int m_rooms, .int m_people, .int m_things, .int m_draftRooms, .int m_draftPeople, .int m_draftThings, .ref a_m_s, .ref a_m_kept, .ref a_m_isKept, .ref a_m_due, .int m_dueMany, .ref a_m_cost, .ref a_m_then, .ref a_m_by]))] sz) [(a_m, .inr (7, [.int m_thrown, .long m_trace, .ref a_m_text, .int m_typed, .int m_next, .int m_token, .int m_place, .int m_value, .int m_fault, .ref a_m_lifts, .ref a_m_price, .ref a_m_stood, .ref a_m_hands, .ref a_m_wanted, .int m_rooms, .int m_people, .int m_things, .int m_draftRooms, .int m_draftPeople, .int m_draftThings, .ref a_m_s, .ref a_m_kept, .ref a_m_isKept, .ref a_m_due, .int m_dueMany, .ref a_m_cost, .ref a_m_then, .ref a_m_by]))]) (va_A [(a_m, .inr (7, [.int m_thrown, .long m_trace, .ref a_m_text, .int m_typed, .int m_next, .int m_token, .int m_place, .int m_value, .int m_fault, .ref a_m_lifts, .ref a_m_price, .ref a_m_stood, .ref a_m_hands, .ref a_m_wanted, .int m_rooms, .int m_people, .int m_things, .int m_draftRooms, .int m_draftPeople, .int m_draftThings, .ref a_m_s, .ref a_m_kept, .ref a_m_isKept, .ref a_m_due, .int m_dueMany, .ref a_m_cost, .ref a_m_then, .ref a_m_by]))] sz)) 0 0 (va_A [(a_m, .inr (7, [.int m_thrown, .long m_trace, .ref a_m_text, .int m_typed, .int m_next, .int m_token, .int m_place, .int m_value, .int m_fault, .ref a_m_lifts, .ref a_m_price, .ref a_m_stood, .ref a_m_hands, .ref a_m_wanted, .int m_rooms, .int m_people, .int m_things, .int m_draftRooms, .int m_draftPeople, .int m_draftThings, .ref a_m_s, .ref a_m_kept, .ref a_m_isKept, .ref a_m_due, .int m_dueMany, .ref a_m_cost, .ref a_m_then, .ref a_m_by]))] sz) := by
  refine met_z (cc := cX7_isPerson) (maxL := 2) (own := RX7) (by decide) rfl (Nat.le_of_ble_eq_true rfl) rfl (fun p e s m args below meth c Q A E hret ls H locs hl hw => ?_)
  obtain ⟨⟨hx, hb, hml, hown, hts⟩, hK, hN, hA, hX⟩ := id E
  have hl : lv_has ls 2 [(0, .ref a_m), (1, .int p1)] := hl
  have iX7 : ∀ w ∈ wsX70, w ∈ wsX7_isPerson := by decide +kernel
  have kf130 := hts (.fieldLink RX7 130 "FiveThingsModel" "people" "I") (by decide +kernel)
  unfold f_X7_isPerson at hf
  refine lv_iload_n hx hb dX7_isPerson_0 rfl (lv_at hl 1 rfl) ?_
  refine lv_iconst (v := (0 : Int32)) hx hb dX7_isPerson_1 rfl ?_
  refine lv_aload_n hx hb dX7_isPerson_2 rfl (lv_at hl 0 rfl) ?_
  refine r_get E hw iX7 0 15 rfl rfl (by decide) kf130 rfl rfl dX7_isPerson_3 ?_
  refine lv_iconst (v := (1 : Int32)) hx hb dX7_isPerson_6 rfl ?_
  refine lv_isub hx hb dX7_isPerson_7 ?_
  obtain ⟨r1, hu2, hf⟩ := bd1_some hf
  refine cl_i (wr := [(a_m, .inr (7, [.int m_thrown, .long m_trace, .ref a_m_text, .int m_typed, .int m_next, .int m_token, .int m_place, .int m_value, .int m_fault, .ref a_m_lifts, .ref a_m_price, .ref a_m_stood, .ref a_m_hands, .ref a_m_wanted, .int m_rooms, .int m_people, .int m_things, .int m_draftRooms, .int m_draftPeople, .int m_draftThings, .ref a_m_s, .ref a_m_kept, .ref a_m_isKept, .ref a_m_due, .int m_dueMany, .ref a_m_cost, .ref a_m_then, .ref a_m_by]))]) (w2 := [(a_m, .inr (7, [.int m_thrown, .long m_trace, .ref a_m_text, .int m_typed, .int m_next, .int m_token, .int m_place, .int m_value, .int m_fault, .ref a_m_lifts, .ref a_m_price, .ref a_m_stood, .ref a_m_hands, .ref a_m_wanted, .int m_rooms, .int m_people, .int m_things, .int m_draftRooms, .int m_draftPeople, .int m_draftThings, .ref a_m_s, .ref a_m_kept, .ref a_m_isKept, .ref a_m_due, .int m_dueMany, .ref a_m_cost, .ref a_m_then, .ref a_m_by]))]) E hw [] [0] [0] (va_runS (As := [.int p1, .int (0 : Int32), .int (m_people - (1 : Int32))]) (rest := []) E.1 (c_X7_in l dC dI cI cB cZ aK aV H.size p1 (0 : Int32) (m_people - (1 : Int32)) r1 hu2) (va_cwS 3 hts gX7_isPerson_X7_in rfl rfl rfl hd_X7_in ⟨Nat.le_of_ble_eq_true rfl, Nat.le_of_ble_eq_true rfl⟩) (pre_S E hw [] rfl rfl) rfl rfl hl.1 rfl (lv_room (Nat.le_of_ble_eq_true rfl)) dX7_isPerson_8 ⟨Nat.zero_le _, Nat.zero_le _⟩) rfl rfl rfl (by decide) rfl rfl (fun H locs hw => ?_)
  obtain ⟨gz, hf⟩ := gd_some hf
  have gz := of_decide_eq_true gz
  obtain rfl := sm1 hf
  exact hret H locs ls 11 hw gz dX7_isPerson_11
def f_X7_isThing (p1 : Int32) (m_things : Int32) : Option (Int32) :=
  bd1 (f_X7_in p1 (0 : Int32) (m_things - (1 : Int32))) (fun r1 => gd (decide (r1 = 0 ∨ r1 = 1)) (some (r1)))
theorem hd_X7_isThing : yX7_isThing.cls = RX7 ∧ yX7_isThing.cls ≠ "java/lang/invoke/MethodHandle" ∧ yX7_isThing.cls ≠ "java/lang/invoke/VarHandle" ∧ (parseMethodDescriptor yX7_isThing.desc).map (fun d => d.parameters.length) = some 1 := by decide +kernel
set_option maxHeartbeats 4000000 in
set_option maxRecDepth 100000 in
theorem c_X7_isThing (l : Launch) (dC : Nat → ClassId) (dI : Nat → Nat → Nat) (cI cB cZ : ClassId) (aK aV : Nat → Nat) (a_m a_m_text a_m_lifts a_m_price a_m_stood a_m_hands a_m_wanted a_m_s a_m_kept a_m_isKept a_m_due a_m_cost a_m_then a_m_by : Nat) (sz : Nat) (m_thrown : Int32) (m_trace : Int64) (m_typed : Int32) (m_next : Int32) (m_token : Int32) (m_place : Int32) (m_value : Int32) (m_fault : Int32) (m_rooms : Int32) (m_people : Int32) (m_things : Int32) (m_draftRooms : Int32) (m_draftPeople : Int32) (m_draftThings : Int32) (m_dueMany : Int32) (p1 : Int32) (r : Int32) (hf : f_X7_isThing p1 m_things = some r) : Met l yX7_isThing wsX7_isThing ({ frames := 1, cells := 0, slots := 0, locals := 22 } : Jvm.Room) (va_Pc [.ref a_m, .int p1] (preW (dC, dI) (tyL cI cB cZ) aK aV sz [(a_m, .inr (7, [.int m_thrown, .long m_trace, .ref a_m_text, .int m_typed, .int m_next, .int m_token, .int m_place, .int m_value, .int m_fault, .ref a_m_lifts, .ref a_m_price, .ref a_m_stood, .ref a_m_hands, .ref a_m_wanted, .int m_rooms, .int m_people, .int m_things, .int m_draftRooms, .int m_draftPeople, .int m_draftThings, .ref a_m_s, .ref a_m_kept, .ref a_m_isKept, .ref a_m_due, .int m_dueMany, .ref a_m_cost, .ref a_m_then, .ref a_m_by]))])) (va_Qi (fun v (_ : Unit) => v = r) (postW (dC, dI) (tyL cI cB cZ) (va_A [(a_m, .inr (7, [.int m_thrown, .long m_trace, .ref a_m_text, .int m_typed, .int m_next, .int m_token, .int m_place, .int m_value, .int m_fault, .ref a_m_lifts, .ref a_m_price, .ref a_m_stood, .ref a_m_hands, .ref a_m_wanted, .int m_rooms, .int m_people, .int m_things, .int m_draftRooms, .int m_draftPeople, .int m_draftThings, .ref a_m_s, .ref a_m_kept, .ref a_m_isKept, .ref a_m_due, .int m_dueMany, .ref a_m_cost, .ref a_m_then, .ref a_m_by]))] sz) [(a_m, .inr (7, [.int m_thrown, .long m_trace, .ref a_m_text, .int m_typed, .int m_next, .int m_token, .int m_place, .int m_value, .int m_fault, .ref a_m_lifts, .ref a_m_price, .ref a_m_stood, .ref a_m_hands, .ref a_m_wanted, .int m_rooms, .int m_people, .int m_things, .int m_draftRooms, .int m_draftPeople, .int m_draftThings, .ref a_m_s, .ref a_m_kept, .ref a_m_isKept, .ref a_m_due, .int m_dueMany, .ref a_m_cost, .ref a_m_then, .ref a_m_by]))]) (va_A [(a_m, .inr (7, [.int m_thrown, .long m_trace, .ref a_m_text, .int m_typed, .int m_next, .int m_token, .int m_place, .int m_value, .int m_fault, .ref a_m_lifts, .ref a_m_price, .ref a_m_stood, .ref a_m_hands, .ref a_m_wanted, .int m_rooms, .int m_people, .int m_things, .int m_draftRooms, .int m_draftPeople, .int m_draftThings, .ref a_m_s, .ref a_m_kept, .ref a_m_isKept, .ref a_m_due, .int m_dueMany, .ref a_m_cost, .ref a_m_then, .ref a_m_by]))] sz)) 0 0 (va_A [(a_m, .inr (7, [.int m_thrown, .long m_trace, .ref a_m_text, .int m_typed, .int m_next, .int m_token, .int m_place, .int m_value, .int m_fault, .ref a_m_lifts, .ref a_m_price, .ref a_m_stood, .ref a_m_hands, .ref a_m_wanted, .int m_rooms, .int m_people, .int m_things, .int m_draftRooms, .int m_draftPeople, .int m_draftThings, .ref a_m_s, .ref a_m_kept, .ref a_m_isKept, .ref a_m_due, .int m_dueMany, .ref a_m_cost, .ref a_m_then, .ref a_m_by]))] sz) := by
  refine met_z (cc := cX7_isThing) (maxL := 2) (own := RX7) (by decide) rfl (Nat.le_of_ble_eq_true rfl) rfl (fun p e s m args below meth c Q A E hret ls H locs hl hw => ?_)
  obtain ⟨⟨hx, hb, hml, hown, hts⟩, hK, hN, hA, hX⟩ := id E
  have hl : lv_has ls 2 [(0, .ref a_m), (1, .int p1)] := hl
  have iX7 : ∀ w ∈ wsX70, w ∈ wsX7_isThing := by decide +kernel
  have kf133 := hts (.fieldLink RX7 133 "FiveThingsModel" "things" "I") (by decide +kernel)
  unfold f_X7_isThing at hf
  refine lv_iload_n hx hb dX7_isThing_0 rfl (lv_at hl 1 rfl) ?_
  refine lv_iconst (v := (0 : Int32)) hx hb dX7_isThing_1 rfl ?_
  refine lv_aload_n hx hb dX7_isThing_2 rfl (lv_at hl 0 rfl) ?_
  refine r_get E hw iX7 0 16 rfl rfl (by decide) kf133 rfl rfl dX7_isThing_3 ?_
  refine lv_iconst (v := (1 : Int32)) hx hb dX7_isThing_6 rfl ?_
  refine lv_isub hx hb dX7_isThing_7 ?_
  obtain ⟨r1, hu2, hf⟩ := bd1_some hf
  refine cl_i (wr := [(a_m, .inr (7, [.int m_thrown, .long m_trace, .ref a_m_text, .int m_typed, .int m_next, .int m_token, .int m_place, .int m_value, .int m_fault, .ref a_m_lifts, .ref a_m_price, .ref a_m_stood, .ref a_m_hands, .ref a_m_wanted, .int m_rooms, .int m_people, .int m_things, .int m_draftRooms, .int m_draftPeople, .int m_draftThings, .ref a_m_s, .ref a_m_kept, .ref a_m_isKept, .ref a_m_due, .int m_dueMany, .ref a_m_cost, .ref a_m_then, .ref a_m_by]))]) (w2 := [(a_m, .inr (7, [.int m_thrown, .long m_trace, .ref a_m_text, .int m_typed, .int m_next, .int m_token, .int m_place, .int m_value, .int m_fault, .ref a_m_lifts, .ref a_m_price, .ref a_m_stood, .ref a_m_hands, .ref a_m_wanted, .int m_rooms, .int m_people, .int m_things, .int m_draftRooms, .int m_draftPeople, .int m_draftThings, .ref a_m_s, .ref a_m_kept, .ref a_m_isKept, .ref a_m_due, .int m_dueMany, .ref a_m_cost, .ref a_m_then, .ref a_m_by]))]) E hw [] [0] [0] (va_runS (As := [.int p1, .int (0 : Int32), .int (m_things - (1 : Int32))]) (rest := []) E.1 (c_X7_in l dC dI cI cB cZ aK aV H.size p1 (0 : Int32) (m_things - (1 : Int32)) r1 hu2) (va_cwS 3 hts gX7_isThing_X7_in rfl rfl rfl hd_X7_in ⟨Nat.le_of_ble_eq_true rfl, Nat.le_of_ble_eq_true rfl⟩) (pre_S E hw [] rfl rfl) rfl rfl hl.1 rfl (lv_room (Nat.le_of_ble_eq_true rfl)) dX7_isThing_8 ⟨Nat.zero_le _, Nat.zero_le _⟩) rfl rfl rfl (by decide) rfl rfl (fun H locs hw => ?_)
  obtain ⟨gz, hf⟩ := gd_some hf
  have gz := of_decide_eq_true gz
  obtain rfl := sm1 hf
  exact hret H locs ls 11 hw gz dX7_isThing_11
def f_X7_isRoom (p1 : Int32) (m_rooms : Int32) : Option (Int32) :=
  bd1 (f_X7_in p1 (0 : Int32) (m_rooms - (1 : Int32))) (fun r1 => gd (decide (r1 = 0 ∨ r1 = 1)) (some (r1)))
theorem hd_X7_isRoom : yX7_isRoom.cls = RX7 ∧ yX7_isRoom.cls ≠ "java/lang/invoke/MethodHandle" ∧ yX7_isRoom.cls ≠ "java/lang/invoke/VarHandle" ∧ (parseMethodDescriptor yX7_isRoom.desc).map (fun d => d.parameters.length) = some 1 := by decide +kernel
set_option maxHeartbeats 4000000 in
set_option maxRecDepth 100000 in
theorem c_X7_isRoom (l : Launch) (dC : Nat → ClassId) (dI : Nat → Nat → Nat) (cI cB cZ : ClassId) (aK aV : Nat → Nat) (a_m a_m_text a_m_lifts a_m_price a_m_stood a_m_hands a_m_wanted a_m_s a_m_kept a_m_isKept a_m_due a_m_cost a_m_then a_m_by : Nat) (sz : Nat) (m_thrown : Int32) (m_trace : Int64) (m_typed : Int32) (m_next : Int32) (m_token : Int32) (m_place : Int32) (m_value : Int32) (m_fault : Int32) (m_rooms : Int32) (m_people : Int32) (m_things : Int32) (m_draftRooms : Int32) (m_draftPeople : Int32) (m_draftThings : Int32) (m_dueMany : Int32) (p1 : Int32) (r : Int32) (hf : f_X7_isRoom p1 m_rooms = some r) : Met l yX7_isRoom wsX7_isRoom ({ frames := 1, cells := 0, slots := 0, locals := 22 } : Jvm.Room) (va_Pc [.ref a_m, .int p1] (preW (dC, dI) (tyL cI cB cZ) aK aV sz [(a_m, .inr (7, [.int m_thrown, .long m_trace, .ref a_m_text, .int m_typed, .int m_next, .int m_token, .int m_place, .int m_value, .int m_fault, .ref a_m_lifts, .ref a_m_price, .ref a_m_stood, .ref a_m_hands, .ref a_m_wanted, .int m_rooms, .int m_people, .int m_things, .int m_draftRooms, .int m_draftPeople, .int m_draftThings, .ref a_m_s, .ref a_m_kept, .ref a_m_isKept, .ref a_m_due, .int m_dueMany, .ref a_m_cost, .ref a_m_then, .ref a_m_by]))])) (va_Qi (fun v (_ : Unit) => v = r) (postW (dC, dI) (tyL cI cB cZ) (va_A [(a_m, .inr (7, [.int m_thrown, .long m_trace, .ref a_m_text, .int m_typed, .int m_next, .int m_token, .int m_place, .int m_value, .int m_fault, .ref a_m_lifts, .ref a_m_price, .ref a_m_stood, .ref a_m_hands, .ref a_m_wanted, .int m_rooms, .int m_people, .int m_things, .int m_draftRooms, .int m_draftPeople, .int m_draftThings, .ref a_m_s, .ref a_m_kept, .ref a_m_isKept, .ref a_m_due, .int m_dueMany, .ref a_m_cost, .ref a_m_then, .ref a_m_by]))] sz) [(a_m, .inr (7, [.int m_thrown, .long m_trace, .ref a_m_text, .int m_typed, .int m_next, .int m_token, .int m_place, .int m_value, .int m_fault, .ref a_m_lifts, .ref a_m_price, .ref a_m_stood, .ref a_m_hands, .ref a_m_wanted, .int m_rooms, .int m_people, .int m_things, .int m_draftRooms, .int m_draftPeople, .int m_draftThings, .ref a_m_s, .ref a_m_kept, .ref a_m_isKept, .ref a_m_due, .int m_dueMany, .ref a_m_cost, .ref a_m_then, .ref a_m_by]))]) (va_A [(a_m, .inr (7, [.int m_thrown, .long m_trace, .ref a_m_text, .int m_typed, .int m_next, .int m_token, .int m_place, .int m_value, .int m_fault, .ref a_m_lifts, .ref a_m_price, .ref a_m_stood, .ref a_m_hands, .ref a_m_wanted, .int m_rooms, .int m_people, .int m_things, .int m_draftRooms, .int m_draftPeople, .int m_draftThings, .ref a_m_s, .ref a_m_kept, .ref a_m_isKept, .ref a_m_due, .int m_dueMany, .ref a_m_cost, .ref a_m_then, .ref a_m_by]))] sz)) 0 0 (va_A [(a_m, .inr (7, [.int m_thrown, .long m_trace, .ref a_m_text, .int m_typed, .int m_next, .int m_token, .int m_place, .int m_value, .int m_fault, .ref a_m_lifts, .ref a_m_price, .ref a_m_stood, .ref a_m_hands, .ref a_m_wanted, .int m_rooms, .int m_people, .int m_things, .int m_draftRooms, .int m_draftPeople, .int m_draftThings, .ref a_m_s, .ref a_m_kept, .ref a_m_isKept, .ref a_m_due, .int m_dueMany, .ref a_m_cost, .ref a_m_then, .ref a_m_by]))] sz) := by
  refine met_z (cc := cX7_isRoom) (maxL := 2) (own := RX7) (by decide) rfl (Nat.le_of_ble_eq_true rfl) rfl (fun p e s m args below meth c Q A E hret ls H locs hl hw => ?_)
  obtain ⟨⟨hx, hb, hml, hown, hts⟩, hK, hN, hA, hX⟩ := id E
  have hl : lv_has ls 2 [(0, .ref a_m), (1, .int p1)] := hl
  have iX7 : ∀ w ∈ wsX70, w ∈ wsX7_isRoom := by decide +kernel
  have kf50 := hts (.fieldLink RX7 50 "FiveThingsModel" "rooms" "I") (by decide +kernel)
  unfold f_X7_isRoom at hf
  refine lv_iload_n hx hb dX7_isRoom_0 rfl (lv_at hl 1 rfl) ?_
  refine lv_iconst (v := (0 : Int32)) hx hb dX7_isRoom_1 rfl ?_
  refine lv_aload_n hx hb dX7_isRoom_2 rfl (lv_at hl 0 rfl) ?_
  refine r_get E hw iX7 0 14 rfl rfl (by decide) kf50 rfl rfl dX7_isRoom_3 ?_
  refine lv_iconst (v := (1 : Int32)) hx hb dX7_isRoom_6 rfl ?_
  refine lv_isub hx hb dX7_isRoom_7 ?_
  obtain ⟨r1, hu2, hf⟩ := bd1_some hf
  refine cl_i (wr := [(a_m, .inr (7, [.int m_thrown, .long m_trace, .ref a_m_text, .int m_typed, .int m_next, .int m_token, .int m_place, .int m_value, .int m_fault, .ref a_m_lifts, .ref a_m_price, .ref a_m_stood, .ref a_m_hands, .ref a_m_wanted, .int m_rooms, .int m_people, .int m_things, .int m_draftRooms, .int m_draftPeople, .int m_draftThings, .ref a_m_s, .ref a_m_kept, .ref a_m_isKept, .ref a_m_due, .int m_dueMany, .ref a_m_cost, .ref a_m_then, .ref a_m_by]))]) (w2 := [(a_m, .inr (7, [.int m_thrown, .long m_trace, .ref a_m_text, .int m_typed, .int m_next, .int m_token, .int m_place, .int m_value, .int m_fault, .ref a_m_lifts, .ref a_m_price, .ref a_m_stood, .ref a_m_hands, .ref a_m_wanted, .int m_rooms, .int m_people, .int m_things, .int m_draftRooms, .int m_draftPeople, .int m_draftThings, .ref a_m_s, .ref a_m_kept, .ref a_m_isKept, .ref a_m_due, .int m_dueMany, .ref a_m_cost, .ref a_m_then, .ref a_m_by]))]) E hw [] [0] [0] (va_runS (As := [.int p1, .int (0 : Int32), .int (m_rooms - (1 : Int32))]) (rest := []) E.1 (c_X7_in l dC dI cI cB cZ aK aV H.size p1 (0 : Int32) (m_rooms - (1 : Int32)) r1 hu2) (va_cwS 3 hts gX7_isRoom_X7_in rfl rfl rfl hd_X7_in ⟨Nat.le_of_ble_eq_true rfl, Nat.le_of_ble_eq_true rfl⟩) (pre_S E hw [] rfl rfl) rfl rfl hl.1 rfl (lv_room (Nat.le_of_ble_eq_true rfl)) dX7_isRoom_8 ⟨Nat.zero_le _, Nat.zero_le _⟩) rfl rfl rfl (by decide) rfl rfl (fun H locs hw => ?_)
  obtain ⟨gz, hf⟩ := gd_some hf
  have gz := of_decide_eq_true gz
  obtain rfl := sm1 hf
  exact hret H locs ls 11 hw gz dX7_isRoom_11
def f_X7_person (p1 : Int32) (p2 : Int32) (m_people : Int32) (m_lifts : Nat → Int32) (m_price : Nat → Int32) (m_s : Nat → Int32) : Option (Int32 × Int32) :=
  bd1 (f_X7_isPerson p1 m_people) (fun r1 => (if r1 = 0 then some ((-1 : Int32), (0 : Int32)) else bd1 (f_X7_in p2 (0 : Int32) (2 : Int32)) (fun r3 => (if r3 = 0 then some ((-1 : Int32), (0 : Int32)) else (if p2 = 0 then gd (inb p1 8) (some ((m_lifts p1.toNatClampNeg), (0 : Int32))) else (if p2 = (1 : Int32) then gd (inb p1 8) (some ((m_price p1.toNatClampNeg), (0 : Int32))) else gd (inb ((16 : Int32) + p1) 21) (some ((m_s ((16 : Int32) + p1).toNatClampNeg), (0 : Int32)))))))))
theorem hd_X7_person : yX7_person.cls = RX7 ∧ yX7_person.cls ≠ "java/lang/invoke/MethodHandle" ∧ yX7_person.cls ≠ "java/lang/invoke/VarHandle" ∧ (parseMethodDescriptor yX7_person.desc).map (fun d => d.parameters.length) = some 2 := by decide +kernel
set_option maxHeartbeats 4000000 in
set_option maxRecDepth 100000 in
theorem c_X7_person (l : Launch) (dC : Nat → ClassId) (dI : Nat → Nat → Nat) (cI cB cZ : ClassId) (aK aV : Nat → Nat) (a_m a_m_text a_m_lifts a_m_price a_m_stood a_m_hands a_m_wanted a_m_s a_m_kept a_m_isKept a_m_due a_m_cost a_m_then a_m_by : Nat) (sz : Nat) (m_thrown : Int32) (m_trace : Int64) (m_typed : Int32) (m_next : Int32) (m_token : Int32) (m_place : Int32) (m_value : Int32) (m_fault : Int32) (m_rooms : Int32) (m_people : Int32) (m_things : Int32) (m_draftRooms : Int32) (m_draftPeople : Int32) (m_draftThings : Int32) (m_dueMany : Int32) (m_lifts : Nat → Int32) (m_price : Nat → Int32) (m_s : Nat → Int32) (p1 : Int32) (p2 : Int32) (r : Int32) (q0 : Int32) (hf : f_X7_person p1 p2 m_people m_lifts m_price m_s = some (r, q0)) : Met l yX7_person wsX7_person ({ frames := 2, cells := 0, slots := 0, locals := 43 } : Jvm.Room) (va_Pc [.ref a_m, .int p1, .int p2] (preW (dC, dI) (tyL cI cB cZ) aK aV sz [(a_m, .inr (7, [.int m_thrown, .long m_trace, .ref a_m_text, .int m_typed, .int m_next, .int m_token, .int m_place, .int m_value, .int m_fault, .ref a_m_lifts, .ref a_m_price, .ref a_m_stood, .ref a_m_hands, .ref a_m_wanted, .int m_rooms, .int m_people, .int m_things, .int m_draftRooms, .int m_draftPeople, .int m_draftThings, .ref a_m_s, .ref a_m_kept, .ref a_m_isKept, .ref a_m_due, .int m_dueMany, .ref a_m_cost, .ref a_m_then, .ref a_m_by])), (a_m_lifts, .inl (cI, 8, .inl m_lifts)), (a_m_price, .inl (cI, 8, .inl m_price)), (a_m_s, .inl (cI, 21, .inl m_s))])) (va_Qi (fun v (_ : Unit) => v = r) (postW (dC, dI) (tyL cI cB cZ) (va_A [(a_m, .inr (7, [.int m_thrown, .long m_trace, .ref a_m_text, .int m_typed, .int m_next, .int m_token, .int m_place, .int m_value, .int m_fault, .ref a_m_lifts, .ref a_m_price, .ref a_m_stood, .ref a_m_hands, .ref a_m_wanted, .int m_rooms, .int m_people, .int m_things, .int m_draftRooms, .int m_draftPeople, .int m_draftThings, .ref a_m_s, .ref a_m_kept, .ref a_m_isKept, .ref a_m_due, .int m_dueMany, .ref a_m_cost, .ref a_m_then, .ref a_m_by])), (a_m_lifts, .inl (cI, 8, .inl m_lifts)), (a_m_price, .inl (cI, 8, .inl m_price)), (a_m_s, .inl (cI, 21, .inl m_s))] sz) [(a_m, .inr (7, [.int q0, .long m_trace, .ref a_m_text, .int m_typed, .int m_next, .int m_token, .int m_place, .int m_value, .int m_fault, .ref a_m_lifts, .ref a_m_price, .ref a_m_stood, .ref a_m_hands, .ref a_m_wanted, .int m_rooms, .int m_people, .int m_things, .int m_draftRooms, .int m_draftPeople, .int m_draftThings, .ref a_m_s, .ref a_m_kept, .ref a_m_isKept, .ref a_m_due, .int m_dueMany, .ref a_m_cost, .ref a_m_then, .ref a_m_by])), (a_m_lifts, .inl (cI, 8, .inl m_lifts)), (a_m_price, .inl (cI, 8, .inl m_price)), (a_m_s, .inl (cI, 21, .inl m_s))]) (va_A [(a_m, .inr (7, [.int m_thrown, .long m_trace, .ref a_m_text, .int m_typed, .int m_next, .int m_token, .int m_place, .int m_value, .int m_fault, .ref a_m_lifts, .ref a_m_price, .ref a_m_stood, .ref a_m_hands, .ref a_m_wanted, .int m_rooms, .int m_people, .int m_things, .int m_draftRooms, .int m_draftPeople, .int m_draftThings, .ref a_m_s, .ref a_m_kept, .ref a_m_isKept, .ref a_m_due, .int m_dueMany, .ref a_m_cost, .ref a_m_then, .ref a_m_by])), (a_m_lifts, .inl (cI, 8, .inl m_lifts)), (a_m_price, .inl (cI, 8, .inl m_price)), (a_m_s, .inl (cI, 21, .inl m_s))] sz)) 0 0 (va_A [(a_m, .inr (7, [.int m_thrown, .long m_trace, .ref a_m_text, .int m_typed, .int m_next, .int m_token, .int m_place, .int m_value, .int m_fault, .ref a_m_lifts, .ref a_m_price, .ref a_m_stood, .ref a_m_hands, .ref a_m_wanted, .int m_rooms, .int m_people, .int m_things, .int m_draftRooms, .int m_draftPeople, .int m_draftThings, .ref a_m_s, .ref a_m_kept, .ref a_m_isKept, .ref a_m_due, .int m_dueMany, .ref a_m_cost, .ref a_m_then, .ref a_m_by])), (a_m_lifts, .inl (cI, 8, .inl m_lifts)), (a_m_price, .inl (cI, 8, .inl m_price)), (a_m_s, .inl (cI, 21, .inl m_s))] sz) := by
  refine met_i (cc := cX7_person) (maxL := 3) (own := RX7) (by decide) rfl (Nat.le_of_ble_eq_true rfl) rfl (fun p e s m args below meth c Q A E hret ls H locs hl hw => ?_)
  obtain ⟨⟨hx, hb, hml, hown, hts⟩, hK, hN, hA, hX⟩ := id E
  have hl : lv_has ls 3 [(0, .ref a_m), (1, .int p1), (2, .int p2)] := hl
  have iX7 : ∀ w ∈ wsX70, w ∈ wsX7_person := by decide +kernel
  have kf57 := hts (.fieldLink RX7 57 "FiveThingsModel" "thrown" "I") (by decide +kernel)
  have kf28 := hts (.fieldLink RX7 28 "FiveThingsModel" "s" "[I") (by decide +kernel)
  have kf16 := hts (.fieldLink RX7 16 "FiveThingsModel" "price" "[I") (by decide +kernel)
  have kf13 := hts (.fieldLink RX7 13 "FiveThingsModel" "lifts" "[I") (by decide +kernel)
  unfold f_X7_person at hf
  refine lv_aload_n hx hb dX7_person_0 rfl (lv_at hl 0 rfl) ?_
  refine lv_iconst (v := (0 : Int32)) hx hb dX7_person_1 rfl ?_
  refine r_put E hw iX7 tyX7_ok nmX7 0 0 rfl rfl (by decide) kf57 rfl rfl rfl rfl (Nat.le_of_ble_eq_true rfl) [(a_m, .inr (7, [.int (0 : Int32), .long m_trace, .ref a_m_text, .int m_typed, .int m_next, .int m_token, .int m_place, .int m_value, .int m_fault, .ref a_m_lifts, .ref a_m_price, .ref a_m_stood, .ref a_m_hands, .ref a_m_wanted, .int m_rooms, .int m_people, .int m_things, .int m_draftRooms, .int m_draftPeople, .int m_draftThings, .ref a_m_s, .ref a_m_kept, .ref a_m_isKept, .ref a_m_due, .int m_dueMany, .ref a_m_cost, .ref a_m_then, .ref a_m_by])), (a_m_lifts, .inl (cI, 8, .inl m_lifts)), (a_m_price, .inl (cI, 8, .inl m_price)), (a_m_s, .inl (cI, 21, .inl m_s))] rfl dX7_person_2 (fun H locs hw => ?_)
  refine lv_aload_n hx hb dX7_person_5 rfl (lv_at hl 0 rfl) ?_
  refine lv_iload_n hx hb dX7_person_6 rfl (lv_at hl 1 rfl) ?_
  obtain ⟨r1, hu2, hf⟩ := bd1_some hf
  refine cl_i (wr := [(a_m_lifts, .inl (cI, 8, .inl m_lifts)), (a_m_price, .inl (cI, 8, .inl m_price)), (a_m_s, .inl (cI, 21, .inl m_s))]) (w2 := [(a_m, .inr (7, [.int (0 : Int32), .long m_trace, .ref a_m_text, .int m_typed, .int m_next, .int m_token, .int m_place, .int m_value, .int m_fault, .ref a_m_lifts, .ref a_m_price, .ref a_m_stood, .ref a_m_hands, .ref a_m_wanted, .int m_rooms, .int m_people, .int m_things, .int m_draftRooms, .int m_draftPeople, .int m_draftThings, .ref a_m_s, .ref a_m_kept, .ref a_m_isKept, .ref a_m_due, .int m_dueMany, .ref a_m_cost, .ref a_m_then, .ref a_m_by])), (a_m_lifts, .inl (cI, 8, .inl m_lifts)), (a_m_price, .inl (cI, 8, .inl m_price)), (a_m_s, .inl (cI, 21, .inl m_s))]) E hw [0] [1, 2, 3] [3, 0, 1, 2] (va_runV (As := [.int p1]) (rest := []) E.1 (c_X7_isPerson l dC dI cI cB cZ aK aV a_m a_m_text a_m_lifts a_m_price a_m_stood a_m_hands a_m_wanted a_m_s a_m_kept a_m_isKept a_m_due a_m_cost a_m_then a_m_by H.size (0 : Int32) m_trace m_typed m_next m_token m_place m_value m_fault m_rooms m_people m_things m_draftRooms m_draftPeople m_draftThings m_dueMany p1 r1 hu2) (cwV 1 hts gX7_person_X7_isPerson rfl rfl rfl hd_X7_isPerson ⟨Nat.le_of_ble_eq_true rfl, Nat.le_of_ble_eq_true rfl⟩) (pre_V E hw [0] rfl rfl rfl rfl) rfl rfl hl.1 rfl (lv_room (Nat.le_of_ble_eq_true rfl)) dX7_person_7 ⟨Nat.zero_le _, Nat.zero_le _⟩) rfl rfl rfl (by decide) rfl rfl (fun H locs hw => ?_)
  refine lv_if_eq (tgt := 22) hx hb dX7_person_10 (by decide) (fun kc => ?_) (fun kc => ?_)
  · have hf := if_t hf kc
    refine lv_iconst (v := (-1 : Int32)) hx hb dX7_person_22 rfl ?_
    obtain ⟨rfl, rfl⟩ := sm2 hf
    exact hret H locs ls 23 hw dX7_person_23
  · have hf := if_f hf kc
    refine lv_iload_n hx hb dX7_person_13 rfl (lv_at hl 2 rfl) ?_
    refine lv_iconst (v := (0 : Int32)) hx hb dX7_person_14 rfl ?_
    refine lv_iconst (v := (2 : Int32)) hx hb dX7_person_15 rfl ?_
    obtain ⟨r3, hu4, hf⟩ := bd1_some hf
    refine cl_i (wr := [(a_m, .inr (7, [.int (0 : Int32), .long m_trace, .ref a_m_text, .int m_typed, .int m_next, .int m_token, .int m_place, .int m_value, .int m_fault, .ref a_m_lifts, .ref a_m_price, .ref a_m_stood, .ref a_m_hands, .ref a_m_wanted, .int m_rooms, .int m_people, .int m_things, .int m_draftRooms, .int m_draftPeople, .int m_draftThings, .ref a_m_s, .ref a_m_kept, .ref a_m_isKept, .ref a_m_due, .int m_dueMany, .ref a_m_cost, .ref a_m_then, .ref a_m_by])), (a_m_lifts, .inl (cI, 8, .inl m_lifts)), (a_m_price, .inl (cI, 8, .inl m_price)), (a_m_s, .inl (cI, 21, .inl m_s))]) (w2 := [(a_m, .inr (7, [.int (0 : Int32), .long m_trace, .ref a_m_text, .int m_typed, .int m_next, .int m_token, .int m_place, .int m_value, .int m_fault, .ref a_m_lifts, .ref a_m_price, .ref a_m_stood, .ref a_m_hands, .ref a_m_wanted, .int m_rooms, .int m_people, .int m_things, .int m_draftRooms, .int m_draftPeople, .int m_draftThings, .ref a_m_s, .ref a_m_kept, .ref a_m_isKept, .ref a_m_due, .int m_dueMany, .ref a_m_cost, .ref a_m_then, .ref a_m_by])), (a_m_lifts, .inl (cI, 8, .inl m_lifts)), (a_m_price, .inl (cI, 8, .inl m_price)), (a_m_s, .inl (cI, 21, .inl m_s))]) E hw [] [0, 1, 2, 3] [0, 1, 2, 3] (va_runS (As := [.int p2, .int (0 : Int32), .int (2 : Int32)]) (rest := []) E.1 (c_X7_in l dC dI cI cB cZ aK aV H.size p2 (0 : Int32) (2 : Int32) r3 hu4) (va_cwS 3 hts gX7_person_X7_in rfl rfl rfl hd_X7_in ⟨Nat.le_of_ble_eq_true rfl, Nat.le_of_ble_eq_true rfl⟩) (pre_S E hw [] rfl rfl) rfl rfl hl.1 rfl (lv_room (Nat.le_of_ble_eq_true rfl)) dX7_person_16 ⟨Nat.zero_le _, Nat.zero_le _⟩) rfl rfl rfl (by decide) rfl rfl (fun H locs hw => ?_)
    refine lv_if_ne (tgt := 24) hx hb dX7_person_19 (by decide) (fun kc => ?_) (fun kc => ?_)
    · have hf := if_f hf kc
      refine lv_iload_n hx hb dX7_person_24 rfl (lv_at hl 2 rfl) ?_
      refine lv_if_ne (tgt := 37) hx hb dX7_person_25 (by decide) (fun kc => ?_) (fun kc => ?_)
      · have hf := if_f hf kc
        refine lv_iload_n hx hb dX7_person_37 rfl (lv_at hl 2 rfl) ?_
        refine lv_iconst (v := (1 : Int32)) hx hb dX7_person_38 rfl ?_
        refine lv_icmp_ne (tgt := 51) hx hb dX7_person_39 (by decide) (fun kc => ?_) (fun kc => ?_)
        · have hf := if_f hf kc
          refine lv_aload_n hx hb dX7_person_51 rfl (lv_at hl 0 rfl) ?_
          refine r_get E hw iX7 0 20 rfl rfl (by decide) kf28 rfl rfl dX7_person_52 ?_
          refine lv_bipush (v := (16 : Int32)) hx hb dX7_person_55 rfl ?_
          refine lv_iload_n hx hb dX7_person_57 rfl (lv_at hl 1 rfl) ?_
          refine lv_iadd hx hb dX7_person_58 ?_
          obtain ⟨g5, hf⟩ := gd_some hf
          refine r_iald E hw 3 rfl g5 dX7_person_59 ?_
          obtain ⟨rfl, rfl⟩ := sm2 hf
          exact hret H locs ls 60 hw dX7_person_60
        · have hf := if_t hf kc
          refine lv_aload_n hx hb dX7_person_42 rfl (lv_at hl 0 rfl) ?_
          refine r_get E hw iX7 0 10 rfl rfl (by decide) kf16 rfl rfl dX7_person_43 ?_
          refine lv_iload_n hx hb dX7_person_46 rfl (lv_at hl 1 rfl) ?_
          obtain ⟨g6, hf⟩ := gd_some hf
          refine r_iald E hw 2 rfl g6 dX7_person_47 ?_
          refine lv_goto (tgt := 60) hx hb dX7_person_48 (by decide) ?_
          obtain ⟨rfl, rfl⟩ := sm2 hf
          exact hret H locs ls 60 hw dX7_person_60
      · have hf := if_t hf kc
        refine lv_aload_n hx hb dX7_person_28 rfl (lv_at hl 0 rfl) ?_
        refine r_get E hw iX7 0 9 rfl rfl (by decide) kf13 rfl rfl dX7_person_29 ?_
        refine lv_iload_n hx hb dX7_person_32 rfl (lv_at hl 1 rfl) ?_
        obtain ⟨g7, hf⟩ := gd_some hf
        refine r_iald E hw 1 rfl g7 dX7_person_33 ?_
        refine lv_goto (tgt := 60) hx hb dX7_person_34 (by decide) ?_
        obtain ⟨rfl, rfl⟩ := sm2 hf
        exact hret H locs ls 60 hw dX7_person_60
    · have hf := if_t hf kc
      refine lv_iconst (v := (-1 : Int32)) hx hb dX7_person_22 rfl ?_
      obtain ⟨rfl, rfl⟩ := sm2 hf
      exact hret H locs ls 23 hw dX7_person_23
def f_X7_thing (p1 : Int32) (p2 : Int32) (m_things : Int32) (m_hands : Nat → Int32) (m_wanted : Nat → Int32) (m_s : Nat → Int32) : Option (Int32 × Int32) :=
  bd1 (f_X7_isThing p1 m_things) (fun r1 => (if r1 = 0 then some ((-1 : Int32), (0 : Int32)) else bd1 (f_X7_in p2 (0 : Int32) (3 : Int32)) (fun r3 => (if r3 = 0 then some ((-1 : Int32), (0 : Int32)) else (if p2 = 0 then gd (inb p1 21) (some ((m_s p1.toNatClampNeg), (0 : Int32))) else (if p2 = (1 : Int32) then gd (inb p1 16) (some ((m_hands p1.toNatClampNeg), (0 : Int32))) else (if p2 = (2 : Int32) then gd (inb p1 16) (some ((m_wanted p1.toNatClampNeg), (0 : Int32))) else gd (inb ((8 : Int32) + p1) 21) (some ((m_s ((8 : Int32) + p1).toNatClampNeg), (0 : Int32))))))))))
theorem hd_X7_thing : yX7_thing.cls = RX7 ∧ yX7_thing.cls ≠ "java/lang/invoke/MethodHandle" ∧ yX7_thing.cls ≠ "java/lang/invoke/VarHandle" ∧ (parseMethodDescriptor yX7_thing.desc).map (fun d => d.parameters.length) = some 2 := by decide +kernel
set_option maxHeartbeats 4000000 in
set_option maxRecDepth 100000 in
theorem c_X7_thing (l : Launch) (dC : Nat → ClassId) (dI : Nat → Nat → Nat) (cI cB cZ : ClassId) (aK aV : Nat → Nat) (a_m a_m_text a_m_lifts a_m_price a_m_stood a_m_hands a_m_wanted a_m_s a_m_kept a_m_isKept a_m_due a_m_cost a_m_then a_m_by : Nat) (sz : Nat) (m_thrown : Int32) (m_trace : Int64) (m_typed : Int32) (m_next : Int32) (m_token : Int32) (m_place : Int32) (m_value : Int32) (m_fault : Int32) (m_rooms : Int32) (m_people : Int32) (m_things : Int32) (m_draftRooms : Int32) (m_draftPeople : Int32) (m_draftThings : Int32) (m_dueMany : Int32) (m_hands : Nat → Int32) (m_wanted : Nat → Int32) (m_s : Nat → Int32) (p1 : Int32) (p2 : Int32) (r : Int32) (q0 : Int32) (hf : f_X7_thing p1 p2 m_things m_hands m_wanted m_s = some (r, q0)) : Met l yX7_thing wsX7_thing ({ frames := 2, cells := 0, slots := 0, locals := 43 } : Jvm.Room) (va_Pc [.ref a_m, .int p1, .int p2] (preW (dC, dI) (tyL cI cB cZ) aK aV sz [(a_m, .inr (7, [.int m_thrown, .long m_trace, .ref a_m_text, .int m_typed, .int m_next, .int m_token, .int m_place, .int m_value, .int m_fault, .ref a_m_lifts, .ref a_m_price, .ref a_m_stood, .ref a_m_hands, .ref a_m_wanted, .int m_rooms, .int m_people, .int m_things, .int m_draftRooms, .int m_draftPeople, .int m_draftThings, .ref a_m_s, .ref a_m_kept, .ref a_m_isKept, .ref a_m_due, .int m_dueMany, .ref a_m_cost, .ref a_m_then, .ref a_m_by])), (a_m_hands, .inl (cI, 16, .inl m_hands)), (a_m_wanted, .inl (cI, 16, .inl m_wanted)), (a_m_s, .inl (cI, 21, .inl m_s))])) (va_Qi (fun v (_ : Unit) => v = r) (postW (dC, dI) (tyL cI cB cZ) (va_A [(a_m, .inr (7, [.int m_thrown, .long m_trace, .ref a_m_text, .int m_typed, .int m_next, .int m_token, .int m_place, .int m_value, .int m_fault, .ref a_m_lifts, .ref a_m_price, .ref a_m_stood, .ref a_m_hands, .ref a_m_wanted, .int m_rooms, .int m_people, .int m_things, .int m_draftRooms, .int m_draftPeople, .int m_draftThings, .ref a_m_s, .ref a_m_kept, .ref a_m_isKept, .ref a_m_due, .int m_dueMany, .ref a_m_cost, .ref a_m_then, .ref a_m_by])), (a_m_hands, .inl (cI, 16, .inl m_hands)), (a_m_wanted, .inl (cI, 16, .inl m_wanted)), (a_m_s, .inl (cI, 21, .inl m_s))] sz) [(a_m, .inr (7, [.int q0, .long m_trace, .ref a_m_text, .int m_typed, .int m_next, .int m_token, .int m_place, .int m_value, .int m_fault, .ref a_m_lifts, .ref a_m_price, .ref a_m_stood, .ref a_m_hands, .ref a_m_wanted, .int m_rooms, .int m_people, .int m_things, .int m_draftRooms, .int m_draftPeople, .int m_draftThings, .ref a_m_s, .ref a_m_kept, .ref a_m_isKept, .ref a_m_due, .int m_dueMany, .ref a_m_cost, .ref a_m_then, .ref a_m_by])), (a_m_hands, .inl (cI, 16, .inl m_hands)), (a_m_wanted, .inl (cI, 16, .inl m_wanted)), (a_m_s, .inl (cI, 21, .inl m_s))]) (va_A [(a_m, .inr (7, [.int m_thrown, .long m_trace, .ref a_m_text, .int m_typed, .int m_next, .int m_token, .int m_place, .int m_value, .int m_fault, .ref a_m_lifts, .ref a_m_price, .ref a_m_stood, .ref a_m_hands, .ref a_m_wanted, .int m_rooms, .int m_people, .int m_things, .int m_draftRooms, .int m_draftPeople, .int m_draftThings, .ref a_m_s, .ref a_m_kept, .ref a_m_isKept, .ref a_m_due, .int m_dueMany, .ref a_m_cost, .ref a_m_then, .ref a_m_by])), (a_m_hands, .inl (cI, 16, .inl m_hands)), (a_m_wanted, .inl (cI, 16, .inl m_wanted)), (a_m_s, .inl (cI, 21, .inl m_s))] sz)) 0 0 (va_A [(a_m, .inr (7, [.int m_thrown, .long m_trace, .ref a_m_text, .int m_typed, .int m_next, .int m_token, .int m_place, .int m_value, .int m_fault, .ref a_m_lifts, .ref a_m_price, .ref a_m_stood, .ref a_m_hands, .ref a_m_wanted, .int m_rooms, .int m_people, .int m_things, .int m_draftRooms, .int m_draftPeople, .int m_draftThings, .ref a_m_s, .ref a_m_kept, .ref a_m_isKept, .ref a_m_due, .int m_dueMany, .ref a_m_cost, .ref a_m_then, .ref a_m_by])), (a_m_hands, .inl (cI, 16, .inl m_hands)), (a_m_wanted, .inl (cI, 16, .inl m_wanted)), (a_m_s, .inl (cI, 21, .inl m_s))] sz) := by
  refine met_i (cc := cX7_thing) (maxL := 3) (own := RX7) (by decide) rfl (Nat.le_of_ble_eq_true rfl) rfl (fun p e s m args below meth c Q A E hret ls H locs hl hw => ?_)
  obtain ⟨⟨hx, hb, hml, hown, hts⟩, hK, hN, hA, hX⟩ := id E
  have hl : lv_has ls 3 [(0, .ref a_m), (1, .int p1), (2, .int p2)] := hl
  have iX7 : ∀ w ∈ wsX70, w ∈ wsX7_thing := by decide +kernel
  have kf57 := hts (.fieldLink RX7 57 "FiveThingsModel" "thrown" "I") (by decide +kernel)
  have kf28 := hts (.fieldLink RX7 28 "FiveThingsModel" "s" "[I") (by decide +kernel)
  have kf25 := hts (.fieldLink RX7 25 "FiveThingsModel" "wanted" "[I") (by decide +kernel)
  have kf22 := hts (.fieldLink RX7 22 "FiveThingsModel" "hands" "[I") (by decide +kernel)
  unfold f_X7_thing at hf
  refine lv_aload_n hx hb dX7_thing_0 rfl (lv_at hl 0 rfl) ?_
  refine lv_iconst (v := (0 : Int32)) hx hb dX7_thing_1 rfl ?_
  refine r_put E hw iX7 tyX7_ok nmX7 0 0 rfl rfl (by decide) kf57 rfl rfl rfl rfl (Nat.le_of_ble_eq_true rfl) [(a_m, .inr (7, [.int (0 : Int32), .long m_trace, .ref a_m_text, .int m_typed, .int m_next, .int m_token, .int m_place, .int m_value, .int m_fault, .ref a_m_lifts, .ref a_m_price, .ref a_m_stood, .ref a_m_hands, .ref a_m_wanted, .int m_rooms, .int m_people, .int m_things, .int m_draftRooms, .int m_draftPeople, .int m_draftThings, .ref a_m_s, .ref a_m_kept, .ref a_m_isKept, .ref a_m_due, .int m_dueMany, .ref a_m_cost, .ref a_m_then, .ref a_m_by])), (a_m_hands, .inl (cI, 16, .inl m_hands)), (a_m_wanted, .inl (cI, 16, .inl m_wanted)), (a_m_s, .inl (cI, 21, .inl m_s))] rfl dX7_thing_2 (fun H locs hw => ?_)
  refine lv_aload_n hx hb dX7_thing_5 rfl (lv_at hl 0 rfl) ?_
  refine lv_iload_n hx hb dX7_thing_6 rfl (lv_at hl 1 rfl) ?_
  obtain ⟨r1, hu2, hf⟩ := bd1_some hf
  refine cl_i (wr := [(a_m_hands, .inl (cI, 16, .inl m_hands)), (a_m_wanted, .inl (cI, 16, .inl m_wanted)), (a_m_s, .inl (cI, 21, .inl m_s))]) (w2 := [(a_m, .inr (7, [.int (0 : Int32), .long m_trace, .ref a_m_text, .int m_typed, .int m_next, .int m_token, .int m_place, .int m_value, .int m_fault, .ref a_m_lifts, .ref a_m_price, .ref a_m_stood, .ref a_m_hands, .ref a_m_wanted, .int m_rooms, .int m_people, .int m_things, .int m_draftRooms, .int m_draftPeople, .int m_draftThings, .ref a_m_s, .ref a_m_kept, .ref a_m_isKept, .ref a_m_due, .int m_dueMany, .ref a_m_cost, .ref a_m_then, .ref a_m_by])), (a_m_hands, .inl (cI, 16, .inl m_hands)), (a_m_wanted, .inl (cI, 16, .inl m_wanted)), (a_m_s, .inl (cI, 21, .inl m_s))]) E hw [0] [1, 2, 3] [3, 0, 1, 2] (va_runV (As := [.int p1]) (rest := []) E.1 (c_X7_isThing l dC dI cI cB cZ aK aV a_m a_m_text a_m_lifts a_m_price a_m_stood a_m_hands a_m_wanted a_m_s a_m_kept a_m_isKept a_m_due a_m_cost a_m_then a_m_by H.size (0 : Int32) m_trace m_typed m_next m_token m_place m_value m_fault m_rooms m_people m_things m_draftRooms m_draftPeople m_draftThings m_dueMany p1 r1 hu2) (cwV 1 hts gX7_thing_X7_isThing rfl rfl rfl hd_X7_isThing ⟨Nat.le_of_ble_eq_true rfl, Nat.le_of_ble_eq_true rfl⟩) (pre_V E hw [0] rfl rfl rfl rfl) rfl rfl hl.1 rfl (lv_room (Nat.le_of_ble_eq_true rfl)) dX7_thing_7 ⟨Nat.zero_le _, Nat.zero_le _⟩) rfl rfl rfl (by decide) rfl rfl (fun H locs hw => ?_)
  refine lv_if_eq (tgt := 22) hx hb dX7_thing_10 (by decide) (fun kc => ?_) (fun kc => ?_)
  · have hf := if_t hf kc
    refine lv_iconst (v := (-1 : Int32)) hx hb dX7_thing_22 rfl ?_
    obtain ⟨rfl, rfl⟩ := sm2 hf
    exact hret H locs ls 23 hw dX7_thing_23
  · have hf := if_f hf kc
    refine lv_iload_n hx hb dX7_thing_13 rfl (lv_at hl 2 rfl) ?_
    refine lv_iconst (v := (0 : Int32)) hx hb dX7_thing_14 rfl ?_
    refine lv_iconst (v := (3 : Int32)) hx hb dX7_thing_15 rfl ?_
    obtain ⟨r3, hu4, hf⟩ := bd1_some hf
    refine cl_i (wr := [(a_m, .inr (7, [.int (0 : Int32), .long m_trace, .ref a_m_text, .int m_typed, .int m_next, .int m_token, .int m_place, .int m_value, .int m_fault, .ref a_m_lifts, .ref a_m_price, .ref a_m_stood, .ref a_m_hands, .ref a_m_wanted, .int m_rooms, .int m_people, .int m_things, .int m_draftRooms, .int m_draftPeople, .int m_draftThings, .ref a_m_s, .ref a_m_kept, .ref a_m_isKept, .ref a_m_due, .int m_dueMany, .ref a_m_cost, .ref a_m_then, .ref a_m_by])), (a_m_hands, .inl (cI, 16, .inl m_hands)), (a_m_wanted, .inl (cI, 16, .inl m_wanted)), (a_m_s, .inl (cI, 21, .inl m_s))]) (w2 := [(a_m, .inr (7, [.int (0 : Int32), .long m_trace, .ref a_m_text, .int m_typed, .int m_next, .int m_token, .int m_place, .int m_value, .int m_fault, .ref a_m_lifts, .ref a_m_price, .ref a_m_stood, .ref a_m_hands, .ref a_m_wanted, .int m_rooms, .int m_people, .int m_things, .int m_draftRooms, .int m_draftPeople, .int m_draftThings, .ref a_m_s, .ref a_m_kept, .ref a_m_isKept, .ref a_m_due, .int m_dueMany, .ref a_m_cost, .ref a_m_then, .ref a_m_by])), (a_m_hands, .inl (cI, 16, .inl m_hands)), (a_m_wanted, .inl (cI, 16, .inl m_wanted)), (a_m_s, .inl (cI, 21, .inl m_s))]) E hw [] [0, 1, 2, 3] [0, 1, 2, 3] (va_runS (As := [.int p2, .int (0 : Int32), .int (3 : Int32)]) (rest := []) E.1 (c_X7_in l dC dI cI cB cZ aK aV H.size p2 (0 : Int32) (3 : Int32) r3 hu4) (va_cwS 3 hts gX7_thing_X7_in rfl rfl rfl hd_X7_in ⟨Nat.le_of_ble_eq_true rfl, Nat.le_of_ble_eq_true rfl⟩) (pre_S E hw [] rfl rfl) rfl rfl hl.1 rfl (lv_room (Nat.le_of_ble_eq_true rfl)) dX7_thing_16 ⟨Nat.zero_le _, Nat.zero_le _⟩) rfl rfl rfl (by decide) rfl rfl (fun H locs hw => ?_)
    refine lv_if_ne (tgt := 24) hx hb dX7_thing_19 (by decide) (fun kc => ?_) (fun kc => ?_)
    · have hf := if_f hf kc
      refine lv_iload_n hx hb dX7_thing_24 rfl (lv_at hl 2 rfl) ?_
      refine lv_if_ne (tgt := 37) hx hb dX7_thing_25 (by decide) (fun kc => ?_) (fun kc => ?_)
      · have hf := if_f hf kc
        refine lv_iload_n hx hb dX7_thing_37 rfl (lv_at hl 2 rfl) ?_
        refine lv_iconst (v := (1 : Int32)) hx hb dX7_thing_38 rfl ?_
        refine lv_icmp_ne (tgt := 51) hx hb dX7_thing_39 (by decide) (fun kc => ?_) (fun kc => ?_)
        · have hf := if_f hf kc
          refine lv_iload_n hx hb dX7_thing_51 rfl (lv_at hl 2 rfl) ?_
          refine lv_iconst (v := (2 : Int32)) hx hb dX7_thing_52 rfl ?_
          refine lv_icmp_ne (tgt := 65) hx hb dX7_thing_53 (by decide) (fun kc => ?_) (fun kc => ?_)
          · have hf := if_f hf kc
            refine lv_aload_n hx hb dX7_thing_65 rfl (lv_at hl 0 rfl) ?_
            refine r_get E hw iX7 0 20 rfl rfl (by decide) kf28 rfl rfl dX7_thing_66 ?_
            refine lv_bipush (v := (8 : Int32)) hx hb dX7_thing_69 rfl ?_
            refine lv_iload_n hx hb dX7_thing_71 rfl (lv_at hl 1 rfl) ?_
            refine lv_iadd hx hb dX7_thing_72 ?_
            obtain ⟨g5, hf⟩ := gd_some hf
            refine r_iald E hw 3 rfl g5 dX7_thing_73 ?_
            obtain ⟨rfl, rfl⟩ := sm2 hf
            exact hret H locs ls 74 hw dX7_thing_74
          · have hf := if_t hf kc
            refine lv_aload_n hx hb dX7_thing_56 rfl (lv_at hl 0 rfl) ?_
            refine r_get E hw iX7 0 13 rfl rfl (by decide) kf25 rfl rfl dX7_thing_57 ?_
            refine lv_iload_n hx hb dX7_thing_60 rfl (lv_at hl 1 rfl) ?_
            obtain ⟨g6, hf⟩ := gd_some hf
            refine r_iald E hw 2 rfl g6 dX7_thing_61 ?_
            refine lv_goto (tgt := 74) hx hb dX7_thing_62 (by decide) ?_
            obtain ⟨rfl, rfl⟩ := sm2 hf
            exact hret H locs ls 74 hw dX7_thing_74
        · have hf := if_t hf kc
          refine lv_aload_n hx hb dX7_thing_42 rfl (lv_at hl 0 rfl) ?_
          refine r_get E hw iX7 0 12 rfl rfl (by decide) kf22 rfl rfl dX7_thing_43 ?_
          refine lv_iload_n hx hb dX7_thing_46 rfl (lv_at hl 1 rfl) ?_
          obtain ⟨g7, hf⟩ := gd_some hf
          refine r_iald E hw 1 rfl g7 dX7_thing_47 ?_
          refine lv_goto (tgt := 74) hx hb dX7_thing_48 (by decide) ?_
          obtain ⟨rfl, rfl⟩ := sm2 hf
          exact hret H locs ls 74 hw dX7_thing_74
      · have hf := if_t hf kc
        refine lv_aload_n hx hb dX7_thing_28 rfl (lv_at hl 0 rfl) ?_
        refine r_get E hw iX7 0 20 rfl rfl (by decide) kf28 rfl rfl dX7_thing_29 ?_
        refine lv_iload_n hx hb dX7_thing_32 rfl (lv_at hl 1 rfl) ?_
        obtain ⟨g8, hf⟩ := gd_some hf
        refine r_iald E hw 3 rfl g8 dX7_thing_33 ?_
        refine lv_goto (tgt := 74) hx hb dX7_thing_34 (by decide) ?_
        obtain ⟨rfl, rfl⟩ := sm2 hf
        exact hret H locs ls 74 hw dX7_thing_74
    · have hf := if_t hf kc
      refine lv_iconst (v := (-1 : Int32)) hx hb dX7_thing_22 rfl ?_
      obtain ⟨rfl, rfl⟩ := sm2 hf
      exact hret H locs ls 23 hw dX7_thing_23
def f_X7_areOne (p1 : Int32) (p2 : Int32) (m_s : Nat → Int32) : Option (Int32) :=
  jn (some ((1 : Int32))) (fun J40 => (if p1 = p2 then J40 else gd (inb ((8 : Int32) + p1) 21) (jn (some ((0 : Int32))) (fun J44 => (if (m_s ((8 : Int32) + p1).toNatClampNeg) = (-9 : Int32) then J44 else gd (inb ((8 : Int32) + p1) 21) (gd (inb ((8 : Int32) + p2) 21) ((if (m_s ((8 : Int32) + p1).toNatClampNeg) = (m_s ((8 : Int32) + p2).toNatClampNeg) then J40 else J44))))))))
theorem hd_X7_areOne : yX7_areOne.cls = RX7 ∧ yX7_areOne.cls ≠ "java/lang/invoke/MethodHandle" ∧ yX7_areOne.cls ≠ "java/lang/invoke/VarHandle" ∧ (parseMethodDescriptor yX7_areOne.desc).map (fun d => d.parameters.length) = some 2 := by decide +kernel
set_option maxHeartbeats 4000000 in
set_option maxRecDepth 100000 in
theorem c_X7_areOne (l : Launch) (dC : Nat → ClassId) (dI : Nat → Nat → Nat) (cI cB cZ : ClassId) (aK aV : Nat → Nat) (a_m a_m_text a_m_lifts a_m_price a_m_stood a_m_hands a_m_wanted a_m_s a_m_kept a_m_isKept a_m_due a_m_cost a_m_then a_m_by : Nat) (sz : Nat) (m_thrown : Int32) (m_trace : Int64) (m_typed : Int32) (m_next : Int32) (m_token : Int32) (m_place : Int32) (m_value : Int32) (m_fault : Int32) (m_rooms : Int32) (m_people : Int32) (m_things : Int32) (m_draftRooms : Int32) (m_draftPeople : Int32) (m_draftThings : Int32) (m_dueMany : Int32) (m_s : Nat → Int32) (p1 : Int32) (p2 : Int32) (r : Int32) (hf : f_X7_areOne p1 p2 m_s = some r) : Met l yX7_areOne wsX7_areOne ({ frames := 0, cells := 0, slots := 0, locals := 0 } : Jvm.Room) (va_Pc [.ref a_m, .int p1, .int p2] (preW (dC, dI) (tyL cI cB cZ) aK aV sz [(a_m, .inr (7, [.int m_thrown, .long m_trace, .ref a_m_text, .int m_typed, .int m_next, .int m_token, .int m_place, .int m_value, .int m_fault, .ref a_m_lifts, .ref a_m_price, .ref a_m_stood, .ref a_m_hands, .ref a_m_wanted, .int m_rooms, .int m_people, .int m_things, .int m_draftRooms, .int m_draftPeople, .int m_draftThings, .ref a_m_s, .ref a_m_kept, .ref a_m_isKept, .ref a_m_due, .int m_dueMany, .ref a_m_cost, .ref a_m_then, .ref a_m_by])), (a_m_s, .inl (cI, 21, .inl m_s))])) (va_Qi (fun v (_ : Unit) => v = r) (postW (dC, dI) (tyL cI cB cZ) (va_A [(a_m, .inr (7, [.int m_thrown, .long m_trace, .ref a_m_text, .int m_typed, .int m_next, .int m_token, .int m_place, .int m_value, .int m_fault, .ref a_m_lifts, .ref a_m_price, .ref a_m_stood, .ref a_m_hands, .ref a_m_wanted, .int m_rooms, .int m_people, .int m_things, .int m_draftRooms, .int m_draftPeople, .int m_draftThings, .ref a_m_s, .ref a_m_kept, .ref a_m_isKept, .ref a_m_due, .int m_dueMany, .ref a_m_cost, .ref a_m_then, .ref a_m_by])), (a_m_s, .inl (cI, 21, .inl m_s))] sz) [(a_m, .inr (7, [.int m_thrown, .long m_trace, .ref a_m_text, .int m_typed, .int m_next, .int m_token, .int m_place, .int m_value, .int m_fault, .ref a_m_lifts, .ref a_m_price, .ref a_m_stood, .ref a_m_hands, .ref a_m_wanted, .int m_rooms, .int m_people, .int m_things, .int m_draftRooms, .int m_draftPeople, .int m_draftThings, .ref a_m_s, .ref a_m_kept, .ref a_m_isKept, .ref a_m_due, .int m_dueMany, .ref a_m_cost, .ref a_m_then, .ref a_m_by])), (a_m_s, .inl (cI, 21, .inl m_s))]) (va_A [(a_m, .inr (7, [.int m_thrown, .long m_trace, .ref a_m_text, .int m_typed, .int m_next, .int m_token, .int m_place, .int m_value, .int m_fault, .ref a_m_lifts, .ref a_m_price, .ref a_m_stood, .ref a_m_hands, .ref a_m_wanted, .int m_rooms, .int m_people, .int m_things, .int m_draftRooms, .int m_draftPeople, .int m_draftThings, .ref a_m_s, .ref a_m_kept, .ref a_m_isKept, .ref a_m_due, .int m_dueMany, .ref a_m_cost, .ref a_m_then, .ref a_m_by])), (a_m_s, .inl (cI, 21, .inl m_s))] sz)) 0 0 (va_A [(a_m, .inr (7, [.int m_thrown, .long m_trace, .ref a_m_text, .int m_typed, .int m_next, .int m_token, .int m_place, .int m_value, .int m_fault, .ref a_m_lifts, .ref a_m_price, .ref a_m_stood, .ref a_m_hands, .ref a_m_wanted, .int m_rooms, .int m_people, .int m_things, .int m_draftRooms, .int m_draftPeople, .int m_draftThings, .ref a_m_s, .ref a_m_kept, .ref a_m_isKept, .ref a_m_due, .int m_dueMany, .ref a_m_cost, .ref a_m_then, .ref a_m_by])), (a_m_s, .inl (cI, 21, .inl m_s))] sz) := by
  refine met_z (cc := cX7_areOne) (maxL := 3) (own := RX7) (by decide) rfl (Nat.le_of_ble_eq_true rfl) rfl (fun p e s m args below meth c Q A E hret ls H locs hl hw => ?_)
  obtain ⟨⟨hx, hb, hml, hown, hts⟩, hK, hN, hA, hX⟩ := id E
  have hl : lv_has ls 3 [(0, .ref a_m), (1, .int p1), (2, .int p2)] := hl
  have iX7 : ∀ w ∈ wsX70, w ∈ wsX7_areOne := by decide +kernel
  have kf28 := hts (.fieldLink RX7 28 "FiveThingsModel" "s" "[I") (by decide +kernel)
  unfold f_X7_areOne at hf
  refine lv_iload_n hx hb dX7_areOne_0 rfl (lv_at hl 1 rfl) ?_
  refine lv_iload_n hx hb dX7_areOne_1 rfl (lv_at hl 2 rfl) ?_
  refine jn_sound (P := fun J => ∀ (ls : Array Slot) (H : Heap) (locs : List Loc), J = some r → lv_has ls 3 [] → Wd A s.heap (dC, dI) [(a_m, .inr (7, [.int m_thrown, .long m_trace, .ref a_m_text, .int m_typed, .int m_next, .int m_token, .int m_place, .int m_value, .int m_fault, .ref a_m_lifts, .ref a_m_price, .ref a_m_stood, .ref a_m_hands, .ref a_m_wanted, .int m_rooms, .int m_people, .int m_things, .int m_draftRooms, .int m_draftPeople, .int m_draftThings, .ref a_m_s, .ref a_m_kept, .ref a_m_isKept, .ref a_m_due, .int m_dueMany, .ref a_m_cost, .ref a_m_then, .ref a_m_by])), (a_m_s, .inl (cI, 21, .inl m_s))] H locs → W p l e ({ frames := 0, cells := 0, slots := 0, locals := 0 } : Jvm.Room) s m args below meth c H locs 0 0 Q (F0 m 40 ls [])) hf ?_ ?_
  · intro ls H locs hf hl hw
    refine lv_iconst (v := (1 : Int32)) hx hb dX7_areOne_40 rfl ?_
    refine lv_goto (tgt := 45) hx hb dX7_areOne_41 (by decide) ?_
    obtain rfl := sm1 hf
    exact hret H locs ls 45 hw (Or.inr rfl) dX7_areOne_45
  · intro J40 hJ40 hf
    refine lv_icmp_eq (tgt := 40) hx hb dX7_areOne_2 (by decide) (fun kc => ?_) (fun kc => ?_)
    · have hf := if_t hf kc
      exact hJ40 ls H locs hf (lv_sub hl [] rfl) hw
    · have hf := if_f hf kc
      refine lv_aload_n hx hb dX7_areOne_5 rfl (lv_at hl 0 rfl) ?_
      refine r_get E hw iX7 0 20 rfl rfl (by decide) kf28 rfl rfl dX7_areOne_6 ?_
      refine lv_bipush (v := (8 : Int32)) hx hb dX7_areOne_9 rfl ?_
      refine lv_iload_n hx hb dX7_areOne_11 rfl (lv_at hl 1 rfl) ?_
      refine lv_iadd hx hb dX7_areOne_12 ?_
      obtain ⟨g1, hf⟩ := gd_some hf
      refine r_iald E hw 1 rfl g1 dX7_areOne_13 ?_
      refine lv_bipush (v := (-9 : Int32)) hx hb dX7_areOne_14 rfl ?_
      refine jn_sound (P := fun J => ∀ (ls : Array Slot) (H : Heap) (locs : List Loc), J = some r → lv_has ls 3 [] → Wd A s.heap (dC, dI) [(a_m, .inr (7, [.int m_thrown, .long m_trace, .ref a_m_text, .int m_typed, .int m_next, .int m_token, .int m_place, .int m_value, .int m_fault, .ref a_m_lifts, .ref a_m_price, .ref a_m_stood, .ref a_m_hands, .ref a_m_wanted, .int m_rooms, .int m_people, .int m_things, .int m_draftRooms, .int m_draftPeople, .int m_draftThings, .ref a_m_s, .ref a_m_kept, .ref a_m_isKept, .ref a_m_due, .int m_dueMany, .ref a_m_cost, .ref a_m_then, .ref a_m_by])), (a_m_s, .inl (cI, 21, .inl m_s))] H locs → W p l e ({ frames := 0, cells := 0, slots := 0, locals := 0 } : Jvm.Room) s m args below meth c H locs 0 0 Q (F0 m 44 ls [])) hf ?_ ?_
      · intro ls H locs hf hl hw
        refine lv_iconst (v := (0 : Int32)) hx hb dX7_areOne_44 rfl ?_
        obtain rfl := sm1 hf
        exact hret H locs ls 45 hw (Or.inl rfl) dX7_areOne_45
      · intro J44 hJ44 hf
        refine lv_icmp_eq (tgt := 44) hx hb dX7_areOne_16 (by decide) (fun kc => ?_) (fun kc => ?_)
        · have hf := if_t hf kc
          exact hJ44 ls H locs hf (lv_sub hl [] rfl) hw
        · have hf := if_f hf kc
          refine lv_aload_n hx hb dX7_areOne_19 rfl (lv_at hl 0 rfl) ?_
          refine r_get E hw iX7 0 20 rfl rfl (by decide) kf28 rfl rfl dX7_areOne_20 ?_
          refine lv_bipush (v := (8 : Int32)) hx hb dX7_areOne_23 rfl ?_
          refine lv_iload_n hx hb dX7_areOne_25 rfl (lv_at hl 1 rfl) ?_
          refine lv_iadd hx hb dX7_areOne_26 ?_
          obtain ⟨g2, hf⟩ := gd_some hf
          refine r_iald E hw 1 rfl g2 dX7_areOne_27 ?_
          refine lv_aload_n hx hb dX7_areOne_28 rfl (lv_at hl 0 rfl) ?_
          refine r_get E hw iX7 0 20 rfl rfl (by decide) kf28 rfl rfl dX7_areOne_29 ?_
          refine lv_bipush (v := (8 : Int32)) hx hb dX7_areOne_32 rfl ?_
          refine lv_iload_n hx hb dX7_areOne_34 rfl (lv_at hl 2 rfl) ?_
          refine lv_iadd hx hb dX7_areOne_35 ?_
          obtain ⟨g3, hf⟩ := gd_some hf
          refine r_iald E hw 1 rfl g3 dX7_areOne_36 ?_
          refine lv_icmp_ne (tgt := 44) hx hb dX7_areOne_37 (by decide) (fun kc => ?_) (fun kc => ?_)
          · have hf := if_f hf kc
            exact hJ44 ls H locs hf (lv_sub hl [] rfl) hw
          · have hf := if_t hf kc
            exact hJ40 ls H locs hf (lv_sub hl [] rfl) hw
def f_X7_handsOf (p1 : Int32) (m_things : Int32) (m_hands : Nat → Int32) (m_s : Nat → Int32) : Option (Int32) :=
  loop2 (fun B4 (x6 : Int32) (x7 : Int32) => (if m_things ≤ x7 then some (x6) else bd1 (f_X7_areOne p1 x7 m_s) (fun r8 => (if r8 = 0 then B4 x6 (x7 + (1 : Int32)) else gd (inb x7 16) (bd1 (f_X7_greater x6 (m_hands x7.toNatClampNeg)) (fun r11 => B4 r11 (x7 + (1 : Int32)))))))) FU (0 : Int32) (0 : Int32)
theorem hd_X7_handsOf : yX7_handsOf.cls = RX7 ∧ yX7_handsOf.cls ≠ "java/lang/invoke/MethodHandle" ∧ yX7_handsOf.cls ≠ "java/lang/invoke/VarHandle" ∧ (parseMethodDescriptor yX7_handsOf.desc).map (fun d => d.parameters.length) = some 1 := by decide +kernel
set_option maxHeartbeats 4000000 in
set_option maxRecDepth 100000 in
theorem c_X7_handsOf (l : Launch) (dC : Nat → ClassId) (dI : Nat → Nat → Nat) (cI cB cZ : ClassId) (aK aV : Nat → Nat) (a_m a_m_text a_m_lifts a_m_price a_m_stood a_m_hands a_m_wanted a_m_s a_m_kept a_m_isKept a_m_due a_m_cost a_m_then a_m_by : Nat) (sz : Nat) (m_thrown : Int32) (m_trace : Int64) (m_typed : Int32) (m_next : Int32) (m_token : Int32) (m_place : Int32) (m_value : Int32) (m_fault : Int32) (m_rooms : Int32) (m_people : Int32) (m_things : Int32) (m_draftRooms : Int32) (m_draftPeople : Int32) (m_draftThings : Int32) (m_dueMany : Int32) (m_hands : Nat → Int32) (m_s : Nat → Int32) (p1 : Int32) (r : Int32) (hf : f_X7_handsOf p1 m_things m_hands m_s = some r) : Met l yX7_handsOf wsX7_handsOf ({ frames := 1, cells := 0, slots := 0, locals := 22 } : Jvm.Room) (va_Pc [.ref a_m, .int p1] (preW (dC, dI) (tyL cI cB cZ) aK aV sz [(a_m, .inr (7, [.int m_thrown, .long m_trace, .ref a_m_text, .int m_typed, .int m_next, .int m_token, .int m_place, .int m_value, .int m_fault, .ref a_m_lifts, .ref a_m_price, .ref a_m_stood, .ref a_m_hands, .ref a_m_wanted, .int m_rooms, .int m_people, .int m_things, .int m_draftRooms, .int m_draftPeople, .int m_draftThings, .ref a_m_s, .ref a_m_kept, .ref a_m_isKept, .ref a_m_due, .int m_dueMany, .ref a_m_cost, .ref a_m_then, .ref a_m_by])), (a_m_hands, .inl (cI, 16, .inl m_hands)), (a_m_s, .inl (cI, 21, .inl m_s))])) (va_Qi (fun v (_ : Unit) => v = r) (postW (dC, dI) (tyL cI cB cZ) (va_A [(a_m, .inr (7, [.int m_thrown, .long m_trace, .ref a_m_text, .int m_typed, .int m_next, .int m_token, .int m_place, .int m_value, .int m_fault, .ref a_m_lifts, .ref a_m_price, .ref a_m_stood, .ref a_m_hands, .ref a_m_wanted, .int m_rooms, .int m_people, .int m_things, .int m_draftRooms, .int m_draftPeople, .int m_draftThings, .ref a_m_s, .ref a_m_kept, .ref a_m_isKept, .ref a_m_due, .int m_dueMany, .ref a_m_cost, .ref a_m_then, .ref a_m_by])), (a_m_hands, .inl (cI, 16, .inl m_hands)), (a_m_s, .inl (cI, 21, .inl m_s))] sz) [(a_m, .inr (7, [.int m_thrown, .long m_trace, .ref a_m_text, .int m_typed, .int m_next, .int m_token, .int m_place, .int m_value, .int m_fault, .ref a_m_lifts, .ref a_m_price, .ref a_m_stood, .ref a_m_hands, .ref a_m_wanted, .int m_rooms, .int m_people, .int m_things, .int m_draftRooms, .int m_draftPeople, .int m_draftThings, .ref a_m_s, .ref a_m_kept, .ref a_m_isKept, .ref a_m_due, .int m_dueMany, .ref a_m_cost, .ref a_m_then, .ref a_m_by])), (a_m_hands, .inl (cI, 16, .inl m_hands)), (a_m_s, .inl (cI, 21, .inl m_s))]) (va_A [(a_m, .inr (7, [.int m_thrown, .long m_trace, .ref a_m_text, .int m_typed, .int m_next, .int m_token, .int m_place, .int m_value, .int m_fault, .ref a_m_lifts, .ref a_m_price, .ref a_m_stood, .ref a_m_hands, .ref a_m_wanted, .int m_rooms, .int m_people, .int m_things, .int m_draftRooms, .int m_draftPeople, .int m_draftThings, .ref a_m_s, .ref a_m_kept, .ref a_m_isKept, .ref a_m_due, .int m_dueMany, .ref a_m_cost, .ref a_m_then, .ref a_m_by])), (a_m_hands, .inl (cI, 16, .inl m_hands)), (a_m_s, .inl (cI, 21, .inl m_s))] sz)) 0 0 (va_A [(a_m, .inr (7, [.int m_thrown, .long m_trace, .ref a_m_text, .int m_typed, .int m_next, .int m_token, .int m_place, .int m_value, .int m_fault, .ref a_m_lifts, .ref a_m_price, .ref a_m_stood, .ref a_m_hands, .ref a_m_wanted, .int m_rooms, .int m_people, .int m_things, .int m_draftRooms, .int m_draftPeople, .int m_draftThings, .ref a_m_s, .ref a_m_kept, .ref a_m_isKept, .ref a_m_due, .int m_dueMany, .ref a_m_cost, .ref a_m_then, .ref a_m_by])), (a_m_hands, .inl (cI, 16, .inl m_hands)), (a_m_s, .inl (cI, 21, .inl m_s))] sz) := by
  refine met_i (cc := cX7_handsOf) (maxL := 4) (own := RX7) (by decide) rfl (Nat.le_of_ble_eq_true rfl) rfl (fun p e s m args below meth c Q A E hret ls H locs hl hw => ?_)
  obtain ⟨⟨hx, hb, hml, hown, hts⟩, hK, hN, hA, hX⟩ := id E
  have hl : lv_has ls 4 [(0, .ref a_m), (1, .int p1)] := hl
  have iX7 : ∀ w ∈ wsX70, w ∈ wsX7_handsOf := by decide +kernel
  have kf133 := hts (.fieldLink RX7 133 "FiveThingsModel" "things" "I") (by decide +kernel)
  have kf22 := hts (.fieldLink RX7 22 "FiveThingsModel" "hands" "[I") (by decide +kernel)
  unfold f_X7_handsOf at hf
  refine lv_iconst (v := (0 : Int32)) hx hb dX7_handsOf_0 rfl ?_
  refine lv_istore_n (lv' := [(2, .int (0 : Int32)), (0, .ref a_m), (1, .int p1)]) hx hb dX7_handsOf_1 rfl hl (by decide) rfl (fun ls hl => ?_)
  refine lv_iconst (v := (0 : Int32)) hx hb dX7_handsOf_2 rfl ?_
  refine lv_istore_n (lv' := [(3, .int (0 : Int32)), (2, .int (0 : Int32)), (0, .ref a_m), (1, .int p1)]) hx hb dX7_handsOf_3 rfl hl (by decide) rfl (fun ls hl => ?_)
  refine (loop2_sound (r := r) (P := fun (x6 : Int32) (x7 : Int32) => ∀ (ls : Array Slot) (H : Heap) (locs : List Loc), lv_has ls 4 [(3, .int x7), (2, .int x6), (0, .ref a_m), (1, .int p1)] → Wd A s.heap (dC, dI) [(a_m, .inr (7, [.int m_thrown, .long m_trace, .ref a_m_text, .int m_typed, .int m_next, .int m_token, .int m_place, .int m_value, .int m_fault, .ref a_m_lifts, .ref a_m_price, .ref a_m_stood, .ref a_m_hands, .ref a_m_wanted, .int m_rooms, .int m_people, .int m_things, .int m_draftRooms, .int m_draftPeople, .int m_draftThings, .ref a_m_s, .ref a_m_kept, .ref a_m_isKept, .ref a_m_due, .int m_dueMany, .ref a_m_cost, .ref a_m_then, .ref a_m_by])), (a_m_hands, .inl (cI, 16, .inl m_hands)), (a_m_s, .inl (cI, 21, .inl m_s))] H locs → W p l e ({ frames := 1, cells := 0, slots := 0, locals := 22 } : Jvm.Room) s m args below meth c H locs 0 0 Q (F0 m 4 ls [])) (fun B4 x6 x7 ih4 hf => ?_) _ (0 : Int32) (0 : Int32) hf) ls H locs (lv_sub hl [0, 1, 2, 3] rfl) hw
  intro ls H locs hl hw
  refine lv_iload_n hx hb dX7_handsOf_4 rfl (lv_at hl 0 rfl) ?_
  refine lv_aload_n hx hb dX7_handsOf_5 rfl (lv_at hl 2 rfl) ?_
  refine r_get E hw iX7 0 16 rfl rfl (by decide) kf133 rfl rfl dX7_handsOf_6 ?_
  refine lv_icmp_ge (tgt := 42) hx hb dX7_handsOf_9 (by decide) (fun kc => ?_) (fun kc => ?_)
  · have hf := if_t hf kc
    refine lv_iload_n hx hb dX7_handsOf_42 rfl (lv_at hl 1 rfl) ?_
    obtain rfl := sm1 hf
    exact hret H locs ls 43 hw dX7_handsOf_43
  · have hf := if_f hf kc
    refine lv_aload_n hx hb dX7_handsOf_12 rfl (lv_at hl 2 rfl) ?_
    refine lv_iload_n hx hb dX7_handsOf_13 rfl (lv_at hl 3 rfl) ?_
    refine lv_iload_n hx hb dX7_handsOf_14 rfl (lv_at hl 0 rfl) ?_
    obtain ⟨r8, hu9, hf⟩ := bd1_some hf
    refine cl_i (wr := [(a_m_hands, .inl (cI, 16, .inl m_hands))]) (w2 := [(a_m, .inr (7, [.int m_thrown, .long m_trace, .ref a_m_text, .int m_typed, .int m_next, .int m_token, .int m_place, .int m_value, .int m_fault, .ref a_m_lifts, .ref a_m_price, .ref a_m_stood, .ref a_m_hands, .ref a_m_wanted, .int m_rooms, .int m_people, .int m_things, .int m_draftRooms, .int m_draftPeople, .int m_draftThings, .ref a_m_s, .ref a_m_kept, .ref a_m_isKept, .ref a_m_due, .int m_dueMany, .ref a_m_cost, .ref a_m_then, .ref a_m_by])), (a_m_hands, .inl (cI, 16, .inl m_hands)), (a_m_s, .inl (cI, 21, .inl m_s))]) E hw [0, 2] [1] [1, 0, 2] (va_runV (As := [.int p1, .int x7]) (rest := []) E.1 (c_X7_areOne l dC dI cI cB cZ aK aV a_m a_m_text a_m_lifts a_m_price a_m_stood a_m_hands a_m_wanted a_m_s a_m_kept a_m_isKept a_m_due a_m_cost a_m_then a_m_by H.size m_thrown m_trace m_typed m_next m_token m_place m_value m_fault m_rooms m_people m_things m_draftRooms m_draftPeople m_draftThings m_dueMany m_s p1 x7 r8 hu9) (cwV 2 hts gX7_handsOf_X7_areOne rfl rfl rfl hd_X7_areOne ⟨Nat.le_of_ble_eq_true rfl, Nat.le_of_ble_eq_true rfl⟩) (pre_V E hw [0, 2] rfl rfl rfl rfl) rfl rfl hl.1 rfl (lv_room (Nat.le_of_ble_eq_true rfl)) dX7_handsOf_15 ⟨Nat.zero_le _, Nat.zero_le _⟩) rfl rfl rfl (by decide) rfl rfl (fun H locs hw => ?_)
    refine lv_if_eq (tgt := 34) hx hb dX7_handsOf_18 (by decide) (fun kc => ?_) (fun kc => ?_)
    · have hf := if_t hf kc
      refine lv_iload_n hx hb dX7_handsOf_34 rfl (lv_at hl 1 rfl) ?_
      refine lv_istore_n (lv' := [(2, .int x6), (3, .int x7), (0, .ref a_m), (1, .int p1)]) hx hb dX7_handsOf_35 rfl hl (by decide) rfl (fun ls hl => ?_)
      refine lv_iinc (v := (x7 + (1 : Int32))) (lv' := [(3, .int (x7 + (1 : Int32))), (2, .int x6), (0, .ref a_m), (1, .int p1)]) hx hb dX7_handsOf_36 hl (k := 1) rfl rfl (by decide) rfl (fun ls hl => ?_)
      refine lv_goto (tgt := 4) hx hb dX7_handsOf_39 (by decide) ?_
      exact ih4 x6 (x7 + (1 : Int32)) hf ls H locs (lv_sub hl [0, 1, 2, 3] rfl) hw
    · have hf := if_f hf kc
      refine lv_iload_n hx hb dX7_handsOf_21 rfl (lv_at hl 1 rfl) ?_
      refine lv_aload_n hx hb dX7_handsOf_22 rfl (lv_at hl 2 rfl) ?_
      refine r_get E hw iX7 0 12 rfl rfl (by decide) kf22 rfl rfl dX7_handsOf_23 ?_
      refine lv_iload_n hx hb dX7_handsOf_26 rfl (lv_at hl 0 rfl) ?_
      obtain ⟨g10, hf⟩ := gd_some hf
      refine r_iald E hw 1 rfl g10 dX7_handsOf_27 ?_
      obtain ⟨r11, hu12, hf⟩ := bd1_some hf
      refine cl_i (wr := [(a_m, .inr (7, [.int m_thrown, .long m_trace, .ref a_m_text, .int m_typed, .int m_next, .int m_token, .int m_place, .int m_value, .int m_fault, .ref a_m_lifts, .ref a_m_price, .ref a_m_stood, .ref a_m_hands, .ref a_m_wanted, .int m_rooms, .int m_people, .int m_things, .int m_draftRooms, .int m_draftPeople, .int m_draftThings, .ref a_m_s, .ref a_m_kept, .ref a_m_isKept, .ref a_m_due, .int m_dueMany, .ref a_m_cost, .ref a_m_then, .ref a_m_by])), (a_m_hands, .inl (cI, 16, .inl m_hands)), (a_m_s, .inl (cI, 21, .inl m_s))]) (w2 := [(a_m, .inr (7, [.int m_thrown, .long m_trace, .ref a_m_text, .int m_typed, .int m_next, .int m_token, .int m_place, .int m_value, .int m_fault, .ref a_m_lifts, .ref a_m_price, .ref a_m_stood, .ref a_m_hands, .ref a_m_wanted, .int m_rooms, .int m_people, .int m_things, .int m_draftRooms, .int m_draftPeople, .int m_draftThings, .ref a_m_s, .ref a_m_kept, .ref a_m_isKept, .ref a_m_due, .int m_dueMany, .ref a_m_cost, .ref a_m_then, .ref a_m_by])), (a_m_hands, .inl (cI, 16, .inl m_hands)), (a_m_s, .inl (cI, 21, .inl m_s))]) E hw [] [0, 1, 2] [0, 1, 2] (va_runS (As := [.int x6, .int (m_hands x7.toNatClampNeg)]) (rest := []) E.1 (c_X7_greater l dC dI cI cB cZ aK aV H.size x6 (m_hands x7.toNatClampNeg) r11 hu12) (va_cwS 2 hts gX7_handsOf_X7_greater rfl rfl rfl hd_X7_greater ⟨Nat.le_of_ble_eq_true rfl, Nat.le_of_ble_eq_true rfl⟩) (pre_S E hw [] rfl rfl) rfl rfl hl.1 rfl (lv_room (Nat.le_of_ble_eq_true rfl)) dX7_handsOf_28 ⟨Nat.zero_le _, Nat.zero_le _⟩) rfl rfl rfl (by decide) rfl rfl (fun H locs hw => ?_)
      refine lv_goto (tgt := 35) hx hb dX7_handsOf_31 (by decide) ?_
      refine lv_istore_n (lv' := [(2, .int r11), (3, .int x7), (0, .ref a_m), (1, .int p1)]) hx hb dX7_handsOf_35 rfl hl (by decide) rfl (fun ls hl => ?_)
      refine lv_iinc (v := (x7 + (1 : Int32))) (lv' := [(3, .int (x7 + (1 : Int32))), (2, .int r11), (0, .ref a_m), (1, .int p1)]) hx hb dX7_handsOf_36 hl (k := 1) rfl rfl (by decide) rfl (fun ls hl => ?_)
      refine lv_goto (tgt := 4) hx hb dX7_handsOf_39 (by decide) ?_
      exact ih4 r11 (x7 + (1 : Int32)) hf ls H locs (lv_sub hl [0, 1, 2, 3] rfl) hw
def f_X7_ones (p0 : Int32) : Option (Int32) :=
  loop2 (fun B4 (x2 : Int32) (x3 : Int32) => (if (8 : Int32) ≤ x3 then some (x2) else B4 (x2 + ((p0 >>> (x3 &&& 31)) &&& (1 : Int32))) (x3 + (1 : Int32)))) FU (0 : Int32) (0 : Int32)
theorem hd_X7_ones : yX7_ones.cls ≠ "java/lang/invoke/MethodHandle" ∧ yX7_ones.cls ≠ "java/lang/invoke/VarHandle" ∧ (parseMethodDescriptor yX7_ones.desc).map (fun d => d.parameters.length) = some 1 := by decide +kernel
set_option maxHeartbeats 4000000 in
set_option maxRecDepth 100000 in
theorem c_X7_ones (l : Launch) (dC : Nat → ClassId) (dI : Nat → Nat → Nat) (cI cB cZ : ClassId) (aK aV : Nat → Nat) (sz : Nat) (p0 : Int32) (r : Int32) (hf : f_X7_ones p0 = some r) : Met l yX7_ones wsX7_ones ({ frames := 0, cells := 0, slots := 0, locals := 0 } : Jvm.Room) (va_Pc [.int p0] (preW (dC, dI) (tyL cI cB cZ) aK aV sz [])) (va_Qi (fun v (_ : Unit) => v = r) (postW (dC, dI) (tyL cI cB cZ) (va_A [] sz) []) (va_A [] sz)) 0 0 (va_A [] sz) := by
  refine met_i (cc := cX7_ones) (maxL := 3) (own := RX7) (by decide) rfl (Nat.le_of_ble_eq_true rfl) rfl (fun p e s m args below meth c Q A E hret ls H locs hl hw => ?_)
  obtain ⟨⟨hx, hb, hml, hown, hts⟩, hK, hN, hA, hX⟩ := id E
  have hl : lv_has ls 3 [(0, .int p0)] := hl
  unfold f_X7_ones at hf
  refine lv_iconst (v := (0 : Int32)) hx hb dX7_ones_0 rfl ?_
  refine lv_istore_n (lv' := [(1, .int (0 : Int32)), (0, .int p0)]) hx hb dX7_ones_1 rfl hl (by decide) rfl (fun ls hl => ?_)
  refine lv_iconst (v := (0 : Int32)) hx hb dX7_ones_2 rfl ?_
  refine lv_istore_n (lv' := [(2, .int (0 : Int32)), (1, .int (0 : Int32)), (0, .int p0)]) hx hb dX7_ones_3 rfl hl (by decide) rfl (fun ls hl => ?_)
  refine (loop2_sound (r := r) (P := fun (x2 : Int32) (x3 : Int32) => ∀ (ls : Array Slot) (H : Heap) (locs : List Loc), lv_has ls 3 [(2, .int x3), (1, .int x2), (0, .int p0)] → Wd A s.heap (dC, dI) [] H locs → W p l e ({ frames := 0, cells := 0, slots := 0, locals := 0 } : Jvm.Room) s m args below meth c H locs 0 0 Q (F0 m 4 ls [])) (fun B4 x2 x3 ih4 hf => ?_) _ (0 : Int32) (0 : Int32) hf) ls H locs (lv_sub hl [0, 1, 2] rfl) hw
  intro ls H locs hl hw
  refine lv_iload_n hx hb dX7_ones_4 rfl (lv_at hl 0 rfl) ?_
  refine lv_bipush (v := (8 : Int32)) hx hb dX7_ones_5 rfl ?_
  refine lv_icmp_ge (tgt := 24) hx hb dX7_ones_7 (by decide) (fun kc => ?_) (fun kc => ?_)
  · have hf := if_t hf kc
    refine lv_iload_n hx hb dX7_ones_24 rfl (lv_at hl 1 rfl) ?_
    obtain rfl := sm1 hf
    exact hret H locs ls 25 hw dX7_ones_25
  · have hf := if_f hf kc
    refine lv_iload_n hx hb dX7_ones_10 rfl (lv_at hl 1 rfl) ?_
    refine lv_iload_n hx hb dX7_ones_11 rfl (lv_at hl 2 rfl) ?_
    refine lv_iload_n hx hb dX7_ones_12 rfl (lv_at hl 0 rfl) ?_
    refine lv_ishr hx hb dX7_ones_13 ?_
    refine lv_iconst (v := (1 : Int32)) hx hb dX7_ones_14 rfl ?_
    refine lv_iand hx hb dX7_ones_15 ?_
    refine lv_iadd hx hb dX7_ones_16 ?_
    refine lv_istore_n (lv' := [(1, .int (x2 + ((p0 >>> (x3 &&& 31)) &&& (1 : Int32)))), (2, .int x3), (0, .int p0)]) hx hb dX7_ones_17 rfl hl (by decide) rfl (fun ls hl => ?_)
    refine lv_iinc (v := (x3 + (1 : Int32))) (lv' := [(2, .int (x3 + (1 : Int32))), (1, .int (x2 + ((p0 >>> (x3 &&& 31)) &&& (1 : Int32)))), (0, .int p0)]) hx hb dX7_ones_18 hl (k := 1) rfl rfl (by decide) rfl (fun ls hl => ?_)
    refine lv_goto (tgt := 4) hx hb dX7_ones_21 (by decide) ?_
    exact ih4 (x2 + ((p0 >>> (x3 &&& 31)) &&& (1 : Int32))) (x3 + (1 : Int32)) hf ls H locs (lv_sub hl [0, 1, 2] rfl) hw
def f_X7_isJob (p1 : Int32) (m_s : Nat → Int32) : Option (Int32) :=
  gd (inb ((8 : Int32) + p1) 21) (jn (some ((1 : Int32))) (fun J27 => (if (m_s ((8 : Int32) + p1).toNatClampNeg) = (-9 : Int32) then J27 else gd (inb ((8 : Int32) + p1) 21) ((if (m_s ((8 : Int32) + p1).toNatClampNeg) = p1 then J27 else some ((0 : Int32)))))))
theorem hd_X7_isJob : yX7_isJob.cls = RX7 ∧ yX7_isJob.cls ≠ "java/lang/invoke/MethodHandle" ∧ yX7_isJob.cls ≠ "java/lang/invoke/VarHandle" ∧ (parseMethodDescriptor yX7_isJob.desc).map (fun d => d.parameters.length) = some 1 := by decide +kernel
set_option maxHeartbeats 4000000 in
set_option maxRecDepth 100000 in
theorem c_X7_isJob (l : Launch) (dC : Nat → ClassId) (dI : Nat → Nat → Nat) (cI cB cZ : ClassId) (aK aV : Nat → Nat) (a_m a_m_text a_m_lifts a_m_price a_m_stood a_m_hands a_m_wanted a_m_s a_m_kept a_m_isKept a_m_due a_m_cost a_m_then a_m_by : Nat) (sz : Nat) (m_thrown : Int32) (m_trace : Int64) (m_typed : Int32) (m_next : Int32) (m_token : Int32) (m_place : Int32) (m_value : Int32) (m_fault : Int32) (m_rooms : Int32) (m_people : Int32) (m_things : Int32) (m_draftRooms : Int32) (m_draftPeople : Int32) (m_draftThings : Int32) (m_dueMany : Int32) (m_s : Nat → Int32) (p1 : Int32) (r : Int32) (hf : f_X7_isJob p1 m_s = some r) : Met l yX7_isJob wsX7_isJob ({ frames := 0, cells := 0, slots := 0, locals := 0 } : Jvm.Room) (va_Pc [.ref a_m, .int p1] (preW (dC, dI) (tyL cI cB cZ) aK aV sz [(a_m, .inr (7, [.int m_thrown, .long m_trace, .ref a_m_text, .int m_typed, .int m_next, .int m_token, .int m_place, .int m_value, .int m_fault, .ref a_m_lifts, .ref a_m_price, .ref a_m_stood, .ref a_m_hands, .ref a_m_wanted, .int m_rooms, .int m_people, .int m_things, .int m_draftRooms, .int m_draftPeople, .int m_draftThings, .ref a_m_s, .ref a_m_kept, .ref a_m_isKept, .ref a_m_due, .int m_dueMany, .ref a_m_cost, .ref a_m_then, .ref a_m_by])), (a_m_s, .inl (cI, 21, .inl m_s))])) (va_Qi (fun v (_ : Unit) => v = r) (postW (dC, dI) (tyL cI cB cZ) (va_A [(a_m, .inr (7, [.int m_thrown, .long m_trace, .ref a_m_text, .int m_typed, .int m_next, .int m_token, .int m_place, .int m_value, .int m_fault, .ref a_m_lifts, .ref a_m_price, .ref a_m_stood, .ref a_m_hands, .ref a_m_wanted, .int m_rooms, .int m_people, .int m_things, .int m_draftRooms, .int m_draftPeople, .int m_draftThings, .ref a_m_s, .ref a_m_kept, .ref a_m_isKept, .ref a_m_due, .int m_dueMany, .ref a_m_cost, .ref a_m_then, .ref a_m_by])), (a_m_s, .inl (cI, 21, .inl m_s))] sz) [(a_m, .inr (7, [.int m_thrown, .long m_trace, .ref a_m_text, .int m_typed, .int m_next, .int m_token, .int m_place, .int m_value, .int m_fault, .ref a_m_lifts, .ref a_m_price, .ref a_m_stood, .ref a_m_hands, .ref a_m_wanted, .int m_rooms, .int m_people, .int m_things, .int m_draftRooms, .int m_draftPeople, .int m_draftThings, .ref a_m_s, .ref a_m_kept, .ref a_m_isKept, .ref a_m_due, .int m_dueMany, .ref a_m_cost, .ref a_m_then, .ref a_m_by])), (a_m_s, .inl (cI, 21, .inl m_s))]) (va_A [(a_m, .inr (7, [.int m_thrown, .long m_trace, .ref a_m_text, .int m_typed, .int m_next, .int m_token, .int m_place, .int m_value, .int m_fault, .ref a_m_lifts, .ref a_m_price, .ref a_m_stood, .ref a_m_hands, .ref a_m_wanted, .int m_rooms, .int m_people, .int m_things, .int m_draftRooms, .int m_draftPeople, .int m_draftThings, .ref a_m_s, .ref a_m_kept, .ref a_m_isKept, .ref a_m_due, .int m_dueMany, .ref a_m_cost, .ref a_m_then, .ref a_m_by])), (a_m_s, .inl (cI, 21, .inl m_s))] sz)) 0 0 (va_A [(a_m, .inr (7, [.int m_thrown, .long m_trace, .ref a_m_text, .int m_typed, .int m_next, .int m_token, .int m_place, .int m_value, .int m_fault, .ref a_m_lifts, .ref a_m_price, .ref a_m_stood, .ref a_m_hands, .ref a_m_wanted, .int m_rooms, .int m_people, .int m_things, .int m_draftRooms, .int m_draftPeople, .int m_draftThings, .ref a_m_s, .ref a_m_kept, .ref a_m_isKept, .ref a_m_due, .int m_dueMany, .ref a_m_cost, .ref a_m_then, .ref a_m_by])), (a_m_s, .inl (cI, 21, .inl m_s))] sz) := by
  refine met_z (cc := cX7_isJob) (maxL := 2) (own := RX7) (by decide) rfl (Nat.le_of_ble_eq_true rfl) rfl (fun p e s m args below meth c Q A E hret ls H locs hl hw => ?_)
  obtain ⟨⟨hx, hb, hml, hown, hts⟩, hK, hN, hA, hX⟩ := id E
  have hl : lv_has ls 2 [(0, .ref a_m), (1, .int p1)] := hl
  have iX7 : ∀ w ∈ wsX70, w ∈ wsX7_isJob := by decide +kernel
  have kf28 := hts (.fieldLink RX7 28 "FiveThingsModel" "s" "[I") (by decide +kernel)
  unfold f_X7_isJob at hf
  refine lv_aload_n hx hb dX7_isJob_0 rfl (lv_at hl 0 rfl) ?_
  refine r_get E hw iX7 0 20 rfl rfl (by decide) kf28 rfl rfl dX7_isJob_1 ?_
  refine lv_bipush (v := (8 : Int32)) hx hb dX7_isJob_4 rfl ?_
  refine lv_iload_n hx hb dX7_isJob_6 rfl (lv_at hl 1 rfl) ?_
  refine lv_iadd hx hb dX7_isJob_7 ?_
  obtain ⟨g1, hf⟩ := gd_some hf
  refine r_iald E hw 1 rfl g1 dX7_isJob_8 ?_
  refine lv_bipush (v := (-9 : Int32)) hx hb dX7_isJob_9 rfl ?_
  refine jn_sound (P := fun J => ∀ (ls : Array Slot) (H : Heap) (locs : List Loc), J = some r → lv_has ls 2 [] → Wd A s.heap (dC, dI) [(a_m, .inr (7, [.int m_thrown, .long m_trace, .ref a_m_text, .int m_typed, .int m_next, .int m_token, .int m_place, .int m_value, .int m_fault, .ref a_m_lifts, .ref a_m_price, .ref a_m_stood, .ref a_m_hands, .ref a_m_wanted, .int m_rooms, .int m_people, .int m_things, .int m_draftRooms, .int m_draftPeople, .int m_draftThings, .ref a_m_s, .ref a_m_kept, .ref a_m_isKept, .ref a_m_due, .int m_dueMany, .ref a_m_cost, .ref a_m_then, .ref a_m_by])), (a_m_s, .inl (cI, 21, .inl m_s))] H locs → W p l e ({ frames := 0, cells := 0, slots := 0, locals := 0 } : Jvm.Room) s m args below meth c H locs 0 0 Q (F0 m 27 ls [])) hf ?_ ?_
  · intro ls H locs hf hl hw
    refine lv_iconst (v := (1 : Int32)) hx hb dX7_isJob_27 rfl ?_
    refine lv_goto (tgt := 32) hx hb dX7_isJob_28 (by decide) ?_
    obtain rfl := sm1 hf
    exact hret H locs ls 32 hw (Or.inr rfl) dX7_isJob_32
  · intro J27 hJ27 hf
    refine lv_icmp_eq (tgt := 27) hx hb dX7_isJob_11 (by decide) (fun kc => ?_) (fun kc => ?_)
    · have hf := if_t hf kc
      exact hJ27 ls H locs hf (lv_sub hl [] rfl) hw
    · have hf := if_f hf kc
      refine lv_aload_n hx hb dX7_isJob_14 rfl (lv_at hl 0 rfl) ?_
      refine r_get E hw iX7 0 20 rfl rfl (by decide) kf28 rfl rfl dX7_isJob_15 ?_
      refine lv_bipush (v := (8 : Int32)) hx hb dX7_isJob_18 rfl ?_
      refine lv_iload_n hx hb dX7_isJob_20 rfl (lv_at hl 1 rfl) ?_
      refine lv_iadd hx hb dX7_isJob_21 ?_
      obtain ⟨g2, hf⟩ := gd_some hf
      refine r_iald E hw 1 rfl g2 dX7_isJob_22 ?_
      refine lv_iload_n hx hb dX7_isJob_23 rfl (lv_at hl 1 rfl) ?_
      refine lv_icmp_ne (tgt := 31) hx hb dX7_isJob_24 (by decide) (fun kc => ?_) (fun kc => ?_)
      · have hf := if_f hf kc
        refine lv_iconst (v := (0 : Int32)) hx hb dX7_isJob_31 rfl ?_
        obtain rfl := sm1 hf
        exact hret H locs ls 32 hw (Or.inl rfl) dX7_isJob_32
      · have hf := if_t hf kc
        exact hJ27 ls H locs hf (lv_sub hl [] rfl) hw
def f_X7_lifted (p1 : Int32) (p2 : Int32) (p3 : Int32) (m_rooms : Int32) (m_people : Int32) (m_things : Int32) (m_hands : Nat → Int32) (m_s : Nat → Int32) : Option (Int32 × Int32 × (Nat → Int32)) :=
  bd1 (f_X7_in p1 (0 : Int32) (((1 : Int32) <<< (m_people &&& 31)) - (1 : Int32))) (fun r1 => (if r1 = 0 then some ((-1 : Int32), (0 : Int32), m_s) else bd1 (f_X7_isThing p2 m_things) (fun r3 => (if r3 = 0 then some ((-1 : Int32), (0 : Int32), m_s) else bd1 (f_X7_isRoom p3 m_rooms) (fun r5 => (if r5 = 0 then some ((-1 : Int32), (0 : Int32), m_s) else gd (inb p2 21) (jn (fun (x12 : Int32) => loop2 (fun B71 (x38 : Int32) (x39 : Int32) => (if m_people ≤ x39 then (if x38 = 0 then some ((-2 : Int32), (0 : Int32), m_s) else loop2 (fun B131 (x51 : Int32) (x52 : Nat → Int32) => (if m_people ≤ x51 then loop3 (fun B171 (x56 : Int32) (x57 : Int32) (x58 : Nat → Int32) => (if m_things ≤ x57 then some (x56, (0 : Int32), x58) else bd1 (f_X7_areOne p2 x57 x58) (fun r59 => (if r59 = 0 then B171 x56 (x57 + (1 : Int32)) x58 else gd (inb x57 21) (B171 (x56 + (1 : Int32)) (x57 + (1 : Int32)) (upd x58 x57.toNatClampNeg p3)))))) FU (0 : Int32) (0 : Int32) x52 else gd (inb ((16 : Int32) + x51) 21) (gd (inb ((16 : Int32) + x51) 21) (B131 (x51 + (1 : Int32)) (upd x52 ((16 : Int32) + x51).toNatClampNeg ((x52 ((16 : Int32) + x51).toNatClampNeg) - ((p1 >>> (x51 &&& 31)) &&& (1 : Int32)))))))) FU (0 : Int32) m_s) else jn (B71 (0 : Int32) (x39 + (1 : Int32))) (fun J111 => (if x38 = 0 then J111 else jn (B71 (1 : Int32) (x39 + (1 : Int32))) (fun J107 => (if ((p1 >>> (x39 &&& 31)) &&& (1 : Int32)) = 0 then J107 else gd (inb ((16 : Int32) + x39) 21) ((if (m_s ((16 : Int32) + x39).toNatClampNeg) ≤ 0 then J111 else J107)))))))) FU x12 (0 : Int32)) (fun J66 => jn (J66 (0 : Int32)) (fun J65 => (if (m_s p2.toNatClampNeg) = p3 then J65 else bd1 (f_X7_ones p1) (fun r8 => bd1 (f_X7_handsOf p2 m_things m_hands m_s) (fun r10 => (if r8 = r10 then J66 (1 : Int32) else J65)))))))))))))
theorem hd_X7_lifted : yX7_lifted.cls = RX7 ∧ yX7_lifted.cls ≠ "java/lang/invoke/MethodHandle" ∧ yX7_lifted.cls ≠ "java/lang/invoke/VarHandle" ∧ (parseMethodDescriptor yX7_lifted.desc).map (fun d => d.parameters.length) = some 3 := by decide +kernel
set_option maxHeartbeats 4000000 in
set_option maxRecDepth 100000 in
theorem c_X7_lifted (l : Launch) (dC : Nat → ClassId) (dI : Nat → Nat → Nat) (cI cB cZ : ClassId) (aK aV : Nat → Nat) (a_m a_m_text a_m_lifts a_m_price a_m_stood a_m_hands a_m_wanted a_m_s a_m_kept a_m_isKept a_m_due a_m_cost a_m_then a_m_by : Nat) (sz : Nat) (m_thrown : Int32) (m_trace : Int64) (m_typed : Int32) (m_next : Int32) (m_token : Int32) (m_place : Int32) (m_value : Int32) (m_fault : Int32) (m_rooms : Int32) (m_people : Int32) (m_things : Int32) (m_draftRooms : Int32) (m_draftPeople : Int32) (m_draftThings : Int32) (m_dueMany : Int32) (m_hands : Nat → Int32) (m_s : Nat → Int32) (p1 : Int32) (p2 : Int32) (p3 : Int32) (r : Int32) (q0 : Int32) (q1 : Nat → Int32) (hf : f_X7_lifted p1 p2 p3 m_rooms m_people m_things m_hands m_s = some (r, q0, q1)) : Met l yX7_lifted wsX7_lifted ({ frames := 2, cells := 0, slots := 0, locals := 45 } : Jvm.Room) (va_Pc [.ref a_m, .int p1, .int p2, .int p3] (preW (dC, dI) (tyL cI cB cZ) aK aV sz [(a_m, .inr (7, [.int m_thrown, .long m_trace, .ref a_m_text, .int m_typed, .int m_next, .int m_token, .int m_place, .int m_value, .int m_fault, .ref a_m_lifts, .ref a_m_price, .ref a_m_stood, .ref a_m_hands, .ref a_m_wanted, .int m_rooms, .int m_people, .int m_things, .int m_draftRooms, .int m_draftPeople, .int m_draftThings, .ref a_m_s, .ref a_m_kept, .ref a_m_isKept, .ref a_m_due, .int m_dueMany, .ref a_m_cost, .ref a_m_then, .ref a_m_by])), (a_m_hands, .inl (cI, 16, .inl m_hands)), (a_m_s, .inl (cI, 21, .inl m_s))])) (va_Qi (fun v (_ : Unit) => v = r) (postW (dC, dI) (tyL cI cB cZ) (va_A [(a_m, .inr (7, [.int m_thrown, .long m_trace, .ref a_m_text, .int m_typed, .int m_next, .int m_token, .int m_place, .int m_value, .int m_fault, .ref a_m_lifts, .ref a_m_price, .ref a_m_stood, .ref a_m_hands, .ref a_m_wanted, .int m_rooms, .int m_people, .int m_things, .int m_draftRooms, .int m_draftPeople, .int m_draftThings, .ref a_m_s, .ref a_m_kept, .ref a_m_isKept, .ref a_m_due, .int m_dueMany, .ref a_m_cost, .ref a_m_then, .ref a_m_by])), (a_m_hands, .inl (cI, 16, .inl m_hands)), (a_m_s, .inl (cI, 21, .inl m_s))] sz) [(a_m, .inr (7, [.int q0, .long m_trace, .ref a_m_text, .int m_typed, .int m_next, .int m_token, .int m_place, .int m_value, .int m_fault, .ref a_m_lifts, .ref a_m_price, .ref a_m_stood, .ref a_m_hands, .ref a_m_wanted, .int m_rooms, .int m_people, .int m_things, .int m_draftRooms, .int m_draftPeople, .int m_draftThings, .ref a_m_s, .ref a_m_kept, .ref a_m_isKept, .ref a_m_due, .int m_dueMany, .ref a_m_cost, .ref a_m_then, .ref a_m_by])), (a_m_hands, .inl (cI, 16, .inl m_hands)), (a_m_s, .inl (cI, 21, .inl q1))]) (va_A [(a_m, .inr (7, [.int m_thrown, .long m_trace, .ref a_m_text, .int m_typed, .int m_next, .int m_token, .int m_place, .int m_value, .int m_fault, .ref a_m_lifts, .ref a_m_price, .ref a_m_stood, .ref a_m_hands, .ref a_m_wanted, .int m_rooms, .int m_people, .int m_things, .int m_draftRooms, .int m_draftPeople, .int m_draftThings, .ref a_m_s, .ref a_m_kept, .ref a_m_isKept, .ref a_m_due, .int m_dueMany, .ref a_m_cost, .ref a_m_then, .ref a_m_by])), (a_m_hands, .inl (cI, 16, .inl m_hands)), (a_m_s, .inl (cI, 21, .inl m_s))] sz)) 0 0 (va_A [(a_m, .inr (7, [.int m_thrown, .long m_trace, .ref a_m_text, .int m_typed, .int m_next, .int m_token, .int m_place, .int m_value, .int m_fault, .ref a_m_lifts, .ref a_m_price, .ref a_m_stood, .ref a_m_hands, .ref a_m_wanted, .int m_rooms, .int m_people, .int m_things, .int m_draftRooms, .int m_draftPeople, .int m_draftThings, .ref a_m_s, .ref a_m_kept, .ref a_m_isKept, .ref a_m_due, .int m_dueMany, .ref a_m_cost, .ref a_m_then, .ref a_m_by])), (a_m_hands, .inl (cI, 16, .inl m_hands)), (a_m_s, .inl (cI, 21, .inl m_s))] sz) := by
  refine met_i (cc := cX7_lifted) (maxL := 7) (own := RX7) (by decide) rfl (Nat.le_of_ble_eq_true rfl) rfl (fun p e s m args below meth c Q A E hret ls H locs hl hw => ?_)
  obtain ⟨⟨hx, hb, hml, hown, hts⟩, hK, hN, hA, hX⟩ := id E
  have hl : lv_has ls 7 [(0, .ref a_m), (1, .int p1), (2, .int p2), (3, .int p3)] := hl
  have iX7 : ∀ w ∈ wsX70, w ∈ wsX7_lifted := by decide +kernel
  have kf57 := hts (.fieldLink RX7 57 "FiveThingsModel" "thrown" "I") (by decide +kernel)
  have kf130 := hts (.fieldLink RX7 130 "FiveThingsModel" "people" "I") (by decide +kernel)
  have kf28 := hts (.fieldLink RX7 28 "FiveThingsModel" "s" "[I") (by decide +kernel)
  have kf133 := hts (.fieldLink RX7 133 "FiveThingsModel" "things" "I") (by decide +kernel)
  unfold f_X7_lifted at hf
  refine lv_aload_n hx hb dX7_lifted_0 rfl (lv_at hl 0 rfl) ?_
  refine lv_iconst (v := (0 : Int32)) hx hb dX7_lifted_1 rfl ?_
  refine r_put E hw iX7 tyX7_ok nmX7 0 0 rfl rfl (by decide) kf57 rfl rfl rfl rfl (Nat.le_of_ble_eq_true rfl) [(a_m, .inr (7, [.int (0 : Int32), .long m_trace, .ref a_m_text, .int m_typed, .int m_next, .int m_token, .int m_place, .int m_value, .int m_fault, .ref a_m_lifts, .ref a_m_price, .ref a_m_stood, .ref a_m_hands, .ref a_m_wanted, .int m_rooms, .int m_people, .int m_things, .int m_draftRooms, .int m_draftPeople, .int m_draftThings, .ref a_m_s, .ref a_m_kept, .ref a_m_isKept, .ref a_m_due, .int m_dueMany, .ref a_m_cost, .ref a_m_then, .ref a_m_by])), (a_m_hands, .inl (cI, 16, .inl m_hands)), (a_m_s, .inl (cI, 21, .inl m_s))] rfl dX7_lifted_2 (fun H locs hw => ?_)
  refine lv_iload_n hx hb dX7_lifted_5 rfl (lv_at hl 1 rfl) ?_
  refine lv_iconst (v := (0 : Int32)) hx hb dX7_lifted_6 rfl ?_
  refine lv_iconst (v := (1 : Int32)) hx hb dX7_lifted_7 rfl ?_
  refine lv_aload_n hx hb dX7_lifted_8 rfl (lv_at hl 0 rfl) ?_
  refine r_get E hw iX7 0 15 rfl rfl (by decide) kf130 rfl rfl dX7_lifted_9 ?_
  refine lv_ishl hx hb dX7_lifted_12 ?_
  refine lv_iconst (v := (1 : Int32)) hx hb dX7_lifted_13 rfl ?_
  refine lv_isub hx hb dX7_lifted_14 ?_
  obtain ⟨r1, hu2, hf⟩ := bd1_some hf
  refine cl_i (wr := [(a_m, .inr (7, [.int (0 : Int32), .long m_trace, .ref a_m_text, .int m_typed, .int m_next, .int m_token, .int m_place, .int m_value, .int m_fault, .ref a_m_lifts, .ref a_m_price, .ref a_m_stood, .ref a_m_hands, .ref a_m_wanted, .int m_rooms, .int m_people, .int m_things, .int m_draftRooms, .int m_draftPeople, .int m_draftThings, .ref a_m_s, .ref a_m_kept, .ref a_m_isKept, .ref a_m_due, .int m_dueMany, .ref a_m_cost, .ref a_m_then, .ref a_m_by])), (a_m_hands, .inl (cI, 16, .inl m_hands)), (a_m_s, .inl (cI, 21, .inl m_s))]) (w2 := [(a_m, .inr (7, [.int (0 : Int32), .long m_trace, .ref a_m_text, .int m_typed, .int m_next, .int m_token, .int m_place, .int m_value, .int m_fault, .ref a_m_lifts, .ref a_m_price, .ref a_m_stood, .ref a_m_hands, .ref a_m_wanted, .int m_rooms, .int m_people, .int m_things, .int m_draftRooms, .int m_draftPeople, .int m_draftThings, .ref a_m_s, .ref a_m_kept, .ref a_m_isKept, .ref a_m_due, .int m_dueMany, .ref a_m_cost, .ref a_m_then, .ref a_m_by])), (a_m_hands, .inl (cI, 16, .inl m_hands)), (a_m_s, .inl (cI, 21, .inl m_s))]) E hw [] [0, 1, 2] [0, 1, 2] (va_runS (As := [.int p1, .int (0 : Int32), .int (((1 : Int32) <<< (m_people &&& 31)) - (1 : Int32))]) (rest := []) E.1 (c_X7_in l dC dI cI cB cZ aK aV H.size p1 (0 : Int32) (((1 : Int32) <<< (m_people &&& 31)) - (1 : Int32)) r1 hu2) (va_cwS 3 hts gX7_lifted_X7_in rfl rfl rfl hd_X7_in ⟨Nat.le_of_ble_eq_true rfl, Nat.le_of_ble_eq_true rfl⟩) (pre_S E hw [] rfl rfl) rfl rfl hl.1 rfl (lv_room (Nat.le_of_ble_eq_true rfl)) dX7_lifted_15 ⟨Nat.zero_le _, Nat.zero_le _⟩) rfl rfl rfl (by decide) rfl rfl (fun H locs hw => ?_)
  refine lv_if_eq (tgt := 37) hx hb dX7_lifted_18 (by decide) (fun kc => ?_) (fun kc => ?_)
  · have hf := if_t hf kc
    refine lv_iconst (v := (-1 : Int32)) hx hb dX7_lifted_37 rfl ?_
    obtain ⟨rfl, rfl, rfl⟩ := sm3 hf
    exact hret H locs ls 38 hw dX7_lifted_38
  · have hf := if_f hf kc
    refine lv_aload_n hx hb dX7_lifted_21 rfl (lv_at hl 0 rfl) ?_
    refine lv_iload_n hx hb dX7_lifted_22 rfl (lv_at hl 2 rfl) ?_
    obtain ⟨r3, hu4, hf⟩ := bd1_some hf
    refine cl_i (wr := [(a_m_hands, .inl (cI, 16, .inl m_hands)), (a_m_s, .inl (cI, 21, .inl m_s))]) (w2 := [(a_m, .inr (7, [.int (0 : Int32), .long m_trace, .ref a_m_text, .int m_typed, .int m_next, .int m_token, .int m_place, .int m_value, .int m_fault, .ref a_m_lifts, .ref a_m_price, .ref a_m_stood, .ref a_m_hands, .ref a_m_wanted, .int m_rooms, .int m_people, .int m_things, .int m_draftRooms, .int m_draftPeople, .int m_draftThings, .ref a_m_s, .ref a_m_kept, .ref a_m_isKept, .ref a_m_due, .int m_dueMany, .ref a_m_cost, .ref a_m_then, .ref a_m_by])), (a_m_hands, .inl (cI, 16, .inl m_hands)), (a_m_s, .inl (cI, 21, .inl m_s))]) E hw [0] [1, 2] [2, 0, 1] (va_runV (As := [.int p2]) (rest := []) E.1 (c_X7_isThing l dC dI cI cB cZ aK aV a_m a_m_text a_m_lifts a_m_price a_m_stood a_m_hands a_m_wanted a_m_s a_m_kept a_m_isKept a_m_due a_m_cost a_m_then a_m_by H.size (0 : Int32) m_trace m_typed m_next m_token m_place m_value m_fault m_rooms m_people m_things m_draftRooms m_draftPeople m_draftThings m_dueMany p2 r3 hu4) (cwV 1 hts gX7_lifted_X7_isThing rfl rfl rfl hd_X7_isThing ⟨Nat.le_of_ble_eq_true rfl, Nat.le_of_ble_eq_true rfl⟩) (pre_V E hw [0] rfl rfl rfl rfl) rfl rfl hl.1 rfl (lv_room (Nat.le_of_ble_eq_true rfl)) dX7_lifted_23 ⟨Nat.zero_le _, Nat.zero_le _⟩) rfl rfl rfl (by decide) rfl rfl (fun H locs hw => ?_)
    refine lv_if_eq (tgt := 37) hx hb dX7_lifted_26 (by decide) (fun kc => ?_) (fun kc => ?_)
    · have hf := if_t hf kc
      refine lv_iconst (v := (-1 : Int32)) hx hb dX7_lifted_37 rfl ?_
      obtain ⟨rfl, rfl, rfl⟩ := sm3 hf
      exact hret H locs ls 38 hw dX7_lifted_38
    · have hf := if_f hf kc
      refine lv_aload_n hx hb dX7_lifted_29 rfl (lv_at hl 0 rfl) ?_
      refine lv_iload_n hx hb dX7_lifted_30 rfl (lv_at hl 3 rfl) ?_
      obtain ⟨r5, hu6, hf⟩ := bd1_some hf
      refine cl_i (wr := [(a_m_hands, .inl (cI, 16, .inl m_hands)), (a_m_s, .inl (cI, 21, .inl m_s))]) (w2 := [(a_m, .inr (7, [.int (0 : Int32), .long m_trace, .ref a_m_text, .int m_typed, .int m_next, .int m_token, .int m_place, .int m_value, .int m_fault, .ref a_m_lifts, .ref a_m_price, .ref a_m_stood, .ref a_m_hands, .ref a_m_wanted, .int m_rooms, .int m_people, .int m_things, .int m_draftRooms, .int m_draftPeople, .int m_draftThings, .ref a_m_s, .ref a_m_kept, .ref a_m_isKept, .ref a_m_due, .int m_dueMany, .ref a_m_cost, .ref a_m_then, .ref a_m_by])), (a_m_hands, .inl (cI, 16, .inl m_hands)), (a_m_s, .inl (cI, 21, .inl m_s))]) E hw [0] [1, 2] [2, 0, 1] (va_runV (As := [.int p3]) (rest := []) E.1 (c_X7_isRoom l dC dI cI cB cZ aK aV a_m a_m_text a_m_lifts a_m_price a_m_stood a_m_hands a_m_wanted a_m_s a_m_kept a_m_isKept a_m_due a_m_cost a_m_then a_m_by H.size (0 : Int32) m_trace m_typed m_next m_token m_place m_value m_fault m_rooms m_people m_things m_draftRooms m_draftPeople m_draftThings m_dueMany p3 r5 hu6) (cwV 1 hts gX7_lifted_X7_isRoom rfl rfl rfl hd_X7_isRoom ⟨Nat.le_of_ble_eq_true rfl, Nat.le_of_ble_eq_true rfl⟩) (pre_V E hw [0] rfl rfl rfl rfl) rfl rfl hl.1 rfl (lv_room (Nat.le_of_ble_eq_true rfl)) dX7_lifted_31 ⟨Nat.zero_le _, Nat.zero_le _⟩) rfl rfl rfl (by decide) rfl rfl (fun H locs hw => ?_)
      refine lv_if_ne (tgt := 39) hx hb dX7_lifted_34 (by decide) (fun kc => ?_) (fun kc => ?_)
      · have hf := if_f hf kc
        refine lv_aload_n hx hb dX7_lifted_39 rfl (lv_at hl 0 rfl) ?_
        refine r_get E hw iX7 0 20 rfl rfl (by decide) kf28 rfl rfl dX7_lifted_40 ?_
        refine lv_iload_n hx hb dX7_lifted_43 rfl (lv_at hl 2 rfl) ?_
        obtain ⟨g7, hf⟩ := gd_some hf
        refine r_iald E hw 2 rfl g7 dX7_lifted_44 ?_
        refine lv_iload_n hx hb dX7_lifted_45 rfl (lv_at hl 3 rfl) ?_
        refine jn_sound (P := fun J => ∀ (x12 : Int32) (ls : Array Slot) (H : Heap) (locs : List Loc), J x12 = some (r, q0, q1) → lv_has ls 7 [(0, .ref a_m), (1, .int p1), (2, .int p2), (3, .int p3)] → Wd A s.heap (dC, dI) [(a_m, .inr (7, [.int (0 : Int32), .long m_trace, .ref a_m_text, .int m_typed, .int m_next, .int m_token, .int m_place, .int m_value, .int m_fault, .ref a_m_lifts, .ref a_m_price, .ref a_m_stood, .ref a_m_hands, .ref a_m_wanted, .int m_rooms, .int m_people, .int m_things, .int m_draftRooms, .int m_draftPeople, .int m_draftThings, .ref a_m_s, .ref a_m_kept, .ref a_m_isKept, .ref a_m_due, .int m_dueMany, .ref a_m_cost, .ref a_m_then, .ref a_m_by])), (a_m_hands, .inl (cI, 16, .inl m_hands)), (a_m_s, .inl (cI, 21, .inl m_s))] H locs → W p l e ({ frames := 2, cells := 0, slots := 0, locals := 45 } : Jvm.Room) s m args below meth c H locs 0 0 Q (F0 m 66 ls [.int x12])) hf ?_ ?_
        · intro x12 ls H locs hf hl hw
          refine lv_istore (lv' := [(4, .int x12), (0, .ref a_m), (1, .int p1), (2, .int p2), (3, .int p3)]) hx hb dX7_lifted_66 hl (by decide) rfl (fun ls hl => ?_)
          refine lv_iconst (v := (0 : Int32)) hx hb dX7_lifted_68 rfl ?_
          refine lv_istore (lv' := [(5, .int (0 : Int32)), (4, .int x12), (0, .ref a_m), (1, .int p1), (2, .int p2), (3, .int p3)]) hx hb dX7_lifted_69 hl (by decide) rfl (fun ls hl => ?_)
          refine (loop2_sound (r := (r, q0, q1)) (P := fun (x38 : Int32) (x39 : Int32) => ∀ (ls : Array Slot) (H : Heap) (locs : List Loc), lv_has ls 7 [(5, .int x39), (4, .int x38), (0, .ref a_m), (1, .int p1), (2, .int p2), (3, .int p3)] → Wd A s.heap (dC, dI) [(a_m, .inr (7, [.int (0 : Int32), .long m_trace, .ref a_m_text, .int m_typed, .int m_next, .int m_token, .int m_place, .int m_value, .int m_fault, .ref a_m_lifts, .ref a_m_price, .ref a_m_stood, .ref a_m_hands, .ref a_m_wanted, .int m_rooms, .int m_people, .int m_things, .int m_draftRooms, .int m_draftPeople, .int m_draftThings, .ref a_m_s, .ref a_m_kept, .ref a_m_isKept, .ref a_m_due, .int m_dueMany, .ref a_m_cost, .ref a_m_then, .ref a_m_by])), (a_m_hands, .inl (cI, 16, .inl m_hands)), (a_m_s, .inl (cI, 21, .inl m_s))] H locs → W p l e ({ frames := 2, cells := 0, slots := 0, locals := 45 } : Jvm.Room) s m args below meth c H locs 0 0 Q (F0 m 71 ls [])) (fun B71 x38 x39 ih71 hf => ?_) _ x12 (0 : Int32) hf) ls H locs (lv_sub hl [0, 1, 2, 3, 4, 5] rfl) hw
          intro ls H locs hl hw
          refine lv_iload hx hb dX7_lifted_71 (lv_at hl 0 rfl) ?_
          refine lv_aload_n hx hb dX7_lifted_73 rfl (lv_at hl 2 rfl) ?_
          refine r_get E hw iX7 0 15 rfl rfl (by decide) kf130 rfl rfl dX7_lifted_74 ?_
          refine lv_icmp_ge (tgt := 120) hx hb dX7_lifted_77 (by decide) (fun kc => ?_) (fun kc => ?_)
          · have hf := if_t hf kc
            refine lv_iload hx hb dX7_lifted_120 (lv_at hl 1 rfl) ?_
            refine lv_if_ne (tgt := 128) hx hb dX7_lifted_122 (by decide) (fun kc => ?_) (fun kc => ?_)
            · have hf := if_f hf kc
              refine lv_iconst (v := (0 : Int32)) hx hb dX7_lifted_128 rfl ?_
              refine lv_istore (lv' := [(5, .int (0 : Int32)), (4, .int x38), (0, .ref a_m), (1, .int p1), (2, .int p2), (3, .int p3)]) hx hb dX7_lifted_129 hl (by decide) rfl (fun ls hl => ?_)
              refine (loop2_sound (r := (r, q0, q1)) (P := fun (x51 : Int32) (x52 : Nat → Int32) => ∀ (ls : Array Slot) (H : Heap) (locs : List Loc), lv_has ls 7 [(5, .int x51), (0, .ref a_m), (1, .int p1), (2, .int p2), (3, .int p3)] → Wd A s.heap (dC, dI) [(a_m, .inr (7, [.int (0 : Int32), .long m_trace, .ref a_m_text, .int m_typed, .int m_next, .int m_token, .int m_place, .int m_value, .int m_fault, .ref a_m_lifts, .ref a_m_price, .ref a_m_stood, .ref a_m_hands, .ref a_m_wanted, .int m_rooms, .int m_people, .int m_things, .int m_draftRooms, .int m_draftPeople, .int m_draftThings, .ref a_m_s, .ref a_m_kept, .ref a_m_isKept, .ref a_m_due, .int m_dueMany, .ref a_m_cost, .ref a_m_then, .ref a_m_by])), (a_m_hands, .inl (cI, 16, .inl m_hands)), (a_m_s, .inl (cI, 21, .inl x52))] H locs → W p l e ({ frames := 2, cells := 0, slots := 0, locals := 45 } : Jvm.Room) s m args below meth c H locs 0 0 Q (F0 m 131 ls [])) (fun B131 x51 x52 ih131 hf => ?_) _ (0 : Int32) m_s hf) ls H locs (lv_sub hl [0, 2, 3, 4, 5] rfl) hw
              intro ls H locs hl hw
              refine lv_iload hx hb dX7_lifted_131 (lv_at hl 0 rfl) ?_
              refine lv_aload_n hx hb dX7_lifted_133 rfl (lv_at hl 1 rfl) ?_
              refine r_get E hw iX7 0 15 rfl rfl (by decide) kf130 rfl rfl dX7_lifted_134 ?_
              refine lv_icmp_ge (tgt := 165) hx hb dX7_lifted_137 (by decide) (fun kc => ?_) (fun kc => ?_)
              · have hf := if_t hf kc
                refine lv_iconst (v := (0 : Int32)) hx hb dX7_lifted_165 rfl ?_
                refine lv_istore (lv' := [(5, .int (0 : Int32)), (0, .ref a_m), (1, .int p1), (2, .int p2), (3, .int p3)]) hx hb dX7_lifted_166 hl (by decide) rfl (fun ls hl => ?_)
                refine lv_iconst (v := (0 : Int32)) hx hb dX7_lifted_168 rfl ?_
                refine lv_istore (lv' := [(6, .int (0 : Int32)), (5, .int (0 : Int32)), (0, .ref a_m), (1, .int p1), (2, .int p2), (3, .int p3)]) hx hb dX7_lifted_169 hl (by decide) rfl (fun ls hl => ?_)
                refine (loop3_sound (r := (r, q0, q1)) (P := fun (x56 : Int32) (x57 : Int32) (x58 : Nat → Int32) => ∀ (ls : Array Slot) (H : Heap) (locs : List Loc), lv_has ls 7 [(6, .int x57), (5, .int x56), (0, .ref a_m), (2, .int p2), (3, .int p3)] → Wd A s.heap (dC, dI) [(a_m, .inr (7, [.int (0 : Int32), .long m_trace, .ref a_m_text, .int m_typed, .int m_next, .int m_token, .int m_place, .int m_value, .int m_fault, .ref a_m_lifts, .ref a_m_price, .ref a_m_stood, .ref a_m_hands, .ref a_m_wanted, .int m_rooms, .int m_people, .int m_things, .int m_draftRooms, .int m_draftPeople, .int m_draftThings, .ref a_m_s, .ref a_m_kept, .ref a_m_isKept, .ref a_m_due, .int m_dueMany, .ref a_m_cost, .ref a_m_then, .ref a_m_by])), (a_m_hands, .inl (cI, 16, .inl m_hands)), (a_m_s, .inl (cI, 21, .inl x58))] H locs → W p l e ({ frames := 2, cells := 0, slots := 0, locals := 45 } : Jvm.Room) s m args below meth c H locs 0 0 Q (F0 m 171 ls [])) (fun B171 x56 x57 x58 ih171 hf => ?_) _ (0 : Int32) (0 : Int32) x52 hf) ls H locs (lv_sub hl [0, 1, 2, 4, 5] rfl) hw
                intro ls H locs hl hw
                refine lv_iload hx hb dX7_lifted_171 (lv_at hl 0 rfl) ?_
                refine lv_aload_n hx hb dX7_lifted_173 rfl (lv_at hl 2 rfl) ?_
                refine r_get E hw iX7 0 16 rfl rfl (by decide) kf133 rfl rfl dX7_lifted_174 ?_
                refine lv_icmp_ge (tgt := 207) hx hb dX7_lifted_177 (by decide) (fun kc => ?_) (fun kc => ?_)
                · have hf := if_t hf kc
                  refine lv_iload hx hb dX7_lifted_207 (lv_at hl 1 rfl) ?_
                  obtain ⟨rfl, rfl, rfl⟩ := sm3 hf
                  exact hret H locs ls 209 hw dX7_lifted_209
                · have hf := if_f hf kc
                  refine lv_aload_n hx hb dX7_lifted_180 rfl (lv_at hl 2 rfl) ?_
                  refine lv_iload_n hx hb dX7_lifted_181 rfl (lv_at hl 3 rfl) ?_
                  refine lv_iload hx hb dX7_lifted_182 (lv_at hl 0 rfl) ?_
                  obtain ⟨r59, hu60, hf⟩ := bd1_some hf
                  refine cl_i (wr := [(a_m_hands, .inl (cI, 16, .inl m_hands))]) (w2 := [(a_m, .inr (7, [.int (0 : Int32), .long m_trace, .ref a_m_text, .int m_typed, .int m_next, .int m_token, .int m_place, .int m_value, .int m_fault, .ref a_m_lifts, .ref a_m_price, .ref a_m_stood, .ref a_m_hands, .ref a_m_wanted, .int m_rooms, .int m_people, .int m_things, .int m_draftRooms, .int m_draftPeople, .int m_draftThings, .ref a_m_s, .ref a_m_kept, .ref a_m_isKept, .ref a_m_due, .int m_dueMany, .ref a_m_cost, .ref a_m_then, .ref a_m_by])), (a_m_hands, .inl (cI, 16, .inl m_hands)), (a_m_s, .inl (cI, 21, .inl x58))]) E hw [0, 2] [1] [1, 0, 2] (va_runV (As := [.int p2, .int x57]) (rest := []) E.1 (c_X7_areOne l dC dI cI cB cZ aK aV a_m a_m_text a_m_lifts a_m_price a_m_stood a_m_hands a_m_wanted a_m_s a_m_kept a_m_isKept a_m_due a_m_cost a_m_then a_m_by H.size (0 : Int32) m_trace m_typed m_next m_token m_place m_value m_fault m_rooms m_people m_things m_draftRooms m_draftPeople m_draftThings m_dueMany x58 p2 x57 r59 hu60) (cwV 2 hts gX7_lifted_X7_areOne rfl rfl rfl hd_X7_areOne ⟨Nat.le_of_ble_eq_true rfl, Nat.le_of_ble_eq_true rfl⟩) (pre_V E hw [0, 2] rfl rfl rfl rfl) rfl rfl hl.1 rfl (lv_room (Nat.le_of_ble_eq_true rfl)) dX7_lifted_184 ⟨Nat.zero_le _, Nat.zero_le _⟩) rfl rfl rfl (by decide) rfl rfl (fun H locs hw => ?_)
                  refine lv_if_eq (tgt := 201) hx hb dX7_lifted_187 (by decide) (fun kc => ?_) (fun kc => ?_)
                  · have hf := if_t hf kc
                    refine lv_iinc (v := (x57 + (1 : Int32))) (lv' := [(6, .int (x57 + (1 : Int32))), (5, .int x56), (0, .ref a_m), (2, .int p2), (3, .int p3)]) hx hb dX7_lifted_201 hl (k := 0) rfl rfl (by decide) rfl (fun ls hl => ?_)
                    refine lv_goto (tgt := 171) hx hb dX7_lifted_204 (by decide) ?_
                    exact ih171 x56 (x57 + (1 : Int32)) x58 hf ls H locs (lv_sub hl [0, 1, 2, 3, 4] rfl) hw
                  · have hf := if_f hf kc
                    refine lv_aload_n hx hb dX7_lifted_190 rfl (lv_at hl 2 rfl) ?_
                    refine r_get E hw iX7 0 20 rfl rfl (by decide) kf28 rfl rfl dX7_lifted_191 ?_
                    refine lv_iload hx hb dX7_lifted_194 (lv_at hl 0 rfl) ?_
                    refine lv_iload_n hx hb dX7_lifted_196 rfl (lv_at hl 4 rfl) ?_
                    obtain ⟨g61, hf⟩ := gd_some hf
                    refine r_iast E hw 2 rfl g61 [(a_m, .inr (7, [.int (0 : Int32), .long m_trace, .ref a_m_text, .int m_typed, .int m_next, .int m_token, .int m_place, .int m_value, .int m_fault, .ref a_m_lifts, .ref a_m_price, .ref a_m_stood, .ref a_m_hands, .ref a_m_wanted, .int m_rooms, .int m_people, .int m_things, .int m_draftRooms, .int m_draftPeople, .int m_draftThings, .ref a_m_s, .ref a_m_kept, .ref a_m_isKept, .ref a_m_due, .int m_dueMany, .ref a_m_cost, .ref a_m_then, .ref a_m_by])), (a_m_hands, .inl (cI, 16, .inl m_hands)), (a_m_s, .inl (cI, 21, .inl (upd x58 x57.toNatClampNeg p3)))] rfl dX7_lifted_197 (fun H locs hw => ?_)
                    refine lv_iinc (v := (x56 + (1 : Int32))) (lv' := [(5, .int (x56 + (1 : Int32))), (6, .int x57), (0, .ref a_m), (2, .int p2), (3, .int p3)]) hx hb dX7_lifted_198 hl (k := 1) rfl rfl (by decide) rfl (fun ls hl => ?_)
                    refine lv_iinc (v := (x57 + (1 : Int32))) (lv' := [(6, .int (x57 + (1 : Int32))), (5, .int (x56 + (1 : Int32))), (0, .ref a_m), (2, .int p2), (3, .int p3)]) hx hb dX7_lifted_201 hl (k := 1) rfl rfl (by decide) rfl (fun ls hl => ?_)
                    refine lv_goto (tgt := 171) hx hb dX7_lifted_204 (by decide) ?_
                    exact ih171 (x56 + (1 : Int32)) (x57 + (1 : Int32)) (upd x58 x57.toNatClampNeg p3) hf ls H locs (lv_sub hl [0, 1, 2, 3, 4] rfl) hw
              · have hf := if_f hf kc
                refine lv_aload_n hx hb dX7_lifted_140 rfl (lv_at hl 1 rfl) ?_
                refine r_get E hw iX7 0 20 rfl rfl (by decide) kf28 rfl rfl dX7_lifted_141 ?_
                refine lv_bipush (v := (16 : Int32)) hx hb dX7_lifted_144 rfl ?_
                refine lv_iload hx hb dX7_lifted_146 (lv_at hl 0 rfl) ?_
                refine lv_iadd hx hb dX7_lifted_148 ?_
                refine lv_dup2_11 hx hb dX7_lifted_149 rfl rfl ?_
                obtain ⟨g62, hf⟩ := gd_some hf
                refine r_iald E hw 2 rfl g62 dX7_lifted_150 ?_
                refine lv_iload_n hx hb dX7_lifted_151 rfl (lv_at hl 2 rfl) ?_
                refine lv_iload hx hb dX7_lifted_152 (lv_at hl 0 rfl) ?_
                refine lv_ishr hx hb dX7_lifted_154 ?_
                refine lv_iconst (v := (1 : Int32)) hx hb dX7_lifted_155 rfl ?_
                refine lv_iand hx hb dX7_lifted_156 ?_
                refine lv_isub hx hb dX7_lifted_157 ?_
                obtain ⟨g63, hf⟩ := gd_some hf
                refine r_iast E hw 2 rfl g63 [(a_m, .inr (7, [.int (0 : Int32), .long m_trace, .ref a_m_text, .int m_typed, .int m_next, .int m_token, .int m_place, .int m_value, .int m_fault, .ref a_m_lifts, .ref a_m_price, .ref a_m_stood, .ref a_m_hands, .ref a_m_wanted, .int m_rooms, .int m_people, .int m_things, .int m_draftRooms, .int m_draftPeople, .int m_draftThings, .ref a_m_s, .ref a_m_kept, .ref a_m_isKept, .ref a_m_due, .int m_dueMany, .ref a_m_cost, .ref a_m_then, .ref a_m_by])), (a_m_hands, .inl (cI, 16, .inl m_hands)), (a_m_s, .inl (cI, 21, .inl (upd x52 ((16 : Int32) + x51).toNatClampNeg ((x52 ((16 : Int32) + x51).toNatClampNeg) - ((p1 >>> (x51 &&& 31)) &&& (1 : Int32))))))] rfl dX7_lifted_158 (fun H locs hw => ?_)
                refine lv_iinc (v := (x51 + (1 : Int32))) (lv' := [(5, .int (x51 + (1 : Int32))), (0, .ref a_m), (1, .int p1), (2, .int p2), (3, .int p3)]) hx hb dX7_lifted_159 hl (k := 0) rfl rfl (by decide) rfl (fun ls hl => ?_)
                refine lv_goto (tgt := 131) hx hb dX7_lifted_162 (by decide) ?_
                exact ih131 (x51 + (1 : Int32)) (upd x52 ((16 : Int32) + x51).toNatClampNeg ((x52 ((16 : Int32) + x51).toNatClampNeg) - ((p1 >>> (x51 &&& 31)) &&& (1 : Int32)))) hf ls H locs (lv_sub hl [0, 1, 2, 3, 4] rfl) hw
            · have hf := if_t hf kc
              refine lv_bipush (v := (-2 : Int32)) hx hb dX7_lifted_125 rfl ?_
              obtain ⟨rfl, rfl, rfl⟩ := sm3 hf
              exact hret H locs ls 127 hw dX7_lifted_127
          · have hf := if_f hf kc
            refine lv_iload hx hb dX7_lifted_80 (lv_at hl 1 rfl) ?_
            refine jn_sound (P := fun J => ∀ (ls : Array Slot) (H : Heap) (locs : List Loc), J = some (r, q0, q1) → lv_has ls 7 [(0, .ref a_m), (1, .int p1), (2, .int p2), (3, .int p3), (5, .int x39)] → Wd A s.heap (dC, dI) [(a_m, .inr (7, [.int (0 : Int32), .long m_trace, .ref a_m_text, .int m_typed, .int m_next, .int m_token, .int m_place, .int m_value, .int m_fault, .ref a_m_lifts, .ref a_m_price, .ref a_m_stood, .ref a_m_hands, .ref a_m_wanted, .int m_rooms, .int m_people, .int m_things, .int m_draftRooms, .int m_draftPeople, .int m_draftThings, .ref a_m_s, .ref a_m_kept, .ref a_m_isKept, .ref a_m_due, .int m_dueMany, .ref a_m_cost, .ref a_m_then, .ref a_m_by])), (a_m_hands, .inl (cI, 16, .inl m_hands)), (a_m_s, .inl (cI, 21, .inl m_s))] H locs → W p l e ({ frames := 2, cells := 0, slots := 0, locals := 45 } : Jvm.Room) s m args below meth c H locs 0 0 Q (F0 m 111 ls [])) hf ?_ ?_
            · intro ls H locs hf hl hw
              refine lv_iconst (v := (0 : Int32)) hx hb dX7_lifted_111 rfl ?_
              refine lv_istore (lv' := [(4, .int (0 : Int32)), (0, .ref a_m), (1, .int p1), (2, .int p2), (3, .int p3), (5, .int x39)]) hx hb dX7_lifted_112 hl (by decide) rfl (fun ls hl => ?_)
              refine lv_iinc (v := (x39 + (1 : Int32))) (lv' := [(5, .int (x39 + (1 : Int32))), (4, .int (0 : Int32)), (0, .ref a_m), (1, .int p1), (2, .int p2), (3, .int p3)]) hx hb dX7_lifted_114 hl (k := 5) rfl rfl (by decide) rfl (fun ls hl => ?_)
              refine lv_goto (tgt := 71) hx hb dX7_lifted_117 (by decide) ?_
              exact ih71 (0 : Int32) (x39 + (1 : Int32)) hf ls H locs (lv_sub hl [0, 1, 2, 3, 4, 5] rfl) hw
            · intro J111 hJ111 hf
              refine lv_if_eq (tgt := 111) hx hb dX7_lifted_82 (by decide) (fun kc => ?_) (fun kc => ?_)
              · have hf := if_t hf kc
                exact hJ111 ls H locs hf (lv_sub hl [2, 3, 4, 5, 0] rfl) hw
              · have hf := if_f hf kc
                refine lv_iload_n hx hb dX7_lifted_85 rfl (lv_at hl 3 rfl) ?_
                refine lv_iload hx hb dX7_lifted_86 (lv_at hl 0 rfl) ?_
                refine lv_ishr hx hb dX7_lifted_88 ?_
                refine lv_iconst (v := (1 : Int32)) hx hb dX7_lifted_89 rfl ?_
                refine lv_iand hx hb dX7_lifted_90 ?_
                refine jn_sound (P := fun J => ∀ (ls : Array Slot) (H : Heap) (locs : List Loc), J = some (r, q0, q1) → lv_has ls 7 [(0, .ref a_m), (1, .int p1), (2, .int p2), (3, .int p3), (5, .int x39)] → Wd A s.heap (dC, dI) [(a_m, .inr (7, [.int (0 : Int32), .long m_trace, .ref a_m_text, .int m_typed, .int m_next, .int m_token, .int m_place, .int m_value, .int m_fault, .ref a_m_lifts, .ref a_m_price, .ref a_m_stood, .ref a_m_hands, .ref a_m_wanted, .int m_rooms, .int m_people, .int m_things, .int m_draftRooms, .int m_draftPeople, .int m_draftThings, .ref a_m_s, .ref a_m_kept, .ref a_m_isKept, .ref a_m_due, .int m_dueMany, .ref a_m_cost, .ref a_m_then, .ref a_m_by])), (a_m_hands, .inl (cI, 16, .inl m_hands)), (a_m_s, .inl (cI, 21, .inl m_s))] H locs → W p l e ({ frames := 2, cells := 0, slots := 0, locals := 45 } : Jvm.Room) s m args below meth c H locs 0 0 Q (F0 m 107 ls [])) hf ?_ ?_
                · intro ls H locs hf hl hw
                  refine lv_iconst (v := (1 : Int32)) hx hb dX7_lifted_107 rfl ?_
                  refine lv_goto (tgt := 112) hx hb dX7_lifted_108 (by decide) ?_
                  refine lv_istore (lv' := [(4, .int (1 : Int32)), (0, .ref a_m), (1, .int p1), (2, .int p2), (3, .int p3), (5, .int x39)]) hx hb dX7_lifted_112 hl (by decide) rfl (fun ls hl => ?_)
                  refine lv_iinc (v := (x39 + (1 : Int32))) (lv' := [(5, .int (x39 + (1 : Int32))), (4, .int (1 : Int32)), (0, .ref a_m), (1, .int p1), (2, .int p2), (3, .int p3)]) hx hb dX7_lifted_114 hl (k := 5) rfl rfl (by decide) rfl (fun ls hl => ?_)
                  refine lv_goto (tgt := 71) hx hb dX7_lifted_117 (by decide) ?_
                  exact ih71 (1 : Int32) (x39 + (1 : Int32)) hf ls H locs (lv_sub hl [0, 1, 2, 3, 4, 5] rfl) hw
                · intro J107 hJ107 hf
                  refine lv_if_eq (tgt := 107) hx hb dX7_lifted_91 (by decide) (fun kc => ?_) (fun kc => ?_)
                  · have hf := if_t hf kc
                    exact hJ107 ls H locs hf (lv_sub hl [2, 3, 4, 5, 0] rfl) hw
                  · have hf := if_f hf kc
                    refine lv_aload_n hx hb dX7_lifted_94 rfl (lv_at hl 2 rfl) ?_
                    refine r_get E hw iX7 0 20 rfl rfl (by decide) kf28 rfl rfl dX7_lifted_95 ?_
                    refine lv_bipush (v := (16 : Int32)) hx hb dX7_lifted_98 rfl ?_
                    refine lv_iload hx hb dX7_lifted_100 (lv_at hl 0 rfl) ?_
                    refine lv_iadd hx hb dX7_lifted_102 ?_
                    obtain ⟨g64, hf⟩ := gd_some hf
                    refine r_iald E hw 2 rfl g64 dX7_lifted_103 ?_
                    refine lv_if_le (tgt := 111) hx hb dX7_lifted_104 (by decide) (fun kc => ?_) (fun kc => ?_)
                    · have hf := if_t hf kc
                      exact hJ111 ls H locs hf (lv_sub hl [2, 3, 4, 5, 0] rfl) hw
                    · have hf := if_f hf kc
                      exact hJ107 ls H locs hf (lv_sub hl [2, 3, 4, 5, 0] rfl) hw
        · intro J66 hJ66 hf
          refine jn_sound (P := fun J => ∀ (ls : Array Slot) (H : Heap) (locs : List Loc), J = some (r, q0, q1) → lv_has ls 7 [(0, .ref a_m), (1, .int p1), (2, .int p2), (3, .int p3)] → Wd A s.heap (dC, dI) [(a_m, .inr (7, [.int (0 : Int32), .long m_trace, .ref a_m_text, .int m_typed, .int m_next, .int m_token, .int m_place, .int m_value, .int m_fault, .ref a_m_lifts, .ref a_m_price, .ref a_m_stood, .ref a_m_hands, .ref a_m_wanted, .int m_rooms, .int m_people, .int m_things, .int m_draftRooms, .int m_draftPeople, .int m_draftThings, .ref a_m_s, .ref a_m_kept, .ref a_m_isKept, .ref a_m_due, .int m_dueMany, .ref a_m_cost, .ref a_m_then, .ref a_m_by])), (a_m_hands, .inl (cI, 16, .inl m_hands)), (a_m_s, .inl (cI, 21, .inl m_s))] H locs → W p l e ({ frames := 2, cells := 0, slots := 0, locals := 45 } : Jvm.Room) s m args below meth c H locs 0 0 Q (F0 m 65 ls [])) hf ?_ ?_
          · intro ls H locs hf hl hw
            refine lv_iconst (v := (0 : Int32)) hx hb dX7_lifted_65 rfl ?_
            exact hJ66 (0 : Int32) ls H locs hf hl hw
          · intro J65 hJ65 hf
            refine lv_icmp_eq (tgt := 65) hx hb dX7_lifted_46 (by decide) (fun kc => ?_) (fun kc => ?_)
            · have hf := if_t hf kc
              exact hJ65 ls H locs hf hl hw
            · have hf := if_f hf kc
              refine lv_iload_n hx hb dX7_lifted_49 rfl (lv_at hl 1 rfl) ?_
              obtain ⟨r8, hu9, hf⟩ := bd1_some hf
              refine cl_i (wr := [(a_m, .inr (7, [.int (0 : Int32), .long m_trace, .ref a_m_text, .int m_typed, .int m_next, .int m_token, .int m_place, .int m_value, .int m_fault, .ref a_m_lifts, .ref a_m_price, .ref a_m_stood, .ref a_m_hands, .ref a_m_wanted, .int m_rooms, .int m_people, .int m_things, .int m_draftRooms, .int m_draftPeople, .int m_draftThings, .ref a_m_s, .ref a_m_kept, .ref a_m_isKept, .ref a_m_due, .int m_dueMany, .ref a_m_cost, .ref a_m_then, .ref a_m_by])), (a_m_hands, .inl (cI, 16, .inl m_hands)), (a_m_s, .inl (cI, 21, .inl m_s))]) (w2 := [(a_m, .inr (7, [.int (0 : Int32), .long m_trace, .ref a_m_text, .int m_typed, .int m_next, .int m_token, .int m_place, .int m_value, .int m_fault, .ref a_m_lifts, .ref a_m_price, .ref a_m_stood, .ref a_m_hands, .ref a_m_wanted, .int m_rooms, .int m_people, .int m_things, .int m_draftRooms, .int m_draftPeople, .int m_draftThings, .ref a_m_s, .ref a_m_kept, .ref a_m_isKept, .ref a_m_due, .int m_dueMany, .ref a_m_cost, .ref a_m_then, .ref a_m_by])), (a_m_hands, .inl (cI, 16, .inl m_hands)), (a_m_s, .inl (cI, 21, .inl m_s))]) E hw [] [0, 1, 2] [0, 1, 2] (va_runS (As := [.int p1]) (rest := []) E.1 (c_X7_ones l dC dI cI cB cZ aK aV H.size p1 r8 hu9) (va_cwS 1 hts gX7_lifted_X7_ones rfl rfl rfl hd_X7_ones ⟨Nat.le_of_ble_eq_true rfl, Nat.le_of_ble_eq_true rfl⟩) (pre_S E hw [] rfl rfl) rfl rfl hl.1 rfl (lv_room (Nat.le_of_ble_eq_true rfl)) dX7_lifted_50 ⟨Nat.zero_le _, Nat.zero_le _⟩) rfl rfl rfl (by decide) rfl rfl (fun H locs hw => ?_)
              refine lv_aload_n hx hb dX7_lifted_53 rfl (lv_at hl 0 rfl) ?_
              refine lv_iload_n hx hb dX7_lifted_54 rfl (lv_at hl 2 rfl) ?_
              obtain ⟨r10, hu11, hf⟩ := bd1_some hf
              refine cl_i (wr := []) (w2 := [(a_m, .inr (7, [.int (0 : Int32), .long m_trace, .ref a_m_text, .int m_typed, .int m_next, .int m_token, .int m_place, .int m_value, .int m_fault, .ref a_m_lifts, .ref a_m_price, .ref a_m_stood, .ref a_m_hands, .ref a_m_wanted, .int m_rooms, .int m_people, .int m_things, .int m_draftRooms, .int m_draftPeople, .int m_draftThings, .ref a_m_s, .ref a_m_kept, .ref a_m_isKept, .ref a_m_due, .int m_dueMany, .ref a_m_cost, .ref a_m_then, .ref a_m_by])), (a_m_hands, .inl (cI, 16, .inl m_hands)), (a_m_s, .inl (cI, 21, .inl m_s))]) E hw [0, 1, 2] [] [0, 1, 2] (va_runV (As := [.int p2]) (rest := [.int r8]) E.1 (c_X7_handsOf l dC dI cI cB cZ aK aV a_m a_m_text a_m_lifts a_m_price a_m_stood a_m_hands a_m_wanted a_m_s a_m_kept a_m_isKept a_m_due a_m_cost a_m_then a_m_by H.size (0 : Int32) m_trace m_typed m_next m_token m_place m_value m_fault m_rooms m_people m_things m_draftRooms m_draftPeople m_draftThings m_dueMany m_hands m_s p2 r10 hu11) (cwV 1 hts gX7_lifted_X7_handsOf rfl rfl rfl hd_X7_handsOf ⟨Nat.le_of_ble_eq_true rfl, Nat.le_of_ble_eq_true rfl⟩) (pre_V E hw [0, 1, 2] rfl rfl rfl rfl) rfl rfl hl.1 rfl (lv_room (Nat.le_of_ble_eq_true rfl)) dX7_lifted_55 ⟨Nat.zero_le _, Nat.zero_le _⟩) rfl rfl rfl (by decide) rfl rfl (fun H locs hw => ?_)
              refine lv_icmp_ne (tgt := 65) hx hb dX7_lifted_58 (by decide) (fun kc => ?_) (fun kc => ?_)
              · have hf := if_f hf kc
                exact hJ65 ls H locs hf hl hw
              · have hf := if_t hf kc
                refine lv_iconst (v := (1 : Int32)) hx hb dX7_lifted_61 rfl ?_
                refine lv_goto (tgt := 66) hx hb dX7_lifted_62 (by decide) ?_
                exact hJ66 (1 : Int32) ls H locs hf hl hw
      · have hf := if_t hf kc
        refine lv_iconst (v := (-1 : Int32)) hx hb dX7_lifted_37 rfl ?_
        obtain ⟨rfl, rfl, rfl⟩ := sm3 hf
        exact hret H locs ls 38 hw dX7_lifted_38
def f_X7_tied (p1 : Int32) (p2 : Int32) (m_people : Int32) (m_things : Int32) (m_s : Nat → Int32) : Option (Int32 × Int32 × (Nat → Int32)) :=
  bd1 (f_X7_isPerson p1 m_people) (fun r1 => (if r1 = 0 then some ((-1 : Int32), (0 : Int32), m_s) else bd1 (f_X7_in p2 (0 : Int32) (((1 : Int32) <<< (m_things &&& 31)) - (1 : Int32))) (fun r3 => (if r3 = 0 then some ((-1 : Int32), (0 : Int32), m_s) else bd1 (f_X7_ones p2) (fun r5 => (if (2 : Int32) ≤ r5 then gd (inb ((16 : Int32) + p1) 21) (jn (fun (x8 : Int32) => loop3 (fun B64 (x24 : Int32) (x25 : Int32) (x26 : Int32) => (if m_things ≤ x26 then (if x25 = 0 then some ((-2 : Int32), (0 : Int32), m_s) else gd (inb ((16 : Int32) + p1) 21) (gd (inb ((16 : Int32) + p1) 21) (loop2 (fun B169 (x32 : Int32) (x33 : Nat → Int32) => (if m_things ≤ x32 then some (x24, (0 : Int32), x33) else jn (fun (x35 : Int32) => gd (inb ((8 : Int32) + x32) 21) (B169 (x32 + (1 : Int32)) (upd x33 ((8 : Int32) + x32).toNatClampNeg x35))) (fun J211 => (if ((p2 >>> (x32 &&& 31)) &&& (1 : Int32)) = (1 : Int32) then J211 x24 else gd (inb ((8 : Int32) + x32) 21) (J211 (x33 ((8 : Int32) + x32).toNatClampNeg)))))) FU (0 : Int32) (upd m_s ((16 : Int32) + p1).toNatClampNeg ((m_s ((16 : Int32) + p1).toNatClampNeg) - (1 : Int32)))))) else (if ((p2 >>> (x26 &&& 31)) &&& (1 : Int32)) = (1 : Int32) then jn (fun (x37 : Int32) => jn (fun (x41 : Int32) => B64 x37 x41 (x26 + (1 : Int32))) (fun J137 => jn (J137 (0 : Int32)) (fun J136 => (if x25 = 0 then J136 else gd (inb ((8 : Int32) + x26) 21) ((if (m_s ((8 : Int32) + x26).toNatClampNeg) = (-9 : Int32) then gd (inb x26 21) (gd (inb x37 21) ((if (m_s x26.toNatClampNeg) = (m_s x37.toNatClampNeg) then J137 (1 : Int32) else J136))) else J136)))))) (fun J95 => (if x24 = (-9 : Int32) then J95 x26 else J95 x24)) else B64 x24 x25 (x26 + (1 : Int32))))) FU (-9 : Int32) x8 (0 : Int32)) (fun J59 => (if (m_s ((16 : Int32) + p1).toNatClampNeg) ≤ 0 then J59 (0 : Int32) else J59 (1 : Int32)))) else some ((-1 : Int32), (0 : Int32), m_s)))))))
theorem hd_X7_tied : yX7_tied.cls = RX7 ∧ yX7_tied.cls ≠ "java/lang/invoke/MethodHandle" ∧ yX7_tied.cls ≠ "java/lang/invoke/VarHandle" ∧ (parseMethodDescriptor yX7_tied.desc).map (fun d => d.parameters.length) = some 2 := by decide +kernel
set_option maxHeartbeats 4000000 in
set_option maxRecDepth 100000 in
theorem c_X7_tied (l : Launch) (dC : Nat → ClassId) (dI : Nat → Nat → Nat) (cI cB cZ : ClassId) (aK aV : Nat → Nat) (a_m a_m_text a_m_lifts a_m_price a_m_stood a_m_hands a_m_wanted a_m_s a_m_kept a_m_isKept a_m_due a_m_cost a_m_then a_m_by : Nat) (sz : Nat) (m_thrown : Int32) (m_trace : Int64) (m_typed : Int32) (m_next : Int32) (m_token : Int32) (m_place : Int32) (m_value : Int32) (m_fault : Int32) (m_rooms : Int32) (m_people : Int32) (m_things : Int32) (m_draftRooms : Int32) (m_draftPeople : Int32) (m_draftThings : Int32) (m_dueMany : Int32) (m_s : Nat → Int32) (p1 : Int32) (p2 : Int32) (r : Int32) (q0 : Int32) (q1 : Nat → Int32) (hf : f_X7_tied p1 p2 m_people m_things m_s = some (r, q0, q1)) : Met l yX7_tied wsX7_tied ({ frames := 2, cells := 0, slots := 0, locals := 43 } : Jvm.Room) (va_Pc [.ref a_m, .int p1, .int p2] (preW (dC, dI) (tyL cI cB cZ) aK aV sz [(a_m, .inr (7, [.int m_thrown, .long m_trace, .ref a_m_text, .int m_typed, .int m_next, .int m_token, .int m_place, .int m_value, .int m_fault, .ref a_m_lifts, .ref a_m_price, .ref a_m_stood, .ref a_m_hands, .ref a_m_wanted, .int m_rooms, .int m_people, .int m_things, .int m_draftRooms, .int m_draftPeople, .int m_draftThings, .ref a_m_s, .ref a_m_kept, .ref a_m_isKept, .ref a_m_due, .int m_dueMany, .ref a_m_cost, .ref a_m_then, .ref a_m_by])), (a_m_s, .inl (cI, 21, .inl m_s))])) (va_Qi (fun v (_ : Unit) => v = r) (postW (dC, dI) (tyL cI cB cZ) (va_A [(a_m, .inr (7, [.int m_thrown, .long m_trace, .ref a_m_text, .int m_typed, .int m_next, .int m_token, .int m_place, .int m_value, .int m_fault, .ref a_m_lifts, .ref a_m_price, .ref a_m_stood, .ref a_m_hands, .ref a_m_wanted, .int m_rooms, .int m_people, .int m_things, .int m_draftRooms, .int m_draftPeople, .int m_draftThings, .ref a_m_s, .ref a_m_kept, .ref a_m_isKept, .ref a_m_due, .int m_dueMany, .ref a_m_cost, .ref a_m_then, .ref a_m_by])), (a_m_s, .inl (cI, 21, .inl m_s))] sz) [(a_m, .inr (7, [.int q0, .long m_trace, .ref a_m_text, .int m_typed, .int m_next, .int m_token, .int m_place, .int m_value, .int m_fault, .ref a_m_lifts, .ref a_m_price, .ref a_m_stood, .ref a_m_hands, .ref a_m_wanted, .int m_rooms, .int m_people, .int m_things, .int m_draftRooms, .int m_draftPeople, .int m_draftThings, .ref a_m_s, .ref a_m_kept, .ref a_m_isKept, .ref a_m_due, .int m_dueMany, .ref a_m_cost, .ref a_m_then, .ref a_m_by])), (a_m_s, .inl (cI, 21, .inl q1))]) (va_A [(a_m, .inr (7, [.int m_thrown, .long m_trace, .ref a_m_text, .int m_typed, .int m_next, .int m_token, .int m_place, .int m_value, .int m_fault, .ref a_m_lifts, .ref a_m_price, .ref a_m_stood, .ref a_m_hands, .ref a_m_wanted, .int m_rooms, .int m_people, .int m_things, .int m_draftRooms, .int m_draftPeople, .int m_draftThings, .ref a_m_s, .ref a_m_kept, .ref a_m_isKept, .ref a_m_due, .int m_dueMany, .ref a_m_cost, .ref a_m_then, .ref a_m_by])), (a_m_s, .inl (cI, 21, .inl m_s))] sz)) 0 0 (va_A [(a_m, .inr (7, [.int m_thrown, .long m_trace, .ref a_m_text, .int m_typed, .int m_next, .int m_token, .int m_place, .int m_value, .int m_fault, .ref a_m_lifts, .ref a_m_price, .ref a_m_stood, .ref a_m_hands, .ref a_m_wanted, .int m_rooms, .int m_people, .int m_things, .int m_draftRooms, .int m_draftPeople, .int m_draftThings, .ref a_m_s, .ref a_m_kept, .ref a_m_isKept, .ref a_m_due, .int m_dueMany, .ref a_m_cost, .ref a_m_then, .ref a_m_by])), (a_m_s, .inl (cI, 21, .inl m_s))] sz) := by
  refine met_i (cc := cX7_tied) (maxL := 6) (own := RX7) (by decide) rfl (Nat.le_of_ble_eq_true rfl) rfl (fun p e s m args below meth c Q A E hret ls H locs hl hw => ?_)
  obtain ⟨⟨hx, hb, hml, hown, hts⟩, hK, hN, hA, hX⟩ := id E
  have hl : lv_has ls 6 [(0, .ref a_m), (1, .int p1), (2, .int p2)] := hl
  have iX7 : ∀ w ∈ wsX70, w ∈ wsX7_tied := by decide +kernel
  have kf57 := hts (.fieldLink RX7 57 "FiveThingsModel" "thrown" "I") (by decide +kernel)
  have kf133 := hts (.fieldLink RX7 133 "FiveThingsModel" "things" "I") (by decide +kernel)
  have kf28 := hts (.fieldLink RX7 28 "FiveThingsModel" "s" "[I") (by decide +kernel)
  unfold f_X7_tied at hf
  refine lv_aload_n hx hb dX7_tied_0 rfl (lv_at hl 0 rfl) ?_
  refine lv_iconst (v := (0 : Int32)) hx hb dX7_tied_1 rfl ?_
  refine r_put E hw iX7 tyX7_ok nmX7 0 0 rfl rfl (by decide) kf57 rfl rfl rfl rfl (Nat.le_of_ble_eq_true rfl) [(a_m, .inr (7, [.int (0 : Int32), .long m_trace, .ref a_m_text, .int m_typed, .int m_next, .int m_token, .int m_place, .int m_value, .int m_fault, .ref a_m_lifts, .ref a_m_price, .ref a_m_stood, .ref a_m_hands, .ref a_m_wanted, .int m_rooms, .int m_people, .int m_things, .int m_draftRooms, .int m_draftPeople, .int m_draftThings, .ref a_m_s, .ref a_m_kept, .ref a_m_isKept, .ref a_m_due, .int m_dueMany, .ref a_m_cost, .ref a_m_then, .ref a_m_by])), (a_m_s, .inl (cI, 21, .inl m_s))] rfl dX7_tied_2 (fun H locs hw => ?_)
  refine lv_aload_n hx hb dX7_tied_5 rfl (lv_at hl 0 rfl) ?_
  refine lv_iload_n hx hb dX7_tied_6 rfl (lv_at hl 1 rfl) ?_
  obtain ⟨r1, hu2, hf⟩ := bd1_some hf
  refine cl_i (wr := [(a_m_s, .inl (cI, 21, .inl m_s))]) (w2 := [(a_m, .inr (7, [.int (0 : Int32), .long m_trace, .ref a_m_text, .int m_typed, .int m_next, .int m_token, .int m_place, .int m_value, .int m_fault, .ref a_m_lifts, .ref a_m_price, .ref a_m_stood, .ref a_m_hands, .ref a_m_wanted, .int m_rooms, .int m_people, .int m_things, .int m_draftRooms, .int m_draftPeople, .int m_draftThings, .ref a_m_s, .ref a_m_kept, .ref a_m_isKept, .ref a_m_due, .int m_dueMany, .ref a_m_cost, .ref a_m_then, .ref a_m_by])), (a_m_s, .inl (cI, 21, .inl m_s))]) E hw [0] [1] [1, 0] (va_runV (As := [.int p1]) (rest := []) E.1 (c_X7_isPerson l dC dI cI cB cZ aK aV a_m a_m_text a_m_lifts a_m_price a_m_stood a_m_hands a_m_wanted a_m_s a_m_kept a_m_isKept a_m_due a_m_cost a_m_then a_m_by H.size (0 : Int32) m_trace m_typed m_next m_token m_place m_value m_fault m_rooms m_people m_things m_draftRooms m_draftPeople m_draftThings m_dueMany p1 r1 hu2) (cwV 1 hts gX7_tied_X7_isPerson rfl rfl rfl hd_X7_isPerson ⟨Nat.le_of_ble_eq_true rfl, Nat.le_of_ble_eq_true rfl⟩) (pre_V E hw [0] rfl rfl rfl rfl) rfl rfl hl.1 rfl (lv_room (Nat.le_of_ble_eq_true rfl)) dX7_tied_7 ⟨Nat.zero_le _, Nat.zero_le _⟩) rfl rfl rfl (by decide) rfl rfl (fun H locs hw => ?_)
  refine lv_if_eq (tgt := 37) hx hb dX7_tied_10 (by decide) (fun kc => ?_) (fun kc => ?_)
  · have hf := if_t hf kc
    refine lv_iconst (v := (-1 : Int32)) hx hb dX7_tied_37 rfl ?_
    obtain ⟨rfl, rfl, rfl⟩ := sm3 hf
    exact hret H locs ls 38 hw dX7_tied_38
  · have hf := if_f hf kc
    refine lv_iload_n hx hb dX7_tied_13 rfl (lv_at hl 2 rfl) ?_
    refine lv_iconst (v := (0 : Int32)) hx hb dX7_tied_14 rfl ?_
    refine lv_iconst (v := (1 : Int32)) hx hb dX7_tied_15 rfl ?_
    refine lv_aload_n hx hb dX7_tied_16 rfl (lv_at hl 0 rfl) ?_
    refine r_get E hw iX7 0 16 rfl rfl (by decide) kf133 rfl rfl dX7_tied_17 ?_
    refine lv_ishl hx hb dX7_tied_20 ?_
    refine lv_iconst (v := (1 : Int32)) hx hb dX7_tied_21 rfl ?_
    refine lv_isub hx hb dX7_tied_22 ?_
    obtain ⟨r3, hu4, hf⟩ := bd1_some hf
    refine cl_i (wr := [(a_m, .inr (7, [.int (0 : Int32), .long m_trace, .ref a_m_text, .int m_typed, .int m_next, .int m_token, .int m_place, .int m_value, .int m_fault, .ref a_m_lifts, .ref a_m_price, .ref a_m_stood, .ref a_m_hands, .ref a_m_wanted, .int m_rooms, .int m_people, .int m_things, .int m_draftRooms, .int m_draftPeople, .int m_draftThings, .ref a_m_s, .ref a_m_kept, .ref a_m_isKept, .ref a_m_due, .int m_dueMany, .ref a_m_cost, .ref a_m_then, .ref a_m_by])), (a_m_s, .inl (cI, 21, .inl m_s))]) (w2 := [(a_m, .inr (7, [.int (0 : Int32), .long m_trace, .ref a_m_text, .int m_typed, .int m_next, .int m_token, .int m_place, .int m_value, .int m_fault, .ref a_m_lifts, .ref a_m_price, .ref a_m_stood, .ref a_m_hands, .ref a_m_wanted, .int m_rooms, .int m_people, .int m_things, .int m_draftRooms, .int m_draftPeople, .int m_draftThings, .ref a_m_s, .ref a_m_kept, .ref a_m_isKept, .ref a_m_due, .int m_dueMany, .ref a_m_cost, .ref a_m_then, .ref a_m_by])), (a_m_s, .inl (cI, 21, .inl m_s))]) E hw [] [0, 1] [0, 1] (va_runS (As := [.int p2, .int (0 : Int32), .int (((1 : Int32) <<< (m_things &&& 31)) - (1 : Int32))]) (rest := []) E.1 (c_X7_in l dC dI cI cB cZ aK aV H.size p2 (0 : Int32) (((1 : Int32) <<< (m_things &&& 31)) - (1 : Int32)) r3 hu4) (va_cwS 3 hts gX7_tied_X7_in rfl rfl rfl hd_X7_in ⟨Nat.le_of_ble_eq_true rfl, Nat.le_of_ble_eq_true rfl⟩) (pre_S E hw [] rfl rfl) rfl rfl hl.1 rfl (lv_room (Nat.le_of_ble_eq_true rfl)) dX7_tied_23 ⟨Nat.zero_le _, Nat.zero_le _⟩) rfl rfl rfl (by decide) rfl rfl (fun H locs hw => ?_)
    refine lv_if_eq (tgt := 37) hx hb dX7_tied_26 (by decide) (fun kc => ?_) (fun kc => ?_)
    · have hf := if_t hf kc
      refine lv_iconst (v := (-1 : Int32)) hx hb dX7_tied_37 rfl ?_
      obtain ⟨rfl, rfl, rfl⟩ := sm3 hf
      exact hret H locs ls 38 hw dX7_tied_38
    · have hf := if_f hf kc
      refine lv_iload_n hx hb dX7_tied_29 rfl (lv_at hl 2 rfl) ?_
      obtain ⟨r5, hu6, hf⟩ := bd1_some hf
      refine cl_i (wr := [(a_m, .inr (7, [.int (0 : Int32), .long m_trace, .ref a_m_text, .int m_typed, .int m_next, .int m_token, .int m_place, .int m_value, .int m_fault, .ref a_m_lifts, .ref a_m_price, .ref a_m_stood, .ref a_m_hands, .ref a_m_wanted, .int m_rooms, .int m_people, .int m_things, .int m_draftRooms, .int m_draftPeople, .int m_draftThings, .ref a_m_s, .ref a_m_kept, .ref a_m_isKept, .ref a_m_due, .int m_dueMany, .ref a_m_cost, .ref a_m_then, .ref a_m_by])), (a_m_s, .inl (cI, 21, .inl m_s))]) (w2 := [(a_m, .inr (7, [.int (0 : Int32), .long m_trace, .ref a_m_text, .int m_typed, .int m_next, .int m_token, .int m_place, .int m_value, .int m_fault, .ref a_m_lifts, .ref a_m_price, .ref a_m_stood, .ref a_m_hands, .ref a_m_wanted, .int m_rooms, .int m_people, .int m_things, .int m_draftRooms, .int m_draftPeople, .int m_draftThings, .ref a_m_s, .ref a_m_kept, .ref a_m_isKept, .ref a_m_due, .int m_dueMany, .ref a_m_cost, .ref a_m_then, .ref a_m_by])), (a_m_s, .inl (cI, 21, .inl m_s))]) E hw [] [0, 1] [0, 1] (va_runS (As := [.int p2]) (rest := []) E.1 (c_X7_ones l dC dI cI cB cZ aK aV H.size p2 r5 hu6) (va_cwS 1 hts gX7_tied_X7_ones rfl rfl rfl hd_X7_ones ⟨Nat.le_of_ble_eq_true rfl, Nat.le_of_ble_eq_true rfl⟩) (pre_S E hw [] rfl rfl) rfl rfl hl.1 rfl (lv_room (Nat.le_of_ble_eq_true rfl)) dX7_tied_30 ⟨Nat.zero_le _, Nat.zero_le _⟩) rfl rfl rfl (by decide) rfl rfl (fun H locs hw => ?_)
      refine lv_iconst (v := (2 : Int32)) hx hb dX7_tied_33 rfl ?_
      refine lv_icmp_ge (tgt := 39) hx hb dX7_tied_34 (by decide) (fun kc => ?_) (fun kc => ?_)
      · have hf := if_t hf kc
        refine lv_bipush (v := (-9 : Int32)) hx hb dX7_tied_39 rfl ?_
        refine lv_istore_n (lv' := [(3, .int (-9 : Int32)), (0, .ref a_m), (1, .int p1), (2, .int p2)]) hx hb dX7_tied_41 rfl hl (by decide) rfl (fun ls hl => ?_)
        refine lv_aload_n hx hb dX7_tied_42 rfl (lv_at hl 1 rfl) ?_
        refine r_get E hw iX7 0 20 rfl rfl (by decide) kf28 rfl rfl dX7_tied_43 ?_
        refine lv_bipush (v := (16 : Int32)) hx hb dX7_tied_46 rfl ?_
        refine lv_iload_n hx hb dX7_tied_48 rfl (lv_at hl 2 rfl) ?_
        refine lv_iadd hx hb dX7_tied_49 ?_
        obtain ⟨g7, hf⟩ := gd_some hf
        refine r_iald E hw 1 rfl g7 dX7_tied_50 ?_
        refine jn_sound (P := fun J => ∀ (x8 : Int32) (ls : Array Slot) (H : Heap) (locs : List Loc), J x8 = some (r, q0, q1) → lv_has ls 6 [(0, .ref a_m), (1, .int p1), (2, .int p2), (3, .int (-9 : Int32))] → Wd A s.heap (dC, dI) [(a_m, .inr (7, [.int (0 : Int32), .long m_trace, .ref a_m_text, .int m_typed, .int m_next, .int m_token, .int m_place, .int m_value, .int m_fault, .ref a_m_lifts, .ref a_m_price, .ref a_m_stood, .ref a_m_hands, .ref a_m_wanted, .int m_rooms, .int m_people, .int m_things, .int m_draftRooms, .int m_draftPeople, .int m_draftThings, .ref a_m_s, .ref a_m_kept, .ref a_m_isKept, .ref a_m_due, .int m_dueMany, .ref a_m_cost, .ref a_m_then, .ref a_m_by])), (a_m_s, .inl (cI, 21, .inl m_s))] H locs → W p l e ({ frames := 2, cells := 0, slots := 0, locals := 43 } : Jvm.Room) s m args below meth c H locs 0 0 Q (F0 m 59 ls [.int x8])) hf ?_ ?_
        · intro x8 ls H locs hf hl hw
          refine lv_istore (lv' := [(4, .int x8), (0, .ref a_m), (1, .int p1), (2, .int p2), (3, .int (-9 : Int32))]) hx hb dX7_tied_59 hl (by decide) rfl (fun ls hl => ?_)
          refine lv_iconst (v := (0 : Int32)) hx hb dX7_tied_61 rfl ?_
          refine lv_istore (lv' := [(5, .int (0 : Int32)), (4, .int x8), (0, .ref a_m), (1, .int p1), (2, .int p2), (3, .int (-9 : Int32))]) hx hb dX7_tied_62 hl (by decide) rfl (fun ls hl => ?_)
          refine (loop3_sound (r := (r, q0, q1)) (P := fun (x24 : Int32) (x25 : Int32) (x26 : Int32) => ∀ (ls : Array Slot) (H : Heap) (locs : List Loc), lv_has ls 6 [(5, .int x26), (4, .int x25), (0, .ref a_m), (1, .int p1), (2, .int p2), (3, .int x24)] → Wd A s.heap (dC, dI) [(a_m, .inr (7, [.int (0 : Int32), .long m_trace, .ref a_m_text, .int m_typed, .int m_next, .int m_token, .int m_place, .int m_value, .int m_fault, .ref a_m_lifts, .ref a_m_price, .ref a_m_stood, .ref a_m_hands, .ref a_m_wanted, .int m_rooms, .int m_people, .int m_things, .int m_draftRooms, .int m_draftPeople, .int m_draftThings, .ref a_m_s, .ref a_m_kept, .ref a_m_isKept, .ref a_m_due, .int m_dueMany, .ref a_m_cost, .ref a_m_then, .ref a_m_by])), (a_m_s, .inl (cI, 21, .inl m_s))] H locs → W p l e ({ frames := 2, cells := 0, slots := 0, locals := 43 } : Jvm.Room) s m args below meth c H locs 0 0 Q (F0 m 64 ls [])) (fun B64 x24 x25 x26 ih64 hf => ?_) _ (-9 : Int32) x8 (0 : Int32) hf) ls H locs (lv_sub hl [0, 1, 2, 3, 4, 5] rfl) hw
          intro ls H locs hl hw
          refine lv_iload hx hb dX7_tied_64 (lv_at hl 0 rfl) ?_
          refine lv_aload_n hx hb dX7_tied_66 rfl (lv_at hl 2 rfl) ?_
          refine r_get E hw iX7 0 16 rfl rfl (by decide) kf133 rfl rfl dX7_tied_67 ?_
          refine lv_icmp_ge (tgt := 145) hx hb dX7_tied_70 (by decide) (fun kc => ?_) (fun kc => ?_)
          · have hf := if_t hf kc
            refine lv_iload hx hb dX7_tied_145 (lv_at hl 1 rfl) ?_
            refine lv_if_ne (tgt := 153) hx hb dX7_tied_147 (by decide) (fun kc => ?_) (fun kc => ?_)
            · have hf := if_f hf kc
              refine lv_aload_n hx hb dX7_tied_153 rfl (lv_at hl 2 rfl) ?_
              refine r_get E hw iX7 0 20 rfl rfl (by decide) kf28 rfl rfl dX7_tied_154 ?_
              refine lv_bipush (v := (16 : Int32)) hx hb dX7_tied_157 rfl ?_
              refine lv_iload_n hx hb dX7_tied_159 rfl (lv_at hl 3 rfl) ?_
              refine lv_iadd hx hb dX7_tied_160 ?_
              refine lv_dup2_11 hx hb dX7_tied_161 rfl rfl ?_
              obtain ⟨g27, hf⟩ := gd_some hf
              refine r_iald E hw 1 rfl g27 dX7_tied_162 ?_
              refine lv_iconst (v := (1 : Int32)) hx hb dX7_tied_163 rfl ?_
              refine lv_isub hx hb dX7_tied_164 ?_
              obtain ⟨g28, hf⟩ := gd_some hf
              refine r_iast E hw 1 rfl g28 [(a_m, .inr (7, [.int (0 : Int32), .long m_trace, .ref a_m_text, .int m_typed, .int m_next, .int m_token, .int m_place, .int m_value, .int m_fault, .ref a_m_lifts, .ref a_m_price, .ref a_m_stood, .ref a_m_hands, .ref a_m_wanted, .int m_rooms, .int m_people, .int m_things, .int m_draftRooms, .int m_draftPeople, .int m_draftThings, .ref a_m_s, .ref a_m_kept, .ref a_m_isKept, .ref a_m_due, .int m_dueMany, .ref a_m_cost, .ref a_m_then, .ref a_m_by])), (a_m_s, .inl (cI, 21, .inl (upd m_s ((16 : Int32) + p1).toNatClampNeg ((m_s ((16 : Int32) + p1).toNatClampNeg) - (1 : Int32)))))] rfl dX7_tied_165 (fun H locs hw => ?_)
              refine lv_iconst (v := (0 : Int32)) hx hb dX7_tied_166 rfl ?_
              refine lv_istore (lv' := [(5, .int (0 : Int32)), (4, .int x25), (0, .ref a_m), (1, .int p1), (2, .int p2), (3, .int x24)]) hx hb dX7_tied_167 hl (by decide) rfl (fun ls hl => ?_)
              refine (loop2_sound (r := (r, q0, q1)) (P := fun (x32 : Int32) (x33 : Nat → Int32) => ∀ (ls : Array Slot) (H : Heap) (locs : List Loc), lv_has ls 6 [(5, .int x32), (0, .ref a_m), (2, .int p2), (3, .int x24)] → Wd A s.heap (dC, dI) [(a_m, .inr (7, [.int (0 : Int32), .long m_trace, .ref a_m_text, .int m_typed, .int m_next, .int m_token, .int m_place, .int m_value, .int m_fault, .ref a_m_lifts, .ref a_m_price, .ref a_m_stood, .ref a_m_hands, .ref a_m_wanted, .int m_rooms, .int m_people, .int m_things, .int m_draftRooms, .int m_draftPeople, .int m_draftThings, .ref a_m_s, .ref a_m_kept, .ref a_m_isKept, .ref a_m_due, .int m_dueMany, .ref a_m_cost, .ref a_m_then, .ref a_m_by])), (a_m_s, .inl (cI, 21, .inl x33))] H locs → W p l e ({ frames := 2, cells := 0, slots := 0, locals := 43 } : Jvm.Room) s m args below meth c H locs 0 0 Q (F0 m 169 ls [])) (fun B169 x32 x33 ih169 hf => ?_) _ (0 : Int32) (upd m_s ((16 : Int32) + p1).toNatClampNeg ((m_s ((16 : Int32) + p1).toNatClampNeg) - (1 : Int32))) hf) ls H locs (lv_sub hl [0, 2, 4, 5] rfl) hw
              intro ls H locs hl hw
              refine lv_iload hx hb dX7_tied_169 (lv_at hl 0 rfl) ?_
              refine lv_aload_n hx hb dX7_tied_171 rfl (lv_at hl 1 rfl) ?_
              refine r_get E hw iX7 0 16 rfl rfl (by decide) kf133 rfl rfl dX7_tied_172 ?_
              refine lv_icmp_ge (tgt := 218) hx hb dX7_tied_175 (by decide) (fun kc => ?_) (fun kc => ?_)
              · have hf := if_t hf kc
                refine lv_iload_n hx hb dX7_tied_218 rfl (lv_at hl 3 rfl) ?_
                obtain ⟨rfl, rfl, rfl⟩ := sm3 hf
                exact hret H locs ls 219 hw dX7_tied_219
              · have hf := if_f hf kc
                refine lv_aload_n hx hb dX7_tied_178 rfl (lv_at hl 1 rfl) ?_
                refine r_get E hw iX7 0 20 rfl rfl (by decide) kf28 rfl rfl dX7_tied_179 ?_
                refine lv_bipush (v := (8 : Int32)) hx hb dX7_tied_182 rfl ?_
                refine lv_iload hx hb dX7_tied_184 (lv_at hl 0 rfl) ?_
                refine lv_iadd hx hb dX7_tied_186 ?_
                refine lv_iload_n hx hb dX7_tied_187 rfl (lv_at hl 2 rfl) ?_
                refine lv_iload hx hb dX7_tied_188 (lv_at hl 0 rfl) ?_
                refine lv_ishr hx hb dX7_tied_190 ?_
                refine lv_iconst (v := (1 : Int32)) hx hb dX7_tied_191 rfl ?_
                refine lv_iand hx hb dX7_tied_192 ?_
                refine lv_iconst (v := (1 : Int32)) hx hb dX7_tied_193 rfl ?_
                refine jn_sound (P := fun J => ∀ (x35 : Int32) (ls : Array Slot) (H : Heap) (locs : List Loc), J x35 = some (r, q0, q1) → lv_has ls 6 [(0, .ref a_m), (2, .int p2), (3, .int x24), (5, .int x32)] → Wd A s.heap (dC, dI) [(a_m, .inr (7, [.int (0 : Int32), .long m_trace, .ref a_m_text, .int m_typed, .int m_next, .int m_token, .int m_place, .int m_value, .int m_fault, .ref a_m_lifts, .ref a_m_price, .ref a_m_stood, .ref a_m_hands, .ref a_m_wanted, .int m_rooms, .int m_people, .int m_things, .int m_draftRooms, .int m_draftPeople, .int m_draftThings, .ref a_m_s, .ref a_m_kept, .ref a_m_isKept, .ref a_m_due, .int m_dueMany, .ref a_m_cost, .ref a_m_then, .ref a_m_by])), (a_m_s, .inl (cI, 21, .inl x33))] H locs → W p l e ({ frames := 2, cells := 0, slots := 0, locals := 43 } : Jvm.Room) s m args below meth c H locs 0 0 Q (F0 m 211 ls [.int x35, .int ((8 : Int32) + x32), .ref a_m_s])) hf ?_ ?_
                · intro x35 ls H locs hf hl hw
                  obtain ⟨g36, hf⟩ := gd_some hf
                  refine r_iast E hw 1 rfl g36 [(a_m, .inr (7, [.int (0 : Int32), .long m_trace, .ref a_m_text, .int m_typed, .int m_next, .int m_token, .int m_place, .int m_value, .int m_fault, .ref a_m_lifts, .ref a_m_price, .ref a_m_stood, .ref a_m_hands, .ref a_m_wanted, .int m_rooms, .int m_people, .int m_things, .int m_draftRooms, .int m_draftPeople, .int m_draftThings, .ref a_m_s, .ref a_m_kept, .ref a_m_isKept, .ref a_m_due, .int m_dueMany, .ref a_m_cost, .ref a_m_then, .ref a_m_by])), (a_m_s, .inl (cI, 21, .inl (upd x33 ((8 : Int32) + x32).toNatClampNeg x35)))] rfl dX7_tied_211 (fun H locs hw => ?_)
                  refine lv_iinc (v := (x32 + (1 : Int32))) (lv' := [(5, .int (x32 + (1 : Int32))), (0, .ref a_m), (2, .int p2), (3, .int x24)]) hx hb dX7_tied_212 hl (k := 3) rfl rfl (by decide) rfl (fun ls hl => ?_)
                  refine lv_goto (tgt := 169) hx hb dX7_tied_215 (by decide) ?_
                  exact ih169 (x32 + (1 : Int32)) (upd x33 ((8 : Int32) + x32).toNatClampNeg x35) hf ls H locs (lv_sub hl [0, 1, 2, 3] rfl) hw
                · intro J211 hJ211 hf
                  refine lv_icmp_ne (tgt := 201) hx hb dX7_tied_194 (by decide) (fun kc => ?_) (fun kc => ?_)
                  · have hf := if_f hf kc
                    refine lv_aload_n hx hb dX7_tied_201 rfl (lv_at hl 1 rfl) ?_
                    refine r_get E hw iX7 0 20 rfl rfl (by decide) kf28 rfl rfl dX7_tied_202 ?_
                    refine lv_bipush (v := (8 : Int32)) hx hb dX7_tied_205 rfl ?_
                    refine lv_iload hx hb dX7_tied_207 (lv_at hl 0 rfl) ?_
                    refine lv_iadd hx hb dX7_tied_209 ?_
                    obtain ⟨g34, hf⟩ := gd_some hf
                    refine r_iald E hw 1 rfl g34 dX7_tied_210 ?_
                    exact hJ211 (x33 ((8 : Int32) + x32).toNatClampNeg) ls H locs hf (lv_sub hl [1, 2, 3, 0] rfl) hw
                  · have hf := if_t hf kc
                    refine lv_iload_n hx hb dX7_tied_197 rfl (lv_at hl 3 rfl) ?_
                    refine lv_goto (tgt := 211) hx hb dX7_tied_198 (by decide) ?_
                    exact hJ211 x24 ls H locs hf (lv_sub hl [1, 2, 3, 0] rfl) hw
            · have hf := if_t hf kc
              refine lv_bipush (v := (-2 : Int32)) hx hb dX7_tied_150 rfl ?_
              obtain ⟨rfl, rfl, rfl⟩ := sm3 hf
              exact hret H locs ls 152 hw dX7_tied_152
          · have hf := if_f hf kc
            refine lv_iload_n hx hb dX7_tied_73 rfl (lv_at hl 4 rfl) ?_
            refine lv_iload hx hb dX7_tied_74 (lv_at hl 0 rfl) ?_
            refine lv_ishr hx hb dX7_tied_76 ?_
            refine lv_iconst (v := (1 : Int32)) hx hb dX7_tied_77 rfl ?_
            refine lv_iand hx hb dX7_tied_78 ?_
            refine lv_iconst (v := (1 : Int32)) hx hb dX7_tied_79 rfl ?_
            refine lv_icmp_ne (tgt := 139) hx hb dX7_tied_80 (by decide) (fun kc => ?_) (fun kc => ?_)
            · have hf := if_f hf kc
              refine lv_iinc (v := (x26 + (1 : Int32))) (lv' := [(5, .int (x26 + (1 : Int32))), (4, .int x25), (0, .ref a_m), (1, .int p1), (2, .int p2), (3, .int x24)]) hx hb dX7_tied_139 hl (k := 0) rfl rfl (by decide) rfl (fun ls hl => ?_)
              refine lv_goto (tgt := 64) hx hb dX7_tied_142 (by decide) ?_
              exact ih64 x24 x25 (x26 + (1 : Int32)) hf ls H locs (lv_sub hl [0, 1, 2, 3, 4, 5] rfl) hw
            · have hf := if_t hf kc
              refine lv_iload_n hx hb dX7_tied_83 rfl (lv_at hl 5 rfl) ?_
              refine lv_bipush (v := (-9 : Int32)) hx hb dX7_tied_84 rfl ?_
              refine jn_sound (P := fun J => ∀ (x37 : Int32) (ls : Array Slot) (H : Heap) (locs : List Loc), J x37 = some (r, q0, q1) → lv_has ls 6 [(0, .ref a_m), (1, .int p1), (2, .int p2), (4, .int x25), (5, .int x26)] → Wd A s.heap (dC, dI) [(a_m, .inr (7, [.int (0 : Int32), .long m_trace, .ref a_m_text, .int m_typed, .int m_next, .int m_token, .int m_place, .int m_value, .int m_fault, .ref a_m_lifts, .ref a_m_price, .ref a_m_stood, .ref a_m_hands, .ref a_m_wanted, .int m_rooms, .int m_people, .int m_things, .int m_draftRooms, .int m_draftPeople, .int m_draftThings, .ref a_m_s, .ref a_m_kept, .ref a_m_isKept, .ref a_m_due, .int m_dueMany, .ref a_m_cost, .ref a_m_then, .ref a_m_by])), (a_m_s, .inl (cI, 21, .inl m_s))] H locs → W p l e ({ frames := 2, cells := 0, slots := 0, locals := 43 } : Jvm.Room) s m args below meth c H locs 0 0 Q (F0 m 95 ls [.int x37])) hf ?_ ?_
              · intro x37 ls H locs hf hl hw
                refine lv_istore_n (lv' := [(3, .int x37), (0, .ref a_m), (1, .int p1), (2, .int p2), (4, .int x25), (5, .int x26)]) hx hb dX7_tied_95 rfl hl (by decide) rfl (fun ls hl => ?_)
                refine lv_iload hx hb dX7_tied_96 (lv_at hl 4 rfl) ?_
                refine jn_sound (P := fun J => ∀ (x41 : Int32) (ls : Array Slot) (H : Heap) (locs : List Loc), J x41 = some (r, q0, q1) → lv_has ls 6 [(0, .ref a_m), (1, .int p1), (2, .int p2), (3, .int x37), (5, .int x26)] → Wd A s.heap (dC, dI) [(a_m, .inr (7, [.int (0 : Int32), .long m_trace, .ref a_m_text, .int m_typed, .int m_next, .int m_token, .int m_place, .int m_value, .int m_fault, .ref a_m_lifts, .ref a_m_price, .ref a_m_stood, .ref a_m_hands, .ref a_m_wanted, .int m_rooms, .int m_people, .int m_things, .int m_draftRooms, .int m_draftPeople, .int m_draftThings, .ref a_m_s, .ref a_m_kept, .ref a_m_isKept, .ref a_m_due, .int m_dueMany, .ref a_m_cost, .ref a_m_then, .ref a_m_by])), (a_m_s, .inl (cI, 21, .inl m_s))] H locs → W p l e ({ frames := 2, cells := 0, slots := 0, locals := 43 } : Jvm.Room) s m args below meth c H locs 0 0 Q (F0 m 137 ls [.int x41])) hf ?_ ?_
                · intro x41 ls H locs hf hl hw
                  refine lv_istore (lv' := [(4, .int x41), (0, .ref a_m), (1, .int p1), (2, .int p2), (3, .int x37), (5, .int x26)]) hx hb dX7_tied_137 hl (by decide) rfl (fun ls hl => ?_)
                  refine lv_iinc (v := (x26 + (1 : Int32))) (lv' := [(5, .int (x26 + (1 : Int32))), (4, .int x41), (0, .ref a_m), (1, .int p1), (2, .int p2), (3, .int x37)]) hx hb dX7_tied_139 hl (k := 5) rfl rfl (by decide) rfl (fun ls hl => ?_)
                  refine lv_goto (tgt := 64) hx hb dX7_tied_142 (by decide) ?_
                  exact ih64 x37 x41 (x26 + (1 : Int32)) hf ls H locs (lv_sub hl [0, 1, 2, 3, 4, 5] rfl) hw
                · intro J137 hJ137 hf
                  refine jn_sound (P := fun J => ∀ (ls : Array Slot) (H : Heap) (locs : List Loc), J = some (r, q0, q1) → lv_has ls 6 [(0, .ref a_m), (1, .int p1), (2, .int p2), (3, .int x37), (5, .int x26)] → Wd A s.heap (dC, dI) [(a_m, .inr (7, [.int (0 : Int32), .long m_trace, .ref a_m_text, .int m_typed, .int m_next, .int m_token, .int m_place, .int m_value, .int m_fault, .ref a_m_lifts, .ref a_m_price, .ref a_m_stood, .ref a_m_hands, .ref a_m_wanted, .int m_rooms, .int m_people, .int m_things, .int m_draftRooms, .int m_draftPeople, .int m_draftThings, .ref a_m_s, .ref a_m_kept, .ref a_m_isKept, .ref a_m_due, .int m_dueMany, .ref a_m_cost, .ref a_m_then, .ref a_m_by])), (a_m_s, .inl (cI, 21, .inl m_s))] H locs → W p l e ({ frames := 2, cells := 0, slots := 0, locals := 43 } : Jvm.Room) s m args below meth c H locs 0 0 Q (F0 m 136 ls [])) hf ?_ ?_
                  · intro ls H locs hf hl hw
                    refine lv_iconst (v := (0 : Int32)) hx hb dX7_tied_136 rfl ?_
                    exact hJ137 (0 : Int32) ls H locs hf hl hw
                  · intro J136 hJ136 hf
                    refine lv_if_eq (tgt := 136) hx hb dX7_tied_98 (by decide) (fun kc => ?_) (fun kc => ?_)
                    · have hf := if_t hf kc
                      exact hJ136 ls H locs hf (lv_sub hl [1, 2, 3, 0, 5] rfl) hw
                    · have hf := if_f hf kc
                      refine lv_aload_n hx hb dX7_tied_101 rfl (lv_at hl 1 rfl) ?_
                      refine r_get E hw iX7 0 20 rfl rfl (by decide) kf28 rfl rfl dX7_tied_102 ?_
                      refine lv_bipush (v := (8 : Int32)) hx hb dX7_tied_105 rfl ?_
                      refine lv_iload hx hb dX7_tied_107 (lv_at hl 5 rfl) ?_
                      refine lv_iadd hx hb dX7_tied_109 ?_
                      obtain ⟨g38, hf⟩ := gd_some hf
                      refine r_iald E hw 1 rfl g38 dX7_tied_110 ?_
                      refine lv_bipush (v := (-9 : Int32)) hx hb dX7_tied_111 rfl ?_
                      refine lv_icmp_ne (tgt := 136) hx hb dX7_tied_113 (by decide) (fun kc => ?_) (fun kc => ?_)
                      · have hf := if_f hf kc
                        exact hJ136 ls H locs hf (lv_sub hl [1, 2, 3, 0, 5] rfl) hw
                      · have hf := if_t hf kc
                        refine lv_aload_n hx hb dX7_tied_116 rfl (lv_at hl 1 rfl) ?_
                        refine r_get E hw iX7 0 20 rfl rfl (by decide) kf28 rfl rfl dX7_tied_117 ?_
                        refine lv_iload hx hb dX7_tied_120 (lv_at hl 5 rfl) ?_
                        obtain ⟨g39, hf⟩ := gd_some hf
                        refine r_iald E hw 1 rfl g39 dX7_tied_122 ?_
                        refine lv_aload_n hx hb dX7_tied_123 rfl (lv_at hl 1 rfl) ?_
                        refine r_get E hw iX7 0 20 rfl rfl (by decide) kf28 rfl rfl dX7_tied_124 ?_
                        refine lv_iload_n hx hb dX7_tied_127 rfl (lv_at hl 0 rfl) ?_
                        obtain ⟨g40, hf⟩ := gd_some hf
                        refine r_iald E hw 1 rfl g40 dX7_tied_128 ?_
                        refine lv_icmp_ne (tgt := 136) hx hb dX7_tied_129 (by decide) (fun kc => ?_) (fun kc => ?_)
                        · have hf := if_f hf kc
                          exact hJ136 ls H locs hf (lv_sub hl [1, 2, 3, 0, 5] rfl) hw
                        · have hf := if_t hf kc
                          refine lv_iconst (v := (1 : Int32)) hx hb dX7_tied_132 rfl ?_
                          refine lv_goto (tgt := 137) hx hb dX7_tied_133 (by decide) ?_
                          exact hJ137 (1 : Int32) ls H locs hf (lv_sub hl [1, 2, 3, 0, 5] rfl) hw
              · intro J95 hJ95 hf
                refine lv_icmp_ne (tgt := 94) hx hb dX7_tied_86 (by decide) (fun kc => ?_) (fun kc => ?_)
                · have hf := if_f hf kc
                  refine lv_iload_n hx hb dX7_tied_94 rfl (lv_at hl 5 rfl) ?_
                  exact hJ95 x24 ls H locs hf (lv_sub hl [2, 3, 4, 1, 0] rfl) hw
                · have hf := if_t hf kc
                  refine lv_iload hx hb dX7_tied_89 (lv_at hl 0 rfl) ?_
                  refine lv_goto (tgt := 95) hx hb dX7_tied_91 (by decide) ?_
                  exact hJ95 x26 ls H locs hf (lv_sub hl [2, 3, 4, 1, 0] rfl) hw
        · intro J59 hJ59 hf
          refine lv_if_le (tgt := 58) hx hb dX7_tied_51 (by decide) (fun kc => ?_) (fun kc => ?_)
          · have hf := if_t hf kc
            refine lv_iconst (v := (0 : Int32)) hx hb dX7_tied_58 rfl ?_
            exact hJ59 (0 : Int32) ls H locs hf (lv_sub hl [1, 2, 3, 0] rfl) hw
          · have hf := if_f hf kc
            refine lv_iconst (v := (1 : Int32)) hx hb dX7_tied_54 rfl ?_
            refine lv_goto (tgt := 59) hx hb dX7_tied_55 (by decide) ?_
            exact hJ59 (1 : Int32) ls H locs hf (lv_sub hl [1, 2, 3, 0] rfl) hw
      · have hf := if_f hf kc
        refine lv_iconst (v := (-1 : Int32)) hx hb dX7_tied_37 rfl ?_
        obtain ⟨rfl, rfl, rfl⟩ := sm3 hf
        exact hret H locs ls 38 hw dX7_tied_38
def f_X7_untied (p1 : Int32) (m_things : Int32) (m_s : Nat → Int32) : Option (Int32 × Int32 × (Nat → Int32)) :=
  bd1 (f_X7_isThing p1 m_things) (fun r1 => (if r1 = 0 then some ((-1 : Int32), (0 : Int32), m_s) else gd (inb ((8 : Int32) + p1) 21) ((if (m_s ((8 : Int32) + p1).toNatClampNeg) = (-9 : Int32) then some ((-2 : Int32), (0 : Int32), m_s) else loop3 (fun B39 (x6 : Int32) (x7 : Int32) (x8 : Nat → Int32) => (if m_things ≤ x7 then some (x6, (0 : Int32), x8) else gd (inb ((8 : Int32) + x7) 21) ((if (x8 ((8 : Int32) + x7).toNatClampNeg) = (m_s ((8 : Int32) + p1).toNatClampNeg) then gd (inb ((8 : Int32) + x7) 21) (B39 (x6 + (1 : Int32)) (x7 + (1 : Int32)) (upd x8 ((8 : Int32) + x7).toNatClampNeg (-9 : Int32))) else B39 x6 (x7 + (1 : Int32)) x8)))) FU (0 : Int32) (0 : Int32) m_s))))
theorem hd_X7_untied : yX7_untied.cls = RX7 ∧ yX7_untied.cls ≠ "java/lang/invoke/MethodHandle" ∧ yX7_untied.cls ≠ "java/lang/invoke/VarHandle" ∧ (parseMethodDescriptor yX7_untied.desc).map (fun d => d.parameters.length) = some 1 := by decide +kernel
set_option maxHeartbeats 4000000 in
set_option maxRecDepth 100000 in
theorem c_X7_untied (l : Launch) (dC : Nat → ClassId) (dI : Nat → Nat → Nat) (cI cB cZ : ClassId) (aK aV : Nat → Nat) (a_m a_m_text a_m_lifts a_m_price a_m_stood a_m_hands a_m_wanted a_m_s a_m_kept a_m_isKept a_m_due a_m_cost a_m_then a_m_by : Nat) (sz : Nat) (m_thrown : Int32) (m_trace : Int64) (m_typed : Int32) (m_next : Int32) (m_token : Int32) (m_place : Int32) (m_value : Int32) (m_fault : Int32) (m_rooms : Int32) (m_people : Int32) (m_things : Int32) (m_draftRooms : Int32) (m_draftPeople : Int32) (m_draftThings : Int32) (m_dueMany : Int32) (m_s : Nat → Int32) (p1 : Int32) (r : Int32) (q0 : Int32) (q1 : Nat → Int32) (hf : f_X7_untied p1 m_things m_s = some (r, q0, q1)) : Met l yX7_untied wsX7_untied ({ frames := 2, cells := 0, slots := 0, locals := 43 } : Jvm.Room) (va_Pc [.ref a_m, .int p1] (preW (dC, dI) (tyL cI cB cZ) aK aV sz [(a_m, .inr (7, [.int m_thrown, .long m_trace, .ref a_m_text, .int m_typed, .int m_next, .int m_token, .int m_place, .int m_value, .int m_fault, .ref a_m_lifts, .ref a_m_price, .ref a_m_stood, .ref a_m_hands, .ref a_m_wanted, .int m_rooms, .int m_people, .int m_things, .int m_draftRooms, .int m_draftPeople, .int m_draftThings, .ref a_m_s, .ref a_m_kept, .ref a_m_isKept, .ref a_m_due, .int m_dueMany, .ref a_m_cost, .ref a_m_then, .ref a_m_by])), (a_m_s, .inl (cI, 21, .inl m_s))])) (va_Qi (fun v (_ : Unit) => v = r) (postW (dC, dI) (tyL cI cB cZ) (va_A [(a_m, .inr (7, [.int m_thrown, .long m_trace, .ref a_m_text, .int m_typed, .int m_next, .int m_token, .int m_place, .int m_value, .int m_fault, .ref a_m_lifts, .ref a_m_price, .ref a_m_stood, .ref a_m_hands, .ref a_m_wanted, .int m_rooms, .int m_people, .int m_things, .int m_draftRooms, .int m_draftPeople, .int m_draftThings, .ref a_m_s, .ref a_m_kept, .ref a_m_isKept, .ref a_m_due, .int m_dueMany, .ref a_m_cost, .ref a_m_then, .ref a_m_by])), (a_m_s, .inl (cI, 21, .inl m_s))] sz) [(a_m, .inr (7, [.int q0, .long m_trace, .ref a_m_text, .int m_typed, .int m_next, .int m_token, .int m_place, .int m_value, .int m_fault, .ref a_m_lifts, .ref a_m_price, .ref a_m_stood, .ref a_m_hands, .ref a_m_wanted, .int m_rooms, .int m_people, .int m_things, .int m_draftRooms, .int m_draftPeople, .int m_draftThings, .ref a_m_s, .ref a_m_kept, .ref a_m_isKept, .ref a_m_due, .int m_dueMany, .ref a_m_cost, .ref a_m_then, .ref a_m_by])), (a_m_s, .inl (cI, 21, .inl q1))]) (va_A [(a_m, .inr (7, [.int m_thrown, .long m_trace, .ref a_m_text, .int m_typed, .int m_next, .int m_token, .int m_place, .int m_value, .int m_fault, .ref a_m_lifts, .ref a_m_price, .ref a_m_stood, .ref a_m_hands, .ref a_m_wanted, .int m_rooms, .int m_people, .int m_things, .int m_draftRooms, .int m_draftPeople, .int m_draftThings, .ref a_m_s, .ref a_m_kept, .ref a_m_isKept, .ref a_m_due, .int m_dueMany, .ref a_m_cost, .ref a_m_then, .ref a_m_by])), (a_m_s, .inl (cI, 21, .inl m_s))] sz)) 0 0 (va_A [(a_m, .inr (7, [.int m_thrown, .long m_trace, .ref a_m_text, .int m_typed, .int m_next, .int m_token, .int m_place, .int m_value, .int m_fault, .ref a_m_lifts, .ref a_m_price, .ref a_m_stood, .ref a_m_hands, .ref a_m_wanted, .int m_rooms, .int m_people, .int m_things, .int m_draftRooms, .int m_draftPeople, .int m_draftThings, .ref a_m_s, .ref a_m_kept, .ref a_m_isKept, .ref a_m_due, .int m_dueMany, .ref a_m_cost, .ref a_m_then, .ref a_m_by])), (a_m_s, .inl (cI, 21, .inl m_s))] sz) := by
  refine met_i (cc := cX7_untied) (maxL := 5) (own := RX7) (by decide) rfl (Nat.le_of_ble_eq_true rfl) rfl (fun p e s m args below meth c Q A E hret ls H locs hl hw => ?_)
  obtain ⟨⟨hx, hb, hml, hown, hts⟩, hK, hN, hA, hX⟩ := id E
  have hl : lv_has ls 5 [(0, .ref a_m), (1, .int p1)] := hl
  have iX7 : ∀ w ∈ wsX70, w ∈ wsX7_untied := by decide +kernel
  have kf57 := hts (.fieldLink RX7 57 "FiveThingsModel" "thrown" "I") (by decide +kernel)
  have kf28 := hts (.fieldLink RX7 28 "FiveThingsModel" "s" "[I") (by decide +kernel)
  have kf133 := hts (.fieldLink RX7 133 "FiveThingsModel" "things" "I") (by decide +kernel)
  unfold f_X7_untied at hf
  refine lv_aload_n hx hb dX7_untied_0 rfl (lv_at hl 0 rfl) ?_
  refine lv_iconst (v := (0 : Int32)) hx hb dX7_untied_1 rfl ?_
  refine r_put E hw iX7 tyX7_ok nmX7 0 0 rfl rfl (by decide) kf57 rfl rfl rfl rfl (Nat.le_of_ble_eq_true rfl) [(a_m, .inr (7, [.int (0 : Int32), .long m_trace, .ref a_m_text, .int m_typed, .int m_next, .int m_token, .int m_place, .int m_value, .int m_fault, .ref a_m_lifts, .ref a_m_price, .ref a_m_stood, .ref a_m_hands, .ref a_m_wanted, .int m_rooms, .int m_people, .int m_things, .int m_draftRooms, .int m_draftPeople, .int m_draftThings, .ref a_m_s, .ref a_m_kept, .ref a_m_isKept, .ref a_m_due, .int m_dueMany, .ref a_m_cost, .ref a_m_then, .ref a_m_by])), (a_m_s, .inl (cI, 21, .inl m_s))] rfl dX7_untied_2 (fun H locs hw => ?_)
  refine lv_aload_n hx hb dX7_untied_5 rfl (lv_at hl 0 rfl) ?_
  refine lv_iload_n hx hb dX7_untied_6 rfl (lv_at hl 1 rfl) ?_
  obtain ⟨r1, hu2, hf⟩ := bd1_some hf
  refine cl_i (wr := [(a_m_s, .inl (cI, 21, .inl m_s))]) (w2 := [(a_m, .inr (7, [.int (0 : Int32), .long m_trace, .ref a_m_text, .int m_typed, .int m_next, .int m_token, .int m_place, .int m_value, .int m_fault, .ref a_m_lifts, .ref a_m_price, .ref a_m_stood, .ref a_m_hands, .ref a_m_wanted, .int m_rooms, .int m_people, .int m_things, .int m_draftRooms, .int m_draftPeople, .int m_draftThings, .ref a_m_s, .ref a_m_kept, .ref a_m_isKept, .ref a_m_due, .int m_dueMany, .ref a_m_cost, .ref a_m_then, .ref a_m_by])), (a_m_s, .inl (cI, 21, .inl m_s))]) E hw [0] [1] [1, 0] (va_runV (As := [.int p1]) (rest := []) E.1 (c_X7_isThing l dC dI cI cB cZ aK aV a_m a_m_text a_m_lifts a_m_price a_m_stood a_m_hands a_m_wanted a_m_s a_m_kept a_m_isKept a_m_due a_m_cost a_m_then a_m_by H.size (0 : Int32) m_trace m_typed m_next m_token m_place m_value m_fault m_rooms m_people m_things m_draftRooms m_draftPeople m_draftThings m_dueMany p1 r1 hu2) (cwV 1 hts gX7_untied_X7_isThing rfl rfl rfl hd_X7_isThing ⟨Nat.le_of_ble_eq_true rfl, Nat.le_of_ble_eq_true rfl⟩) (pre_V E hw [0] rfl rfl rfl rfl) rfl rfl hl.1 rfl (lv_room (Nat.le_of_ble_eq_true rfl)) dX7_untied_7 ⟨Nat.zero_le _, Nat.zero_le _⟩) rfl rfl rfl (by decide) rfl rfl (fun H locs hw => ?_)
  refine lv_if_ne (tgt := 15) hx hb dX7_untied_10 (by decide) (fun kc => ?_) (fun kc => ?_)
  · have hf := if_f hf kc
    refine lv_aload_n hx hb dX7_untied_15 rfl (lv_at hl 0 rfl) ?_
    refine r_get E hw iX7 0 20 rfl rfl (by decide) kf28 rfl rfl dX7_untied_16 ?_
    refine lv_bipush (v := (8 : Int32)) hx hb dX7_untied_19 rfl ?_
    refine lv_iload_n hx hb dX7_untied_21 rfl (lv_at hl 1 rfl) ?_
    refine lv_iadd hx hb dX7_untied_22 ?_
    obtain ⟨g3, hf⟩ := gd_some hf
    refine r_iald E hw 1 rfl g3 dX7_untied_23 ?_
    refine lv_istore_n (lv' := [(2, .int (m_s ((8 : Int32) + p1).toNatClampNeg)), (0, .ref a_m), (1, .int p1)]) hx hb dX7_untied_24 rfl hl (by decide) rfl (fun ls hl => ?_)
    refine lv_iload_n hx hb dX7_untied_25 rfl (lv_at hl 0 rfl) ?_
    refine lv_bipush (v := (-9 : Int32)) hx hb dX7_untied_26 rfl ?_
    refine lv_icmp_ne (tgt := 34) hx hb dX7_untied_28 (by decide) (fun kc => ?_) (fun kc => ?_)
    · have hf := if_f hf kc
      refine lv_iconst (v := (0 : Int32)) hx hb dX7_untied_34 rfl ?_
      refine lv_istore_n (lv' := [(3, .int (0 : Int32)), (2, .int (m_s ((8 : Int32) + p1).toNatClampNeg)), (0, .ref a_m), (1, .int p1)]) hx hb dX7_untied_35 rfl hl (by decide) rfl (fun ls hl => ?_)
      refine lv_iconst (v := (0 : Int32)) hx hb dX7_untied_36 rfl ?_
      refine lv_istore (lv' := [(4, .int (0 : Int32)), (3, .int (0 : Int32)), (2, .int (m_s ((8 : Int32) + p1).toNatClampNeg)), (0, .ref a_m), (1, .int p1)]) hx hb dX7_untied_37 hl (by decide) rfl (fun ls hl => ?_)
      refine (loop3_sound (r := (r, q0, q1)) (P := fun (x6 : Int32) (x7 : Int32) (x8 : Nat → Int32) => ∀ (ls : Array Slot) (H : Heap) (locs : List Loc), lv_has ls 5 [(4, .int x7), (3, .int x6), (2, .int (m_s ((8 : Int32) + p1).toNatClampNeg)), (0, .ref a_m)] → Wd A s.heap (dC, dI) [(a_m, .inr (7, [.int (0 : Int32), .long m_trace, .ref a_m_text, .int m_typed, .int m_next, .int m_token, .int m_place, .int m_value, .int m_fault, .ref a_m_lifts, .ref a_m_price, .ref a_m_stood, .ref a_m_hands, .ref a_m_wanted, .int m_rooms, .int m_people, .int m_things, .int m_draftRooms, .int m_draftPeople, .int m_draftThings, .ref a_m_s, .ref a_m_kept, .ref a_m_isKept, .ref a_m_due, .int m_dueMany, .ref a_m_cost, .ref a_m_then, .ref a_m_by])), (a_m_s, .inl (cI, 21, .inl x8))] H locs → W p l e ({ frames := 2, cells := 0, slots := 0, locals := 43 } : Jvm.Room) s m args below meth c H locs 0 0 Q (F0 m 39 ls [])) (fun B39 x6 x7 x8 ih39 hf => ?_) _ (0 : Int32) (0 : Int32) m_s hf) ls H locs (lv_sub hl [0, 1, 2, 3] rfl) hw
      intro ls H locs hl hw
      refine lv_iload hx hb dX7_untied_39 (lv_at hl 0 rfl) ?_
      refine lv_aload_n hx hb dX7_untied_41 rfl (lv_at hl 3 rfl) ?_
      refine r_get E hw iX7 0 16 rfl rfl (by decide) kf133 rfl rfl dX7_untied_42 ?_
      refine lv_icmp_ge (tgt := 83) hx hb dX7_untied_45 (by decide) (fun kc => ?_) (fun kc => ?_)
      · have hf := if_t hf kc
        refine lv_iload_n hx hb dX7_untied_83 rfl (lv_at hl 1 rfl) ?_
        obtain ⟨rfl, rfl, rfl⟩ := sm3 hf
        exact hret H locs ls 84 hw dX7_untied_84
      · have hf := if_f hf kc
        refine lv_aload_n hx hb dX7_untied_48 rfl (lv_at hl 3 rfl) ?_
        refine r_get E hw iX7 0 20 rfl rfl (by decide) kf28 rfl rfl dX7_untied_49 ?_
        refine lv_bipush (v := (8 : Int32)) hx hb dX7_untied_52 rfl ?_
        refine lv_iload hx hb dX7_untied_54 (lv_at hl 0 rfl) ?_
        refine lv_iadd hx hb dX7_untied_56 ?_
        obtain ⟨g9, hf⟩ := gd_some hf
        refine r_iald E hw 1 rfl g9 dX7_untied_57 ?_
        refine lv_iload_n hx hb dX7_untied_58 rfl (lv_at hl 2 rfl) ?_
        refine lv_icmp_ne (tgt := 77) hx hb dX7_untied_59 (by decide) (fun kc => ?_) (fun kc => ?_)
        · have hf := if_f hf kc
          refine lv_iinc (v := (x7 + (1 : Int32))) (lv' := [(4, .int (x7 + (1 : Int32))), (3, .int x6), (2, .int (m_s ((8 : Int32) + p1).toNatClampNeg)), (0, .ref a_m)]) hx hb dX7_untied_77 hl (k := 0) rfl rfl (by decide) rfl (fun ls hl => ?_)
          refine lv_goto (tgt := 39) hx hb dX7_untied_80 (by decide) ?_
          exact ih39 x6 (x7 + (1 : Int32)) x8 hf ls H locs (lv_sub hl [0, 1, 2, 3] rfl) hw
        · have hf := if_t hf kc
          refine lv_aload_n hx hb dX7_untied_62 rfl (lv_at hl 3 rfl) ?_
          refine r_get E hw iX7 0 20 rfl rfl (by decide) kf28 rfl rfl dX7_untied_63 ?_
          refine lv_bipush (v := (8 : Int32)) hx hb dX7_untied_66 rfl ?_
          refine lv_iload hx hb dX7_untied_68 (lv_at hl 0 rfl) ?_
          refine lv_iadd hx hb dX7_untied_70 ?_
          refine lv_bipush (v := (-9 : Int32)) hx hb dX7_untied_71 rfl ?_
          obtain ⟨g10, hf⟩ := gd_some hf
          refine r_iast E hw 1 rfl g10 [(a_m, .inr (7, [.int (0 : Int32), .long m_trace, .ref a_m_text, .int m_typed, .int m_next, .int m_token, .int m_place, .int m_value, .int m_fault, .ref a_m_lifts, .ref a_m_price, .ref a_m_stood, .ref a_m_hands, .ref a_m_wanted, .int m_rooms, .int m_people, .int m_things, .int m_draftRooms, .int m_draftPeople, .int m_draftThings, .ref a_m_s, .ref a_m_kept, .ref a_m_isKept, .ref a_m_due, .int m_dueMany, .ref a_m_cost, .ref a_m_then, .ref a_m_by])), (a_m_s, .inl (cI, 21, .inl (upd x8 ((8 : Int32) + x7).toNatClampNeg (-9 : Int32))))] rfl dX7_untied_73 (fun H locs hw => ?_)
          refine lv_iinc (v := (x6 + (1 : Int32))) (lv' := [(3, .int (x6 + (1 : Int32))), (4, .int x7), (2, .int (m_s ((8 : Int32) + p1).toNatClampNeg)), (0, .ref a_m)]) hx hb dX7_untied_74 hl (k := 1) rfl rfl (by decide) rfl (fun ls hl => ?_)
          refine lv_iinc (v := (x7 + (1 : Int32))) (lv' := [(4, .int (x7 + (1 : Int32))), (3, .int (x6 + (1 : Int32))), (2, .int (m_s ((8 : Int32) + p1).toNatClampNeg)), (0, .ref a_m)]) hx hb dX7_untied_77 hl (k := 1) rfl rfl (by decide) rfl (fun ls hl => ?_)
          refine lv_goto (tgt := 39) hx hb dX7_untied_80 (by decide) ?_
          exact ih39 (x6 + (1 : Int32)) (x7 + (1 : Int32)) (upd x8 ((8 : Int32) + x7).toNatClampNeg (-9 : Int32)) hf ls H locs (lv_sub hl [0, 1, 2, 3] rfl) hw
    · have hf := if_t hf kc
      refine lv_bipush (v := (-2 : Int32)) hx hb dX7_untied_31 rfl ?_
      obtain ⟨rfl, rfl, rfl⟩ := sm3 hf
      exact hret H locs ls 33 hw dX7_untied_33
  · have hf := if_t hf kc
    refine lv_iconst (v := (-1 : Int32)) hx hb dX7_untied_13 rfl ?_
    obtain ⟨rfl, rfl, rfl⟩ := sm3 hf
    exact hret H locs ls 14 hw dX7_untied_14
def f_X7_dropped (p1 : Int32) (m_people : Int32) (m_s : Nat → Int32) : Option (Int32 × Int32 × (Nat → Int32)) :=
  bd1 (f_X7_isPerson p1 m_people) (fun r1 => (if r1 = 0 then some ((-1 : Int32), (0 : Int32), m_s) else gd (inb ((16 : Int32) + p1) 21) ((if (m_s ((16 : Int32) + p1).toNatClampNeg) = 0 then some ((-2 : Int32), (0 : Int32), m_s) else gd (inb ((16 : Int32) + p1) 21) (gd (inb ((16 : Int32) + p1) 21) (gd (inb ((16 : Int32) + p1) 21) (some (((upd m_s ((16 : Int32) + p1).toNatClampNeg ((m_s ((16 : Int32) + p1).toNatClampNeg) - (1 : Int32))) ((16 : Int32) + p1).toNatClampNeg), (0 : Int32), (upd m_s ((16 : Int32) + p1).toNatClampNeg ((m_s ((16 : Int32) + p1).toNatClampNeg) - (1 : Int32)))))))))))
theorem hd_X7_dropped : yX7_dropped.cls = RX7 ∧ yX7_dropped.cls ≠ "java/lang/invoke/MethodHandle" ∧ yX7_dropped.cls ≠ "java/lang/invoke/VarHandle" ∧ (parseMethodDescriptor yX7_dropped.desc).map (fun d => d.parameters.length) = some 1 := by decide +kernel
set_option maxHeartbeats 4000000 in
set_option maxRecDepth 100000 in
theorem c_X7_dropped (l : Launch) (dC : Nat → ClassId) (dI : Nat → Nat → Nat) (cI cB cZ : ClassId) (aK aV : Nat → Nat) (a_m a_m_text a_m_lifts a_m_price a_m_stood a_m_hands a_m_wanted a_m_s a_m_kept a_m_isKept a_m_due a_m_cost a_m_then a_m_by : Nat) (sz : Nat) (m_thrown : Int32) (m_trace : Int64) (m_typed : Int32) (m_next : Int32) (m_token : Int32) (m_place : Int32) (m_value : Int32) (m_fault : Int32) (m_rooms : Int32) (m_people : Int32) (m_things : Int32) (m_draftRooms : Int32) (m_draftPeople : Int32) (m_draftThings : Int32) (m_dueMany : Int32) (m_s : Nat → Int32) (p1 : Int32) (r : Int32) (q0 : Int32) (q1 : Nat → Int32) (hf : f_X7_dropped p1 m_people m_s = some (r, q0, q1)) : Met l yX7_dropped wsX7_dropped ({ frames := 2, cells := 0, slots := 0, locals := 43 } : Jvm.Room) (va_Pc [.ref a_m, .int p1] (preW (dC, dI) (tyL cI cB cZ) aK aV sz [(a_m, .inr (7, [.int m_thrown, .long m_trace, .ref a_m_text, .int m_typed, .int m_next, .int m_token, .int m_place, .int m_value, .int m_fault, .ref a_m_lifts, .ref a_m_price, .ref a_m_stood, .ref a_m_hands, .ref a_m_wanted, .int m_rooms, .int m_people, .int m_things, .int m_draftRooms, .int m_draftPeople, .int m_draftThings, .ref a_m_s, .ref a_m_kept, .ref a_m_isKept, .ref a_m_due, .int m_dueMany, .ref a_m_cost, .ref a_m_then, .ref a_m_by])), (a_m_s, .inl (cI, 21, .inl m_s))])) (va_Qi (fun v (_ : Unit) => v = r) (postW (dC, dI) (tyL cI cB cZ) (va_A [(a_m, .inr (7, [.int m_thrown, .long m_trace, .ref a_m_text, .int m_typed, .int m_next, .int m_token, .int m_place, .int m_value, .int m_fault, .ref a_m_lifts, .ref a_m_price, .ref a_m_stood, .ref a_m_hands, .ref a_m_wanted, .int m_rooms, .int m_people, .int m_things, .int m_draftRooms, .int m_draftPeople, .int m_draftThings, .ref a_m_s, .ref a_m_kept, .ref a_m_isKept, .ref a_m_due, .int m_dueMany, .ref a_m_cost, .ref a_m_then, .ref a_m_by])), (a_m_s, .inl (cI, 21, .inl m_s))] sz) [(a_m, .inr (7, [.int q0, .long m_trace, .ref a_m_text, .int m_typed, .int m_next, .int m_token, .int m_place, .int m_value, .int m_fault, .ref a_m_lifts, .ref a_m_price, .ref a_m_stood, .ref a_m_hands, .ref a_m_wanted, .int m_rooms, .int m_people, .int m_things, .int m_draftRooms, .int m_draftPeople, .int m_draftThings, .ref a_m_s, .ref a_m_kept, .ref a_m_isKept, .ref a_m_due, .int m_dueMany, .ref a_m_cost, .ref a_m_then, .ref a_m_by])), (a_m_s, .inl (cI, 21, .inl q1))]) (va_A [(a_m, .inr (7, [.int m_thrown, .long m_trace, .ref a_m_text, .int m_typed, .int m_next, .int m_token, .int m_place, .int m_value, .int m_fault, .ref a_m_lifts, .ref a_m_price, .ref a_m_stood, .ref a_m_hands, .ref a_m_wanted, .int m_rooms, .int m_people, .int m_things, .int m_draftRooms, .int m_draftPeople, .int m_draftThings, .ref a_m_s, .ref a_m_kept, .ref a_m_isKept, .ref a_m_due, .int m_dueMany, .ref a_m_cost, .ref a_m_then, .ref a_m_by])), (a_m_s, .inl (cI, 21, .inl m_s))] sz)) 0 0 (va_A [(a_m, .inr (7, [.int m_thrown, .long m_trace, .ref a_m_text, .int m_typed, .int m_next, .int m_token, .int m_place, .int m_value, .int m_fault, .ref a_m_lifts, .ref a_m_price, .ref a_m_stood, .ref a_m_hands, .ref a_m_wanted, .int m_rooms, .int m_people, .int m_things, .int m_draftRooms, .int m_draftPeople, .int m_draftThings, .ref a_m_s, .ref a_m_kept, .ref a_m_isKept, .ref a_m_due, .int m_dueMany, .ref a_m_cost, .ref a_m_then, .ref a_m_by])), (a_m_s, .inl (cI, 21, .inl m_s))] sz) := by
  refine met_i (cc := cX7_dropped) (maxL := 2) (own := RX7) (by decide) rfl (Nat.le_of_ble_eq_true rfl) rfl (fun p e s m args below meth c Q A E hret ls H locs hl hw => ?_)
  obtain ⟨⟨hx, hb, hml, hown, hts⟩, hK, hN, hA, hX⟩ := id E
  have hl : lv_has ls 2 [(0, .ref a_m), (1, .int p1)] := hl
  have iX7 : ∀ w ∈ wsX70, w ∈ wsX7_dropped := by decide +kernel
  have kf57 := hts (.fieldLink RX7 57 "FiveThingsModel" "thrown" "I") (by decide +kernel)
  have kf28 := hts (.fieldLink RX7 28 "FiveThingsModel" "s" "[I") (by decide +kernel)
  unfold f_X7_dropped at hf
  refine lv_aload_n hx hb dX7_dropped_0 rfl (lv_at hl 0 rfl) ?_
  refine lv_iconst (v := (0 : Int32)) hx hb dX7_dropped_1 rfl ?_
  refine r_put E hw iX7 tyX7_ok nmX7 0 0 rfl rfl (by decide) kf57 rfl rfl rfl rfl (Nat.le_of_ble_eq_true rfl) [(a_m, .inr (7, [.int (0 : Int32), .long m_trace, .ref a_m_text, .int m_typed, .int m_next, .int m_token, .int m_place, .int m_value, .int m_fault, .ref a_m_lifts, .ref a_m_price, .ref a_m_stood, .ref a_m_hands, .ref a_m_wanted, .int m_rooms, .int m_people, .int m_things, .int m_draftRooms, .int m_draftPeople, .int m_draftThings, .ref a_m_s, .ref a_m_kept, .ref a_m_isKept, .ref a_m_due, .int m_dueMany, .ref a_m_cost, .ref a_m_then, .ref a_m_by])), (a_m_s, .inl (cI, 21, .inl m_s))] rfl dX7_dropped_2 (fun H locs hw => ?_)
  refine lv_aload_n hx hb dX7_dropped_5 rfl (lv_at hl 0 rfl) ?_
  refine lv_iload_n hx hb dX7_dropped_6 rfl (lv_at hl 1 rfl) ?_
  obtain ⟨r1, hu2, hf⟩ := bd1_some hf
  refine cl_i (wr := [(a_m_s, .inl (cI, 21, .inl m_s))]) (w2 := [(a_m, .inr (7, [.int (0 : Int32), .long m_trace, .ref a_m_text, .int m_typed, .int m_next, .int m_token, .int m_place, .int m_value, .int m_fault, .ref a_m_lifts, .ref a_m_price, .ref a_m_stood, .ref a_m_hands, .ref a_m_wanted, .int m_rooms, .int m_people, .int m_things, .int m_draftRooms, .int m_draftPeople, .int m_draftThings, .ref a_m_s, .ref a_m_kept, .ref a_m_isKept, .ref a_m_due, .int m_dueMany, .ref a_m_cost, .ref a_m_then, .ref a_m_by])), (a_m_s, .inl (cI, 21, .inl m_s))]) E hw [0] [1] [1, 0] (va_runV (As := [.int p1]) (rest := []) E.1 (c_X7_isPerson l dC dI cI cB cZ aK aV a_m a_m_text a_m_lifts a_m_price a_m_stood a_m_hands a_m_wanted a_m_s a_m_kept a_m_isKept a_m_due a_m_cost a_m_then a_m_by H.size (0 : Int32) m_trace m_typed m_next m_token m_place m_value m_fault m_rooms m_people m_things m_draftRooms m_draftPeople m_draftThings m_dueMany p1 r1 hu2) (cwV 1 hts gX7_dropped_X7_isPerson rfl rfl rfl hd_X7_isPerson ⟨Nat.le_of_ble_eq_true rfl, Nat.le_of_ble_eq_true rfl⟩) (pre_V E hw [0] rfl rfl rfl rfl) rfl rfl hl.1 rfl (lv_room (Nat.le_of_ble_eq_true rfl)) dX7_dropped_7 ⟨Nat.zero_le _, Nat.zero_le _⟩) rfl rfl rfl (by decide) rfl rfl (fun H locs hw => ?_)
  refine lv_if_ne (tgt := 15) hx hb dX7_dropped_10 (by decide) (fun kc => ?_) (fun kc => ?_)
  · have hf := if_f hf kc
    refine lv_aload_n hx hb dX7_dropped_15 rfl (lv_at hl 0 rfl) ?_
    refine r_get E hw iX7 0 20 rfl rfl (by decide) kf28 rfl rfl dX7_dropped_16 ?_
    refine lv_bipush (v := (16 : Int32)) hx hb dX7_dropped_19 rfl ?_
    refine lv_iload_n hx hb dX7_dropped_21 rfl (lv_at hl 1 rfl) ?_
    refine lv_iadd hx hb dX7_dropped_22 ?_
    obtain ⟨g3, hf⟩ := gd_some hf
    refine r_iald E hw 1 rfl g3 dX7_dropped_23 ?_
    refine lv_if_ne (tgt := 30) hx hb dX7_dropped_24 (by decide) (fun kc => ?_) (fun kc => ?_)
    · have hf := if_f hf kc
      refine lv_aload_n hx hb dX7_dropped_30 rfl (lv_at hl 0 rfl) ?_
      refine r_get E hw iX7 0 20 rfl rfl (by decide) kf28 rfl rfl dX7_dropped_31 ?_
      refine lv_bipush (v := (16 : Int32)) hx hb dX7_dropped_34 rfl ?_
      refine lv_iload_n hx hb dX7_dropped_36 rfl (lv_at hl 1 rfl) ?_
      refine lv_iadd hx hb dX7_dropped_37 ?_
      refine lv_dup2_11 hx hb dX7_dropped_38 rfl rfl ?_
      obtain ⟨g4, hf⟩ := gd_some hf
      refine r_iald E hw 1 rfl g4 dX7_dropped_39 ?_
      refine lv_iconst (v := (1 : Int32)) hx hb dX7_dropped_40 rfl ?_
      refine lv_isub hx hb dX7_dropped_41 ?_
      obtain ⟨g5, hf⟩ := gd_some hf
      refine r_iast E hw 1 rfl g5 [(a_m, .inr (7, [.int (0 : Int32), .long m_trace, .ref a_m_text, .int m_typed, .int m_next, .int m_token, .int m_place, .int m_value, .int m_fault, .ref a_m_lifts, .ref a_m_price, .ref a_m_stood, .ref a_m_hands, .ref a_m_wanted, .int m_rooms, .int m_people, .int m_things, .int m_draftRooms, .int m_draftPeople, .int m_draftThings, .ref a_m_s, .ref a_m_kept, .ref a_m_isKept, .ref a_m_due, .int m_dueMany, .ref a_m_cost, .ref a_m_then, .ref a_m_by])), (a_m_s, .inl (cI, 21, .inl (upd m_s ((16 : Int32) + p1).toNatClampNeg ((m_s ((16 : Int32) + p1).toNatClampNeg) - (1 : Int32)))))] rfl dX7_dropped_42 (fun H locs hw => ?_)
      refine lv_aload_n hx hb dX7_dropped_43 rfl (lv_at hl 0 rfl) ?_
      refine r_get E hw iX7 0 20 rfl rfl (by decide) kf28 rfl rfl dX7_dropped_44 ?_
      refine lv_bipush (v := (16 : Int32)) hx hb dX7_dropped_47 rfl ?_
      refine lv_iload_n hx hb dX7_dropped_49 rfl (lv_at hl 1 rfl) ?_
      refine lv_iadd hx hb dX7_dropped_50 ?_
      obtain ⟨g6, hf⟩ := gd_some hf
      refine r_iald E hw 1 rfl g6 dX7_dropped_51 ?_
      obtain ⟨rfl, rfl, rfl⟩ := sm3 hf
      exact hret H locs ls 52 hw dX7_dropped_52
    · have hf := if_t hf kc
      refine lv_bipush (v := (-2 : Int32)) hx hb dX7_dropped_27 rfl ?_
      obtain ⟨rfl, rfl, rfl⟩ := sm3 hf
      exact hret H locs ls 29 hw dX7_dropped_29
  · have hf := if_t hf kc
    refine lv_iconst (v := (-1 : Int32)) hx hb dX7_dropped_13 rfl ?_
    obtain ⟨rfl, rfl, rfl⟩ := sm3 hf
    exact hret H locs ls 14 hw dX7_dropped_14
def f_X7_slept  (m_people : Int32) (m_lifts : Nat → Int32) (m_s : Nat → Int32) : Option (Int32 × Int32 × (Nat → Int32)) :=
  gd (inb (20 : Int32) 21) ((if (m_s (20 : Int32).toNatClampNeg) = (99 : Int32) then some ((-2 : Int32), (0 : Int32), m_s) else bd1 (f_X7_rested m_people m_lifts m_s) (fun u2 => gd (inb (20 : Int32) 21) (gd (inb (20 : Int32) 21) (gd (inb (20 : Int32) 21) (some (((upd u2 (20 : Int32).toNatClampNeg ((u2 (20 : Int32).toNatClampNeg) + (1 : Int32))) (20 : Int32).toNatClampNeg), (0 : Int32), (upd u2 (20 : Int32).toNatClampNeg ((u2 (20 : Int32).toNatClampNeg) + (1 : Int32))))))))))
theorem hd_X7_slept : yX7_slept.cls = RX7 ∧ yX7_slept.cls ≠ "java/lang/invoke/MethodHandle" ∧ yX7_slept.cls ≠ "java/lang/invoke/VarHandle" ∧ (parseMethodDescriptor yX7_slept.desc).map (fun d => d.parameters.length) = some 0 := by decide +kernel
set_option maxHeartbeats 4000000 in
set_option maxRecDepth 100000 in
theorem c_X7_slept (l : Launch) (dC : Nat → ClassId) (dI : Nat → Nat → Nat) (cI cB cZ : ClassId) (aK aV : Nat → Nat) (a_m a_m_text a_m_lifts a_m_price a_m_stood a_m_hands a_m_wanted a_m_s a_m_kept a_m_isKept a_m_due a_m_cost a_m_then a_m_by : Nat) (sz : Nat) (m_thrown : Int32) (m_trace : Int64) (m_typed : Int32) (m_next : Int32) (m_token : Int32) (m_place : Int32) (m_value : Int32) (m_fault : Int32) (m_rooms : Int32) (m_people : Int32) (m_things : Int32) (m_draftRooms : Int32) (m_draftPeople : Int32) (m_draftThings : Int32) (m_dueMany : Int32) (m_lifts : Nat → Int32) (m_s : Nat → Int32) (r : Int32) (q0 : Int32) (q1 : Nat → Int32) (hf : f_X7_slept m_people m_lifts m_s = some (r, q0, q1)) : Met l yX7_slept wsX7_slept ({ frames := 1, cells := 0, slots := 0, locals := 21 } : Jvm.Room) (va_Pc [.ref a_m] (preW (dC, dI) (tyL cI cB cZ) aK aV sz [(a_m, .inr (7, [.int m_thrown, .long m_trace, .ref a_m_text, .int m_typed, .int m_next, .int m_token, .int m_place, .int m_value, .int m_fault, .ref a_m_lifts, .ref a_m_price, .ref a_m_stood, .ref a_m_hands, .ref a_m_wanted, .int m_rooms, .int m_people, .int m_things, .int m_draftRooms, .int m_draftPeople, .int m_draftThings, .ref a_m_s, .ref a_m_kept, .ref a_m_isKept, .ref a_m_due, .int m_dueMany, .ref a_m_cost, .ref a_m_then, .ref a_m_by])), (a_m_lifts, .inl (cI, 8, .inl m_lifts)), (a_m_s, .inl (cI, 21, .inl m_s))])) (va_Qi (fun v (_ : Unit) => v = r) (postW (dC, dI) (tyL cI cB cZ) (va_A [(a_m, .inr (7, [.int m_thrown, .long m_trace, .ref a_m_text, .int m_typed, .int m_next, .int m_token, .int m_place, .int m_value, .int m_fault, .ref a_m_lifts, .ref a_m_price, .ref a_m_stood, .ref a_m_hands, .ref a_m_wanted, .int m_rooms, .int m_people, .int m_things, .int m_draftRooms, .int m_draftPeople, .int m_draftThings, .ref a_m_s, .ref a_m_kept, .ref a_m_isKept, .ref a_m_due, .int m_dueMany, .ref a_m_cost, .ref a_m_then, .ref a_m_by])), (a_m_lifts, .inl (cI, 8, .inl m_lifts)), (a_m_s, .inl (cI, 21, .inl m_s))] sz) [(a_m, .inr (7, [.int q0, .long m_trace, .ref a_m_text, .int m_typed, .int m_next, .int m_token, .int m_place, .int m_value, .int m_fault, .ref a_m_lifts, .ref a_m_price, .ref a_m_stood, .ref a_m_hands, .ref a_m_wanted, .int m_rooms, .int m_people, .int m_things, .int m_draftRooms, .int m_draftPeople, .int m_draftThings, .ref a_m_s, .ref a_m_kept, .ref a_m_isKept, .ref a_m_due, .int m_dueMany, .ref a_m_cost, .ref a_m_then, .ref a_m_by])), (a_m_lifts, .inl (cI, 8, .inl m_lifts)), (a_m_s, .inl (cI, 21, .inl q1))]) (va_A [(a_m, .inr (7, [.int m_thrown, .long m_trace, .ref a_m_text, .int m_typed, .int m_next, .int m_token, .int m_place, .int m_value, .int m_fault, .ref a_m_lifts, .ref a_m_price, .ref a_m_stood, .ref a_m_hands, .ref a_m_wanted, .int m_rooms, .int m_people, .int m_things, .int m_draftRooms, .int m_draftPeople, .int m_draftThings, .ref a_m_s, .ref a_m_kept, .ref a_m_isKept, .ref a_m_due, .int m_dueMany, .ref a_m_cost, .ref a_m_then, .ref a_m_by])), (a_m_lifts, .inl (cI, 8, .inl m_lifts)), (a_m_s, .inl (cI, 21, .inl m_s))] sz)) 0 0 (va_A [(a_m, .inr (7, [.int m_thrown, .long m_trace, .ref a_m_text, .int m_typed, .int m_next, .int m_token, .int m_place, .int m_value, .int m_fault, .ref a_m_lifts, .ref a_m_price, .ref a_m_stood, .ref a_m_hands, .ref a_m_wanted, .int m_rooms, .int m_people, .int m_things, .int m_draftRooms, .int m_draftPeople, .int m_draftThings, .ref a_m_s, .ref a_m_kept, .ref a_m_isKept, .ref a_m_due, .int m_dueMany, .ref a_m_cost, .ref a_m_then, .ref a_m_by])), (a_m_lifts, .inl (cI, 8, .inl m_lifts)), (a_m_s, .inl (cI, 21, .inl m_s))] sz) := by
  refine met_i (cc := cX7_slept) (maxL := 1) (own := RX7) (by decide) rfl (Nat.le_of_ble_eq_true rfl) rfl (fun p e s m args below meth c Q A E hret ls H locs hl hw => ?_)
  obtain ⟨⟨hx, hb, hml, hown, hts⟩, hK, hN, hA, hX⟩ := id E
  have hl : lv_has ls 1 [(0, .ref a_m)] := hl
  have iX7 : ∀ w ∈ wsX70, w ∈ wsX7_slept := by decide +kernel
  have kf57 := hts (.fieldLink RX7 57 "FiveThingsModel" "thrown" "I") (by decide +kernel)
  have kf28 := hts (.fieldLink RX7 28 "FiveThingsModel" "s" "[I") (by decide +kernel)
  unfold f_X7_slept at hf
  refine lv_aload_n hx hb dX7_slept_0 rfl (lv_at hl 0 rfl) ?_
  refine lv_iconst (v := (0 : Int32)) hx hb dX7_slept_1 rfl ?_
  refine r_put E hw iX7 tyX7_ok nmX7 0 0 rfl rfl (by decide) kf57 rfl rfl rfl rfl (Nat.le_of_ble_eq_true rfl) [(a_m, .inr (7, [.int (0 : Int32), .long m_trace, .ref a_m_text, .int m_typed, .int m_next, .int m_token, .int m_place, .int m_value, .int m_fault, .ref a_m_lifts, .ref a_m_price, .ref a_m_stood, .ref a_m_hands, .ref a_m_wanted, .int m_rooms, .int m_people, .int m_things, .int m_draftRooms, .int m_draftPeople, .int m_draftThings, .ref a_m_s, .ref a_m_kept, .ref a_m_isKept, .ref a_m_due, .int m_dueMany, .ref a_m_cost, .ref a_m_then, .ref a_m_by])), (a_m_lifts, .inl (cI, 8, .inl m_lifts)), (a_m_s, .inl (cI, 21, .inl m_s))] rfl dX7_slept_2 (fun H locs hw => ?_)
  refine lv_aload_n hx hb dX7_slept_5 rfl (lv_at hl 0 rfl) ?_
  refine r_get E hw iX7 0 20 rfl rfl (by decide) kf28 rfl rfl dX7_slept_6 ?_
  refine lv_bipush (v := (20 : Int32)) hx hb dX7_slept_9 rfl ?_
  obtain ⟨g1, hf⟩ := gd_some hf
  refine r_iald E hw 2 rfl g1 dX7_slept_11 ?_
  refine lv_bipush (v := (99 : Int32)) hx hb dX7_slept_12 rfl ?_
  refine lv_icmp_ne (tgt := 20) hx hb dX7_slept_14 (by decide) (fun kc => ?_) (fun kc => ?_)
  · have hf := if_f hf kc
    refine lv_aload_n hx hb dX7_slept_20 rfl (lv_at hl 0 rfl) ?_
    obtain ⟨u2, hu3, hf⟩ := bd1_some hf
    refine cl_v (wr := []) (w2 := [(a_m, .inr (7, [.int (0 : Int32), .long m_trace, .ref a_m_text, .int m_typed, .int m_next, .int m_token, .int m_place, .int m_value, .int m_fault, .ref a_m_lifts, .ref a_m_price, .ref a_m_stood, .ref a_m_hands, .ref a_m_wanted, .int m_rooms, .int m_people, .int m_things, .int m_draftRooms, .int m_draftPeople, .int m_draftThings, .ref a_m_s, .ref a_m_kept, .ref a_m_isKept, .ref a_m_due, .int m_dueMany, .ref a_m_cost, .ref a_m_then, .ref a_m_by])), (a_m_lifts, .inl (cI, 8, .inl m_lifts)), (a_m_s, .inl (cI, 21, .inl u2))]) E hw [0, 1, 2] [] [0, 1, 2] (va_runV (As := []) (rest := []) E.1 (c_X7_rested l dC dI cI cB cZ aK aV a_m a_m_text a_m_lifts a_m_price a_m_stood a_m_hands a_m_wanted a_m_s a_m_kept a_m_isKept a_m_due a_m_cost a_m_then a_m_by H.size (0 : Int32) m_trace m_typed m_next m_token m_place m_value m_fault m_rooms m_people m_things m_draftRooms m_draftPeople m_draftThings m_dueMany m_lifts m_s u2 hu3) (cwV 0 hts gX7_slept_X7_rested rfl rfl rfl hd_X7_rested ⟨Nat.le_of_ble_eq_true rfl, Nat.le_of_ble_eq_true rfl⟩) (pre_V E hw [0, 1, 2] rfl rfl rfl rfl) rfl rfl hl.1 rfl (lv_room (Nat.le_of_ble_eq_true rfl)) dX7_slept_21 ⟨Nat.zero_le _, Nat.zero_le _⟩) rfl rfl rfl (by decide) rfl rfl (fun H locs hw => ?_)
    refine lv_aload_n hx hb dX7_slept_24 rfl (lv_at hl 0 rfl) ?_
    refine r_get E hw iX7 0 20 rfl rfl (by decide) kf28 rfl rfl dX7_slept_25 ?_
    refine lv_bipush (v := (20 : Int32)) hx hb dX7_slept_28 rfl ?_
    refine lv_dup2_11 hx hb dX7_slept_30 rfl rfl ?_
    obtain ⟨g4, hf⟩ := gd_some hf
    refine r_iald E hw 2 rfl g4 dX7_slept_31 ?_
    refine lv_iconst (v := (1 : Int32)) hx hb dX7_slept_32 rfl ?_
    refine lv_iadd hx hb dX7_slept_33 ?_
    obtain ⟨g5, hf⟩ := gd_some hf
    refine r_iast E hw 2 rfl g5 [(a_m, .inr (7, [.int (0 : Int32), .long m_trace, .ref a_m_text, .int m_typed, .int m_next, .int m_token, .int m_place, .int m_value, .int m_fault, .ref a_m_lifts, .ref a_m_price, .ref a_m_stood, .ref a_m_hands, .ref a_m_wanted, .int m_rooms, .int m_people, .int m_things, .int m_draftRooms, .int m_draftPeople, .int m_draftThings, .ref a_m_s, .ref a_m_kept, .ref a_m_isKept, .ref a_m_due, .int m_dueMany, .ref a_m_cost, .ref a_m_then, .ref a_m_by])), (a_m_lifts, .inl (cI, 8, .inl m_lifts)), (a_m_s, .inl (cI, 21, .inl (upd u2 (20 : Int32).toNatClampNeg ((u2 (20 : Int32).toNatClampNeg) + (1 : Int32)))))] rfl dX7_slept_34 (fun H locs hw => ?_)
    refine lv_aload_n hx hb dX7_slept_35 rfl (lv_at hl 0 rfl) ?_
    refine r_get E hw iX7 0 20 rfl rfl (by decide) kf28 rfl rfl dX7_slept_36 ?_
    refine lv_bipush (v := (20 : Int32)) hx hb dX7_slept_39 rfl ?_
    obtain ⟨g6, hf⟩ := gd_some hf
    refine r_iald E hw 2 rfl g6 dX7_slept_41 ?_
    obtain ⟨rfl, rfl, rfl⟩ := sm3 hf
    exact hret H locs ls 42 hw dX7_slept_42
  · have hf := if_t hf kc
    refine lv_bipush (v := (-2 : Int32)) hx hb dX7_slept_17 rfl ?_
    obtain ⟨rfl, rfl, rfl⟩ := sm3 hf
    exact hret H locs ls 19 hw dX7_slept_19
