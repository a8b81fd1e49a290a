def f_X0_empty : Option (Int32 × Int32 × Int32) :=
  some ((4 : Int32), (0 : Int32), (0 : Int32))
theorem hd_X0_empty : yX0_empty.cls = RX0 ∧ yX0_empty.cls ≠ "java/lang/invoke/MethodHandle" ∧ yX0_empty.cls ≠ "java/lang/invoke/VarHandle" ∧ (parseMethodDescriptor yX0_empty.desc).map (fun d => d.parameters.length) = some 0 := by decide +kernel
set_option maxHeartbeats 4000000 in
set_option maxRecDepth 100000 in
theorem c_X0_empty (l : Launch) (dC : Nat → ClassId) (dI : Nat → Nat → Nat) (cI cB cZ : ClassId) (aK aV : Nat → Nat) (a_h a_h_lifts a_h_prices a_h_starts a_h_hands a_h_wanted : Nat) (sz : Nat) (h_rooms : Int32) (h_people : Int32) (h_things : Int32) (q0 : Int32) (q1 : Int32) (q2 : Int32) (hf : f_X0_empty  = some (q0, q1, q2)) : Met l yX0_empty wsX0_empty ({ frames := 0, cells := 0, slots := 0, locals := 0 } : Jvm.Room) (va_Pc [.ref a_h] (preW (dC, dI) (tyL cI cB cZ) aK aV sz [(a_h, .inr (0, [.int h_rooms, .int h_people, .int h_things, .ref a_h_lifts, .ref a_h_prices, .ref a_h_starts, .ref a_h_hands, .ref a_h_wanted]))])) (va_Qv (fun (_ : Unit) => True) (postW (dC, dI) (tyL cI cB cZ) (va_A [(a_h, .inr (0, [.int h_rooms, .int h_people, .int h_things, .ref a_h_lifts, .ref a_h_prices, .ref a_h_starts, .ref a_h_hands, .ref a_h_wanted]))] sz) [(a_h, .inr (0, [.int q0, .int q1, .int q2, .ref a_h_lifts, .ref a_h_prices, .ref a_h_starts, .ref a_h_hands, .ref a_h_wanted]))]) (va_A [(a_h, .inr (0, [.int h_rooms, .int h_people, .int h_things, .ref a_h_lifts, .ref a_h_prices, .ref a_h_starts, .ref a_h_hands, .ref a_h_wanted]))] sz)) 0 0 (va_A [(a_h, .inr (0, [.int h_rooms, .int h_people, .int h_things, .ref a_h_lifts, .ref a_h_prices, .ref a_h_starts, .ref a_h_hands, .ref a_h_wanted]))] sz) := by
  refine met_v (cc := cX0_empty) (maxL := 1) (own := RX0) (by decide) rfl (Nat.le_of_ble_eq_true rfl) rfl (fun p e s m args below meth c Q A E hret ls H locs hl hw => ?_)
  obtain ⟨⟨hx, hb, hml, hown, hts⟩, hK, hN, hA, hX⟩ := id E
  have hl : lv_has ls 1 [(0, .ref a_h)] := hl
  have iX0 : ∀ w ∈ wsX00, w ∈ wsX0_empty := by decide +kernel
  have kf9 := hts (.fieldLink RX0 9 "FiveThings$House" "rooms" "I") (by decide +kernel)
  have kf15 := hts (.fieldLink RX0 15 "FiveThings$House" "people" "I") (by decide +kernel)
  have kf18 := hts (.fieldLink RX0 18 "FiveThings$House" "things" "I") (by decide +kernel)
  unfold f_X0_empty at hf
  refine lv_aload_n hx hb dX0_empty_0 rfl (lv_at hl 0 rfl) ?_
  refine lv_iconst (v := (4 : Int32)) hx hb dX0_empty_1 rfl ?_
  refine r_put E hw iX0 tyX0_ok nmX0 0 0 rfl rfl (by decide) kf9 rfl rfl rfl rfl (Nat.le_of_ble_eq_true rfl) [(a_h, .inr (0, [.int (4 : Int32), .int h_people, .int h_things, .ref a_h_lifts, .ref a_h_prices, .ref a_h_starts, .ref a_h_hands, .ref a_h_wanted]))] rfl dX0_empty_2 (fun H locs hw => ?_)
  refine lv_aload_n hx hb dX0_empty_5 rfl (lv_at hl 0 rfl) ?_
  refine lv_iconst (v := (0 : Int32)) hx hb dX0_empty_6 rfl ?_
  refine r_put E hw iX0 tyX0_ok nmX0 0 1 rfl rfl (by decide) kf15 rfl rfl rfl rfl (Nat.le_of_ble_eq_true rfl) [(a_h, .inr (0, [.int (4 : Int32), .int (0 : Int32), .int h_things, .ref a_h_lifts, .ref a_h_prices, .ref a_h_starts, .ref a_h_hands, .ref a_h_wanted]))] rfl dX0_empty_7 (fun H locs hw => ?_)
  refine lv_aload_n hx hb dX0_empty_10 rfl (lv_at hl 0 rfl) ?_
  refine lv_iconst (v := (0 : Int32)) hx hb dX0_empty_11 rfl ?_
  refine r_put E hw iX0 tyX0_ok nmX0 0 2 rfl rfl (by decide) kf18 rfl rfl rfl rfl (Nat.le_of_ble_eq_true rfl) [(a_h, .inr (0, [.int (4 : Int32), .int (0 : Int32), .int (0 : Int32), .ref a_h_lifts, .ref a_h_prices, .ref a_h_starts, .ref a_h_hands, .ref a_h_wanted]))] rfl dX0_empty_12 (fun H locs hw => ?_)
  obtain ⟨rfl, rfl, rfl⟩ := sm3 hf
  exact hret H locs ls 15 hw dX0_empty_15
def f_X0_become  (h_lifts : Nat → Int32) (h_prices : Nat → Int32) (h_starts : Nat → Int32) (h_hands : Nat → Int32) (h_wanted : Nat → Int32) (o_rooms : Int32) (o_people : Int32) (o_things : Int32) (o_lifts : Nat → Int32) (o_prices : Nat → Int32) (o_starts : Nat → Int32) (o_hands : Nat → Int32) (o_wanted : Nat → Int32) : Option (Int32 × Int32 × Int32 × (Nat → Int32) × (Nat → Int32) × (Nat → Int32) × (Nat → Int32) × (Nat → Int32)) :=
  some (o_rooms, o_people, o_things, (va_cpy o_lifts h_lifts (0 : Int32).toNatClampNeg (0 : Int32).toNatClampNeg (4 : Int32).toNatClampNeg), (va_cpy o_prices h_prices (0 : Int32).toNatClampNeg (0 : Int32).toNatClampNeg (4 : Int32).toNatClampNeg), (va_cpy o_starts h_starts (0 : Int32).toNatClampNeg (0 : Int32).toNatClampNeg (8 : Int32).toNatClampNeg), (va_cpy o_hands h_hands (0 : Int32).toNatClampNeg (0 : Int32).toNatClampNeg (8 : Int32).toNatClampNeg), (va_cpy o_wanted h_wanted (0 : Int32).toNatClampNeg (0 : Int32).toNatClampNeg (8 : Int32).toNatClampNeg))
theorem hd_X0_become : yX0_become.cls = RX0 ∧ yX0_become.cls ≠ "java/lang/invoke/MethodHandle" ∧ yX0_become.cls ≠ "java/lang/invoke/VarHandle" ∧ (parseMethodDescriptor yX0_become.desc).map (fun d => d.parameters.length) = some 1 := by decide +kernel
set_option maxHeartbeats 4000000 in
set_option maxRecDepth 100000 in
theorem c_X0_become (l : Launch) (dC : Nat → ClassId) (dI : Nat → Nat → Nat) (cI cB cZ : ClassId) (aK aV : Nat → Nat) (a_h a_h_lifts a_h_prices a_h_starts a_h_hands a_h_wanted a_o a_o_lifts a_o_prices a_o_starts a_o_hands a_o_wanted : Nat) (sz : Nat) (h_rooms : Int32) (h_people : Int32) (h_things : Int32) (h_lifts : Nat → Int32) (h_prices : Nat → Int32) (h_starts : Nat → Int32) (h_hands : Nat → Int32) (h_wanted : Nat → Int32) (o_rooms : Int32) (o_people : Int32) (o_things : Int32) (o_lifts : Nat → Int32) (o_prices : Nat → Int32) (o_starts : Nat → Int32) (o_hands : Nat → Int32) (o_wanted : Nat → Int32) (q0 : Int32) (q1 : Int32) (q2 : Int32) (q3 : Nat → Int32) (q4 : Nat → Int32) (q5 : Nat → Int32) (q6 : Nat → Int32) (q7 : Nat → Int32) (hf : f_X0_become h_lifts h_prices h_starts h_hands h_wanted o_rooms o_people o_things o_lifts o_prices o_starts o_hands o_wanted = some (q0, q1, q2, q3, q4, q5, q6, q7)) : Met l yX0_become wsX0_become ({ frames := 1, cells := 0, slots := 0, locals := 40 } : Jvm.Room) (va_Pc [.ref a_h, .ref a_o] (preW (dC, dI) (tyL cI cB cZ) aK aV sz [(a_h, .inr (0, [.int h_rooms, .int h_people, .int h_things, .ref a_h_lifts, .ref a_h_prices, .ref a_h_starts, .ref a_h_hands, .ref a_h_wanted])), (a_h_lifts, .inl (cI, 4, .inl h_lifts)), (a_h_prices, .inl (cI, 4, .inl h_prices)), (a_h_starts, .inl (cI, 8, .inl h_starts)), (a_h_hands, .inl (cI, 8, .inl h_hands)), (a_h_wanted, .inl (cI, 8, .inl h_wanted)), (a_o, .inr (0, [.int o_rooms, .int o_people, .int o_things, .ref a_o_lifts, .ref a_o_prices, .ref a_o_starts, .ref a_o_hands, .ref a_o_wanted])), (a_o_lifts, .inl (cI, 4, .inl o_lifts)), (a_o_prices, .inl (cI, 4, .inl o_prices)), (a_o_starts, .inl (cI, 8, .inl o_starts)), (a_o_hands, .inl (cI, 8, .inl o_hands)), (a_o_wanted, .inl (cI, 8, .inl o_wanted))])) (va_Qv (fun (_ : Unit) => True) (postW (dC, dI) (tyL cI cB cZ) (va_A [(a_h, .inr (0, [.int h_rooms, .int h_people, .int h_things, .ref a_h_lifts, .ref a_h_prices, .ref a_h_starts, .ref a_h_hands, .ref a_h_wanted])), (a_h_lifts, .inl (cI, 4, .inl h_lifts)), (a_h_prices, .inl (cI, 4, .inl h_prices)), (a_h_starts, .inl (cI, 8, .inl h_starts)), (a_h_hands, .inl (cI, 8, .inl h_hands)), (a_h_wanted, .inl (cI, 8, .inl h_wanted)), (a_o, .inr (0, [.int o_rooms, .int o_people, .int o_things, .ref a_o_lifts, .ref a_o_prices, .ref a_o_starts, .ref a_o_hands, .ref a_o_wanted])), (a_o_lifts, .inl (cI, 4, .inl o_lifts)), (a_o_prices, .inl (cI, 4, .inl o_prices)), (a_o_starts, .inl (cI, 8, .inl o_starts)), (a_o_hands, .inl (cI, 8, .inl o_hands)), (a_o_wanted, .inl (cI, 8, .inl o_wanted))] sz) [(a_h, .inr (0, [.int q0, .int q1, .int q2, .ref a_h_lifts, .ref a_h_prices, .ref a_h_starts, .ref a_h_hands, .ref a_h_wanted])), (a_h_lifts, .inl (cI, 4, .inl q3)), (a_h_prices, .inl (cI, 4, .inl q4)), (a_h_starts, .inl (cI, 8, .inl q5)), (a_h_hands, .inl (cI, 8, .inl q6)), (a_h_wanted, .inl (cI, 8, .inl q7)), (a_o, .inr (0, [.int o_rooms, .int o_people, .int o_things, .ref a_o_lifts, .ref a_o_prices, .ref a_o_starts, .ref a_o_hands, .ref a_o_wanted])), (a_o_lifts, .inl (cI, 4, .inl o_lifts)), (a_o_prices, .inl (cI, 4, .inl o_prices)), (a_o_starts, .inl (cI, 8, .inl o_starts)), (a_o_hands, .inl (cI, 8, .inl o_hands)), (a_o_wanted, .inl (cI, 8, .inl o_wanted))]) (va_A [(a_h, .inr (0, [.int h_rooms, .int h_people, .int h_things, .ref a_h_lifts, .ref a_h_prices, .ref a_h_starts, .ref a_h_hands, .ref a_h_wanted])), (a_h_lifts, .inl (cI, 4, .inl h_lifts)), (a_h_prices, .inl (cI, 4, .inl h_prices)), (a_h_starts, .inl (cI, 8, .inl h_starts)), (a_h_hands, .inl (cI, 8, .inl h_hands)), (a_h_wanted, .inl (cI, 8, .inl h_wanted)), (a_o, .inr (0, [.int o_rooms, .int o_people, .int o_things, .ref a_o_lifts, .ref a_o_prices, .ref a_o_starts, .ref a_o_hands, .ref a_o_wanted])), (a_o_lifts, .inl (cI, 4, .inl o_lifts)), (a_o_prices, .inl (cI, 4, .inl o_prices)), (a_o_starts, .inl (cI, 8, .inl o_starts)), (a_o_hands, .inl (cI, 8, .inl o_hands)), (a_o_wanted, .inl (cI, 8, .inl o_wanted))] sz)) 0 0 (va_A [(a_h, .inr (0, [.int h_rooms, .int h_people, .int h_things, .ref a_h_lifts, .ref a_h_prices, .ref a_h_starts, .ref a_h_hands, .ref a_h_wanted])), (a_h_lifts, .inl (cI, 4, .inl h_lifts)), (a_h_prices, .inl (cI, 4, .inl h_prices)), (a_h_starts, .inl (cI, 8, .inl h_starts)), (a_h_hands, .inl (cI, 8, .inl h_hands)), (a_h_wanted, .inl (cI, 8, .inl h_wanted)), (a_o, .inr (0, [.int o_rooms, .int o_people, .int o_things, .ref a_o_lifts, .ref a_o_prices, .ref a_o_starts, .ref a_o_hands, .ref a_o_wanted])), (a_o_lifts, .inl (cI, 4, .inl o_lifts)), (a_o_prices, .inl (cI, 4, .inl o_prices)), (a_o_starts, .inl (cI, 8, .inl o_starts)), (a_o_hands, .inl (cI, 8, .inl o_hands)), (a_o_wanted, .inl (cI, 8, .inl o_wanted))] sz) := by
  refine met_v (cc := cX0_become) (maxL := 2) (own := RX0) (by decide) rfl (Nat.le_of_ble_eq_true rfl) rfl (fun p e s m args below meth c Q A E hret ls H locs hl hw => ?_)
  obtain ⟨⟨hx, hb, hml, hown, hts⟩, hK, hN, hA, hX⟩ := id E
  have hl : lv_has ls 2 [(0, .ref a_h), (1, .ref a_o)] := hl
  have iX0 : ∀ w ∈ wsX00, w ∈ wsX0_become := by decide +kernel
  have kf9 := hts (.fieldLink RX0 9 "FiveThings$House" "rooms" "I") (by decide +kernel)
  have kf15 := hts (.fieldLink RX0 15 "FiveThings$House" "people" "I") (by decide +kernel)
  have kf18 := hts (.fieldLink RX0 18 "FiveThings$House" "things" "I") (by decide +kernel)
  have kf21 := hts (.fieldLink RX0 21 "FiveThings$House" "lifts" "[I") (by decide +kernel)
  have km37 := hts (.methodLink RX0 37 arraycopyName) (by decide +kernel)
  have kn37 := hts (.native arraycopyName) (by decide +kernel)
  have ko37 := hts (.static arraycopyName) (by decide +kernel)
  have kp37 := hts (.initialized "java/lang/System") (by decide +kernel)
  have kf25 := hts (.fieldLink RX0 25 "FiveThings$House" "prices" "[I") (by decide +kernel)
  have kf28 := hts (.fieldLink RX0 28 "FiveThings$House" "starts" "[I") (by decide +kernel)
  have kf31 := hts (.fieldLink RX0 31 "FiveThings$House" "hands" "[I") (by decide +kernel)
  have kf34 := hts (.fieldLink RX0 34 "FiveThings$House" "wanted" "[I") (by decide +kernel)
  unfold f_X0_become at hf
  refine lv_aload_n hx hb dX0_become_0 rfl (lv_at hl 0 rfl) ?_
  refine lv_aload_n hx hb dX0_become_1 rfl (lv_at hl 1 rfl) ?_
  refine r_get E hw iX0 6 0 rfl rfl (by decide) kf9 rfl rfl dX0_become_2 ?_
  refine r_put E hw iX0 tyX0_ok nmX0 0 0 rfl rfl (by decide) kf9 rfl rfl rfl rfl (Nat.le_of_ble_eq_true rfl) [(a_h, .inr (0, [.int o_rooms, .int h_people, .int h_things, .ref a_h_lifts, .ref a_h_prices, .ref a_h_starts, .ref a_h_hands, .ref a_h_wanted])), (a_h_lifts, .inl (cI, 4, .inl h_lifts)), (a_h_prices, .inl (cI, 4, .inl h_prices)), (a_h_starts, .inl (cI, 8, .inl h_starts)), (a_h_hands, .inl (cI, 8, .inl h_hands)), (a_h_wanted, .inl (cI, 8, .inl h_wanted)), (a_o, .inr (0, [.int o_rooms, .int o_people, .int o_things, .ref a_o_lifts, .ref a_o_prices, .ref a_o_starts, .ref a_o_hands, .ref a_o_wanted])), (a_o_lifts, .inl (cI, 4, .inl o_lifts)), (a_o_prices, .inl (cI, 4, .inl o_prices)), (a_o_starts, .inl (cI, 8, .inl o_starts)), (a_o_hands, .inl (cI, 8, .inl o_hands)), (a_o_wanted, .inl (cI, 8, .inl o_wanted))] rfl dX0_become_5 (fun H locs hw => ?_)
  refine lv_aload_n hx hb dX0_become_8 rfl (lv_at hl 0 rfl) ?_
  refine lv_aload_n hx hb dX0_become_9 rfl (lv_at hl 1 rfl) ?_
  refine r_get E hw iX0 6 1 rfl rfl (by decide) kf15 rfl rfl dX0_become_10 ?_
  refine r_put E hw iX0 tyX0_ok nmX0 0 1 rfl rfl (by decide) kf15 rfl rfl rfl rfl (Nat.le_of_ble_eq_true rfl) [(a_h, .inr (0, [.int o_rooms, .int o_people, .int h_things, .ref a_h_lifts, .ref a_h_prices, .ref a_h_starts, .ref a_h_hands, .ref a_h_wanted])), (a_h_lifts, .inl (cI, 4, .inl h_lifts)), (a_h_prices, .inl (cI, 4, .inl h_prices)), (a_h_starts, .inl (cI, 8, .inl h_starts)), (a_h_hands, .inl (cI, 8, .inl h_hands)), (a_h_wanted, .inl (cI, 8, .inl h_wanted)), (a_o, .inr (0, [.int o_rooms, .int o_people, .int o_things, .ref a_o_lifts, .ref a_o_prices, .ref a_o_starts, .ref a_o_hands, .ref a_o_wanted])), (a_o_lifts, .inl (cI, 4, .inl o_lifts)), (a_o_prices, .inl (cI, 4, .inl o_prices)), (a_o_starts, .inl (cI, 8, .inl o_starts)), (a_o_hands, .inl (cI, 8, .inl o_hands)), (a_o_wanted, .inl (cI, 8, .inl o_wanted))] rfl dX0_become_13 (fun H locs hw => ?_)
  refine lv_aload_n hx hb dX0_become_16 rfl (lv_at hl 0 rfl) ?_
  refine lv_aload_n hx hb dX0_become_17 rfl (lv_at hl 1 rfl) ?_
  refine r_get E hw iX0 6 2 rfl rfl (by decide) kf18 rfl rfl dX0_become_18 ?_
  refine r_put E hw iX0 tyX0_ok nmX0 0 2 rfl rfl (by decide) kf18 rfl rfl rfl rfl (Nat.le_of_ble_eq_true rfl) [(a_h, .inr (0, [.int o_rooms, .int o_people, .int o_things, .ref a_h_lifts, .ref a_h_prices, .ref a_h_starts, .ref a_h_hands, .ref a_h_wanted])), (a_h_lifts, .inl (cI, 4, .inl h_lifts)), (a_h_prices, .inl (cI, 4, .inl h_prices)), (a_h_starts, .inl (cI, 8, .inl h_starts)), (a_h_hands, .inl (cI, 8, .inl h_hands)), (a_h_wanted, .inl (cI, 8, .inl h_wanted)), (a_o, .inr (0, [.int o_rooms, .int o_people, .int o_things, .ref a_o_lifts, .ref a_o_prices, .ref a_o_starts, .ref a_o_hands, .ref a_o_wanted])), (a_o_lifts, .inl (cI, 4, .inl o_lifts)), (a_o_prices, .inl (cI, 4, .inl o_prices)), (a_o_starts, .inl (cI, 8, .inl o_starts)), (a_o_hands, .inl (cI, 8, .inl o_hands)), (a_o_wanted, .inl (cI, 8, .inl o_wanted))] rfl dX0_become_21 (fun H locs hw => ?_)
  refine lv_aload_n hx hb dX0_become_24 rfl (lv_at hl 1 rfl) ?_
  refine r_get E hw iX0 6 3 rfl rfl (by decide) kf21 rfl rfl dX0_become_25 ?_
  refine lv_iconst (v := (0 : Int32)) hx hb dX0_become_28 rfl ?_
  refine lv_aload_n hx hb dX0_become_29 rfl (lv_at hl 0 rfl) ?_
  refine r_get E hw iX0 0 3 rfl rfl (by decide) kf21 rfl rfl dX0_become_30 ?_
  refine lv_iconst (v := (0 : Int32)) hx hb dX0_become_33 rfl ?_
  refine lv_iconst (v := (4 : Int32)) hx hb dX0_become_34 rfl ?_
  refine r_copy E hw hl.1 km37 kn37 ko37 kp37 7 1 rfl rfl (by decide) (by decide) (by decide) (by decide) (by decide) (Nat.le_of_ble_eq_true rfl) (Nat.le_of_ble_eq_true rfl) [(a_h, .inr (0, [.int o_rooms, .int o_people, .int o_things, .ref a_h_lifts, .ref a_h_prices, .ref a_h_starts, .ref a_h_hands, .ref a_h_wanted])), (a_h_lifts, .inl (cI, 4, .inl (va_cpy o_lifts h_lifts (0 : Int32).toNatClampNeg (0 : Int32).toNatClampNeg (4 : Int32).toNatClampNeg))), (a_h_prices, .inl (cI, 4, .inl h_prices)), (a_h_starts, .inl (cI, 8, .inl h_starts)), (a_h_hands, .inl (cI, 8, .inl h_hands)), (a_h_wanted, .inl (cI, 8, .inl h_wanted)), (a_o, .inr (0, [.int o_rooms, .int o_people, .int o_things, .ref a_o_lifts, .ref a_o_prices, .ref a_o_starts, .ref a_o_hands, .ref a_o_wanted])), (a_o_lifts, .inl (cI, 4, .inl o_lifts)), (a_o_prices, .inl (cI, 4, .inl o_prices)), (a_o_starts, .inl (cI, 8, .inl o_starts)), (a_o_hands, .inl (cI, 8, .inl o_hands)), (a_o_wanted, .inl (cI, 8, .inl o_wanted))] rfl dX0_become_35 (fun H locs hw => ?_)
  refine lv_aload_n hx hb dX0_become_38 rfl (lv_at hl 1 rfl) ?_
  refine r_get E hw iX0 6 4 rfl rfl (by decide) kf25 rfl rfl dX0_become_39 ?_
  refine lv_iconst (v := (0 : Int32)) hx hb dX0_become_42 rfl ?_
  refine lv_aload_n hx hb dX0_become_43 rfl (lv_at hl 0 rfl) ?_
  refine r_get E hw iX0 0 4 rfl rfl (by decide) kf25 rfl rfl dX0_become_44 ?_
  refine lv_iconst (v := (0 : Int32)) hx hb dX0_become_47 rfl ?_
  refine lv_iconst (v := (4 : Int32)) hx hb dX0_become_48 rfl ?_
  refine r_copy E hw hl.1 km37 kn37 ko37 kp37 8 2 rfl rfl (by decide) (by decide) (by decide) (by decide) (by decide) (Nat.le_of_ble_eq_true rfl) (Nat.le_of_ble_eq_true rfl) [(a_h, .inr (0, [.int o_rooms, .int o_people, .int o_things, .ref a_h_lifts, .ref a_h_prices, .ref a_h_starts, .ref a_h_hands, .ref a_h_wanted])), (a_h_lifts, .inl (cI, 4, .inl (va_cpy o_lifts h_lifts (0 : Int32).toNatClampNeg (0 : Int32).toNatClampNeg (4 : Int32).toNatClampNeg))), (a_h_prices, .inl (cI, 4, .inl (va_cpy o_prices h_prices (0 : Int32).toNatClampNeg (0 : Int32).toNatClampNeg (4 : Int32).toNatClampNeg))), (a_h_starts, .inl (cI, 8, .inl h_starts)), (a_h_hands, .inl (cI, 8, .inl h_hands)), (a_h_wanted, .inl (cI, 8, .inl h_wanted)), (a_o, .inr (0, [.int o_rooms, .int o_people, .int o_things, .ref a_o_lifts, .ref a_o_prices, .ref a_o_starts, .ref a_o_hands, .ref a_o_wanted])), (a_o_lifts, .inl (cI, 4, .inl o_lifts)), (a_o_prices, .inl (cI, 4, .inl o_prices)), (a_o_starts, .inl (cI, 8, .inl o_starts)), (a_o_hands, .inl (cI, 8, .inl o_hands)), (a_o_wanted, .inl (cI, 8, .inl o_wanted))] rfl dX0_become_49 (fun H locs hw => ?_)
  refine lv_aload_n hx hb dX0_become_52 rfl (lv_at hl 1 rfl) ?_
  refine r_get E hw iX0 6 5 rfl rfl (by decide) kf28 rfl rfl dX0_become_53 ?_
  refine lv_iconst (v := (0 : Int32)) hx hb dX0_become_56 rfl ?_
  refine lv_aload_n hx hb dX0_become_57 rfl (lv_at hl 0 rfl) ?_
  refine r_get E hw iX0 0 5 rfl rfl (by decide) kf28 rfl rfl dX0_become_58 ?_
  refine lv_iconst (v := (0 : Int32)) hx hb dX0_become_61 rfl ?_
  refine lv_bipush (v := (8 : Int32)) hx hb dX0_become_62 rfl ?_
  refine r_copy E hw hl.1 km37 kn37 ko37 kp37 9 3 rfl rfl (by decide) (by decide) (by decide) (by decide) (by decide) (Nat.le_of_ble_eq_true rfl) (Nat.le_of_ble_eq_true rfl) [(a_h, .inr (0, [.int o_rooms, .int o_people, .int o_things, .ref a_h_lifts, .ref a_h_prices, .ref a_h_starts, .ref a_h_hands, .ref a_h_wanted])), (a_h_lifts, .inl (cI, 4, .inl (va_cpy o_lifts h_lifts (0 : Int32).toNatClampNeg (0 : Int32).toNatClampNeg (4 : Int32).toNatClampNeg))), (a_h_prices, .inl (cI, 4, .inl (va_cpy o_prices h_prices (0 : Int32).toNatClampNeg (0 : Int32).toNatClampNeg (4 : Int32).toNatClampNeg))), (a_h_starts, .inl (cI, 8, .inl (va_cpy o_starts h_starts (0 : Int32).toNatClampNeg (0 : Int32).toNatClampNeg (8 : Int32).toNatClampNeg))), (a_h_hands, .inl (cI, 8, .inl h_hands)), (a_h_wanted, .inl (cI, 8, .inl h_wanted)), (a_o, .inr (0, [.int o_rooms, .int o_people, .int o_things, .ref a_o_lifts, .ref a_o_prices, .ref a_o_starts, .ref a_o_hands, .ref a_o_wanted])), (a_o_lifts, .inl (cI, 4, .inl o_lifts)), (a_o_prices, .inl (cI, 4, .inl o_prices)), (a_o_starts, .inl (cI, 8, .inl o_starts)), (a_o_hands, .inl (cI, 8, .inl o_hands)), (a_o_wanted, .inl (cI, 8, .inl o_wanted))] rfl dX0_become_64 (fun H locs hw => ?_)
  refine lv_aload_n hx hb dX0_become_67 rfl (lv_at hl 1 rfl) ?_
  refine r_get E hw iX0 6 6 rfl rfl (by decide) kf31 rfl rfl dX0_become_68 ?_
  refine lv_iconst (v := (0 : Int32)) hx hb dX0_become_71 rfl ?_
  refine lv_aload_n hx hb dX0_become_72 rfl (lv_at hl 0 rfl) ?_
  refine r_get E hw iX0 0 6 rfl rfl (by decide) kf31 rfl rfl dX0_become_73 ?_
  refine lv_iconst (v := (0 : Int32)) hx hb dX0_become_76 rfl ?_
  refine lv_bipush (v := (8 : Int32)) hx hb dX0_become_77 rfl ?_
  refine r_copy E hw hl.1 km37 kn37 ko37 kp37 10 4 rfl rfl (by decide) (by decide) (by decide) (by decide) (by decide) (Nat.le_of_ble_eq_true rfl) (Nat.le_of_ble_eq_true rfl) [(a_h, .inr (0, [.int o_rooms, .int o_people, .int o_things, .ref a_h_lifts, .ref a_h_prices, .ref a_h_starts, .ref a_h_hands, .ref a_h_wanted])), (a_h_lifts, .inl (cI, 4, .inl (va_cpy o_lifts h_lifts (0 : Int32).toNatClampNeg (0 : Int32).toNatClampNeg (4 : Int32).toNatClampNeg))), (a_h_prices, .inl (cI, 4, .inl (va_cpy o_prices h_prices (0 : Int32).toNatClampNeg (0 : Int32).toNatClampNeg (4 : Int32).toNatClampNeg))), (a_h_starts, .inl (cI, 8, .inl (va_cpy o_starts h_starts (0 : Int32).toNatClampNeg (0 : Int32).toNatClampNeg (8 : Int32).toNatClampNeg))), (a_h_hands, .inl (cI, 8, .inl (va_cpy o_hands h_hands (0 : Int32).toNatClampNeg (0 : Int32).toNatClampNeg (8 : Int32).toNatClampNeg))), (a_h_wanted, .inl (cI, 8, .inl h_wanted)), (a_o, .inr (0, [.int o_rooms, .int o_people, .int o_things, .ref a_o_lifts, .ref a_o_prices, .ref a_o_starts, .ref a_o_hands, .ref a_o_wanted])), (a_o_lifts, .inl (cI, 4, .inl o_lifts)), (a_o_prices, .inl (cI, 4, .inl o_prices)), (a_o_starts, .inl (cI, 8, .inl o_starts)), (a_o_hands, .inl (cI, 8, .inl o_hands)), (a_o_wanted, .inl (cI, 8, .inl o_wanted))] rfl dX0_become_79 (fun H locs hw => ?_)
  refine lv_aload_n hx hb dX0_become_82 rfl (lv_at hl 1 rfl) ?_
  refine r_get E hw iX0 6 7 rfl rfl (by decide) kf34 rfl rfl dX0_become_83 ?_
  refine lv_iconst (v := (0 : Int32)) hx hb dX0_become_86 rfl ?_
  refine lv_aload_n hx hb dX0_become_87 rfl (lv_at hl 0 rfl) ?_
  refine r_get E hw iX0 0 7 rfl rfl (by decide) kf34 rfl rfl dX0_become_88 ?_
  refine lv_iconst (v := (0 : Int32)) hx hb dX0_become_91 rfl ?_
  refine lv_bipush (v := (8 : Int32)) hx hb dX0_become_92 rfl ?_
  refine r_copy E hw hl.1 km37 kn37 ko37 kp37 11 5 rfl rfl (by decide) (by decide) (by decide) (by decide) (by decide) (Nat.le_of_ble_eq_true rfl) (Nat.le_of_ble_eq_true rfl) [(a_h, .inr (0, [.int o_rooms, .int o_people, .int o_things, .ref a_h_lifts, .ref a_h_prices, .ref a_h_starts, .ref a_h_hands, .ref a_h_wanted])), (a_h_lifts, .inl (cI, 4, .inl (va_cpy o_lifts h_lifts (0 : Int32).toNatClampNeg (0 : Int32).toNatClampNeg (4 : Int32).toNatClampNeg))), (a_h_prices, .inl (cI, 4, .inl (va_cpy o_prices h_prices (0 : Int32).toNatClampNeg (0 : Int32).toNatClampNeg (4 : Int32).toNatClampNeg))), (a_h_starts, .inl (cI, 8, .inl (va_cpy o_starts h_starts (0 : Int32).toNatClampNeg (0 : Int32).toNatClampNeg (8 : Int32).toNatClampNeg))), (a_h_hands, .inl (cI, 8, .inl (va_cpy o_hands h_hands (0 : Int32).toNatClampNeg (0 : Int32).toNatClampNeg (8 : Int32).toNatClampNeg))), (a_h_wanted, .inl (cI, 8, .inl (va_cpy o_wanted h_wanted (0 : Int32).toNatClampNeg (0 : Int32).toNatClampNeg (8 : Int32).toNatClampNeg))), (a_o, .inr (0, [.int o_rooms, .int o_people, .int o_things, .ref a_o_lifts, .ref a_o_prices, .ref a_o_starts, .ref a_o_hands, .ref a_o_wanted])), (a_o_lifts, .inl (cI, 4, .inl o_lifts)), (a_o_prices, .inl (cI, 4, .inl o_prices)), (a_o_starts, .inl (cI, 8, .inl o_starts)), (a_o_hands, .inl (cI, 8, .inl o_hands)), (a_o_wanted, .inl (cI, 8, .inl o_wanted))] rfl dX0_become_94 (fun H locs hw => ?_)
  obtain ⟨rfl, rfl, rfl, rfl, rfl, rfl, rfl, rfl⟩ := sm8 hf
  exact hret H locs ls 97 hw dX0_become_97
def f_X0_addPerson (p1 : Int32) (p2 : Int32) (h_people : Int32) (h_lifts : Nat → Int32) (h_prices : Nat → Int32) : Option (Int32 × (Nat → Int32) × (Nat → Int32)) :=
  (if (4 : Int32) ≤ h_people then some (h_people, h_lifts, h_prices) else gd (inb h_people 4) (gd (inb h_people 4) (some ((h_people + (1 : Int32)), (upd h_lifts h_people.toNatClampNeg p1), (upd h_prices h_people.toNatClampNeg p2)))))
theorem hd_X0_addPerson : yX0_addPerson.cls = RX0 ∧ yX0_addPerson.cls ≠ "java/lang/invoke/MethodHandle" ∧ yX0_addPerson.cls ≠ "java/lang/invoke/VarHandle" ∧ (parseMethodDescriptor yX0_addPerson.desc).map (fun d => d.parameters.length) = some 2 := by decide +kernel
set_option maxHeartbeats 4000000 in
set_option maxRecDepth 100000 in
theorem c_X0_addPerson (l : Launch) (dC : Nat → ClassId) (dI : Nat → Nat → Nat) (cI cB cZ : ClassId) (aK aV : Nat → Nat) (a_h a_h_lifts a_h_prices a_h_starts a_h_hands a_h_wanted : Nat) (sz : Nat) (h_rooms : Int32) (h_people : Int32) (h_things : Int32) (h_lifts : Nat → Int32) (h_prices : Nat → Int32) (p1 : Int32) (p2 : Int32) (q0 : Int32) (q1 : Nat → Int32) (q2 : Nat → Int32) (hf : f_X0_addPerson p1 p2 h_people h_lifts h_prices = some (q0, q1, q2)) : Met l yX0_addPerson wsX0_addPerson ({ frames := 0, cells := 0, slots := 0, locals := 0 } : Jvm.Room) (va_Pc [.ref a_h, .int p1, .int p2] (preW (dC, dI) (tyL cI cB cZ) aK aV sz [(a_h, .inr (0, [.int h_rooms, .int h_people, .int h_things, .ref a_h_lifts, .ref a_h_prices, .ref a_h_starts, .ref a_h_hands, .ref a_h_wanted])), (a_h_lifts, .inl (cI, 4, .inl h_lifts)), (a_h_prices, .inl (cI, 4, .inl h_prices))])) (va_Qv (fun (_ : Unit) => True) (postW (dC, dI) (tyL cI cB cZ) (va_A [(a_h, .inr (0, [.int h_rooms, .int h_people, .int h_things, .ref a_h_lifts, .ref a_h_prices, .ref a_h_starts, .ref a_h_hands, .ref a_h_wanted])), (a_h_lifts, .inl (cI, 4, .inl h_lifts)), (a_h_prices, .inl (cI, 4, .inl h_prices))] sz) [(a_h, .inr (0, [.int h_rooms, .int q0, .int h_things, .ref a_h_lifts, .ref a_h_prices, .ref a_h_starts, .ref a_h_hands, .ref a_h_wanted])), (a_h_lifts, .inl (cI, 4, .inl q1)), (a_h_prices, .inl (cI, 4, .inl q2))]) (va_A [(a_h, .inr (0, [.int h_rooms, .int h_people, .int h_things, .ref a_h_lifts, .ref a_h_prices, .ref a_h_starts, .ref a_h_hands, .ref a_h_wanted])), (a_h_lifts, .inl (cI, 4, .inl h_lifts)), (a_h_prices, .inl (cI, 4, .inl h_prices))] sz)) 0 0 (va_A [(a_h, .inr (0, [.int h_rooms, .int h_people, .int h_things, .ref a_h_lifts, .ref a_h_prices, .ref a_h_starts, .ref a_h_hands, .ref a_h_wanted])), (a_h_lifts, .inl (cI, 4, .inl h_lifts)), (a_h_prices, .inl (cI, 4, .inl h_prices))] sz) := by
  refine met_v (cc := cX0_addPerson) (maxL := 3) (own := RX0) (by decide) rfl (Nat.le_of_ble_eq_true rfl) rfl (fun p e s m args below meth c Q A E hret ls H locs hl hw => ?_)
  obtain ⟨⟨hx, hb, hml, hown, hts⟩, hK, hN, hA, hX⟩ := id E
  have hl : lv_has ls 3 [(0, .ref a_h), (1, .int p1), (2, .int p2)] := hl
  have iX0 : ∀ w ∈ wsX00, w ∈ wsX0_addPerson := by decide +kernel
  have kf15 := hts (.fieldLink RX0 15 "FiveThings$House" "people" "I") (by decide +kernel)
  have kf21 := hts (.fieldLink RX0 21 "FiveThings$House" "lifts" "[I") (by decide +kernel)
  have kf25 := hts (.fieldLink RX0 25 "FiveThings$House" "prices" "[I") (by decide +kernel)
  unfold f_X0_addPerson at hf
  refine lv_aload_n hx hb dX0_addPerson_0 rfl (lv_at hl 0 rfl) ?_
  refine r_get E hw iX0 0 1 rfl rfl (by decide) kf15 rfl rfl dX0_addPerson_1 ?_
  refine lv_iconst (v := (4 : Int32)) hx hb dX0_addPerson_4 rfl ?_
  refine lv_icmp_ge (tgt := 38) hx hb dX0_addPerson_5 (by decide) (fun kc => ?_) (fun kc => ?_)
  · have hf := if_t hf kc
    obtain ⟨rfl, rfl, rfl⟩ := sm3 hf
    exact hret H locs ls 38 hw dX0_addPerson_38
  · have hf := if_f hf kc
    refine lv_aload_n hx hb dX0_addPerson_8 rfl (lv_at hl 0 rfl) ?_
    refine r_get E hw iX0 0 3 rfl rfl (by decide) kf21 rfl rfl dX0_addPerson_9 ?_
    refine lv_aload_n hx hb dX0_addPerson_12 rfl (lv_at hl 0 rfl) ?_
    refine r_get E hw iX0 0 1 rfl rfl (by decide) kf15 rfl rfl dX0_addPerson_13 ?_
    refine lv_iload_n hx hb dX0_addPerson_16 rfl (lv_at hl 1 rfl) ?_
    obtain ⟨g1, hf⟩ := gd_some hf
    refine r_iast E hw 1 rfl g1 [(a_h, .inr (0, [.int h_rooms, .int h_people, .int h_things, .ref a_h_lifts, .ref a_h_prices, .ref a_h_starts, .ref a_h_hands, .ref a_h_wanted])), (a_h_lifts, .inl (cI, 4, .inl (upd h_lifts h_people.toNatClampNeg p1))), (a_h_prices, .inl (cI, 4, .inl h_prices))] rfl dX0_addPerson_17 (fun H locs hw => ?_)
    refine lv_aload_n hx hb dX0_addPerson_18 rfl (lv_at hl 0 rfl) ?_
    refine r_get E hw iX0 0 4 rfl rfl (by decide) kf25 rfl rfl dX0_addPerson_19 ?_
    refine lv_aload_n hx hb dX0_addPerson_22 rfl (lv_at hl 0 rfl) ?_
    refine r_get E hw iX0 0 1 rfl rfl (by decide) kf15 rfl rfl dX0_addPerson_23 ?_
    refine lv_iload_n hx hb dX0_addPerson_26 rfl (lv_at hl 2 rfl) ?_
    obtain ⟨g2, hf⟩ := gd_some hf
    refine r_iast E hw 2 rfl g2 [(a_h, .inr (0, [.int h_rooms, .int h_people, .int h_things, .ref a_h_lifts, .ref a_h_prices, .ref a_h_starts, .ref a_h_hands, .ref a_h_wanted])), (a_h_lifts, .inl (cI, 4, .inl (upd h_lifts h_people.toNatClampNeg p1))), (a_h_prices, .inl (cI, 4, .inl (upd h_prices h_people.toNatClampNeg p2)))] rfl dX0_addPerson_27 (fun H locs hw => ?_)
    refine lv_aload_n hx hb dX0_addPerson_28 rfl (lv_at hl 0 rfl) ?_
    refine lv_dup hx hb dX0_addPerson_29 rfl ?_
    refine r_get E hw iX0 0 1 rfl rfl (by decide) kf15 rfl rfl dX0_addPerson_30 ?_
    refine lv_iconst (v := (1 : Int32)) hx hb dX0_addPerson_33 rfl ?_
    refine lv_iadd hx hb dX0_addPerson_34 ?_
    refine r_put E hw iX0 tyX0_ok nmX0 0 1 rfl rfl (by decide) kf15 rfl rfl rfl rfl (Nat.le_of_ble_eq_true rfl) [(a_h, .inr (0, [.int h_rooms, .int (h_people + (1 : Int32)), .int h_things, .ref a_h_lifts, .ref a_h_prices, .ref a_h_starts, .ref a_h_hands, .ref a_h_wanted])), (a_h_lifts, .inl (cI, 4, .inl (upd h_lifts h_people.toNatClampNeg p1))), (a_h_prices, .inl (cI, 4, .inl (upd h_prices h_people.toNatClampNeg p2)))] rfl dX0_addPerson_35 (fun H locs hw => ?_)
    obtain ⟨rfl, rfl, rfl⟩ := sm3 hf
    exact hret H locs ls 38 hw dX0_addPerson_38
def f_X0_addThing (p1 : Int32) (p2 : Int32) (h_things : Int32) (h_starts : Nat → Int32) (h_hands : Nat → Int32) (h_wanted : Nat → Int32) : Option (Int32 × (Nat → Int32) × (Nat → Int32) × (Nat → Int32)) :=
  (if (8 : Int32) ≤ h_things then some (h_things, h_starts, h_hands, h_wanted) else gd (inb h_things 8) (gd (inb h_things 8) (gd (inb h_things 8) (some ((h_things + (1 : Int32)), (upd h_starts h_things.toNatClampNeg p1), (upd h_hands h_things.toNatClampNeg p2), (upd h_wanted h_things.toNatClampNeg (-9 : Int32)))))))
theorem hd_X0_addThing : yX0_addThing.cls = RX0 ∧ yX0_addThing.cls ≠ "java/lang/invoke/MethodHandle" ∧ yX0_addThing.cls ≠ "java/lang/invoke/VarHandle" ∧ (parseMethodDescriptor yX0_addThing.desc).map (fun d => d.parameters.length) = some 2 := by decide +kernel
set_option maxHeartbeats 4000000 in
set_option maxRecDepth 100000 in
theorem c_X0_addThing (l : Launch) (dC : Nat → ClassId) (dI : Nat → Nat → Nat) (cI cB cZ : ClassId) (aK aV : Nat → Nat) (a_h a_h_lifts a_h_prices a_h_starts a_h_hands a_h_wanted : Nat) (sz : Nat) (h_rooms : Int32) (h_people : Int32) (h_things : Int32) (h_starts : Nat → Int32) (h_hands : Nat → Int32) (h_wanted : Nat → Int32) (p1 : Int32) (p2 : Int32) (q0 : Int32) (q1 : Nat → Int32) (q2 : Nat → Int32) (q3 : Nat → Int32) (hf : f_X0_addThing p1 p2 h_things h_starts h_hands h_wanted = some (q0, q1, q2, q3)) : Met l yX0_addThing wsX0_addThing ({ frames := 0, cells := 0, slots := 0, locals := 0 } : Jvm.Room) (va_Pc [.ref a_h, .int p1, .int p2] (preW (dC, dI) (tyL cI cB cZ) aK aV sz [(a_h, .inr (0, [.int h_rooms, .int h_people, .int h_things, .ref a_h_lifts, .ref a_h_prices, .ref a_h_starts, .ref a_h_hands, .ref a_h_wanted])), (a_h_starts, .inl (cI, 8, .inl h_starts)), (a_h_hands, .inl (cI, 8, .inl h_hands)), (a_h_wanted, .inl (cI, 8, .inl h_wanted))])) (va_Qv (fun (_ : Unit) => True) (postW (dC, dI) (tyL cI cB cZ) (va_A [(a_h, .inr (0, [.int h_rooms, .int h_people, .int h_things, .ref a_h_lifts, .ref a_h_prices, .ref a_h_starts, .ref a_h_hands, .ref a_h_wanted])), (a_h_starts, .inl (cI, 8, .inl h_starts)), (a_h_hands, .inl (cI, 8, .inl h_hands)), (a_h_wanted, .inl (cI, 8, .inl h_wanted))] sz) [(a_h, .inr (0, [.int h_rooms, .int h_people, .int q0, .ref a_h_lifts, .ref a_h_prices, .ref a_h_starts, .ref a_h_hands, .ref a_h_wanted])), (a_h_starts, .inl (cI, 8, .inl q1)), (a_h_hands, .inl (cI, 8, .inl q2)), (a_h_wanted, .inl (cI, 8, .inl q3))]) (va_A [(a_h, .inr (0, [.int h_rooms, .int h_people, .int h_things, .ref a_h_lifts, .ref a_h_prices, .ref a_h_starts, .ref a_h_hands, .ref a_h_wanted])), (a_h_starts, .inl (cI, 8, .inl h_starts)), (a_h_hands, .inl (cI, 8, .inl h_hands)), (a_h_wanted, .inl (cI, 8, .inl h_wanted))] sz)) 0 0 (va_A [(a_h, .inr (0, [.int h_rooms, .int h_people, .int h_things, .ref a_h_lifts, .ref a_h_prices, .ref a_h_starts, .ref a_h_hands, .ref a_h_wanted])), (a_h_starts, .inl (cI, 8, .inl h_starts)), (a_h_hands, .inl (cI, 8, .inl h_hands)), (a_h_wanted, .inl (cI, 8, .inl h_wanted))] sz) := by
  refine met_v (cc := cX0_addThing) (maxL := 3) (own := RX0) (by decide) rfl (Nat.le_of_ble_eq_true rfl) rfl (fun p e s m args below meth c Q A E hret ls H locs hl hw => ?_)
  obtain ⟨⟨hx, hb, hml, hown, hts⟩, hK, hN, hA, hX⟩ := id E
  have hl : lv_has ls 3 [(0, .ref a_h), (1, .int p1), (2, .int p2)] := hl
  have iX0 : ∀ w ∈ wsX00, w ∈ wsX0_addThing := by decide +kernel
  have kf18 := hts (.fieldLink RX0 18 "FiveThings$House" "things" "I") (by decide +kernel)
  have kf28 := hts (.fieldLink RX0 28 "FiveThings$House" "starts" "[I") (by decide +kernel)
  have kf31 := hts (.fieldLink RX0 31 "FiveThings$House" "hands" "[I") (by decide +kernel)
  have kf34 := hts (.fieldLink RX0 34 "FiveThings$House" "wanted" "[I") (by decide +kernel)
  unfold f_X0_addThing at hf
  refine lv_aload_n hx hb dX0_addThing_0 rfl (lv_at hl 0 rfl) ?_
  refine r_get E hw iX0 0 2 rfl rfl (by decide) kf18 rfl rfl dX0_addThing_1 ?_
  refine lv_bipush (v := (8 : Int32)) hx hb dX0_addThing_4 rfl ?_
  refine lv_icmp_ge (tgt := 50) hx hb dX0_addThing_6 (by decide) (fun kc => ?_) (fun kc => ?_)
  · have hf := if_t hf kc
    obtain ⟨rfl, rfl, rfl, rfl⟩ := sm4 hf
    exact hret H locs ls 50 hw dX0_addThing_50
  · have hf := if_f hf kc
    refine lv_aload_n hx hb dX0_addThing_9 rfl (lv_at hl 0 rfl) ?_
    refine r_get E hw iX0 0 5 rfl rfl (by decide) kf28 rfl rfl dX0_addThing_10 ?_
    refine lv_aload_n hx hb dX0_addThing_13 rfl (lv_at hl 0 rfl) ?_
    refine r_get E hw iX0 0 2 rfl rfl (by decide) kf18 rfl rfl dX0_addThing_14 ?_
    refine lv_iload_n hx hb dX0_addThing_17 rfl (lv_at hl 1 rfl) ?_
    obtain ⟨g1, hf⟩ := gd_some hf
    refine r_iast E hw 1 rfl g1 [(a_h, .inr (0, [.int h_rooms, .int h_people, .int h_things, .ref a_h_lifts, .ref a_h_prices, .ref a_h_starts, .ref a_h_hands, .ref a_h_wanted])), (a_h_starts, .inl (cI, 8, .inl (upd h_starts h_things.toNatClampNeg p1))), (a_h_hands, .inl (cI, 8, .inl h_hands)), (a_h_wanted, .inl (cI, 8, .inl h_wanted))] rfl dX0_addThing_18 (fun H locs hw => ?_)
    refine lv_aload_n hx hb dX0_addThing_19 rfl (lv_at hl 0 rfl) ?_
    refine r_get E hw iX0 0 6 rfl rfl (by decide) kf31 rfl rfl dX0_addThing_20 ?_
    refine lv_aload_n hx hb dX0_addThing_23 rfl (lv_at hl 0 rfl) ?_
    refine r_get E hw iX0 0 2 rfl rfl (by decide) kf18 rfl rfl dX0_addThing_24 ?_
    refine lv_iload_n hx hb dX0_addThing_27 rfl (lv_at hl 2 rfl) ?_
    obtain ⟨g2, hf⟩ := gd_some hf
    refine r_iast E hw 2 rfl g2 [(a_h, .inr (0, [.int h_rooms, .int h_people, .int h_things, .ref a_h_lifts, .ref a_h_prices, .ref a_h_starts, .ref a_h_hands, .ref a_h_wanted])), (a_h_starts, .inl (cI, 8, .inl (upd h_starts h_things.toNatClampNeg p1))), (a_h_hands, .inl (cI, 8, .inl (upd h_hands h_things.toNatClampNeg p2))), (a_h_wanted, .inl (cI, 8, .inl h_wanted))] rfl dX0_addThing_28 (fun H locs hw => ?_)
    refine lv_aload_n hx hb dX0_addThing_29 rfl (lv_at hl 0 rfl) ?_
    refine r_get E hw iX0 0 7 rfl rfl (by decide) kf34 rfl rfl dX0_addThing_30 ?_
    refine lv_aload_n hx hb dX0_addThing_33 rfl (lv_at hl 0 rfl) ?_
    refine r_get E hw iX0 0 2 rfl rfl (by decide) kf18 rfl rfl dX0_addThing_34 ?_
    refine lv_bipush (v := (-9 : Int32)) hx hb dX0_addThing_37 rfl ?_
    obtain ⟨g3, hf⟩ := gd_some hf
    refine r_iast E hw 3 rfl g3 [(a_h, .inr (0, [.int h_rooms, .int h_people, .int h_things, .ref a_h_lifts, .ref a_h_prices, .ref a_h_starts, .ref a_h_hands, .ref a_h_wanted])), (a_h_starts, .inl (cI, 8, .inl (upd h_starts h_things.toNatClampNeg p1))), (a_h_hands, .inl (cI, 8, .inl (upd h_hands h_things.toNatClampNeg p2))), (a_h_wanted, .inl (cI, 8, .inl (upd h_wanted h_things.toNatClampNeg (-9 : Int32))))] rfl dX0_addThing_39 (fun H locs hw => ?_)
    refine lv_aload_n hx hb dX0_addThing_40 rfl (lv_at hl 0 rfl) ?_
    refine lv_dup hx hb dX0_addThing_41 rfl ?_
    refine r_get E hw iX0 0 2 rfl rfl (by decide) kf18 rfl rfl dX0_addThing_42 ?_
    refine lv_iconst (v := (1 : Int32)) hx hb dX0_addThing_45 rfl ?_
    refine lv_iadd hx hb dX0_addThing_46 ?_
    refine r_put E hw iX0 tyX0_ok nmX0 0 2 rfl rfl (by decide) kf18 rfl rfl rfl rfl (Nat.le_of_ble_eq_true rfl) [(a_h, .inr (0, [.int h_rooms, .int h_people, .int (h_things + (1 : Int32)), .ref a_h_lifts, .ref a_h_prices, .ref a_h_starts, .ref a_h_hands, .ref a_h_wanted])), (a_h_starts, .inl (cI, 8, .inl (upd h_starts h_things.toNatClampNeg p1))), (a_h_hands, .inl (cI, 8, .inl (upd h_hands h_things.toNatClampNeg p2))), (a_h_wanted, .inl (cI, 8, .inl (upd h_wanted h_things.toNatClampNeg (-9 : Int32))))] rfl dX0_addThing_47 (fun H locs hw => ?_)
    obtain ⟨rfl, rfl, rfl, rfl⟩ := sm4 hf
    exact hret H locs ls 50 hw dX0_addThing_50
def f_X0_hasThing (p1 : Int32) (h_things : Int32) : Option (Int32) :=
  jn (some ((0 : Int32))) (fun J16 => (if p1 < 0 then J16 else (if h_things ≤ p1 then J16 else some ((1 : Int32)))))
theorem hd_X0_hasThing : yX0_hasThing.cls = RX0 ∧ yX0_hasThing.cls ≠ "java/lang/invoke/MethodHandle" ∧ yX0_hasThing.cls ≠ "java/lang/invoke/VarHandle" ∧ (parseMethodDescriptor yX0_hasThing.desc).map (fun d => d.parameters.length) = some 1 := by decide +kernel
set_option maxHeartbeats 4000000 in
set_option maxRecDepth 100000 in
theorem c_X0_hasThing (l : Launch) (dC : Nat → ClassId) (dI : Nat → Nat → Nat) (cI cB cZ : ClassId) (aK aV : Nat → Nat) (a_h a_h_lifts a_h_prices a_h_starts a_h_hands a_h_wanted : Nat) (sz : Nat) (h_rooms : Int32) (h_people : Int32) (h_things : Int32) (p1 : Int32) (r : Int32) (hf : f_X0_hasThing p1 h_things = some r) : Met l yX0_hasThing wsX0_hasThing ({ frames := 0, cells := 0, slots := 0, locals := 0 } : Jvm.Room) (va_Pc [.ref a_h, .int p1] (preW (dC, dI) (tyL cI cB cZ) aK aV sz [(a_h, .inr (0, [.int h_rooms, .int h_people, .int h_things, .ref a_h_lifts, .ref a_h_prices, .ref a_h_starts, .ref a_h_hands, .ref a_h_wanted]))])) (va_Qi (fun v (_ : Unit) => v = r) (postW (dC, dI) (tyL cI cB cZ) (va_A [(a_h, .inr (0, [.int h_rooms, .int h_people, .int h_things, .ref a_h_lifts, .ref a_h_prices, .ref a_h_starts, .ref a_h_hands, .ref a_h_wanted]))] sz) [(a_h, .inr (0, [.int h_rooms, .int h_people, .int h_things, .ref a_h_lifts, .ref a_h_prices, .ref a_h_starts, .ref a_h_hands, .ref a_h_wanted]))]) (va_A [(a_h, .inr (0, [.int h_rooms, .int h_people, .int h_things, .ref a_h_lifts, .ref a_h_prices, .ref a_h_starts, .ref a_h_hands, .ref a_h_wanted]))] sz)) 0 0 (va_A [(a_h, .inr (0, [.int h_rooms, .int h_people, .int h_things, .ref a_h_lifts, .ref a_h_prices, .ref a_h_starts, .ref a_h_hands, .ref a_h_wanted]))] sz) := by
  refine met_z (cc := cX0_hasThing) (maxL := 2) (own := RX0) (by decide) rfl (Nat.le_of_ble_eq_true rfl) rfl (fun p e s m args below meth c Q A E hret ls H locs hl hw => ?_)
  obtain ⟨⟨hx, hb, hml, hown, hts⟩, hK, hN, hA, hX⟩ := id E
  have hl : lv_has ls 2 [(0, .ref a_h), (1, .int p1)] := hl
  have iX0 : ∀ w ∈ wsX00, w ∈ wsX0_hasThing := by decide +kernel
  have kf18 := hts (.fieldLink RX0 18 "FiveThings$House" "things" "I") (by decide +kernel)
  unfold f_X0_hasThing at hf
  refine lv_iload_n hx hb dX0_hasThing_0 rfl (lv_at hl 1 rfl) ?_
  refine jn_sound (P := fun J => ∀ (ls : Array Slot) (H : Heap) (locs : List Loc), J = some r → lv_has ls 2 [] → Wd A s.heap (dC, dI) [(a_h, .inr (0, [.int h_rooms, .int h_people, .int h_things, .ref a_h_lifts, .ref a_h_prices, .ref a_h_starts, .ref a_h_hands, .ref a_h_wanted]))] H locs → W p l e ({ frames := 0, cells := 0, slots := 0, locals := 0 } : Jvm.Room) s m args below meth c H locs 0 0 Q (F0 m 16 ls [])) hf ?_ ?_
  · intro ls H locs hf hl hw
    refine lv_iconst (v := (0 : Int32)) hx hb dX0_hasThing_16 rfl ?_
    obtain rfl := sm1 hf
    exact hret H locs ls 17 hw (Or.inl rfl) dX0_hasThing_17
  · intro J16 hJ16 hf
    refine lv_if_lt (tgt := 16) hx hb dX0_hasThing_1 (by decide) (fun kc => ?_) (fun kc => ?_)
    · have hf := if_t hf kc
      exact hJ16 ls H locs hf (lv_sub hl [] rfl) hw
    · have hf := if_f hf kc
      refine lv_iload_n hx hb dX0_hasThing_4 rfl (lv_at hl 1 rfl) ?_
      refine lv_aload_n hx hb dX0_hasThing_5 rfl (lv_at hl 0 rfl) ?_
      refine r_get E hw iX0 0 2 rfl rfl (by decide) kf18 rfl rfl dX0_hasThing_6 ?_
      refine lv_icmp_ge (tgt := 16) hx hb dX0_hasThing_9 (by decide) (fun kc => ?_) (fun kc => ?_)
      · have hf := if_t hf kc
        exact hJ16 ls H locs hf (lv_sub hl [] rfl) hw
      · have hf := if_f hf kc
        refine lv_iconst (v := (1 : Int32)) hx hb dX0_hasThing_12 rfl ?_
        refine lv_goto (tgt := 17) hx hb dX0_hasThing_13 (by decide) ?_
        obtain rfl := sm1 hf
        exact hret H locs ls 17 hw (Or.inr rfl) dX0_hasThing_17
def f_X0_want (p1 : Int32) (p2 : Int32) (h_things : Int32) (h_wanted : Nat → Int32) : Option ((Nat → Int32)) :=
  bd1 (f_X0_hasThing p1 h_things) (fun r1 => (if r1 = 0 then some (h_wanted) else gd (inb p1 8) (some ((upd h_wanted p1.toNatClampNeg p2)))))
theorem hd_X0_want : yX0_want.cls = RX0 ∧ yX0_want.cls ≠ "java/lang/invoke/MethodHandle" ∧ yX0_want.cls ≠ "java/lang/invoke/VarHandle" ∧ (parseMethodDescriptor yX0_want.desc).map (fun d => d.parameters.length) = some 2 := by decide +kernel
set_option maxHeartbeats 4000000 in
set_option maxRecDepth 100000 in
theorem c_X0_want (l : Launch) (dC : Nat → ClassId) (dI : Nat → Nat → Nat) (cI cB cZ : ClassId) (aK aV : Nat → Nat) (a_h a_h_lifts a_h_prices a_h_starts a_h_hands a_h_wanted : Nat) (sz : Nat) (h_rooms : Int32) (h_people : Int32) (h_things : Int32) (h_wanted : Nat → Int32) (p1 : Int32) (p2 : Int32) (q0 : Nat → Int32) (hf : f_X0_want p1 p2 h_things h_wanted = some q0) : Met l yX0_want wsX0_want ({ frames := 1, cells := 0, slots := 0, locals := 21 } : Jvm.Room) (va_Pc [.ref a_h, .int p1, .int p2] (preW (dC, dI) (tyL cI cB cZ) aK aV sz [(a_h, .inr (0, [.int h_rooms, .int h_people, .int h_things, .ref a_h_lifts, .ref a_h_prices, .ref a_h_starts, .ref a_h_hands, .ref a_h_wanted])), (a_h_wanted, .inl (cI, 8, .inl h_wanted))])) (va_Qv (fun (_ : Unit) => True) (postW (dC, dI) (tyL cI cB cZ) (va_A [(a_h, .inr (0, [.int h_rooms, .int h_people, .int h_things, .ref a_h_lifts, .ref a_h_prices, .ref a_h_starts, .ref a_h_hands, .ref a_h_wanted])), (a_h_wanted, .inl (cI, 8, .inl h_wanted))] sz) [(a_h, .inr (0, [.int h_rooms, .int h_people, .int h_things, .ref a_h_lifts, .ref a_h_prices, .ref a_h_starts, .ref a_h_hands, .ref a_h_wanted])), (a_h_wanted, .inl (cI, 8, .inl q0))]) (va_A [(a_h, .inr (0, [.int h_rooms, .int h_people, .int h_things, .ref a_h_lifts, .ref a_h_prices, .ref a_h_starts, .ref a_h_hands, .ref a_h_wanted])), (a_h_wanted, .inl (cI, 8, .inl h_wanted))] sz)) 0 0 (va_A [(a_h, .inr (0, [.int h_rooms, .int h_people, .int h_things, .ref a_h_lifts, .ref a_h_prices, .ref a_h_starts, .ref a_h_hands, .ref a_h_wanted])), (a_h_wanted, .inl (cI, 8, .inl h_wanted))] sz) := by
  refine met_v (cc := cX0_want) (maxL := 3) (own := RX0) (by decide) rfl (Nat.le_of_ble_eq_true rfl) rfl (fun p e s m args below meth c Q A E hret ls H locs hl hw => ?_)
  obtain ⟨⟨hx, hb, hml, hown, hts⟩, hK, hN, hA, hX⟩ := id E
  have hl : lv_has ls 3 [(0, .ref a_h), (1, .int p1), (2, .int p2)] := hl
  have iX0 : ∀ w ∈ wsX00, w ∈ wsX0_want := by decide +kernel
  have kf34 := hts (.fieldLink RX0 34 "FiveThings$House" "wanted" "[I") (by decide +kernel)
  unfold f_X0_want at hf
  refine lv_aload_n hx hb dX0_want_0 rfl (lv_at hl 0 rfl) ?_
  refine lv_iload_n hx hb dX0_want_1 rfl (lv_at hl 1 rfl) ?_
  obtain ⟨r1, hu2, hf⟩ := bd1_some hf
  refine cl_i (wr := [(a_h_wanted, .inl (cI, 8, .inl h_wanted))]) (w2 := [(a_h, .inr (0, [.int h_rooms, .int h_people, .int h_things, .ref a_h_lifts, .ref a_h_prices, .ref a_h_starts, .ref a_h_hands, .ref a_h_wanted])), (a_h_wanted, .inl (cI, 8, .inl h_wanted))]) E hw [0] [1] [1, 0] (va_runV (As := [.int p1]) (rest := []) E.1 (c_X0_hasThing l dC dI cI cB cZ aK aV a_h a_h_lifts a_h_prices a_h_starts a_h_hands a_h_wanted H.size h_rooms h_people h_things p1 r1 hu2) (cwV 1 hts gX0_want_X0_hasThing rfl rfl rfl hd_X0_hasThing ⟨Nat.le_of_ble_eq_true rfl, Nat.le_of_ble_eq_true rfl⟩) (pre_V E hw [0] rfl rfl rfl rfl) rfl rfl hl.1 rfl (lv_room (Nat.le_of_ble_eq_true rfl)) dX0_want_2 ⟨Nat.zero_le _, Nat.zero_le _⟩) rfl rfl rfl (by decide) rfl rfl (fun H locs hw => ?_)
  refine lv_if_eq (tgt := 15) hx hb dX0_want_5 (by decide) (fun kc => ?_) (fun kc => ?_)
  · have hf := if_t hf kc
    obtain rfl := sm1 hf
    exact hret H locs ls 15 hw dX0_want_15
  · have hf := if_f hf kc
    refine lv_aload_n hx hb dX0_want_8 rfl (lv_at hl 0 rfl) ?_
    refine r_get E hw iX0 0 7 rfl rfl (by decide) kf34 rfl rfl dX0_want_9 ?_
    refine lv_iload_n hx hb dX0_want_12 rfl (lv_at hl 1 rfl) ?_
    refine lv_iload_n hx hb dX0_want_13 rfl (lv_at hl 2 rfl) ?_
    obtain ⟨g3, hf⟩ := gd_some hf
    refine r_iast E hw 1 rfl g3 [(a_h, .inr (0, [.int h_rooms, .int h_people, .int h_things, .ref a_h_lifts, .ref a_h_prices, .ref a_h_starts, .ref a_h_hands, .ref a_h_wanted])), (a_h_wanted, .inl (cI, 8, .inl (upd h_wanted p1.toNatClampNeg p2)))] rfl dX0_want_14 (fun H locs hw => ?_)
    obtain rfl := sm1 hf
    exact hret H locs ls 15 hw dX0_want_15
def f_X0_hasRoom (p1 : Int32) (h_rooms : Int32) : Option (Int32) :=
  jn (some ((0 : Int32))) (fun J16 => (if p1 < 0 then J16 else (if h_rooms ≤ p1 then J16 else some ((1 : Int32)))))
theorem hd_X0_hasRoom : yX0_hasRoom.cls = RX0 ∧ yX0_hasRoom.cls ≠ "java/lang/invoke/MethodHandle" ∧ yX0_hasRoom.cls ≠ "java/lang/invoke/VarHandle" ∧ (parseMethodDescriptor yX0_hasRoom.desc).map (fun d => d.parameters.length) = some 1 := by decide +kernel
set_option maxHeartbeats 4000000 in
set_option maxRecDepth 100000 in
theorem c_X0_hasRoom (l : Launch) (dC : Nat → ClassId) (dI : Nat → Nat → Nat) (cI cB cZ : ClassId) (aK aV : Nat → Nat) (a_h a_h_lifts a_h_prices a_h_starts a_h_hands a_h_wanted : Nat) (sz : Nat) (h_rooms : Int32) (h_people : Int32) (h_things : Int32) (p1 : Int32) (r : Int32) (hf : f_X0_hasRoom p1 h_rooms = some r) : Met l yX0_hasRoom wsX0_hasRoom ({ frames := 0, cells := 0, slots := 0, locals := 0 } : Jvm.Room) (va_Pc [.ref a_h, .int p1] (preW (dC, dI) (tyL cI cB cZ) aK aV sz [(a_h, .inr (0, [.int h_rooms, .int h_people, .int h_things, .ref a_h_lifts, .ref a_h_prices, .ref a_h_starts, .ref a_h_hands, .ref a_h_wanted]))])) (va_Qi (fun v (_ : Unit) => v = r) (postW (dC, dI) (tyL cI cB cZ) (va_A [(a_h, .inr (0, [.int h_rooms, .int h_people, .int h_things, .ref a_h_lifts, .ref a_h_prices, .ref a_h_starts, .ref a_h_hands, .ref a_h_wanted]))] sz) [(a_h, .inr (0, [.int h_rooms, .int h_people, .int h_things, .ref a_h_lifts, .ref a_h_prices, .ref a_h_starts, .ref a_h_hands, .ref a_h_wanted]))]) (va_A [(a_h, .inr (0, [.int h_rooms, .int h_people, .int h_things, .ref a_h_lifts, .ref a_h_prices, .ref a_h_starts, .ref a_h_hands, .ref a_h_wanted]))] sz)) 0 0 (va_A [(a_h, .inr (0, [.int h_rooms, .int h_people, .int h_things, .ref a_h_lifts, .ref a_h_prices, .ref a_h_starts, .ref a_h_hands, .ref a_h_wanted]))] sz) := by
  refine met_z (cc := cX0_hasRoom) (maxL := 2) (own := RX0) (by decide) rfl (Nat.le_of_ble_eq_true rfl) rfl (fun p e s m args below meth c Q A E hret ls H locs hl hw => ?_)
  obtain ⟨⟨hx, hb, hml, hown, hts⟩, hK, hN, hA, hX⟩ := id E
  have hl : lv_has ls 2 [(0, .ref a_h), (1, .int p1)] := hl
  have iX0 : ∀ w ∈ wsX00, w ∈ wsX0_hasRoom := by decide +kernel
  have kf9 := hts (.fieldLink RX0 9 "FiveThings$House" "rooms" "I") (by decide +kernel)
  unfold f_X0_hasRoom at hf
  refine lv_iload_n hx hb dX0_hasRoom_0 rfl (lv_at hl 1 rfl) ?_
  refine jn_sound (P := fun J => ∀ (ls : Array Slot) (H : Heap) (locs : List Loc), J = some r → lv_has ls 2 [] → Wd A s.heap (dC, dI) [(a_h, .inr (0, [.int h_rooms, .int h_people, .int h_things, .ref a_h_lifts, .ref a_h_prices, .ref a_h_starts, .ref a_h_hands, .ref a_h_wanted]))] H locs → W p l e ({ frames := 0, cells := 0, slots := 0, locals := 0 } : Jvm.Room) s m args below meth c H locs 0 0 Q (F0 m 16 ls [])) hf ?_ ?_
  · intro ls H locs hf hl hw
    refine lv_iconst (v := (0 : Int32)) hx hb dX0_hasRoom_16 rfl ?_
    obtain rfl := sm1 hf
    exact hret H locs ls 17 hw (Or.inl rfl) dX0_hasRoom_17
  · intro J16 hJ16 hf
    refine lv_if_lt (tgt := 16) hx hb dX0_hasRoom_1 (by decide) (fun kc => ?_) (fun kc => ?_)
    · have hf := if_t hf kc
      exact hJ16 ls H locs hf (lv_sub hl [] rfl) hw
    · have hf := if_f hf kc
      refine lv_iload_n hx hb dX0_hasRoom_4 rfl (lv_at hl 1 rfl) ?_
      refine lv_aload_n hx hb dX0_hasRoom_5 rfl (lv_at hl 0 rfl) ?_
      refine r_get E hw iX0 0 0 rfl rfl (by decide) kf9 rfl rfl dX0_hasRoom_6 ?_
      refine lv_icmp_ge (tgt := 16) hx hb dX0_hasRoom_9 (by decide) (fun kc => ?_) (fun kc => ?_)
      · have hf := if_t hf kc
        exact hJ16 ls H locs hf (lv_sub hl [] rfl) hw
      · have hf := if_f hf kc
        refine lv_iconst (v := (1 : Int32)) hx hb dX0_hasRoom_12 rfl ?_
        refine lv_goto (tgt := 17) hx hb dX0_hasRoom_13 (by decide) ?_
        obtain rfl := sm1 hf
        exact hret H locs ls 17 hw (Or.inr rfl) dX0_hasRoom_17
def f_X0_hasPerson (p1 : Int32) (h_people : Int32) : Option (Int32) :=
  jn (some ((0 : Int32))) (fun J16 => (if p1 < 0 then J16 else (if h_people ≤ p1 then J16 else some ((1 : Int32)))))
theorem hd_X0_hasPerson : yX0_hasPerson.cls = RX0 ∧ yX0_hasPerson.cls ≠ "java/lang/invoke/MethodHandle" ∧ yX0_hasPerson.cls ≠ "java/lang/invoke/VarHandle" ∧ (parseMethodDescriptor yX0_hasPerson.desc).map (fun d => d.parameters.length) = some 1 := by decide +kernel
set_option maxHeartbeats 4000000 in
set_option maxRecDepth 100000 in
theorem c_X0_hasPerson (l : Launch) (dC : Nat → ClassId) (dI : Nat → Nat → Nat) (cI cB cZ : ClassId) (aK aV : Nat → Nat) (a_h a_h_lifts a_h_prices a_h_starts a_h_hands a_h_wanted : Nat) (sz : Nat) (h_rooms : Int32) (h_people : Int32) (h_things : Int32) (p1 : Int32) (r : Int32) (hf : f_X0_hasPerson p1 h_people = some r) : Met l yX0_hasPerson wsX0_hasPerson ({ frames := 0, cells := 0, slots := 0, locals := 0 } : Jvm.Room) (va_Pc [.ref a_h, .int p1] (preW (dC, dI) (tyL cI cB cZ) aK aV sz [(a_h, .inr (0, [.int h_rooms, .int h_people, .int h_things, .ref a_h_lifts, .ref a_h_prices, .ref a_h_starts, .ref a_h_hands, .ref a_h_wanted]))])) (va_Qi (fun v (_ : Unit) => v = r) (postW (dC, dI) (tyL cI cB cZ) (va_A [(a_h, .inr (0, [.int h_rooms, .int h_people, .int h_things, .ref a_h_lifts, .ref a_h_prices, .ref a_h_starts, .ref a_h_hands, .ref a_h_wanted]))] sz) [(a_h, .inr (0, [.int h_rooms, .int h_people, .int h_things, .ref a_h_lifts, .ref a_h_prices, .ref a_h_starts, .ref a_h_hands, .ref a_h_wanted]))]) (va_A [(a_h, .inr (0, [.int h_rooms, .int h_people, .int h_things, .ref a_h_lifts, .ref a_h_prices, .ref a_h_starts, .ref a_h_hands, .ref a_h_wanted]))] sz)) 0 0 (va_A [(a_h, .inr (0, [.int h_rooms, .int h_people, .int h_things, .ref a_h_lifts, .ref a_h_prices, .ref a_h_starts, .ref a_h_hands, .ref a_h_wanted]))] sz) := by
  refine met_z (cc := cX0_hasPerson) (maxL := 2) (own := RX0) (by decide) rfl (Nat.le_of_ble_eq_true rfl) rfl (fun p e s m args below meth c Q A E hret ls H locs hl hw => ?_)
  obtain ⟨⟨hx, hb, hml, hown, hts⟩, hK, hN, hA, hX⟩ := id E
  have hl : lv_has ls 2 [(0, .ref a_h), (1, .int p1)] := hl
  have iX0 : ∀ w ∈ wsX00, w ∈ wsX0_hasPerson := by decide +kernel
  have kf15 := hts (.fieldLink RX0 15 "FiveThings$House" "people" "I") (by decide +kernel)
  unfold f_X0_hasPerson at hf
  refine lv_iload_n hx hb dX0_hasPerson_0 rfl (lv_at hl 1 rfl) ?_
  refine jn_sound (P := fun J => ∀ (ls : Array Slot) (H : Heap) (locs : List Loc), J = some r → lv_has ls 2 [] → Wd A s.heap (dC, dI) [(a_h, .inr (0, [.int h_rooms, .int h_people, .int h_things, .ref a_h_lifts, .ref a_h_prices, .ref a_h_starts, .ref a_h_hands, .ref a_h_wanted]))] H locs → W p l e ({ frames := 0, cells := 0, slots := 0, locals := 0 } : Jvm.Room) s m args below meth c H locs 0 0 Q (F0 m 16 ls [])) hf ?_ ?_
  · intro ls H locs hf hl hw
    refine lv_iconst (v := (0 : Int32)) hx hb dX0_hasPerson_16 rfl ?_
    obtain rfl := sm1 hf
    exact hret H locs ls 17 hw (Or.inl rfl) dX0_hasPerson_17
  · intro J16 hJ16 hf
    refine lv_if_lt (tgt := 16) hx hb dX0_hasPerson_1 (by decide) (fun kc => ?_) (fun kc => ?_)
    · have hf := if_t hf kc
      exact hJ16 ls H locs hf (lv_sub hl [] rfl) hw
    · have hf := if_f hf kc
      refine lv_iload_n hx hb dX0_hasPerson_4 rfl (lv_at hl 1 rfl) ?_
      refine lv_aload_n hx hb dX0_hasPerson_5 rfl (lv_at hl 0 rfl) ?_
      refine r_get E hw iX0 0 1 rfl rfl (by decide) kf15 rfl rfl dX0_hasPerson_6 ?_
      refine lv_icmp_ge (tgt := 16) hx hb dX0_hasPerson_9 (by decide) (fun kc => ?_) (fun kc => ?_)
      · have hf := if_t hf kc
        exact hJ16 ls H locs hf (lv_sub hl [] rfl) hw
      · have hf := if_f hf kc
        refine lv_iconst (v := (1 : Int32)) hx hb dX0_hasPerson_12 rfl ?_
        refine lv_goto (tgt := 17) hx hb dX0_hasPerson_13 (by decide) ?_
        obtain rfl := sm1 hf
        exact hret H locs ls 17 hw (Or.inr rfl) dX0_hasPerson_17
def f_X0_hasAllPeople (p1 : Int32) (h_people : Int32) : Option (Int32) :=
  (if ((p1.toUInt32 >>> (h_people.toUInt32 &&& Int32.toUInt32 31)).toInt32) = 0 then some ((1 : Int32)) else some ((0 : Int32)))
theorem hd_X0_hasAllPeople : yX0_hasAllPeople.cls = RX0 ∧ yX0_hasAllPeople.cls ≠ "java/lang/invoke/MethodHandle" ∧ yX0_hasAllPeople.cls ≠ "java/lang/invoke/VarHandle" ∧ (parseMethodDescriptor yX0_hasAllPeople.desc).map (fun d => d.parameters.length) = some 1 := by decide +kernel
set_option maxHeartbeats 4000000 in
set_option maxRecDepth 100000 in
theorem c_X0_hasAllPeople (l : Launch) (dC : Nat → ClassId) (dI : Nat → Nat → Nat) (cI cB cZ : ClassId) (aK aV : Nat → Nat) (a_h a_h_lifts a_h_prices a_h_starts a_h_hands a_h_wanted : Nat) (sz : Nat) (h_rooms : Int32) (h_people : Int32) (h_things : Int32) (p1 : Int32) (r : Int32) (hf : f_X0_hasAllPeople p1 h_people = some r) : Met l yX0_hasAllPeople wsX0_hasAllPeople ({ frames := 0, cells := 0, slots := 0, locals := 0 } : Jvm.Room) (va_Pc [.ref a_h, .int p1] (preW (dC, dI) (tyL cI cB cZ) aK aV sz [(a_h, .inr (0, [.int h_rooms, .int h_people, .int h_things, .ref a_h_lifts, .ref a_h_prices, .ref a_h_starts, .ref a_h_hands, .ref a_h_wanted]))])) (va_Qi (fun v (_ : Unit) => v = r) (postW (dC, dI) (tyL cI cB cZ) (va_A [(a_h, .inr (0, [.int h_rooms, .int h_people, .int h_things, .ref a_h_lifts, .ref a_h_prices, .ref a_h_starts, .ref a_h_hands, .ref a_h_wanted]))] sz) [(a_h, .inr (0, [.int h_rooms, .int h_people, .int h_things, .ref a_h_lifts, .ref a_h_prices, .ref a_h_starts, .ref a_h_hands, .ref a_h_wanted]))]) (va_A [(a_h, .inr (0, [.int h_rooms, .int h_people, .int h_things, .ref a_h_lifts, .ref a_h_prices, .ref a_h_starts, .ref a_h_hands, .ref a_h_wanted]))] sz)) 0 0 (va_A [(a_h, .inr (0, [.int h_rooms, .int h_people, .int h_things, .ref a_h_lifts, .ref a_h_prices, .ref a_h_starts, .ref a_h_hands, .ref a_h_wanted]))] sz) := by
  refine met_z (cc := cX0_hasAllPeople) (maxL := 2) (own := RX0) (by decide) rfl (Nat.le_of_ble_eq_true rfl) rfl (fun p e s m args below meth c Q A E hret ls H locs hl hw => ?_)
  obtain ⟨⟨hx, hb, hml, hown, hts⟩, hK, hN, hA, hX⟩ := id E
  have hl : lv_has ls 2 [(0, .ref a_h), (1, .int p1)] := hl
  have iX0 : ∀ w ∈ wsX00, w ∈ wsX0_hasAllPeople := by decide +kernel
  have kf15 := hts (.fieldLink RX0 15 "FiveThings$House" "people" "I") (by decide +kernel)
  unfold f_X0_hasAllPeople at hf
  refine lv_iload_n hx hb dX0_hasAllPeople_0 rfl (lv_at hl 1 rfl) ?_
  refine lv_aload_n hx hb dX0_hasAllPeople_1 rfl (lv_at hl 0 rfl) ?_
  refine r_get E hw iX0 0 1 rfl rfl (by decide) kf15 rfl rfl dX0_hasAllPeople_2 ?_
  refine lv_iushr hx hb dX0_hasAllPeople_5 rfl ?_
  refine lv_if_ne (tgt := 13) hx hb dX0_hasAllPeople_6 (by decide) (fun kc => ?_) (fun kc => ?_)
  · have hf := if_f hf kc
    refine lv_iconst (v := (0 : Int32)) hx hb dX0_hasAllPeople_13 rfl ?_
    obtain rfl := sm1 hf
    exact hret H locs ls 14 hw (Or.inl rfl) dX0_hasAllPeople_14
  · have hf := if_t hf kc
    refine lv_iconst (v := (1 : Int32)) hx hb dX0_hasAllPeople_9 rfl ?_
    refine lv_goto (tgt := 14) hx hb dX0_hasAllPeople_10 (by decide) ?_
    obtain rfl := sm1 hf
    exact hret H locs ls 14 hw (Or.inr rfl) dX0_hasAllPeople_14
def f_X0_hasAllThings (p1 : Int32) (h_things : Int32) : Option (Int32) :=
  (if ((p1.toUInt32 >>> (h_things.toUInt32 &&& Int32.toUInt32 31)).toInt32) = 0 then some ((1 : Int32)) else some ((0 : Int32)))
theorem hd_X0_hasAllThings : yX0_hasAllThings.cls = RX0 ∧ yX0_hasAllThings.cls ≠ "java/lang/invoke/MethodHandle" ∧ yX0_hasAllThings.cls ≠ "java/lang/invoke/VarHandle" ∧ (parseMethodDescriptor yX0_hasAllThings.desc).map (fun d => d.parameters.length) = some 1 := by decide +kernel
set_option maxHeartbeats 4000000 in
set_option maxRecDepth 100000 in
theorem c_X0_hasAllThings (l : Launch) (dC : Nat → ClassId) (dI : Nat → Nat → Nat) (cI cB cZ : ClassId) (aK aV : Nat → Nat) (a_h a_h_lifts a_h_prices a_h_starts a_h_hands a_h_wanted : Nat) (sz : Nat) (h_rooms : Int32) (h_people : Int32) (h_things : Int32) (p1 : Int32) (r : Int32) (hf : f_X0_hasAllThings p1 h_things = some r) : Met l yX0_hasAllThings wsX0_hasAllThings ({ frames := 0, cells := 0, slots := 0, locals := 0 } : Jvm.Room) (va_Pc [.ref a_h, .int p1] (preW (dC, dI) (tyL cI cB cZ) aK aV sz [(a_h, .inr (0, [.int h_rooms, .int h_people, .int h_things, .ref a_h_lifts, .ref a_h_prices, .ref a_h_starts, .ref a_h_hands, .ref a_h_wanted]))])) (va_Qi (fun v (_ : Unit) => v = r) (postW (dC, dI) (tyL cI cB cZ) (va_A [(a_h, .inr (0, [.int h_rooms, .int h_people, .int h_things, .ref a_h_lifts, .ref a_h_prices, .ref a_h_starts, .ref a_h_hands, .ref a_h_wanted]))] sz) [(a_h, .inr (0, [.int h_rooms, .int h_people, .int h_things, .ref a_h_lifts, .ref a_h_prices, .ref a_h_starts, .ref a_h_hands, .ref a_h_wanted]))]) (va_A [(a_h, .inr (0, [.int h_rooms, .int h_people, .int h_things, .ref a_h_lifts, .ref a_h_prices, .ref a_h_starts, .ref a_h_hands, .ref a_h_wanted]))] sz)) 0 0 (va_A [(a_h, .inr (0, [.int h_rooms, .int h_people, .int h_things, .ref a_h_lifts, .ref a_h_prices, .ref a_h_starts, .ref a_h_hands, .ref a_h_wanted]))] sz) := by
  refine met_z (cc := cX0_hasAllThings) (maxL := 2) (own := RX0) (by decide) rfl (Nat.le_of_ble_eq_true rfl) rfl (fun p e s m args below meth c Q A E hret ls H locs hl hw => ?_)
  obtain ⟨⟨hx, hb, hml, hown, hts⟩, hK, hN, hA, hX⟩ := id E
  have hl : lv_has ls 2 [(0, .ref a_h), (1, .int p1)] := hl
  have iX0 : ∀ w ∈ wsX00, w ∈ wsX0_hasAllThings := by decide +kernel
  have kf18 := hts (.fieldLink RX0 18 "FiveThings$House" "things" "I") (by decide +kernel)
  unfold f_X0_hasAllThings at hf
  refine lv_iload_n hx hb dX0_hasAllThings_0 rfl (lv_at hl 1 rfl) ?_
  refine lv_aload_n hx hb dX0_hasAllThings_1 rfl (lv_at hl 0 rfl) ?_
  refine r_get E hw iX0 0 2 rfl rfl (by decide) kf18 rfl rfl dX0_hasAllThings_2 ?_
  refine lv_iushr hx hb dX0_hasAllThings_5 rfl ?_
  refine lv_if_ne (tgt := 13) hx hb dX0_hasAllThings_6 (by decide) (fun kc => ?_) (fun kc => ?_)
  · have hf := if_f hf kc
    refine lv_iconst (v := (0 : Int32)) hx hb dX0_hasAllThings_13 rfl ?_
    obtain rfl := sm1 hf
    exact hret H locs ls 14 hw (Or.inl rfl) dX0_hasAllThings_14
  · have hf := if_t hf kc
    refine lv_iconst (v := (1 : Int32)) hx hb dX0_hasAllThings_9 rfl ?_
    refine lv_goto (tgt := 14) hx hb dX0_hasAllThings_10 (by decide) ?_
    obtain rfl := sm1 hf
    exact hret H locs ls 14 hw (Or.inr rfl) dX0_hasAllThings_14
def f_X0_tasks  (h_things : Int32) (h_wanted : Nat → Int32) : Option (Int32) :=
  loop2 (fun B4 (x2 : Int32) (x3 : Int32) => (if h_things ≤ x3 then some (x2) else gd (inb x3 8) ((if (h_wanted x3.toNatClampNeg) = (-9 : Int32) then B4 x2 (x3 + (1 : Int32)) else B4 (x2 + (1 : Int32)) (x3 + (1 : Int32)))))) FU (0 : Int32) (0 : Int32)
theorem hd_X0_tasks : yX0_tasks.cls = RX0 ∧ yX0_tasks.cls ≠ "java/lang/invoke/MethodHandle" ∧ yX0_tasks.cls ≠ "java/lang/invoke/VarHandle" ∧ (parseMethodDescriptor yX0_tasks.desc).map (fun d => d.parameters.length) = some 0 := by decide +kernel
set_option maxHeartbeats 4000000 in
set_option maxRecDepth 100000 in
theorem c_X0_tasks (l : Launch) (dC : Nat → ClassId) (dI : Nat → Nat → Nat) (cI cB cZ : ClassId) (aK aV : Nat → Nat) (a_h a_h_lifts a_h_prices a_h_starts a_h_hands a_h_wanted : Nat) (sz : Nat) (h_rooms : Int32) (h_people : Int32) (h_things : Int32) (h_wanted : Nat → Int32) (r : Int32) (hf : f_X0_tasks h_things h_wanted = some r) : Met l yX0_tasks wsX0_tasks ({ frames := 0, cells := 0, slots := 0, locals := 0 } : Jvm.Room) (va_Pc [.ref a_h] (preW (dC, dI) (tyL cI cB cZ) aK aV sz [(a_h, .inr (0, [.int h_rooms, .int h_people, .int h_things, .ref a_h_lifts, .ref a_h_prices, .ref a_h_starts, .ref a_h_hands, .ref a_h_wanted])), (a_h_wanted, .inl (cI, 8, .inl h_wanted))])) (va_Qi (fun v (_ : Unit) => v = r) (postW (dC, dI) (tyL cI cB cZ) (va_A [(a_h, .inr (0, [.int h_rooms, .int h_people, .int h_things, .ref a_h_lifts, .ref a_h_prices, .ref a_h_starts, .ref a_h_hands, .ref a_h_wanted])), (a_h_wanted, .inl (cI, 8, .inl h_wanted))] sz) [(a_h, .inr (0, [.int h_rooms, .int h_people, .int h_things, .ref a_h_lifts, .ref a_h_prices, .ref a_h_starts, .ref a_h_hands, .ref a_h_wanted])), (a_h_wanted, .inl (cI, 8, .inl h_wanted))]) (va_A [(a_h, .inr (0, [.int h_rooms, .int h_people, .int h_things, .ref a_h_lifts, .ref a_h_prices, .ref a_h_starts, .ref a_h_hands, .ref a_h_wanted])), (a_h_wanted, .inl (cI, 8, .inl h_wanted))] sz)) 0 0 (va_A [(a_h, .inr (0, [.int h_rooms, .int h_people, .int h_things, .ref a_h_lifts, .ref a_h_prices, .ref a_h_starts, .ref a_h_hands, .ref a_h_wanted])), (a_h_wanted, .inl (cI, 8, .inl h_wanted))] sz) := by
  refine met_i (cc := cX0_tasks) (maxL := 3) (own := RX0) (by decide) rfl (Nat.le_of_ble_eq_true rfl) rfl (fun p e s m args below meth c Q A E hret ls H locs hl hw => ?_)
  obtain ⟨⟨hx, hb, hml, hown, hts⟩, hK, hN, hA, hX⟩ := id E
  have hl : lv_has ls 3 [(0, .ref a_h)] := hl
  have iX0 : ∀ w ∈ wsX00, w ∈ wsX0_tasks := by decide +kernel
  have kf18 := hts (.fieldLink RX0 18 "FiveThings$House" "things" "I") (by decide +kernel)
  have kf34 := hts (.fieldLink RX0 34 "FiveThings$House" "wanted" "[I") (by decide +kernel)
  unfold f_X0_tasks at hf
  refine lv_iconst (v := (0 : Int32)) hx hb dX0_tasks_0 rfl ?_
  refine lv_istore_n (lv' := [(1, .int (0 : Int32)), (0, .ref a_h)]) hx hb dX0_tasks_1 rfl hl (by decide) rfl (fun ls hl => ?_)
  refine lv_iconst (v := (0 : Int32)) hx hb dX0_tasks_2 rfl ?_
  refine lv_istore_n (lv' := [(2, .int (0 : Int32)), (1, .int (0 : Int32)), (0, .ref a_h)]) hx hb dX0_tasks_3 rfl hl (by decide) rfl (fun ls hl => ?_)
  refine (loop2_sound (r := r) (P := fun (x2 : Int32) (x3 : Int32) => ∀ (ls : Array Slot) (H : Heap) (locs : List Loc), lv_has ls 3 [(2, .int x3), (1, .int x2), (0, .ref a_h)] → Wd A s.heap (dC, dI) [(a_h, .inr (0, [.int h_rooms, .int h_people, .int h_things, .ref a_h_lifts, .ref a_h_prices, .ref a_h_starts, .ref a_h_hands, .ref a_h_wanted])), (a_h_wanted, .inl (cI, 8, .inl h_wanted))] H locs → W p l e ({ frames := 0, cells := 0, slots := 0, locals := 0 } : Jvm.Room) s m args below meth c H locs 0 0 Q (F0 m 4 ls [])) (fun B4 x2 x3 ih4 hf => ?_) _ (0 : Int32) (0 : Int32) hf) ls H locs (lv_sub hl [0, 1, 2] rfl) hw
  intro ls H locs hl hw
  refine lv_iload_n hx hb dX0_tasks_4 rfl (lv_at hl 0 rfl) ?_
  refine lv_aload_n hx hb dX0_tasks_5 rfl (lv_at hl 2 rfl) ?_
  refine r_get E hw iX0 0 2 rfl rfl (by decide) kf18 rfl rfl dX0_tasks_6 ?_
  refine lv_icmp_ge (tgt := 32) hx hb dX0_tasks_9 (by decide) (fun kc => ?_) (fun kc => ?_)
  · have hf := if_t hf kc
    refine lv_iload_n hx hb dX0_tasks_32 rfl (lv_at hl 1 rfl) ?_
    obtain rfl := sm1 hf
    exact hret H locs ls 33 hw dX0_tasks_33
  · have hf := if_f hf kc
    refine lv_aload_n hx hb dX0_tasks_12 rfl (lv_at hl 2 rfl) ?_
    refine r_get E hw iX0 0 7 rfl rfl (by decide) kf34 rfl rfl dX0_tasks_13 ?_
    refine lv_iload_n hx hb dX0_tasks_16 rfl (lv_at hl 0 rfl) ?_
    obtain ⟨g4, hf⟩ := gd_some hf
    refine r_iald E hw 1 rfl g4 dX0_tasks_17 ?_
    refine lv_bipush (v := (-9 : Int32)) hx hb dX0_tasks_18 rfl ?_
    refine lv_icmp_eq (tgt := 26) hx hb dX0_tasks_20 (by decide) (fun kc => ?_) (fun kc => ?_)
    · have hf := if_t hf kc
      refine lv_iinc (v := (x3 + (1 : Int32))) (lv' := [(2, .int (x3 + (1 : Int32))), (1, .int x2), (0, .ref a_h)]) hx hb dX0_tasks_26 hl (k := 0) rfl rfl (by decide) rfl (fun ls hl => ?_)
      refine lv_goto (tgt := 4) hx hb dX0_tasks_29 (by decide) ?_
      exact ih4 x2 (x3 + (1 : Int32)) hf ls H locs (lv_sub hl [0, 1, 2] rfl) hw
    · have hf := if_f hf kc
      refine lv_iinc (v := (x2 + (1 : Int32))) (lv' := [(1, .int (x2 + (1 : Int32))), (2, .int x3), (0, .ref a_h)]) hx hb dX0_tasks_23 hl (k := 1) rfl rfl (by decide) rfl (fun ls hl => ?_)
      refine lv_iinc (v := (x3 + (1 : Int32))) (lv' := [(2, .int (x3 + (1 : Int32))), (1, .int (x2 + (1 : Int32))), (0, .ref a_h)]) hx hb dX0_tasks_26 hl (k := 1) rfl rfl (by decide) rfl (fun ls hl => ?_)
      refine lv_goto (tgt := 4) hx hb dX0_tasks_29 (by decide) ?_
      exact ih4 (x2 + (1 : Int32)) (x3 + (1 : Int32)) hf ls H locs (lv_sub hl [0, 1, 2] rfl) hw
def f_X0_handsOf (p1 : Int32) (h_things : Int32) (h_hands : Nat → Int32) : Option (Int32) :=
  loop2 (fun B4 (x5 : Int32) (x6 : Int32) => (if h_things ≤ x6 then some (x5) else bd1 (f_X6_has p1 x6) (fun r7 => (if r7 = 0 then B4 x5 (x6 + (1 : Int32)) else gd (inb x6 8) (lt ((if x5 < (h_hands x6.toNatClampNeg) then (h_hands x6.toNatClampNeg) else x5)) (fun z10 => B4 z10 (x6 + (1 : Int32)))))))) FU (0 : Int32) (0 : Int32)
theorem hd_X0_handsOf : yX0_handsOf.cls = RX0 ∧ yX0_handsOf.cls ≠ "java/lang/invoke/MethodHandle" ∧ yX0_handsOf.cls ≠ "java/lang/invoke/VarHandle" ∧ (parseMethodDescriptor yX0_handsOf.desc).map (fun d => d.parameters.length) = some 1 := by decide +kernel
set_option maxHeartbeats 4000000 in
set_option maxRecDepth 100000 in
theorem c_X0_handsOf (l : Launch) (dC : Nat → ClassId) (dI : Nat → Nat → Nat) (cI cB cZ : ClassId) (aK aV : Nat → Nat) (a_h a_h_lifts a_h_prices a_h_starts a_h_hands a_h_wanted : Nat) (sz : Nat) (h_rooms : Int32) (h_people : Int32) (h_things : Int32) (h_hands : Nat → Int32) (p1 : Int32) (r : Int32) (hf : f_X0_handsOf p1 h_things h_hands = some r) : Met l yX0_handsOf wsX0_handsOf ({ frames := 1, cells := 0, slots := 0, locals := 21 } : Jvm.Room) (va_Pc [.ref a_h, .int p1] (preW (dC, dI) (tyL cI cB cZ) aK aV sz [(a_h, .inr (0, [.int h_rooms, .int h_people, .int h_things, .ref a_h_lifts, .ref a_h_prices, .ref a_h_starts, .ref a_h_hands, .ref a_h_wanted])), (a_h_hands, .inl (cI, 8, .inl h_hands))])) (va_Qi (fun v (_ : Unit) => v = r) (postW (dC, dI) (tyL cI cB cZ) (va_A [(a_h, .inr (0, [.int h_rooms, .int h_people, .int h_things, .ref a_h_lifts, .ref a_h_prices, .ref a_h_starts, .ref a_h_hands, .ref a_h_wanted])), (a_h_hands, .inl (cI, 8, .inl h_hands))] sz) [(a_h, .inr (0, [.int h_rooms, .int h_people, .int h_things, .ref a_h_lifts, .ref a_h_prices, .ref a_h_starts, .ref a_h_hands, .ref a_h_wanted])), (a_h_hands, .inl (cI, 8, .inl h_hands))]) (va_A [(a_h, .inr (0, [.int h_rooms, .int h_people, .int h_things, .ref a_h_lifts, .ref a_h_prices, .ref a_h_starts, .ref a_h_hands, .ref a_h_wanted])), (a_h_hands, .inl (cI, 8, .inl h_hands))] sz)) 0 0 (va_A [(a_h, .inr (0, [.int h_rooms, .int h_people, .int h_things, .ref a_h_lifts, .ref a_h_prices, .ref a_h_starts, .ref a_h_hands, .ref a_h_wanted])), (a_h_hands, .inl (cI, 8, .inl h_hands))] sz) := by
  refine met_i (cc := cX0_handsOf) (maxL := 4) (own := RX0) (by decide) rfl (Nat.le_of_ble_eq_true rfl) rfl (fun p e s m args below meth c Q A E hret ls H locs hl hw => ?_)
  obtain ⟨⟨hx, hb, hml, hown, hts⟩, hK, hN, hA, hX⟩ := id E
  have hl : lv_has ls 4 [(0, .ref a_h), (1, .int p1)] := hl
  have iX0 : ∀ w ∈ wsX00, w ∈ wsX0_handsOf := by decide +kernel
  have kf18 := hts (.fieldLink RX0 18 "FiveThings$House" "things" "I") (by decide +kernel)
  have ks47 := hts (.static yX6_has) (by decide +kernel)
  have kt47 := hts (.initialized RX6) (by decide +kernel)
  have ku47 : va_Nw (.methodLinkNest RX0 47 yX6_has "FiveThings") s := hN _ (by decide +kernel)
  have kf31 := hts (.fieldLink RX0 31 "FiveThings$House" "hands" "[I") (by decide +kernel)
  have km51 := hts (.methodLink RX0 51 Lib.Math.max.name) (by decide +kernel)
  have kn51 := hts (.static Lib.Math.max.name) (by decide +kernel)
  have ko51 := hts (.initialized "java/lang/Math") (by decide +kernel)
  have kp51 := hts (.code Lib.Math.max.name Lib.Math.max.code 2 (some .int)) (by decide +kernel)
  unfold f_X0_handsOf at hf
  refine lv_iconst (v := (0 : Int32)) hx hb dX0_handsOf_0 rfl ?_
  refine lv_istore_n (lv' := [(2, .int (0 : Int32)), (0, .ref a_h), (1, .int p1)]) hx hb dX0_handsOf_1 rfl hl (by decide) rfl (fun ls hl => ?_)
  refine lv_iconst (v := (0 : Int32)) hx hb dX0_handsOf_2 rfl ?_
  refine lv_istore_n (lv' := [(3, .int (0 : Int32)), (2, .int (0 : Int32)), (0, .ref a_h), (1, .int p1)]) hx hb dX0_handsOf_3 rfl hl (by decide) rfl (fun ls hl => ?_)
  refine (loop2_sound (r := r) (P := fun (x5 : Int32) (x6 : Int32) => ∀ (ls : Array Slot) (H : Heap) (locs : List Loc), lv_has ls 4 [(3, .int x6), (2, .int x5), (0, .ref a_h), (1, .int p1)] → Wd A s.heap (dC, dI) [(a_h, .inr (0, [.int h_rooms, .int h_people, .int h_things, .ref a_h_lifts, .ref a_h_prices, .ref a_h_starts, .ref a_h_hands, .ref a_h_wanted])), (a_h_hands, .inl (cI, 8, .inl h_hands))] H locs → W p l e ({ frames := 1, cells := 0, slots := 0, locals := 21 } : Jvm.Room) s m args below meth c H locs 0 0 Q (F0 m 4 ls [])) (fun B4 x5 x6 ih4 hf => ?_) _ (0 : Int32) (0 : Int32) hf) ls H locs (lv_sub hl [0, 1, 2, 3] rfl) hw
  intro ls H locs hl hw
  refine lv_iload_n hx hb dX0_handsOf_4 rfl (lv_at hl 0 rfl) ?_
  refine lv_aload_n hx hb dX0_handsOf_5 rfl (lv_at hl 2 rfl) ?_
  refine r_get E hw iX0 0 2 rfl rfl (by decide) kf18 rfl rfl dX0_handsOf_6 ?_
  refine lv_icmp_ge (tgt := 37) hx hb dX0_handsOf_9 (by decide) (fun kc => ?_) (fun kc => ?_)
  · have hf := if_t hf kc
    refine lv_iload_n hx hb dX0_handsOf_37 rfl (lv_at hl 1 rfl) ?_
    obtain rfl := sm1 hf
    exact hret H locs ls 38 hw dX0_handsOf_38
  · have hf := if_f hf kc
    refine lv_iload_n hx hb dX0_handsOf_12 rfl (lv_at hl 3 rfl) ?_
    refine lv_iload_n hx hb dX0_handsOf_13 rfl (lv_at hl 0 rfl) ?_
    obtain ⟨r7, hu8, hf⟩ := bd1_some hf
    refine cl_i (wr := [(a_h, .inr (0, [.int h_rooms, .int h_people, .int h_things, .ref a_h_lifts, .ref a_h_prices, .ref a_h_starts, .ref a_h_hands, .ref a_h_wanted])), (a_h_hands, .inl (cI, 8, .inl h_hands))]) (w2 := [(a_h, .inr (0, [.int h_rooms, .int h_people, .int h_things, .ref a_h_lifts, .ref a_h_prices, .ref a_h_starts, .ref a_h_hands, .ref a_h_wanted])), (a_h_hands, .inl (cI, 8, .inl h_hands))]) E hw [] [0, 1] [0, 1] (va_runSN (As := [.int p1, .int x6]) (rest := []) E.1 (c_X6_has l dC dI cI cB cZ aK aV H.size p1 x6 r7 hu8) ⟨va_cnB 2 hts gX0_handsOf_X6_has_n47 rfl rfl rfl ku47 kt47 hd_X6_has ⟨Nat.le_of_ble_eq_true rfl, Nat.le_of_ble_eq_true rfl⟩, ks47, trivial⟩ (pre_S E hw [] rfl rfl) rfl rfl hl.1 rfl (lv_room (Nat.le_of_ble_eq_true rfl)) dX0_handsOf_14 ⟨Nat.zero_le _, Nat.zero_le _⟩) rfl rfl rfl (by decide) rfl rfl (fun H locs hw => ?_)
    refine lv_if_eq (tgt := 31) hx hb dX0_handsOf_17 (by decide) (fun kc => ?_) (fun kc => ?_)
    · have hf := if_t hf kc
      refine lv_iinc (v := (x6 + (1 : Int32))) (lv' := [(3, .int (x6 + (1 : Int32))), (2, .int x5), (0, .ref a_h), (1, .int p1)]) hx hb dX0_handsOf_31 hl (k := 0) rfl rfl (by decide) rfl (fun ls hl => ?_)
      refine lv_goto (tgt := 4) hx hb dX0_handsOf_34 (by decide) ?_
      exact ih4 x5 (x6 + (1 : Int32)) hf ls H locs (lv_sub hl [0, 1, 2, 3] rfl) hw
    · have hf := if_f hf kc
      refine lv_iload_n hx hb dX0_handsOf_20 rfl (lv_at hl 1 rfl) ?_
      refine lv_aload_n hx hb dX0_handsOf_21 rfl (lv_at hl 2 rfl) ?_
      refine r_get E hw iX0 0 6 rfl rfl (by decide) kf31 rfl rfl dX0_handsOf_22 ?_
      refine lv_iload_n hx hb dX0_handsOf_25 rfl (lv_at hl 0 rfl) ?_
      obtain ⟨g9, hf⟩ := gd_some hf
      refine r_iald E hw 1 rfl g9 dX0_handsOf_26 ?_
      refine va_mmax hx hb (by rw [hml]; exact hl.1.symm) hown km51 kn51 ko51 kp51 (Nat.le_of_ble_eq_true rfl) (Nat.le_of_ble_eq_true rfl) (Nat.zero_le _) (Nat.zero_le _) dX0_handsOf_27 ?_
      refine lv_topi (fun z10 ez10 => ?_)
      have hf := lt_at hf ez10
      refine lv_istore_n (lv' := [(2, .int z10), (3, .int x6), (0, .ref a_h), (1, .int p1)]) hx hb dX0_handsOf_30 rfl hl (by decide) rfl (fun ls hl => ?_)
      refine lv_iinc (v := (x6 + (1 : Int32))) (lv' := [(3, .int (x6 + (1 : Int32))), (2, .int z10), (0, .ref a_h), (1, .int p1)]) hx hb dX0_handsOf_31 hl (k := 1) rfl rfl (by decide) rfl (fun ls hl => ?_)
      refine lv_goto (tgt := 4) hx hb dX0_handsOf_34 (by decide) ?_
      exact ih4 z10 (x6 + (1 : Int32)) hf ls H locs (lv_sub hl [0, 1, 2, 3] rfl) hw
def f_X0_handsTogether (p1 : Int32) (h_things : Int32) (h_hands : Nat → Int32) : Option (Int32) :=
  loop2 (fun B4 (x4 : Int32) (x5 : Int32) => (if h_things ≤ x5 then some (x4) else bd1 (f_X6_has p1 x5) (fun r6 => (if r6 = 0 then B4 x4 (x5 + (1 : Int32)) else gd (inb x5 8) (B4 (x4 + (h_hands x5.toNatClampNeg)) (x5 + (1 : Int32))))))) FU (0 : Int32) (0 : Int32)
theorem hd_X0_handsTogether : yX0_handsTogether.cls = RX0 ∧ yX0_handsTogether.cls ≠ "java/lang/invoke/MethodHandle" ∧ yX0_handsTogether.cls ≠ "java/lang/invoke/VarHandle" ∧ (parseMethodDescriptor yX0_handsTogether.desc).map (fun d => d.parameters.length) = some 1 := by decide +kernel
set_option maxHeartbeats 4000000 in
set_option maxRecDepth 100000 in
theorem c_X0_handsTogether (l : Launch) (dC : Nat → ClassId) (dI : Nat → Nat → Nat) (cI cB cZ : ClassId) (aK aV : Nat → Nat) (a_h a_h_lifts a_h_prices a_h_starts a_h_hands a_h_wanted : Nat) (sz : Nat) (h_rooms : Int32) (h_people : Int32) (h_things : Int32) (h_hands : Nat → Int32) (p1 : Int32) (r : Int32) (hf : f_X0_handsTogether p1 h_things h_hands = some r) : Met l yX0_handsTogether wsX0_handsTogether ({ frames := 1, cells := 0, slots := 0, locals := 21 } : Jvm.Room) (va_Pc [.ref a_h, .int p1] (preW (dC, dI) (tyL cI cB cZ) aK aV sz [(a_h, .inr (0, [.int h_rooms, .int h_people, .int h_things, .ref a_h_lifts, .ref a_h_prices, .ref a_h_starts, .ref a_h_hands, .ref a_h_wanted])), (a_h_hands, .inl (cI, 8, .inl h_hands))])) (va_Qi (fun v (_ : Unit) => v = r) (postW (dC, dI) (tyL cI cB cZ) (va_A [(a_h, .inr (0, [.int h_rooms, .int h_people, .int h_things, .ref a_h_lifts, .ref a_h_prices, .ref a_h_starts, .ref a_h_hands, .ref a_h_wanted])), (a_h_hands, .inl (cI, 8, .inl h_hands))] sz) [(a_h, .inr (0, [.int h_rooms, .int h_people, .int h_things, .ref a_h_lifts, .ref a_h_prices, .ref a_h_starts, .ref a_h_hands, .ref a_h_wanted])), (a_h_hands, .inl (cI, 8, .inl h_hands))]) (va_A [(a_h, .inr (0, [.int h_rooms, .int h_people, .int h_things, .ref a_h_lifts, .ref a_h_prices, .ref a_h_starts, .ref a_h_hands, .ref a_h_wanted])), (a_h_hands, .inl (cI, 8, .inl h_hands))] sz)) 0 0 (va_A [(a_h, .inr (0, [.int h_rooms, .int h_people, .int h_things, .ref a_h_lifts, .ref a_h_prices, .ref a_h_starts, .ref a_h_hands, .ref a_h_wanted])), (a_h_hands, .inl (cI, 8, .inl h_hands))] sz) := by
  refine met_i (cc := cX0_handsTogether) (maxL := 4) (own := RX0) (by decide) rfl (Nat.le_of_ble_eq_true rfl) rfl (fun p e s m args below meth c Q A E hret ls H locs hl hw => ?_)
  obtain ⟨⟨hx, hb, hml, hown, hts⟩, hK, hN, hA, hX⟩ := id E
  have hl : lv_has ls 4 [(0, .ref a_h), (1, .int p1)] := hl
  have iX0 : ∀ w ∈ wsX00, w ∈ wsX0_handsTogether := by decide +kernel
  have kf18 := hts (.fieldLink RX0 18 "FiveThings$House" "things" "I") (by decide +kernel)
  have ks47 := hts (.static yX6_has) (by decide +kernel)
  have kt47 := hts (.initialized RX6) (by decide +kernel)
  have ku47 : va_Nw (.methodLinkNest RX0 47 yX6_has "FiveThings") s := hN _ (by decide +kernel)
  have kf31 := hts (.fieldLink RX0 31 "FiveThings$House" "hands" "[I") (by decide +kernel)
  unfold f_X0_handsTogether at hf
  refine lv_iconst (v := (0 : Int32)) hx hb dX0_handsTogether_0 rfl ?_
  refine lv_istore_n (lv' := [(2, .int (0 : Int32)), (0, .ref a_h), (1, .int p1)]) hx hb dX0_handsTogether_1 rfl hl (by decide) rfl (fun ls hl => ?_)
  refine lv_iconst (v := (0 : Int32)) hx hb dX0_handsTogether_2 rfl ?_
  refine lv_istore_n (lv' := [(3, .int (0 : Int32)), (2, .int (0 : Int32)), (0, .ref a_h), (1, .int p1)]) hx hb dX0_handsTogether_3 rfl hl (by decide) rfl (fun ls hl => ?_)
  refine (loop2_sound (r := r) (P := fun (x4 : Int32) (x5 : Int32) => ∀ (ls : Array Slot) (H : Heap) (locs : List Loc), lv_has ls 4 [(3, .int x5), (2, .int x4), (0, .ref a_h), (1, .int p1)] → Wd A s.heap (dC, dI) [(a_h, .inr (0, [.int h_rooms, .int h_people, .int h_things, .ref a_h_lifts, .ref a_h_prices, .ref a_h_starts, .ref a_h_hands, .ref a_h_wanted])), (a_h_hands, .inl (cI, 8, .inl h_hands))] H locs → W p l e ({ frames := 1, cells := 0, slots := 0, locals := 21 } : Jvm.Room) s m args below meth c H locs 0 0 Q (F0 m 4 ls [])) (fun B4 x4 x5 ih4 hf => ?_) _ (0 : Int32) (0 : Int32) hf) ls H locs (lv_sub hl [0, 1, 2, 3] rfl) hw
  intro ls H locs hl hw
  refine lv_iload_n hx hb dX0_handsTogether_4 rfl (lv_at hl 0 rfl) ?_
  refine lv_aload_n hx hb dX0_handsTogether_5 rfl (lv_at hl 2 rfl) ?_
  refine r_get E hw iX0 0 2 rfl rfl (by decide) kf18 rfl rfl dX0_handsTogether_6 ?_
  refine lv_icmp_ge (tgt := 35) hx hb dX0_handsTogether_9 (by decide) (fun kc => ?_) (fun kc => ?_)
  · have hf := if_t hf kc
    refine lv_iload_n hx hb dX0_handsTogether_35 rfl (lv_at hl 1 rfl) ?_
    obtain rfl := sm1 hf
    exact hret H locs ls 36 hw dX0_handsTogether_36
  · have hf := if_f hf kc
    refine lv_iload_n hx hb dX0_handsTogether_12 rfl (lv_at hl 3 rfl) ?_
    refine lv_iload_n hx hb dX0_handsTogether_13 rfl (lv_at hl 0 rfl) ?_
    obtain ⟨r6, hu7, hf⟩ := bd1_some hf
    refine cl_i (wr := [(a_h, .inr (0, [.int h_rooms, .int h_people, .int h_things, .ref a_h_lifts, .ref a_h_prices, .ref a_h_starts, .ref a_h_hands, .ref a_h_wanted])), (a_h_hands, .inl (cI, 8, .inl h_hands))]) (w2 := [(a_h, .inr (0, [.int h_rooms, .int h_people, .int h_things, .ref a_h_lifts, .ref a_h_prices, .ref a_h_starts, .ref a_h_hands, .ref a_h_wanted])), (a_h_hands, .inl (cI, 8, .inl h_hands))]) E hw [] [0, 1] [0, 1] (va_runSN (As := [.int p1, .int x5]) (rest := []) E.1 (c_X6_has l dC dI cI cB cZ aK aV H.size p1 x5 r6 hu7) ⟨va_cnB 2 hts gX0_handsTogether_X6_has_n47 rfl rfl rfl ku47 kt47 hd_X6_has ⟨Nat.le_of_ble_eq_true rfl, Nat.le_of_ble_eq_true rfl⟩, ks47, trivial⟩ (pre_S E hw [] rfl rfl) rfl rfl hl.1 rfl (lv_room (Nat.le_of_ble_eq_true rfl)) dX0_handsTogether_14 ⟨Nat.zero_le _, Nat.zero_le _⟩) rfl rfl rfl (by decide) rfl rfl (fun H locs hw => ?_)
    refine lv_if_eq (tgt := 29) hx hb dX0_handsTogether_17 (by decide) (fun kc => ?_) (fun kc => ?_)
    · have hf := if_t hf kc
      refine lv_iinc (v := (x5 + (1 : Int32))) (lv' := [(3, .int (x5 + (1 : Int32))), (2, .int x4), (0, .ref a_h), (1, .int p1)]) hx hb dX0_handsTogether_29 hl (k := 0) rfl rfl (by decide) rfl (fun ls hl => ?_)
      refine lv_goto (tgt := 4) hx hb dX0_handsTogether_32 (by decide) ?_
      exact ih4 x4 (x5 + (1 : Int32)) hf ls H locs (lv_sub hl [0, 1, 2, 3] rfl) hw
    · have hf := if_f hf kc
      refine lv_iload_n hx hb dX0_handsTogether_20 rfl (lv_at hl 1 rfl) ?_
      refine lv_aload_n hx hb dX0_handsTogether_21 rfl (lv_at hl 2 rfl) ?_
      refine r_get E hw iX0 0 6 rfl rfl (by decide) kf31 rfl rfl dX0_handsTogether_22 ?_
      refine lv_iload_n hx hb dX0_handsTogether_25 rfl (lv_at hl 0 rfl) ?_
      obtain ⟨g8, hf⟩ := gd_some hf
      refine r_iald E hw 1 rfl g8 dX0_handsTogether_26 ?_
      refine lv_iadd hx hb dX0_handsTogether_27 ?_
      refine lv_istore_n (lv' := [(2, .int (x4 + (h_hands x5.toNatClampNeg))), (3, .int x5), (0, .ref a_h), (1, .int p1)]) hx hb dX0_handsTogether_28 rfl hl (by decide) rfl (fun ls hl => ?_)
      refine lv_iinc (v := (x5 + (1 : Int32))) (lv' := [(3, .int (x5 + (1 : Int32))), (2, .int (x4 + (h_hands x5.toNatClampNeg))), (0, .ref a_h), (1, .int p1)]) hx hb dX0_handsTogether_29 hl (k := 1) rfl rfl (by decide) rfl (fun ls hl => ?_)
      refine lv_goto (tgt := 4) hx hb dX0_handsTogether_32 (by decide) ?_
      exact ih4 (x4 + (h_hands x5.toNatClampNeg)) (x5 + (1 : Int32)) hf ls H locs (lv_sub hl [0, 1, 2, 3] rfl) hw
def f_X0_mostLifts  (h_people : Int32) (h_lifts : Nat → Int32) : Option (Int32) :=
  loop2 (fun B4 (x3 : Int32) (x4 : Int32) => (if h_people ≤ x4 then some (x3) else gd (inb x4 4) (lt ((if x3 < (h_lifts x4.toNatClampNeg) then (h_lifts x4.toNatClampNeg) else x3)) (fun z6 => B4 z6 (x4 + (1 : Int32)))))) FU (0 : Int32) (0 : Int32)
theorem hd_X0_mostLifts : yX0_mostLifts.cls = RX0 ∧ yX0_mostLifts.cls ≠ "java/lang/invoke/MethodHandle" ∧ yX0_mostLifts.cls ≠ "java/lang/invoke/VarHandle" ∧ (parseMethodDescriptor yX0_mostLifts.desc).map (fun d => d.parameters.length) = some 0 := by decide +kernel
set_option maxHeartbeats 4000000 in
set_option maxRecDepth 100000 in
theorem c_X0_mostLifts (l : Launch) (dC : Nat → ClassId) (dI : Nat → Nat → Nat) (cI cB cZ : ClassId) (aK aV : Nat → Nat) (a_h a_h_lifts a_h_prices a_h_starts a_h_hands a_h_wanted : Nat) (sz : Nat) (h_rooms : Int32) (h_people : Int32) (h_things : Int32) (h_lifts : Nat → Int32) (r : Int32) (hf : f_X0_mostLifts h_people h_lifts = some r) : Met l yX0_mostLifts wsX0_mostLifts ({ frames := 1, cells := 0, slots := 0, locals := 13 } : Jvm.Room) (va_Pc [.ref a_h] (preW (dC, dI) (tyL cI cB cZ) aK aV sz [(a_h, .inr (0, [.int h_rooms, .int h_people, .int h_things, .ref a_h_lifts, .ref a_h_prices, .ref a_h_starts, .ref a_h_hands, .ref a_h_wanted])), (a_h_lifts, .inl (cI, 4, .inl h_lifts))])) (va_Qi (fun v (_ : Unit) => v = r) (postW (dC, dI) (tyL cI cB cZ) (va_A [(a_h, .inr (0, [.int h_rooms, .int h_people, .int h_things, .ref a_h_lifts, .ref a_h_prices, .ref a_h_starts, .ref a_h_hands, .ref a_h_wanted])), (a_h_lifts, .inl (cI, 4, .inl h_lifts))] sz) [(a_h, .inr (0, [.int h_rooms, .int h_people, .int h_things, .ref a_h_lifts, .ref a_h_prices, .ref a_h_starts, .ref a_h_hands, .ref a_h_wanted])), (a_h_lifts, .inl (cI, 4, .inl h_lifts))]) (va_A [(a_h, .inr (0, [.int h_rooms, .int h_people, .int h_things, .ref a_h_lifts, .ref a_h_prices, .ref a_h_starts, .ref a_h_hands, .ref a_h_wanted])), (a_h_lifts, .inl (cI, 4, .inl h_lifts))] sz)) 0 0 (va_A [(a_h, .inr (0, [.int h_rooms, .int h_people, .int h_things, .ref a_h_lifts, .ref a_h_prices, .ref a_h_starts, .ref a_h_hands, .ref a_h_wanted])), (a_h_lifts, .inl (cI, 4, .inl h_lifts))] sz) := by
  refine met_i (cc := cX0_mostLifts) (maxL := 3) (own := RX0) (by decide) rfl (Nat.le_of_ble_eq_true rfl) rfl (fun p e s m args below meth c Q A E hret ls H locs hl hw => ?_)
  obtain ⟨⟨hx, hb, hml, hown, hts⟩, hK, hN, hA, hX⟩ := id E
  have hl : lv_has ls 3 [(0, .ref a_h)] := hl
  have iX0 : ∀ w ∈ wsX00, w ∈ wsX0_mostLifts := by decide +kernel
  have kf15 := hts (.fieldLink RX0 15 "FiveThings$House" "people" "I") (by decide +kernel)
  have kf21 := hts (.fieldLink RX0 21 "FiveThings$House" "lifts" "[I") (by decide +kernel)
  have km51 := hts (.methodLink RX0 51 Lib.Math.max.name) (by decide +kernel)
  have kn51 := hts (.static Lib.Math.max.name) (by decide +kernel)
  have ko51 := hts (.initialized "java/lang/Math") (by decide +kernel)
  have kp51 := hts (.code Lib.Math.max.name Lib.Math.max.code 2 (some .int)) (by decide +kernel)
  unfold f_X0_mostLifts at hf
  refine lv_iconst (v := (0 : Int32)) hx hb dX0_mostLifts_0 rfl ?_
  refine lv_istore_n (lv' := [(1, .int (0 : Int32)), (0, .ref a_h)]) hx hb dX0_mostLifts_1 rfl hl (by decide) rfl (fun ls hl => ?_)
  refine lv_iconst (v := (0 : Int32)) hx hb dX0_mostLifts_2 rfl ?_
  refine lv_istore_n (lv' := [(2, .int (0 : Int32)), (1, .int (0 : Int32)), (0, .ref a_h)]) hx hb dX0_mostLifts_3 rfl hl (by decide) rfl (fun ls hl => ?_)
  refine (loop2_sound (r := r) (P := fun (x3 : Int32) (x4 : Int32) => ∀ (ls : Array Slot) (H : Heap) (locs : List Loc), lv_has ls 3 [(2, .int x4), (1, .int x3), (0, .ref a_h)] → Wd A s.heap (dC, dI) [(a_h, .inr (0, [.int h_rooms, .int h_people, .int h_things, .ref a_h_lifts, .ref a_h_prices, .ref a_h_starts, .ref a_h_hands, .ref a_h_wanted])), (a_h_lifts, .inl (cI, 4, .inl h_lifts))] H locs → W p l e ({ frames := 1, cells := 0, slots := 0, locals := 13 } : Jvm.Room) s m args below meth c H locs 0 0 Q (F0 m 4 ls [])) (fun B4 x3 x4 ih4 hf => ?_) _ (0 : Int32) (0 : Int32) hf) ls H locs (lv_sub hl [0, 1, 2] rfl) hw
  intro ls H locs hl hw
  refine lv_iload_n hx hb dX0_mostLifts_4 rfl (lv_at hl 0 rfl) ?_
  refine lv_aload_n hx hb dX0_mostLifts_5 rfl (lv_at hl 2 rfl) ?_
  refine r_get E hw iX0 0 1 rfl rfl (by decide) kf15 rfl rfl dX0_mostLifts_6 ?_
  refine lv_icmp_ge (tgt := 29) hx hb dX0_mostLifts_9 (by decide) (fun kc => ?_) (fun kc => ?_)
  · have hf := if_t hf kc
    refine lv_iload_n hx hb dX0_mostLifts_29 rfl (lv_at hl 1 rfl) ?_
    obtain rfl := sm1 hf
    exact hret H locs ls 30 hw dX0_mostLifts_30
  · have hf := if_f hf kc
    refine lv_iload_n hx hb dX0_mostLifts_12 rfl (lv_at hl 1 rfl) ?_
    refine lv_aload_n hx hb dX0_mostLifts_13 rfl (lv_at hl 2 rfl) ?_
    refine r_get E hw iX0 0 3 rfl rfl (by decide) kf21 rfl rfl dX0_mostLifts_14 ?_
    refine lv_iload_n hx hb dX0_mostLifts_17 rfl (lv_at hl 0 rfl) ?_
    obtain ⟨g5, hf⟩ := gd_some hf
    refine r_iald E hw 1 rfl g5 dX0_mostLifts_18 ?_
    refine va_mmax hx hb (by rw [hml]; exact hl.1.symm) hown km51 kn51 ko51 kp51 (Nat.le_of_ble_eq_true rfl) (Nat.le_of_ble_eq_true rfl) (Nat.zero_le _) (Nat.zero_le _) dX0_mostLifts_19 ?_
    refine lv_topi (fun z6 ez6 => ?_)
    have hf := lt_at hf ez6
    refine lv_istore_n (lv' := [(1, .int z6), (2, .int x4), (0, .ref a_h)]) hx hb dX0_mostLifts_22 rfl hl (by decide) rfl (fun ls hl => ?_)
    refine lv_iinc (v := (x4 + (1 : Int32))) (lv' := [(2, .int (x4 + (1 : Int32))), (1, .int z6), (0, .ref a_h)]) hx hb dX0_mostLifts_23 hl (k := 1) rfl rfl (by decide) rfl (fun ls hl => ?_)
    refine lv_goto (tgt := 4) hx hb dX0_mostLifts_26 (by decide) ?_
    exact ih4 z6 (x4 + (1 : Int32)) hf ls H locs (lv_sub hl [0, 1, 2] rfl) hw
