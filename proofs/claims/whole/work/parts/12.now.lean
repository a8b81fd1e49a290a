def f_X1_rest  (n_left : Nat → Int32) (h_people : Int32) (h_lifts : Nat → Int32) : Option ((Nat → Int32)) :=
  loop2 (fun B2 (x6 : Int32) (x7 : Nat → Int32) => (if (4 : Int32) ≤ x6 then some (x7) else bd1 (f_X0_hasPerson x6 h_people) (fun r8 => jn (fun (x11 : Int32) => gd (inb x6 4) (B2 (x6 + (1 : Int32)) (upd x7 x6.toNatClampNeg x11))) (fun J30 => (if r8 = 0 then J30 (0 : Int32) else gd (inb x6 4) (J30 (h_lifts x6.toNatClampNeg))))))) FU (0 : Int32) n_left
theorem hd_X1_rest : yX1_rest.cls = RX1 ∧ yX1_rest.cls ≠ "java/lang/invoke/MethodHandle" ∧ yX1_rest.cls ≠ "java/lang/invoke/VarHandle" ∧ (parseMethodDescriptor yX1_rest.desc).map (fun d => d.parameters.length) = some 1 := by decide +kernel
set_option maxHeartbeats 4000000 in
set_option maxRecDepth 100000 in
theorem c_X1_rest (l : Launch) (dC : Nat → ClassId) (dI : Nat → Nat → Nat) (cI cB cZ : ClassId) (aK aV : Nat → Nat) (a_n a_n_room a_n_bundle a_n_left a_h a_h_lifts a_h_prices a_h_starts a_h_hands a_h_wanted : Nat) (sz : Nat) (n_day : Int32) (n_kept : Int32) (n_left : Nat → Int32) (h_rooms : Int32) (h_people : Int32) (h_things : Int32) (h_lifts : Nat → Int32) (q0 : Nat → Int32) (hf : f_X1_rest n_left h_people h_lifts = some q0) : Met l yX1_rest wsX1_rest ({ frames := 1, cells := 0, slots := 0, locals := 21 } : Jvm.Room) (va_Pc [.ref a_n, .ref a_h] (preW (dC, dI) (tyL cI cB cZ) aK aV sz [(a_n, .inr (1, [.ref a_n_room, .ref a_n_bundle, .ref a_n_left, .int n_day, .int n_kept])), (a_n_left, .inl (cI, 4, .inl n_left)), (a_h, .inr (0, [.int h_rooms, .int h_people, .int h_things, .ref a_h_lifts, .ref a_h_prices, .ref a_h_starts, .ref a_h_hands, .ref a_h_wanted])), (a_h_lifts, .inl (cI, 4, .inl h_lifts))])) (va_Qv (fun (_ : Unit) => True) (postW (dC, dI) (tyL cI cB cZ) (va_A [(a_n, .inr (1, [.ref a_n_room, .ref a_n_bundle, .ref a_n_left, .int n_day, .int n_kept])), (a_n_left, .inl (cI, 4, .inl n_left)), (a_h, .inr (0, [.int h_rooms, .int h_people, .int h_things, .ref a_h_lifts, .ref a_h_prices, .ref a_h_starts, .ref a_h_hands, .ref a_h_wanted])), (a_h_lifts, .inl (cI, 4, .inl h_lifts))] sz) [(a_n, .inr (1, [.ref a_n_room, .ref a_n_bundle, .ref a_n_left, .int n_day, .int n_kept])), (a_n_left, .inl (cI, 4, .inl q0)), (a_h, .inr (0, [.int h_rooms, .int h_people, .int h_things, .ref a_h_lifts, .ref a_h_prices, .ref a_h_starts, .ref a_h_hands, .ref a_h_wanted])), (a_h_lifts, .inl (cI, 4, .inl h_lifts))]) (va_A [(a_n, .inr (1, [.ref a_n_room, .ref a_n_bundle, .ref a_n_left, .int n_day, .int n_kept])), (a_n_left, .inl (cI, 4, .inl n_left)), (a_h, .inr (0, [.int h_rooms, .int h_people, .int h_things, .ref a_h_lifts, .ref a_h_prices, .ref a_h_starts, .ref a_h_hands, .ref a_h_wanted])), (a_h_lifts, .inl (cI, 4, .inl h_lifts))] sz)) 0 0 (va_A [(a_n, .inr (1, [.ref a_n_room, .ref a_n_bundle, .ref a_n_left, .int n_day, .int n_kept])), (a_n_left, .inl (cI, 4, .inl n_left)), (a_h, .inr (0, [.int h_rooms, .int h_people, .int h_things, .ref a_h_lifts, .ref a_h_prices, .ref a_h_starts, .ref a_h_hands, .ref a_h_wanted])), (a_h_lifts, .inl (cI, 4, .inl h_lifts))] sz) := by
  refine met_v (cc := cX1_rest) (maxL := 3) (own := RX1) (by decide) rfl (Nat.le_of_ble_eq_true rfl) rfl (fun p e s m args below meth c Q A E hret ls H locs hl hw => ?_)
  obtain ⟨⟨hx, hb, hml, hown, hts⟩, hK, hN, hA, hX⟩ := id E
  have hl : lv_has ls 3 [(0, .ref a_n), (1, .ref a_h)] := hl
  have iX0 : ∀ w ∈ wsX00, w ∈ wsX1_rest := by decide +kernel
  have iX1 : ∀ w ∈ wsX10, w ∈ wsX1_rest := by decide +kernel
  have kf18 := hts (.fieldLink RX1 18 "FiveThings$Now" "left" "[I") (by decide +kernel)
  have kf45 := nw_F (own := "FiveThings$Now") (i := 45) (ref := "FiveThings$House") (n := "lifts") (d := "[I") (h := "FiveThings") (args := args) hN (by decide +kernel)
  unfold f_X1_rest at hf
  refine lv_iconst (v := (0 : Int32)) hx hb dX1_rest_0 rfl ?_
  refine lv_istore_n (lv' := [(2, .int (0 : Int32)), (0, .ref a_n), (1, .ref a_h)]) hx hb dX1_rest_1 rfl hl (by decide) rfl (fun ls hl => ?_)
  refine (loop2_sound (r := q0) (P := fun (x6 : Int32) (x7 : Nat → Int32) => ∀ (ls : Array Slot) (H : Heap) (locs : List Loc), lv_has ls 3 [(2, .int x6), (0, .ref a_n), (1, .ref a_h)] → Wd A s.heap (dC, dI) [(a_n, .inr (1, [.ref a_n_room, .ref a_n_bundle, .ref a_n_left, .int n_day, .int n_kept])), (a_n_left, .inl (cI, 4, .inl x7)), (a_h, .inr (0, [.int h_rooms, .int h_people, .int h_things, .ref a_h_lifts, .ref a_h_prices, .ref a_h_starts, .ref a_h_hands, .ref a_h_wanted])), (a_h_lifts, .inl (cI, 4, .inl h_lifts))] H locs → W p l e ({ frames := 1, cells := 0, slots := 0, locals := 21 } : Jvm.Room) s m args below meth c H locs 0 0 Q (F0 m 2 ls [])) (fun B2 x6 x7 ih2 hf => ?_) _ (0 : Int32) n_left hf) ls H locs (lv_sub hl [0, 1, 2] rfl) hw
  intro ls H locs hl hw
  refine lv_iload_n hx hb dX1_rest_2 rfl (lv_at hl 0 rfl) ?_
  refine lv_iconst (v := (4 : Int32)) hx hb dX1_rest_3 rfl ?_
  refine lv_icmp_ge (tgt := 37) hx hb dX1_rest_4 (by decide) (fun kc => ?_) (fun kc => ?_)
  · have hf := if_t hf kc
    obtain rfl := sm1 hf
    exact hret H locs ls 37 hw dX1_rest_37
  · have hf := if_f hf kc
    refine lv_aload_n hx hb dX1_rest_7 rfl (lv_at hl 1 rfl) ?_
    refine r_get E hw iX1 0 2 rfl rfl (by decide) kf18 rfl rfl dX1_rest_8 ?_
    refine lv_iload_n hx hb dX1_rest_11 rfl (lv_at hl 0 rfl) ?_
    refine lv_aload_n hx hb dX1_rest_12 rfl (lv_at hl 2 rfl) ?_
    refine lv_iload_n hx hb dX1_rest_13 rfl (lv_at hl 0 rfl) ?_
    obtain ⟨r8, hu9, hf⟩ := bd1_some hf
    refine cl_i (wr := [(a_n, .inr (1, [.ref a_n_room, .ref a_n_bundle, .ref a_n_left, .int n_day, .int n_kept])), (a_n_left, .inl (cI, 4, .inl x7)), (a_h_lifts, .inl (cI, 4, .inl h_lifts))]) (w2 := [(a_n, .inr (1, [.ref a_n_room, .ref a_n_bundle, .ref a_n_left, .int n_day, .int n_kept])), (a_n_left, .inl (cI, 4, .inl x7)), (a_h, .inr (0, [.int h_rooms, .int h_people, .int h_things, .ref a_h_lifts, .ref a_h_prices, .ref a_h_starts, .ref a_h_hands, .ref a_h_wanted])), (a_h_lifts, .inl (cI, 4, .inl h_lifts))]) E hw [2] [0, 1, 3] [0, 1, 3, 2] (va_runV (As := [.int x6]) (rest := [.int x6, .ref a_n_left]) E.1 (c_X0_hasPerson l dC dI cI cB cZ aK aV a_h a_h_lifts a_h_prices a_h_starts a_h_hands a_h_wanted H.size h_rooms h_people h_things x6 r8 hu9) (cwV 1 hts gX1_rest_X0_hasPerson rfl rfl rfl hd_X0_hasPerson ⟨Nat.le_of_ble_eq_true rfl, Nat.le_of_ble_eq_true rfl⟩) (pre_V E hw [2] rfl rfl rfl rfl) rfl rfl hl.1 rfl (lv_room (Nat.le_of_ble_eq_true rfl)) dX1_rest_14 ⟨Nat.zero_le _, Nat.zero_le _⟩) rfl rfl rfl (by decide) rfl rfl (fun H locs hw => ?_)
    refine jn_sound (P := fun J => ∀ (x11 : Int32) (ls : Array Slot) (H : Heap) (locs : List Loc), J x11 = some q0 → lv_has ls 3 [(0, .ref a_n), (1, .ref a_h), (2, .int x6)] → Wd A s.heap (dC, dI) [(a_n, .inr (1, [.ref a_n_room, .ref a_n_bundle, .ref a_n_left, .int n_day, .int n_kept])), (a_n_left, .inl (cI, 4, .inl x7)), (a_h, .inr (0, [.int h_rooms, .int h_people, .int h_things, .ref a_h_lifts, .ref a_h_prices, .ref a_h_starts, .ref a_h_hands, .ref a_h_wanted])), (a_h_lifts, .inl (cI, 4, .inl h_lifts))] H locs → W p l e ({ frames := 1, cells := 0, slots := 0, locals := 21 } : Jvm.Room) s m args below meth c H locs 0 0 Q (F0 m 30 ls [.int x11, .int x6, .ref a_n_left])) hf ?_ ?_
    · intro x11 ls H locs hf hl hw
      obtain ⟨g12, hf⟩ := gd_some hf
      refine r_iast E hw 1 rfl g12 [(a_n, .inr (1, [.ref a_n_room, .ref a_n_bundle, .ref a_n_left, .int n_day, .int n_kept])), (a_n_left, .inl (cI, 4, .inl (upd x7 x6.toNatClampNeg x11))), (a_h, .inr (0, [.int h_rooms, .int h_people, .int h_things, .ref a_h_lifts, .ref a_h_prices, .ref a_h_starts, .ref a_h_hands, .ref a_h_wanted])), (a_h_lifts, .inl (cI, 4, .inl h_lifts))] rfl dX1_rest_30 (fun H locs hw => ?_)
      refine lv_iinc (v := (x6 + (1 : Int32))) (lv' := [(2, .int (x6 + (1 : Int32))), (0, .ref a_n), (1, .ref a_h)]) hx hb dX1_rest_31 hl (k := 2) rfl rfl (by decide) rfl (fun ls hl => ?_)
      refine lv_goto (tgt := 2) hx hb dX1_rest_34 (by decide) ?_
      exact ih2 (x6 + (1 : Int32)) (upd x7 x6.toNatClampNeg x11) hf ls H locs (lv_sub hl [0, 1, 2] rfl) hw
    · intro J30 hJ30 hf
      refine lv_if_eq (tgt := 29) hx hb dX1_rest_17 (by decide) (fun kc => ?_) (fun kc => ?_)
      · have hf := if_t hf kc
        refine lv_iconst (v := (0 : Int32)) hx hb dX1_rest_29 rfl ?_
        exact hJ30 (0 : Int32) ls H locs hf (lv_sub hl [1, 2, 0] rfl) hw
      · have hf := if_f hf kc
        refine lv_aload_n hx hb dX1_rest_20 rfl (lv_at hl 2 rfl) ?_
        refine r_getN E hw iX0 2 3 rfl rfl (by decide) kf45 rfl rfl dX1_rest_21 ?_
        refine lv_iload_n hx hb dX1_rest_24 rfl (lv_at hl 0 rfl) ?_
        obtain ⟨g10, hf⟩ := gd_some hf
        refine r_iald E hw 3 rfl g10 dX1_rest_25 ?_
        refine lv_goto (tgt := 30) hx hb dX1_rest_26 (by decide) ?_
        exact hJ30 (h_lifts x6.toNatClampNeg) ls H locs hf (lv_sub hl [1, 2, 0] rfl) hw
def f_X1_begin  (n_room : Nat → Int32) (n_bundle : Nat → Int32) (n_left : Nat → Int32) (h_people : Int32) (h_things : Int32) (h_lifts : Nat → Int32) (h_starts : Nat → Int32) : Option (Int32 × (Nat → Int32) × (Nat → Int32) × (Nat → Int32)) :=
  loop3 (fun B2 (x9 : Int32) (x10 : Nat → Int32) (x11 : Nat → Int32) => (if (8 : Int32) ≤ x9 then bd1 (f_X1_rest n_left h_people h_lifts) (fun u12 => some ((0 : Int32), u12, x10, x11)) else bd1 (f_X0_hasThing x9 h_things) (fun r14 => jn (fun (x17 : Int32) => gd (inb x9 8) (gd (inb x9 8) (B2 (x9 + (1 : Int32)) (upd x10 x9.toNatClampNeg x17) (upd x11 x9.toNatClampNeg (-9 : Int32))))) (fun J32 => (if r14 = 0 then J32 (-9 : Int32) else gd (inb x9 8) (J32 (h_starts x9.toNatClampNeg))))))) FU (0 : Int32) n_room n_bundle
theorem hd_X1_begin : yX1_begin.cls = RX1 ∧ yX1_begin.cls ≠ "java/lang/invoke/MethodHandle" ∧ yX1_begin.cls ≠ "java/lang/invoke/VarHandle" ∧ (parseMethodDescriptor yX1_begin.desc).map (fun d => d.parameters.length) = some 1 := by decide +kernel
set_option maxHeartbeats 4000000 in
set_option maxRecDepth 100000 in
theorem c_X1_begin (l : Launch) (dC : Nat → ClassId) (dI : Nat → Nat → Nat) (cI cB cZ : ClassId) (aK aV : Nat → Nat) (a_n a_n_room a_n_bundle a_n_left a_h a_h_lifts a_h_prices a_h_starts a_h_hands a_h_wanted : Nat) (sz : Nat) (n_day : Int32) (n_kept : Int32) (n_room : Nat → Int32) (n_bundle : Nat → Int32) (n_left : Nat → Int32) (h_rooms : Int32) (h_people : Int32) (h_things : Int32) (h_lifts : Nat → Int32) (h_starts : Nat → Int32) (q0 : Int32) (q1 : Nat → Int32) (q2 : Nat → Int32) (q3 : Nat → Int32) (hf : f_X1_begin n_room n_bundle n_left h_people h_things h_lifts h_starts = some (q0, q1, q2, q3)) : Met l yX1_begin wsX1_begin ({ frames := 2, cells := 0, slots := 0, locals := 43 } : Jvm.Room) (va_Pc [.ref a_n, .ref a_h] (preW (dC, dI) (tyL cI cB cZ) aK aV sz [(a_n, .inr (1, [.ref a_n_room, .ref a_n_bundle, .ref a_n_left, .int n_day, .int n_kept])), (a_n_room, .inl (cI, 8, .inl n_room)), (a_n_bundle, .inl (cI, 8, .inl n_bundle)), (a_n_left, .inl (cI, 4, .inl n_left)), (a_h, .inr (0, [.int h_rooms, .int h_people, .int h_things, .ref a_h_lifts, .ref a_h_prices, .ref a_h_starts, .ref a_h_hands, .ref a_h_wanted])), (a_h_lifts, .inl (cI, 4, .inl h_lifts)), (a_h_starts, .inl (cI, 8, .inl h_starts))])) (va_Qv (fun (_ : Unit) => True) (postW (dC, dI) (tyL cI cB cZ) (va_A [(a_n, .inr (1, [.ref a_n_room, .ref a_n_bundle, .ref a_n_left, .int n_day, .int n_kept])), (a_n_room, .inl (cI, 8, .inl n_room)), (a_n_bundle, .inl (cI, 8, .inl n_bundle)), (a_n_left, .inl (cI, 4, .inl n_left)), (a_h, .inr (0, [.int h_rooms, .int h_people, .int h_things, .ref a_h_lifts, .ref a_h_prices, .ref a_h_starts, .ref a_h_hands, .ref a_h_wanted])), (a_h_lifts, .inl (cI, 4, .inl h_lifts)), (a_h_starts, .inl (cI, 8, .inl h_starts))] sz) [(a_n, .inr (1, [.ref a_n_room, .ref a_n_bundle, .ref a_n_left, .int q0, .int n_kept])), (a_n_room, .inl (cI, 8, .inl q2)), (a_n_bundle, .inl (cI, 8, .inl q3)), (a_n_left, .inl (cI, 4, .inl q1)), (a_h, .inr (0, [.int h_rooms, .int h_people, .int h_things, .ref a_h_lifts, .ref a_h_prices, .ref a_h_starts, .ref a_h_hands, .ref a_h_wanted])), (a_h_lifts, .inl (cI, 4, .inl h_lifts)), (a_h_starts, .inl (cI, 8, .inl h_starts))]) (va_A [(a_n, .inr (1, [.ref a_n_room, .ref a_n_bundle, .ref a_n_left, .int n_day, .int n_kept])), (a_n_room, .inl (cI, 8, .inl n_room)), (a_n_bundle, .inl (cI, 8, .inl n_bundle)), (a_n_left, .inl (cI, 4, .inl n_left)), (a_h, .inr (0, [.int h_rooms, .int h_people, .int h_things, .ref a_h_lifts, .ref a_h_prices, .ref a_h_starts, .ref a_h_hands, .ref a_h_wanted])), (a_h_lifts, .inl (cI, 4, .inl h_lifts)), (a_h_starts, .inl (cI, 8, .inl h_starts))] sz)) 0 0 (va_A [(a_n, .inr (1, [.ref a_n_room, .ref a_n_bundle, .ref a_n_left, .int n_day, .int n_kept])), (a_n_room, .inl (cI, 8, .inl n_room)), (a_n_bundle, .inl (cI, 8, .inl n_bundle)), (a_n_left, .inl (cI, 4, .inl n_left)), (a_h, .inr (0, [.int h_rooms, .int h_people, .int h_things, .ref a_h_lifts, .ref a_h_prices, .ref a_h_starts, .ref a_h_hands, .ref a_h_wanted])), (a_h_lifts, .inl (cI, 4, .inl h_lifts)), (a_h_starts, .inl (cI, 8, .inl h_starts))] sz) := by
  refine met_v (cc := cX1_begin) (maxL := 3) (own := RX1) (by decide) rfl (Nat.le_of_ble_eq_true rfl) rfl (fun p e s m args below meth c Q A E hret ls H locs hl hw => ?_)
  obtain ⟨⟨hx, hb, hml, hown, hts⟩, hK, hN, hA, hX⟩ := id E
  have hl : lv_has ls 3 [(0, .ref a_n), (1, .ref a_h)] := hl
  have iX0 : ∀ w ∈ wsX00, w ∈ wsX1_begin := by decide +kernel
  have iX1 : ∀ w ∈ wsX10, w ∈ wsX1_begin := by decide +kernel
  have kf21 := hts (.fieldLink RX1 21 "FiveThings$Now" "day" "I") (by decide +kernel)
  have kf9 := hts (.fieldLink RX1 9 "FiveThings$Now" "room" "[I") (by decide +kernel)
  have kf35 := nw_F (own := "FiveThings$Now") (i := 35) (ref := "FiveThings$House") (n := "starts") (d := "[I") (h := "FiveThings") (args := args) hN (by decide +kernel)
  have kf15 := hts (.fieldLink RX1 15 "FiveThings$Now" "bundle" "[I") (by decide +kernel)
  unfold f_X1_begin at hf
  refine lv_iconst (v := (0 : Int32)) hx hb dX1_begin_0 rfl ?_
  refine lv_istore_n (lv' := [(2, .int (0 : Int32)), (0, .ref a_n), (1, .ref a_h)]) hx hb dX1_begin_1 rfl hl (by decide) rfl (fun ls hl => ?_)
  refine (loop3_sound (r := (q0, q1, q2, q3)) (P := fun (x9 : Int32) (x10 : Nat → Int32) (x11 : Nat → Int32) => ∀ (ls : Array Slot) (H : Heap) (locs : List Loc), lv_has ls 3 [(2, .int x9), (0, .ref a_n), (1, .ref a_h)] → Wd A s.heap (dC, dI) [(a_n, .inr (1, [.ref a_n_room, .ref a_n_bundle, .ref a_n_left, .int n_day, .int n_kept])), (a_n_room, .inl (cI, 8, .inl x10)), (a_n_bundle, .inl (cI, 8, .inl x11)), (a_n_left, .inl (cI, 4, .inl n_left)), (a_h, .inr (0, [.int h_rooms, .int h_people, .int h_things, .ref a_h_lifts, .ref a_h_prices, .ref a_h_starts, .ref a_h_hands, .ref a_h_wanted])), (a_h_lifts, .inl (cI, 4, .inl h_lifts)), (a_h_starts, .inl (cI, 8, .inl h_starts))] H locs → W p l e ({ frames := 2, cells := 0, slots := 0, locals := 43 } : Jvm.Room) s m args below meth c H locs 0 0 Q (F0 m 2 ls [])) (fun B2 x9 x10 x11 ih2 hf => ?_) _ (0 : Int32) n_room n_bundle hf) ls H locs (lv_sub hl [0, 1, 2] rfl) hw
  intro ls H locs hl hw
  refine lv_iload_n hx hb dX1_begin_2 rfl (lv_at hl 0 rfl) ?_
  refine lv_bipush (v := (8 : Int32)) hx hb dX1_begin_3 rfl ?_
  refine lv_icmp_ge (tgt := 47) hx hb dX1_begin_5 (by decide) (fun kc => ?_) (fun kc => ?_)
  · have hf := if_t hf kc
    refine lv_aload_n hx hb dX1_begin_47 rfl (lv_at hl 1 rfl) ?_
    refine lv_aload_n hx hb dX1_begin_48 rfl (lv_at hl 2 rfl) ?_
    obtain ⟨u12, hu13, hf⟩ := bd1_some hf
    refine cl_v (wr := [(a_n_room, .inl (cI, 8, .inl x10)), (a_n_bundle, .inl (cI, 8, .inl x11)), (a_h_starts, .inl (cI, 8, .inl h_starts))]) (w2 := [(a_n, .inr (1, [.ref a_n_room, .ref a_n_bundle, .ref a_n_left, .int n_day, .int n_kept])), (a_n_room, .inl (cI, 8, .inl x10)), (a_n_bundle, .inl (cI, 8, .inl x11)), (a_n_left, .inl (cI, 4, .inl u12)), (a_h, .inr (0, [.int h_rooms, .int h_people, .int h_things, .ref a_h_lifts, .ref a_h_prices, .ref a_h_starts, .ref a_h_hands, .ref a_h_wanted])), (a_h_lifts, .inl (cI, 4, .inl h_lifts)), (a_h_starts, .inl (cI, 8, .inl h_starts))]) E hw [0, 3, 4, 5] [1, 2, 6] [3, 0, 1, 4, 5, 6, 2] (va_runV (As := [.ref a_h]) (rest := []) E.1 (c_X1_rest l dC dI cI cB cZ aK aV a_n a_n_room a_n_bundle a_n_left a_h a_h_lifts a_h_prices a_h_starts a_h_hands a_h_wanted H.size n_day n_kept n_left h_rooms h_people h_things h_lifts u12 hu13) (cwV 1 hts gX1_begin_X1_rest rfl rfl rfl hd_X1_rest ⟨Nat.le_of_ble_eq_true rfl, Nat.le_of_ble_eq_true rfl⟩) (pre_V E hw [0, 3, 4, 5] rfl rfl rfl rfl) rfl rfl hl.1 rfl (lv_room (Nat.le_of_ble_eq_true rfl)) dX1_begin_49 ⟨Nat.zero_le _, Nat.zero_le _⟩) rfl rfl rfl (by decide) rfl rfl (fun H locs hw => ?_)
    refine lv_aload_n hx hb dX1_begin_52 rfl (lv_at hl 1 rfl) ?_
    refine lv_iconst (v := (0 : Int32)) hx hb dX1_begin_53 rfl ?_
    refine r_put E hw iX1 tyX1_ok nmX1 0 3 rfl rfl (by decide) kf21 rfl rfl rfl rfl (Nat.le_of_ble_eq_true rfl) [(a_n, .inr (1, [.ref a_n_room, .ref a_n_bundle, .ref a_n_left, .int (0 : Int32), .int n_kept])), (a_n_room, .inl (cI, 8, .inl x10)), (a_n_bundle, .inl (cI, 8, .inl x11)), (a_n_left, .inl (cI, 4, .inl u12)), (a_h, .inr (0, [.int h_rooms, .int h_people, .int h_things, .ref a_h_lifts, .ref a_h_prices, .ref a_h_starts, .ref a_h_hands, .ref a_h_wanted])), (a_h_lifts, .inl (cI, 4, .inl h_lifts)), (a_h_starts, .inl (cI, 8, .inl h_starts))] rfl dX1_begin_54 (fun H locs hw => ?_)
    obtain ⟨rfl, rfl, rfl, rfl⟩ := sm4 hf
    exact hret H locs ls 57 hw dX1_begin_57
  · have hf := if_f hf kc
    refine lv_aload_n hx hb dX1_begin_8 rfl (lv_at hl 1 rfl) ?_
    refine r_get E hw iX1 0 0 rfl rfl (by decide) kf9 rfl rfl dX1_begin_9 ?_
    refine lv_iload_n hx hb dX1_begin_12 rfl (lv_at hl 0 rfl) ?_
    refine lv_aload_n hx hb dX1_begin_13 rfl (lv_at hl 2 rfl) ?_
    refine lv_iload_n hx hb dX1_begin_14 rfl (lv_at hl 0 rfl) ?_
    obtain ⟨r14, hu15, hf⟩ := bd1_some hf
    refine cl_i (wr := [(a_n, .inr (1, [.ref a_n_room, .ref a_n_bundle, .ref a_n_left, .int n_day, .int n_kept])), (a_n_room, .inl (cI, 8, .inl x10)), (a_n_bundle, .inl (cI, 8, .inl x11)), (a_n_left, .inl (cI, 4, .inl n_left)), (a_h_lifts, .inl (cI, 4, .inl h_lifts)), (a_h_starts, .inl (cI, 8, .inl h_starts))]) (w2 := [(a_n, .inr (1, [.ref a_n_room, .ref a_n_bundle, .ref a_n_left, .int n_day, .int n_kept])), (a_n_room, .inl (cI, 8, .inl x10)), (a_n_bundle, .inl (cI, 8, .inl x11)), (a_n_left, .inl (cI, 4, .inl n_left)), (a_h, .inr (0, [.int h_rooms, .int h_people, .int h_things, .ref a_h_lifts, .ref a_h_prices, .ref a_h_starts, .ref a_h_hands, .ref a_h_wanted])), (a_h_lifts, .inl (cI, 4, .inl h_lifts)), (a_h_starts, .inl (cI, 8, .inl h_starts))]) E hw [4] [0, 1, 2, 3, 5, 6] [0, 1, 2, 3, 6, 4, 5] (va_runV (As := [.int x9]) (rest := [.int x9, .ref a_n_room]) E.1 (c_X0_hasThing l dC dI cI cB cZ aK aV a_h a_h_lifts a_h_prices a_h_starts a_h_hands a_h_wanted H.size h_rooms h_people h_things x9 r14 hu15) (cwV 1 hts gX1_begin_X0_hasThing rfl rfl rfl hd_X0_hasThing ⟨Nat.le_of_ble_eq_true rfl, Nat.le_of_ble_eq_true rfl⟩) (pre_V E hw [4] rfl rfl rfl rfl) rfl rfl hl.1 rfl (lv_room (Nat.le_of_ble_eq_true rfl)) dX1_begin_15 ⟨Nat.zero_le _, Nat.zero_le _⟩) rfl rfl rfl (by decide) rfl rfl (fun H locs hw => ?_)
    refine jn_sound (P := fun J => ∀ (x17 : Int32) (ls : Array Slot) (H : Heap) (locs : List Loc), J x17 = some (q0, q1, q2, q3) → lv_has ls 3 [(0, .ref a_n), (1, .ref a_h), (2, .int x9)] → Wd A s.heap (dC, dI) [(a_n, .inr (1, [.ref a_n_room, .ref a_n_bundle, .ref a_n_left, .int n_day, .int n_kept])), (a_n_room, .inl (cI, 8, .inl x10)), (a_n_bundle, .inl (cI, 8, .inl x11)), (a_n_left, .inl (cI, 4, .inl n_left)), (a_h, .inr (0, [.int h_rooms, .int h_people, .int h_things, .ref a_h_lifts, .ref a_h_prices, .ref a_h_starts, .ref a_h_hands, .ref a_h_wanted])), (a_h_lifts, .inl (cI, 4, .inl h_lifts)), (a_h_starts, .inl (cI, 8, .inl h_starts))] H locs → W p l e ({ frames := 2, cells := 0, slots := 0, locals := 43 } : Jvm.Room) s m args below meth c H locs 0 0 Q (F0 m 32 ls [.int x17, .int x9, .ref a_n_room])) hf ?_ ?_
    · intro x17 ls H locs hf hl hw
      obtain ⟨g18, hf⟩ := gd_some hf
      refine r_iast E hw 1 rfl g18 [(a_n, .inr (1, [.ref a_n_room, .ref a_n_bundle, .ref a_n_left, .int n_day, .int n_kept])), (a_n_room, .inl (cI, 8, .inl (upd x10 x9.toNatClampNeg x17))), (a_n_bundle, .inl (cI, 8, .inl x11)), (a_n_left, .inl (cI, 4, .inl n_left)), (a_h, .inr (0, [.int h_rooms, .int h_people, .int h_things, .ref a_h_lifts, .ref a_h_prices, .ref a_h_starts, .ref a_h_hands, .ref a_h_wanted])), (a_h_lifts, .inl (cI, 4, .inl h_lifts)), (a_h_starts, .inl (cI, 8, .inl h_starts))] rfl dX1_begin_32 (fun H locs hw => ?_)
      refine lv_aload_n hx hb dX1_begin_33 rfl (lv_at hl 0 rfl) ?_
      refine r_get E hw iX1 0 1 rfl rfl (by decide) kf15 rfl rfl dX1_begin_34 ?_
      refine lv_iload_n hx hb dX1_begin_37 rfl (lv_at hl 2 rfl) ?_
      refine lv_bipush (v := (-9 : Int32)) hx hb dX1_begin_38 rfl ?_
      obtain ⟨g19, hf⟩ := gd_some hf
      refine r_iast E hw 2 rfl g19 [(a_n, .inr (1, [.ref a_n_room, .ref a_n_bundle, .ref a_n_left, .int n_day, .int n_kept])), (a_n_room, .inl (cI, 8, .inl (upd x10 x9.toNatClampNeg x17))), (a_n_bundle, .inl (cI, 8, .inl (upd x11 x9.toNatClampNeg (-9 : Int32)))), (a_n_left, .inl (cI, 4, .inl n_left)), (a_h, .inr (0, [.int h_rooms, .int h_people, .int h_things, .ref a_h_lifts, .ref a_h_prices, .ref a_h_starts, .ref a_h_hands, .ref a_h_wanted])), (a_h_lifts, .inl (cI, 4, .inl h_lifts)), (a_h_starts, .inl (cI, 8, .inl h_starts))] rfl dX1_begin_40 (fun H locs hw => ?_)
      refine lv_iinc (v := (x9 + (1 : Int32))) (lv' := [(2, .int (x9 + (1 : Int32))), (0, .ref a_n), (1, .ref a_h)]) hx hb dX1_begin_41 hl (k := 2) rfl rfl (by decide) rfl (fun ls hl => ?_)
      refine lv_goto (tgt := 2) hx hb dX1_begin_44 (by decide) ?_
      exact ih2 (x9 + (1 : Int32)) (upd x10 x9.toNatClampNeg x17) (upd x11 x9.toNatClampNeg (-9 : Int32)) hf ls H locs (lv_sub hl [0, 1, 2] rfl) hw
    · intro J32 hJ32 hf
      refine lv_if_eq (tgt := 30) hx hb dX1_begin_18 (by decide) (fun kc => ?_) (fun kc => ?_)
      · have hf := if_t hf kc
        refine lv_bipush (v := (-9 : Int32)) hx hb dX1_begin_30 rfl ?_
        exact hJ32 (-9 : Int32) ls H locs hf (lv_sub hl [1, 2, 0] rfl) hw
      · have hf := if_f hf kc
        refine lv_aload_n hx hb dX1_begin_21 rfl (lv_at hl 2 rfl) ?_
        refine r_getN E hw iX0 4 5 rfl rfl (by decide) kf35 rfl rfl dX1_begin_22 ?_
        refine lv_iload_n hx hb dX1_begin_25 rfl (lv_at hl 0 rfl) ?_
        obtain ⟨g16, hf⟩ := gd_some hf
        refine r_iald E hw 6 rfl g16 dX1_begin_26 ?_
        refine lv_goto (tgt := 32) hx hb dX1_begin_27 (by decide) ?_
        exact hJ32 (h_starts x9.toNatClampNeg) ls H locs hf (lv_sub hl [1, 2, 0] rfl) hw
def f_X1_become  (n_room : Nat → Int32) (n_bundle : Nat → Int32) (n_left : Nat → Int32) (o_day : Int32) (o_room : Nat → Int32) (o_bundle : Nat → Int32) (o_left : Nat → Int32) : Option (Int32 × (Nat → Int32) × (Nat → Int32) × (Nat → Int32)) :=
  some (o_day, (va_cpy o_room n_room (0 : Int32).toNatClampNeg (0 : Int32).toNatClampNeg (8 : Int32).toNatClampNeg), (va_cpy o_bundle n_bundle (0 : Int32).toNatClampNeg (0 : Int32).toNatClampNeg (8 : Int32).toNatClampNeg), (va_cpy o_left n_left (0 : Int32).toNatClampNeg (0 : Int32).toNatClampNeg (4 : Int32).toNatClampNeg))
theorem hd_X1_become : yX1_become.cls = RX1 ∧ yX1_become.cls ≠ "java/lang/invoke/MethodHandle" ∧ yX1_become.cls ≠ "java/lang/invoke/VarHandle" ∧ (parseMethodDescriptor yX1_become.desc).map (fun d => d.parameters.length) = some 1 := by decide +kernel
set_option maxHeartbeats 4000000 in
set_option maxRecDepth 100000 in
theorem c_X1_become (l : Launch) (dC : Nat → ClassId) (dI : Nat → Nat → Nat) (cI cB cZ : ClassId) (aK aV : Nat → Nat) (a_n a_n_room a_n_bundle a_n_left a_o a_o_room a_o_bundle a_o_left : Nat) (sz : Nat) (n_day : Int32) (n_kept : Int32) (n_room : Nat → Int32) (n_bundle : Nat → Int32) (n_left : Nat → Int32) (o_day : Int32) (o_kept : Int32) (o_room : Nat → Int32) (o_bundle : Nat → Int32) (o_left : Nat → Int32) (q0 : Int32) (q1 : Nat → Int32) (q2 : Nat → Int32) (q3 : Nat → Int32) (hf : f_X1_become n_room n_bundle n_left o_day o_room o_bundle o_left = some (q0, q1, q2, q3)) : Met l yX1_become wsX1_become ({ frames := 1, cells := 0, slots := 0, locals := 40 } : Jvm.Room) (va_Pc [.ref a_n, .ref a_o] (preW (dC, dI) (tyL cI cB cZ) aK aV sz [(a_n, .inr (1, [.ref a_n_room, .ref a_n_bundle, .ref a_n_left, .int n_day, .int n_kept])), (a_n_room, .inl (cI, 8, .inl n_room)), (a_n_bundle, .inl (cI, 8, .inl n_bundle)), (a_n_left, .inl (cI, 4, .inl n_left)), (a_o, .inr (1, [.ref a_o_room, .ref a_o_bundle, .ref a_o_left, .int o_day, .int o_kept])), (a_o_room, .inl (cI, 8, .inl o_room)), (a_o_bundle, .inl (cI, 8, .inl o_bundle)), (a_o_left, .inl (cI, 4, .inl o_left))])) (va_Qv (fun (_ : Unit) => True) (postW (dC, dI) (tyL cI cB cZ) (va_A [(a_n, .inr (1, [.ref a_n_room, .ref a_n_bundle, .ref a_n_left, .int n_day, .int n_kept])), (a_n_room, .inl (cI, 8, .inl n_room)), (a_n_bundle, .inl (cI, 8, .inl n_bundle)), (a_n_left, .inl (cI, 4, .inl n_left)), (a_o, .inr (1, [.ref a_o_room, .ref a_o_bundle, .ref a_o_left, .int o_day, .int o_kept])), (a_o_room, .inl (cI, 8, .inl o_room)), (a_o_bundle, .inl (cI, 8, .inl o_bundle)), (a_o_left, .inl (cI, 4, .inl o_left))] sz) [(a_n, .inr (1, [.ref a_n_room, .ref a_n_bundle, .ref a_n_left, .int q0, .int n_kept])), (a_n_room, .inl (cI, 8, .inl q1)), (a_n_bundle, .inl (cI, 8, .inl q2)), (a_n_left, .inl (cI, 4, .inl q3)), (a_o, .inr (1, [.ref a_o_room, .ref a_o_bundle, .ref a_o_left, .int o_day, .int o_kept])), (a_o_room, .inl (cI, 8, .inl o_room)), (a_o_bundle, .inl (cI, 8, .inl o_bundle)), (a_o_left, .inl (cI, 4, .inl o_left))]) (va_A [(a_n, .inr (1, [.ref a_n_room, .ref a_n_bundle, .ref a_n_left, .int n_day, .int n_kept])), (a_n_room, .inl (cI, 8, .inl n_room)), (a_n_bundle, .inl (cI, 8, .inl n_bundle)), (a_n_left, .inl (cI, 4, .inl n_left)), (a_o, .inr (1, [.ref a_o_room, .ref a_o_bundle, .ref a_o_left, .int o_day, .int o_kept])), (a_o_room, .inl (cI, 8, .inl o_room)), (a_o_bundle, .inl (cI, 8, .inl o_bundle)), (a_o_left, .inl (cI, 4, .inl o_left))] sz)) 0 0 (va_A [(a_n, .inr (1, [.ref a_n_room, .ref a_n_bundle, .ref a_n_left, .int n_day, .int n_kept])), (a_n_room, .inl (cI, 8, .inl n_room)), (a_n_bundle, .inl (cI, 8, .inl n_bundle)), (a_n_left, .inl (cI, 4, .inl n_left)), (a_o, .inr (1, [.ref a_o_room, .ref a_o_bundle, .ref a_o_left, .int o_day, .int o_kept])), (a_o_room, .inl (cI, 8, .inl o_room)), (a_o_bundle, .inl (cI, 8, .inl o_bundle)), (a_o_left, .inl (cI, 4, .inl o_left))] sz) := by
  refine met_v (cc := cX1_become) (maxL := 2) (own := RX1) (by decide) rfl (Nat.le_of_ble_eq_true rfl) rfl (fun p e s m args below meth c Q A E hret ls H locs hl hw => ?_)
  obtain ⟨⟨hx, hb, hml, hown, hts⟩, hK, hN, hA, hX⟩ := id E
  have hl : lv_has ls 2 [(0, .ref a_n), (1, .ref a_o)] := hl
  have iX1 : ∀ w ∈ wsX10, w ∈ wsX1_become := by decide +kernel
  have kf9 := hts (.fieldLink RX1 9 "FiveThings$Now" "room" "[I") (by decide +kernel)
  have km48 := hts (.methodLink RX1 48 arraycopyName) (by decide +kernel)
  have kn48 := hts (.native arraycopyName) (by decide +kernel)
  have ko48 := hts (.static arraycopyName) (by decide +kernel)
  have kp48 := hts (.initialized "java/lang/System") (by decide +kernel)
  have kf15 := hts (.fieldLink RX1 15 "FiveThings$Now" "bundle" "[I") (by decide +kernel)
  have kf18 := hts (.fieldLink RX1 18 "FiveThings$Now" "left" "[I") (by decide +kernel)
  have kf21 := hts (.fieldLink RX1 21 "FiveThings$Now" "day" "I") (by decide +kernel)
  unfold f_X1_become at hf
  refine lv_aload_n hx hb dX1_become_0 rfl (lv_at hl 1 rfl) ?_
  refine r_get E hw iX1 4 0 rfl rfl (by decide) kf9 rfl rfl dX1_become_1 ?_
  refine lv_iconst (v := (0 : Int32)) hx hb dX1_become_4 rfl ?_
  refine lv_aload_n hx hb dX1_become_5 rfl (lv_at hl 0 rfl) ?_
  refine r_get E hw iX1 0 0 rfl rfl (by decide) kf9 rfl rfl dX1_become_6 ?_
  refine lv_iconst (v := (0 : Int32)) hx hb dX1_become_9 rfl ?_
  refine lv_bipush (v := (8 : Int32)) hx hb dX1_become_10 rfl ?_
  refine r_copy E hw hl.1 km48 kn48 ko48 kp48 5 1 rfl rfl (by decide) (by decide) (by decide) (by decide) (by decide) (Nat.le_of_ble_eq_true rfl) (Nat.le_of_ble_eq_true rfl) [(a_n, .inr (1, [.ref a_n_room, .ref a_n_bundle, .ref a_n_left, .int n_day, .int n_kept])), (a_n_room, .inl (cI, 8, .inl (va_cpy o_room n_room (0 : Int32).toNatClampNeg (0 : Int32).toNatClampNeg (8 : Int32).toNatClampNeg))), (a_n_bundle, .inl (cI, 8, .inl n_bundle)), (a_n_left, .inl (cI, 4, .inl n_left)), (a_o, .inr (1, [.ref a_o_room, .ref a_o_bundle, .ref a_o_left, .int o_day, .int o_kept])), (a_o_room, .inl (cI, 8, .inl o_room)), (a_o_bundle, .inl (cI, 8, .inl o_bundle)), (a_o_left, .inl (cI, 4, .inl o_left))] rfl dX1_become_12 (fun H locs hw => ?_)
  refine lv_aload_n hx hb dX1_become_15 rfl (lv_at hl 1 rfl) ?_
  refine r_get E hw iX1 4 1 rfl rfl (by decide) kf15 rfl rfl dX1_become_16 ?_
  refine lv_iconst (v := (0 : Int32)) hx hb dX1_become_19 rfl ?_
  refine lv_aload_n hx hb dX1_become_20 rfl (lv_at hl 0 rfl) ?_
  refine r_get E hw iX1 0 1 rfl rfl (by decide) kf15 rfl rfl dX1_become_21 ?_
  refine lv_iconst (v := (0 : Int32)) hx hb dX1_become_24 rfl ?_
  refine lv_bipush (v := (8 : Int32)) hx hb dX1_become_25 rfl ?_
  refine r_copy E hw hl.1 km48 kn48 ko48 kp48 6 2 rfl rfl (by decide) (by decide) (by decide) (by decide) (by decide) (Nat.le_of_ble_eq_true rfl) (Nat.le_of_ble_eq_true rfl) [(a_n, .inr (1, [.ref a_n_room, .ref a_n_bundle, .ref a_n_left, .int n_day, .int n_kept])), (a_n_room, .inl (cI, 8, .inl (va_cpy o_room n_room (0 : Int32).toNatClampNeg (0 : Int32).toNatClampNeg (8 : Int32).toNatClampNeg))), (a_n_bundle, .inl (cI, 8, .inl (va_cpy o_bundle n_bundle (0 : Int32).toNatClampNeg (0 : Int32).toNatClampNeg (8 : Int32).toNatClampNeg))), (a_n_left, .inl (cI, 4, .inl n_left)), (a_o, .inr (1, [.ref a_o_room, .ref a_o_bundle, .ref a_o_left, .int o_day, .int o_kept])), (a_o_room, .inl (cI, 8, .inl o_room)), (a_o_bundle, .inl (cI, 8, .inl o_bundle)), (a_o_left, .inl (cI, 4, .inl o_left))] rfl dX1_become_27 (fun H locs hw => ?_)
  refine lv_aload_n hx hb dX1_become_30 rfl (lv_at hl 1 rfl) ?_
  refine r_get E hw iX1 4 2 rfl rfl (by decide) kf18 rfl rfl dX1_become_31 ?_
  refine lv_iconst (v := (0 : Int32)) hx hb dX1_become_34 rfl ?_
  refine lv_aload_n hx hb dX1_become_35 rfl (lv_at hl 0 rfl) ?_
  refine r_get E hw iX1 0 2 rfl rfl (by decide) kf18 rfl rfl dX1_become_36 ?_
  refine lv_iconst (v := (0 : Int32)) hx hb dX1_become_39 rfl ?_
  refine lv_iconst (v := (4 : Int32)) hx hb dX1_become_40 rfl ?_
  refine r_copy E hw hl.1 km48 kn48 ko48 kp48 7 3 rfl rfl (by decide) (by decide) (by decide) (by decide) (by decide) (Nat.le_of_ble_eq_true rfl) (Nat.le_of_ble_eq_true rfl) [(a_n, .inr (1, [.ref a_n_room, .ref a_n_bundle, .ref a_n_left, .int n_day, .int n_kept])), (a_n_room, .inl (cI, 8, .inl (va_cpy o_room n_room (0 : Int32).toNatClampNeg (0 : Int32).toNatClampNeg (8 : Int32).toNatClampNeg))), (a_n_bundle, .inl (cI, 8, .inl (va_cpy o_bundle n_bundle (0 : Int32).toNatClampNeg (0 : Int32).toNatClampNeg (8 : Int32).toNatClampNeg))), (a_n_left, .inl (cI, 4, .inl (va_cpy o_left n_left (0 : Int32).toNatClampNeg (0 : Int32).toNatClampNeg (4 : Int32).toNatClampNeg))), (a_o, .inr (1, [.ref a_o_room, .ref a_o_bundle, .ref a_o_left, .int o_day, .int o_kept])), (a_o_room, .inl (cI, 8, .inl o_room)), (a_o_bundle, .inl (cI, 8, .inl o_bundle)), (a_o_left, .inl (cI, 4, .inl o_left))] rfl dX1_become_41 (fun H locs hw => ?_)
  refine lv_aload_n hx hb dX1_become_44 rfl (lv_at hl 0 rfl) ?_
  refine lv_aload_n hx hb dX1_become_45 rfl (lv_at hl 1 rfl) ?_
  refine r_get E hw iX1 4 3 rfl rfl (by decide) kf21 rfl rfl dX1_become_46 ?_
  refine r_put E hw iX1 tyX1_ok nmX1 0 3 rfl rfl (by decide) kf21 rfl rfl rfl rfl (Nat.le_of_ble_eq_true rfl) [(a_n, .inr (1, [.ref a_n_room, .ref a_n_bundle, .ref a_n_left, .int o_day, .int n_kept])), (a_n_room, .inl (cI, 8, .inl (va_cpy o_room n_room (0 : Int32).toNatClampNeg (0 : Int32).toNatClampNeg (8 : Int32).toNatClampNeg))), (a_n_bundle, .inl (cI, 8, .inl (va_cpy o_bundle n_bundle (0 : Int32).toNatClampNeg (0 : Int32).toNatClampNeg (8 : Int32).toNatClampNeg))), (a_n_left, .inl (cI, 4, .inl (va_cpy o_left n_left (0 : Int32).toNatClampNeg (0 : Int32).toNatClampNeg (4 : Int32).toNatClampNeg))), (a_o, .inr (1, [.ref a_o_room, .ref a_o_bundle, .ref a_o_left, .int o_day, .int o_kept])), (a_o_room, .inl (cI, 8, .inl o_room)), (a_o_bundle, .inl (cI, 8, .inl o_bundle)), (a_o_left, .inl (cI, 4, .inl o_left))] rfl dX1_become_49 (fun H locs hw => ?_)
  obtain ⟨rfl, rfl, rfl, rfl⟩ := sm4 hf
  exact hret H locs ls 52 hw dX1_become_52
def f_X1_jobOf (p1 : Int32) (n_bundle : Nat → Int32) : Option (Int32) :=
  loop2 (fun B6 (x5 : Int32) (x6 : Int32) => (if (8 : Int32) ≤ x6 then some (x5) else gd (inb p1 8) ((if (n_bundle p1.toNatClampNeg) = (-9 : Int32) then B6 x5 (x6 + (1 : Int32)) else gd (inb x6 8) (gd (inb p1 8) ((if (n_bundle x6.toNatClampNeg) = (n_bundle p1.toNatClampNeg) then B6 (x5 ||| ((1 : Int32) <<< (x6 &&& 31))) (x6 + (1 : Int32)) else B6 x5 (x6 + (1 : Int32))))))))) FU ((1 : Int32) <<< (p1 &&& 31)) (0 : Int32)
theorem hd_X1_jobOf : yX1_jobOf.cls = RX1 ∧ yX1_jobOf.cls ≠ "java/lang/invoke/MethodHandle" ∧ yX1_jobOf.cls ≠ "java/lang/invoke/VarHandle" ∧ (parseMethodDescriptor yX1_jobOf.desc).map (fun d => d.parameters.length) = some 1 := by decide +kernel
set_option maxHeartbeats 4000000 in
set_option maxRecDepth 100000 in
theorem c_X1_jobOf (l : Launch) (dC : Nat → ClassId) (dI : Nat → Nat → Nat) (cI cB cZ : ClassId) (aK aV : Nat → Nat) (a_n a_n_room a_n_bundle a_n_left : Nat) (sz : Nat) (n_day : Int32) (n_kept : Int32) (n_bundle : Nat → Int32) (p1 : Int32) (r : Int32) (hf : f_X1_jobOf p1 n_bundle = some r) : Met l yX1_jobOf wsX1_jobOf ({ frames := 0, cells := 0, slots := 0, locals := 0 } : Jvm.Room) (va_Pc [.ref a_n, .int p1] (preW (dC, dI) (tyL cI cB cZ) aK aV sz [(a_n, .inr (1, [.ref a_n_room, .ref a_n_bundle, .ref a_n_left, .int n_day, .int n_kept])), (a_n_bundle, .inl (cI, 8, .inl n_bundle))])) (va_Qi (fun v (_ : Unit) => v = r) (postW (dC, dI) (tyL cI cB cZ) (va_A [(a_n, .inr (1, [.ref a_n_room, .ref a_n_bundle, .ref a_n_left, .int n_day, .int n_kept])), (a_n_bundle, .inl (cI, 8, .inl n_bundle))] sz) [(a_n, .inr (1, [.ref a_n_room, .ref a_n_bundle, .ref a_n_left, .int n_day, .int n_kept])), (a_n_bundle, .inl (cI, 8, .inl n_bundle))]) (va_A [(a_n, .inr (1, [.ref a_n_room, .ref a_n_bundle, .ref a_n_left, .int n_day, .int n_kept])), (a_n_bundle, .inl (cI, 8, .inl n_bundle))] sz)) 0 0 (va_A [(a_n, .inr (1, [.ref a_n_room, .ref a_n_bundle, .ref a_n_left, .int n_day, .int n_kept])), (a_n_bundle, .inl (cI, 8, .inl n_bundle))] sz) := by
  refine met_i (cc := cX1_jobOf) (maxL := 4) (own := RX1) (by decide) rfl (Nat.le_of_ble_eq_true rfl) rfl (fun p e s m args below meth c Q A E hret ls H locs hl hw => ?_)
  obtain ⟨⟨hx, hb, hml, hown, hts⟩, hK, hN, hA, hX⟩ := id E
  have hl : lv_has ls 4 [(0, .ref a_n), (1, .int p1)] := hl
  have iX1 : ∀ w ∈ wsX10, w ∈ wsX1_jobOf := by decide +kernel
  have kf15 := hts (.fieldLink RX1 15 "FiveThings$Now" "bundle" "[I") (by decide +kernel)
  unfold f_X1_jobOf at hf
  refine lv_iconst (v := (1 : Int32)) hx hb dX1_jobOf_0 rfl ?_
  refine lv_iload_n hx hb dX1_jobOf_1 rfl (lv_at hl 1 rfl) ?_
  refine lv_ishl hx hb dX1_jobOf_2 ?_
  refine lv_istore_n (lv' := [(2, .int ((1 : Int32) <<< (p1 &&& 31))), (0, .ref a_n), (1, .int p1)]) hx hb dX1_jobOf_3 rfl hl (by decide) rfl (fun ls hl => ?_)
  refine lv_iconst (v := (0 : Int32)) hx hb dX1_jobOf_4 rfl ?_
  refine lv_istore_n (lv' := [(3, .int (0 : Int32)), (2, .int ((1 : Int32) <<< (p1 &&& 31))), (0, .ref a_n), (1, .int p1)]) hx hb dX1_jobOf_5 rfl hl (by decide) rfl (fun ls hl => ?_)
  refine (loop2_sound (r := r) (P := fun (x5 : Int32) (x6 : Int32) => ∀ (ls : Array Slot) (H : Heap) (locs : List Loc), lv_has ls 4 [(3, .int x6), (2, .int x5), (0, .ref a_n), (1, .int p1)] → Wd A s.heap (dC, dI) [(a_n, .inr (1, [.ref a_n_room, .ref a_n_bundle, .ref a_n_left, .int n_day, .int n_kept])), (a_n_bundle, .inl (cI, 8, .inl n_bundle))] H locs → W p l e ({ frames := 0, cells := 0, slots := 0, locals := 0 } : Jvm.Room) s m args below meth c H locs 0 0 Q (F0 m 6 ls [])) (fun B6 x5 x6 ih6 hf => ?_) _ ((1 : Int32) <<< (p1 &&& 31)) (0 : Int32) hf) ls H locs (lv_sub hl [0, 1, 2, 3] rfl) hw
  intro ls H locs hl hw
  refine lv_iload_n hx hb dX1_jobOf_6 rfl (lv_at hl 0 rfl) ?_
  refine lv_bipush (v := (8 : Int32)) hx hb dX1_jobOf_7 rfl ?_
  refine lv_icmp_ge (tgt := 50) hx hb dX1_jobOf_9 (by decide) (fun kc => ?_) (fun kc => ?_)
  · have hf := if_t hf kc
    refine lv_iload_n hx hb dX1_jobOf_50 rfl (lv_at hl 1 rfl) ?_
    obtain rfl := sm1 hf
    exact hret H locs ls 51 hw dX1_jobOf_51
  · have hf := if_f hf kc
    refine lv_aload_n hx hb dX1_jobOf_12 rfl (lv_at hl 2 rfl) ?_
    refine r_get E hw iX1 0 1 rfl rfl (by decide) kf15 rfl rfl dX1_jobOf_13 ?_
    refine lv_iload_n hx hb dX1_jobOf_16 rfl (lv_at hl 3 rfl) ?_
    obtain ⟨g7, hf⟩ := gd_some hf
    refine r_iald E hw 1 rfl g7 dX1_jobOf_17 ?_
    refine lv_bipush (v := (-9 : Int32)) hx hb dX1_jobOf_18 rfl ?_
    refine lv_icmp_eq (tgt := 44) hx hb dX1_jobOf_20 (by decide) (fun kc => ?_) (fun kc => ?_)
    · have hf := if_t hf kc
      refine lv_iinc (v := (x6 + (1 : Int32))) (lv' := [(3, .int (x6 + (1 : Int32))), (2, .int x5), (0, .ref a_n), (1, .int p1)]) hx hb dX1_jobOf_44 hl (k := 0) rfl rfl (by decide) rfl (fun ls hl => ?_)
      refine lv_goto (tgt := 6) hx hb dX1_jobOf_47 (by decide) ?_
      exact ih6 x5 (x6 + (1 : Int32)) hf ls H locs (lv_sub hl [0, 1, 2, 3] rfl) hw
    · have hf := if_f hf kc
      refine lv_aload_n hx hb dX1_jobOf_23 rfl (lv_at hl 2 rfl) ?_
      refine r_get E hw iX1 0 1 rfl rfl (by decide) kf15 rfl rfl dX1_jobOf_24 ?_
      refine lv_iload_n hx hb dX1_jobOf_27 rfl (lv_at hl 0 rfl) ?_
      obtain ⟨g8, hf⟩ := gd_some hf
      refine r_iald E hw 1 rfl g8 dX1_jobOf_28 ?_
      refine lv_aload_n hx hb dX1_jobOf_29 rfl (lv_at hl 2 rfl) ?_
      refine r_get E hw iX1 0 1 rfl rfl (by decide) kf15 rfl rfl dX1_jobOf_30 ?_
      refine lv_iload_n hx hb dX1_jobOf_33 rfl (lv_at hl 3 rfl) ?_
      obtain ⟨g9, hf⟩ := gd_some hf
      refine r_iald E hw 1 rfl g9 dX1_jobOf_34 ?_
      refine lv_icmp_ne (tgt := 44) hx hb dX1_jobOf_35 (by decide) (fun kc => ?_) (fun kc => ?_)
      · have hf := if_f hf kc
        refine lv_iinc (v := (x6 + (1 : Int32))) (lv' := [(3, .int (x6 + (1 : Int32))), (2, .int x5), (0, .ref a_n), (1, .int p1)]) hx hb dX1_jobOf_44 hl (k := 0) rfl rfl (by decide) rfl (fun ls hl => ?_)
        refine lv_goto (tgt := 6) hx hb dX1_jobOf_47 (by decide) ?_
        exact ih6 x5 (x6 + (1 : Int32)) hf ls H locs (lv_sub hl [0, 1, 2, 3] rfl) hw
      · have hf := if_t hf kc
        refine lv_iload_n hx hb dX1_jobOf_38 rfl (lv_at hl 1 rfl) ?_
        refine lv_iconst (v := (1 : Int32)) hx hb dX1_jobOf_39 rfl ?_
        refine lv_iload_n hx hb dX1_jobOf_40 rfl (lv_at hl 0 rfl) ?_
        refine lv_ishl hx hb dX1_jobOf_41 ?_
        refine lv_ior hx hb dX1_jobOf_42 ?_
        refine lv_istore_n (lv' := [(2, .int (x5 ||| ((1 : Int32) <<< (x6 &&& 31)))), (3, .int x6), (0, .ref a_n), (1, .int p1)]) hx hb dX1_jobOf_43 rfl hl (by decide) rfl (fun ls hl => ?_)
        refine lv_iinc (v := (x6 + (1 : Int32))) (lv' := [(3, .int (x6 + (1 : Int32))), (2, .int (x5 ||| ((1 : Int32) <<< (x6 &&& 31)))), (0, .ref a_n), (1, .int p1)]) hx hb dX1_jobOf_44 hl (k := 1) rfl rfl (by decide) rfl (fun ls hl => ?_)
        refine lv_goto (tgt := 6) hx hb dX1_jobOf_47 (by decide) ?_
        exact ih6 (x5 ||| ((1 : Int32) <<< (x6 &&& 31))) (x6 + (1 : Int32)) hf ls H locs (lv_sub hl [0, 1, 2, 3] rfl) hw
def f_X1_leadsJob (p1 : Int32) (n_bundle : Nat → Int32) : Option (Int32) :=
  gd (inb p1 8) (jn (some ((1 : Int32))) (fun J21 => (if (n_bundle p1.toNatClampNeg) = (-9 : Int32) then J21 else gd (inb p1 8) ((if (n_bundle p1.toNatClampNeg) = p1 then J21 else some ((0 : Int32)))))))
theorem hd_X1_leadsJob : yX1_leadsJob.cls = RX1 ∧ yX1_leadsJob.cls ≠ "java/lang/invoke/MethodHandle" ∧ yX1_leadsJob.cls ≠ "java/lang/invoke/VarHandle" ∧ (parseMethodDescriptor yX1_leadsJob.desc).map (fun d => d.parameters.length) = some 1 := by decide +kernel
set_option maxHeartbeats 4000000 in
set_option maxRecDepth 100000 in
theorem c_X1_leadsJob (l : Launch) (dC : Nat → ClassId) (dI : Nat → Nat → Nat) (cI cB cZ : ClassId) (aK aV : Nat → Nat) (a_n a_n_room a_n_bundle a_n_left : Nat) (sz : Nat) (n_day : Int32) (n_kept : Int32) (n_bundle : Nat → Int32) (p1 : Int32) (r : Int32) (hf : f_X1_leadsJob p1 n_bundle = some r) : Met l yX1_leadsJob wsX1_leadsJob ({ frames := 0, cells := 0, slots := 0, locals := 0 } : Jvm.Room) (va_Pc [.ref a_n, .int p1] (preW (dC, dI) (tyL cI cB cZ) aK aV sz [(a_n, .inr (1, [.ref a_n_room, .ref a_n_bundle, .ref a_n_left, .int n_day, .int n_kept])), (a_n_bundle, .inl (cI, 8, .inl n_bundle))])) (va_Qi (fun v (_ : Unit) => v = r) (postW (dC, dI) (tyL cI cB cZ) (va_A [(a_n, .inr (1, [.ref a_n_room, .ref a_n_bundle, .ref a_n_left, .int n_day, .int n_kept])), (a_n_bundle, .inl (cI, 8, .inl n_bundle))] sz) [(a_n, .inr (1, [.ref a_n_room, .ref a_n_bundle, .ref a_n_left, .int n_day, .int n_kept])), (a_n_bundle, .inl (cI, 8, .inl n_bundle))]) (va_A [(a_n, .inr (1, [.ref a_n_room, .ref a_n_bundle, .ref a_n_left, .int n_day, .int n_kept])), (a_n_bundle, .inl (cI, 8, .inl n_bundle))] sz)) 0 0 (va_A [(a_n, .inr (1, [.ref a_n_room, .ref a_n_bundle, .ref a_n_left, .int n_day, .int n_kept])), (a_n_bundle, .inl (cI, 8, .inl n_bundle))] sz) := by
  refine met_z (cc := cX1_leadsJob) (maxL := 2) (own := RX1) (by decide) rfl (Nat.le_of_ble_eq_true rfl) rfl (fun p e s m args below meth c Q A E hret ls H locs hl hw => ?_)
  obtain ⟨⟨hx, hb, hml, hown, hts⟩, hK, hN, hA, hX⟩ := id E
  have hl : lv_has ls 2 [(0, .ref a_n), (1, .int p1)] := hl
  have iX1 : ∀ w ∈ wsX10, w ∈ wsX1_leadsJob := by decide +kernel
  have kf15 := hts (.fieldLink RX1 15 "FiveThings$Now" "bundle" "[I") (by decide +kernel)
  unfold f_X1_leadsJob at hf
  refine lv_aload_n hx hb dX1_leadsJob_0 rfl (lv_at hl 0 rfl) ?_
  refine r_get E hw iX1 0 1 rfl rfl (by decide) kf15 rfl rfl dX1_leadsJob_1 ?_
  refine lv_iload_n hx hb dX1_leadsJob_4 rfl (lv_at hl 1 rfl) ?_
  obtain ⟨g1, hf⟩ := gd_some hf
  refine r_iald E hw 1 rfl g1 dX1_leadsJob_5 ?_
  refine lv_bipush (v := (-9 : Int32)) hx hb dX1_leadsJob_6 rfl ?_
  refine jn_sound (P := fun J => ∀ (ls : Array Slot) (H : Heap) (locs : List Loc), J = some r → lv_has ls 2 [] → Wd A s.heap (dC, dI) [(a_n, .inr (1, [.ref a_n_room, .ref a_n_bundle, .ref a_n_left, .int n_day, .int n_kept])), (a_n_bundle, .inl (cI, 8, .inl n_bundle))] H locs → W p l e ({ frames := 0, cells := 0, slots := 0, locals := 0 } : Jvm.Room) s m args below meth c H locs 0 0 Q (F0 m 21 ls [])) hf ?_ ?_
  · intro ls H locs hf hl hw
    refine lv_iconst (v := (1 : Int32)) hx hb dX1_leadsJob_21 rfl ?_
    refine lv_goto (tgt := 26) hx hb dX1_leadsJob_22 (by decide) ?_
    obtain rfl := sm1 hf
    exact hret H locs ls 26 hw (Or.inr rfl) dX1_leadsJob_26
  · intro J21 hJ21 hf
    refine lv_icmp_eq (tgt := 21) hx hb dX1_leadsJob_8 (by decide) (fun kc => ?_) (fun kc => ?_)
    · have hf := if_t hf kc
      exact hJ21 ls H locs hf (lv_sub hl [] rfl) hw
    · have hf := if_f hf kc
      refine lv_aload_n hx hb dX1_leadsJob_11 rfl (lv_at hl 0 rfl) ?_
      refine r_get E hw iX1 0 1 rfl rfl (by decide) kf15 rfl rfl dX1_leadsJob_12 ?_
      refine lv_iload_n hx hb dX1_leadsJob_15 rfl (lv_at hl 1 rfl) ?_
      obtain ⟨g2, hf⟩ := gd_some hf
      refine r_iald E hw 1 rfl g2 dX1_leadsJob_16 ?_
      refine lv_iload_n hx hb dX1_leadsJob_17 rfl (lv_at hl 1 rfl) ?_
      refine lv_icmp_ne (tgt := 25) hx hb dX1_leadsJob_18 (by decide) (fun kc => ?_) (fun kc => ?_)
      · have hf := if_f hf kc
        refine lv_iconst (v := (0 : Int32)) hx hb dX1_leadsJob_25 rfl ?_
        obtain rfl := sm1 hf
        exact hret H locs ls 26 hw (Or.inl rfl) dX1_leadsJob_26
      · have hf := if_t hf kc
        exact hJ21 ls H locs hf (lv_sub hl [] rfl) hw
def f_X1_bundles  (n_bundle : Nat → Int32) : Option (Int32) :=
  loop2 (fun B4 (x2 : Int32) (x3 : Int32) => (if (8 : Int32) ≤ x3 then some (x2) else gd (inb x3 8) ((if (n_bundle x3.toNatClampNeg) = x3 then B4 (x2 + (1 : Int32)) (x3 + (1 : Int32)) else B4 x2 (x3 + (1 : Int32)))))) FU (0 : Int32) (0 : Int32)
theorem hd_X1_bundles : yX1_bundles.cls = RX1 ∧ yX1_bundles.cls ≠ "java/lang/invoke/MethodHandle" ∧ yX1_bundles.cls ≠ "java/lang/invoke/VarHandle" ∧ (parseMethodDescriptor yX1_bundles.desc).map (fun d => d.parameters.length) = some 0 := by decide +kernel
set_option maxHeartbeats 4000000 in
set_option maxRecDepth 100000 in
theorem c_X1_bundles (l : Launch) (dC : Nat → ClassId) (dI : Nat → Nat → Nat) (cI cB cZ : ClassId) (aK aV : Nat → Nat) (a_n a_n_room a_n_bundle a_n_left : Nat) (sz : Nat) (n_day : Int32) (n_kept : Int32) (n_bundle : Nat → Int32) (r : Int32) (hf : f_X1_bundles n_bundle = some r) : Met l yX1_bundles wsX1_bundles ({ frames := 0, cells := 0, slots := 0, locals := 0 } : Jvm.Room) (va_Pc [.ref a_n] (preW (dC, dI) (tyL cI cB cZ) aK aV sz [(a_n, .inr (1, [.ref a_n_room, .ref a_n_bundle, .ref a_n_left, .int n_day, .int n_kept])), (a_n_bundle, .inl (cI, 8, .inl n_bundle))])) (va_Qi (fun v (_ : Unit) => v = r) (postW (dC, dI) (tyL cI cB cZ) (va_A [(a_n, .inr (1, [.ref a_n_room, .ref a_n_bundle, .ref a_n_left, .int n_day, .int n_kept])), (a_n_bundle, .inl (cI, 8, .inl n_bundle))] sz) [(a_n, .inr (1, [.ref a_n_room, .ref a_n_bundle, .ref a_n_left, .int n_day, .int n_kept])), (a_n_bundle, .inl (cI, 8, .inl n_bundle))]) (va_A [(a_n, .inr (1, [.ref a_n_room, .ref a_n_bundle, .ref a_n_left, .int n_day, .int n_kept])), (a_n_bundle, .inl (cI, 8, .inl n_bundle))] sz)) 0 0 (va_A [(a_n, .inr (1, [.ref a_n_room, .ref a_n_bundle, .ref a_n_left, .int n_day, .int n_kept])), (a_n_bundle, .inl (cI, 8, .inl n_bundle))] sz) := by
  refine met_i (cc := cX1_bundles) (maxL := 3) (own := RX1) (by decide) rfl (Nat.le_of_ble_eq_true rfl) rfl (fun p e s m args below meth c Q A E hret ls H locs hl hw => ?_)
  obtain ⟨⟨hx, hb, hml, hown, hts⟩, hK, hN, hA, hX⟩ := id E
  have hl : lv_has ls 3 [(0, .ref a_n)] := hl
  have iX1 : ∀ w ∈ wsX10, w ∈ wsX1_bundles := by decide +kernel
  have kf15 := hts (.fieldLink RX1 15 "FiveThings$Now" "bundle" "[I") (by decide +kernel)
  unfold f_X1_bundles at hf
  refine lv_iconst (v := (0 : Int32)) hx hb dX1_bundles_0 rfl ?_
  refine lv_istore_n (lv' := [(1, .int (0 : Int32)), (0, .ref a_n)]) hx hb dX1_bundles_1 rfl hl (by decide) rfl (fun ls hl => ?_)
  refine lv_iconst (v := (0 : Int32)) hx hb dX1_bundles_2 rfl ?_
  refine lv_istore_n (lv' := [(2, .int (0 : Int32)), (1, .int (0 : Int32)), (0, .ref a_n)]) hx hb dX1_bundles_3 rfl hl (by decide) rfl (fun ls hl => ?_)
  refine (loop2_sound (r := r) (P := fun (x2 : Int32) (x3 : Int32) => ∀ (ls : Array Slot) (H : Heap) (locs : List Loc), lv_has ls 3 [(2, .int x3), (1, .int x2), (0, .ref a_n)] → Wd A s.heap (dC, dI) [(a_n, .inr (1, [.ref a_n_room, .ref a_n_bundle, .ref a_n_left, .int n_day, .int n_kept])), (a_n_bundle, .inl (cI, 8, .inl n_bundle))] H locs → W p l e ({ frames := 0, cells := 0, slots := 0, locals := 0 } : Jvm.Room) s m args below meth c H locs 0 0 Q (F0 m 4 ls [])) (fun B4 x2 x3 ih4 hf => ?_) _ (0 : Int32) (0 : Int32) hf) ls H locs (lv_sub hl [0, 1, 2] rfl) hw
  intro ls H locs hl hw
  refine lv_iload_n hx hb dX1_bundles_4 rfl (lv_at hl 0 rfl) ?_
  refine lv_bipush (v := (8 : Int32)) hx hb dX1_bundles_5 rfl ?_
  refine lv_icmp_ge (tgt := 29) hx hb dX1_bundles_7 (by decide) (fun kc => ?_) (fun kc => ?_)
  · have hf := if_t hf kc
    refine lv_iload_n hx hb dX1_bundles_29 rfl (lv_at hl 1 rfl) ?_
    obtain rfl := sm1 hf
    exact hret H locs ls 30 hw dX1_bundles_30
  · have hf := if_f hf kc
    refine lv_aload_n hx hb dX1_bundles_10 rfl (lv_at hl 2 rfl) ?_
    refine r_get E hw iX1 0 1 rfl rfl (by decide) kf15 rfl rfl dX1_bundles_11 ?_
    refine lv_iload_n hx hb dX1_bundles_14 rfl (lv_at hl 0 rfl) ?_
    obtain ⟨g4, hf⟩ := gd_some hf
    refine r_iald E hw 1 rfl g4 dX1_bundles_15 ?_
    refine lv_iload_n hx hb dX1_bundles_16 rfl (lv_at hl 0 rfl) ?_
    refine lv_icmp_ne (tgt := 23) hx hb dX1_bundles_17 (by decide) (fun kc => ?_) (fun kc => ?_)
    · have hf := if_f hf kc
      refine lv_iinc (v := (x3 + (1 : Int32))) (lv' := [(2, .int (x3 + (1 : Int32))), (1, .int x2), (0, .ref a_n)]) hx hb dX1_bundles_23 hl (k := 0) rfl rfl (by decide) rfl (fun ls hl => ?_)
      refine lv_goto (tgt := 4) hx hb dX1_bundles_26 (by decide) ?_
      exact ih4 x2 (x3 + (1 : Int32)) hf ls H locs (lv_sub hl [0, 1, 2] rfl) hw
    · have hf := if_t hf kc
      refine lv_iinc (v := (x2 + (1 : Int32))) (lv' := [(1, .int (x2 + (1 : Int32))), (2, .int x3), (0, .ref a_n)]) hx hb dX1_bundles_20 hl (k := 1) rfl rfl (by decide) rfl (fun ls hl => ?_)
      refine lv_iinc (v := (x3 + (1 : Int32))) (lv' := [(2, .int (x3 + (1 : Int32))), (1, .int (x2 + (1 : Int32))), (0, .ref a_n)]) hx hb dX1_bundles_23 hl (k := 1) rfl rfl (by decide) rfl (fun ls hl => ?_)
      refine lv_goto (tgt := 4) hx hb dX1_bundles_26 (by decide) ?_
      exact ih4 (x2 + (1 : Int32)) (x3 + (1 : Int32)) hf ls H locs (lv_sub hl [0, 1, 2] rfl) hw
def f_X1_canBeTied (p1 : Int32) (n_room : Nat → Int32) (n_bundle : Nat → Int32) : Option (Int32) :=
  loop2 (fun B5 (x6 : Int32) (x7 : Int32) => (if (8 : Int32) ≤ x7 then some ((1 : Int32)) else bd1 (f_X6_has p1 x7) (fun r8 => (if r8 = 0 then B5 x6 (x7 + (1 : Int32)) else gd (inb x7 8) ((if (n_bundle x7.toNatClampNeg) = (-9 : Int32) then jn (gd (inb x7 8) (B5 (n_room x7.toNatClampNeg) (x7 + (1 : Int32)))) (fun J48 => (if x6 = (-9 : Int32) then J48 else gd (inb x7 8) ((if (n_room x7.toNatClampNeg) = x6 then J48 else some ((0 : Int32)))))) else some ((0 : Int32)))))))) FU (-9 : Int32) (0 : Int32)
theorem hd_X1_canBeTied : yX1_canBeTied.cls = RX1 ∧ yX1_canBeTied.cls ≠ "java/lang/invoke/MethodHandle" ∧ yX1_canBeTied.cls ≠ "java/lang/invoke/VarHandle" ∧ (parseMethodDescriptor yX1_canBeTied.desc).map (fun d => d.parameters.length) = some 1 := by decide +kernel
set_option maxHeartbeats 4000000 in
set_option maxRecDepth 100000 in
theorem c_X1_canBeTied (l : Launch) (dC : Nat → ClassId) (dI : Nat → Nat → Nat) (cI cB cZ : ClassId) (aK aV : Nat → Nat) (a_n a_n_room a_n_bundle a_n_left : Nat) (sz : Nat) (n_day : Int32) (n_kept : Int32) (n_room : Nat → Int32) (n_bundle : Nat → Int32) (p1 : Int32) (r : Int32) (hf : f_X1_canBeTied p1 n_room n_bundle = some r) : Met l yX1_canBeTied wsX1_canBeTied ({ frames := 1, cells := 0, slots := 0, locals := 21 } : Jvm.Room) (va_Pc [.ref a_n, .int p1] (preW (dC, dI) (tyL cI cB cZ) aK aV sz [(a_n, .inr (1, [.ref a_n_room, .ref a_n_bundle, .ref a_n_left, .int n_day, .int n_kept])), (a_n_room, .inl (cI, 8, .inl n_room)), (a_n_bundle, .inl (cI, 8, .inl n_bundle))])) (va_Qi (fun v (_ : Unit) => v = r) (postW (dC, dI) (tyL cI cB cZ) (va_A [(a_n, .inr (1, [.ref a_n_room, .ref a_n_bundle, .ref a_n_left, .int n_day, .int n_kept])), (a_n_room, .inl (cI, 8, .inl n_room)), (a_n_bundle, .inl (cI, 8, .inl n_bundle))] sz) [(a_n, .inr (1, [.ref a_n_room, .ref a_n_bundle, .ref a_n_left, .int n_day, .int n_kept])), (a_n_room, .inl (cI, 8, .inl n_room)), (a_n_bundle, .inl (cI, 8, .inl n_bundle))]) (va_A [(a_n, .inr (1, [.ref a_n_room, .ref a_n_bundle, .ref a_n_left, .int n_day, .int n_kept])), (a_n_room, .inl (cI, 8, .inl n_room)), (a_n_bundle, .inl (cI, 8, .inl n_bundle))] sz)) 0 0 (va_A [(a_n, .inr (1, [.ref a_n_room, .ref a_n_bundle, .ref a_n_left, .int n_day, .int n_kept])), (a_n_room, .inl (cI, 8, .inl n_room)), (a_n_bundle, .inl (cI, 8, .inl n_bundle))] sz) := by
  refine met_z (cc := cX1_canBeTied) (maxL := 4) (own := RX1) (by decide) rfl (Nat.le_of_ble_eq_true rfl) rfl (fun p e s m args below meth c Q A E hret ls H locs hl hw => ?_)
  obtain ⟨⟨hx, hb, hml, hown, hts⟩, hK, hN, hA, hX⟩ := id E
  have hl : lv_has ls 4 [(0, .ref a_n), (1, .int p1)] := hl
  have iX1 : ∀ w ∈ wsX10, w ∈ wsX1_canBeTied := by decide +kernel
  have ks54 := hts (.static yX6_has) (by decide +kernel)
  have kt54 := hts (.initialized RX6) (by decide +kernel)
  have ku54 : va_Nw (.methodLinkNest RX1 54 yX6_has "FiveThings") s := hN _ (by decide +kernel)
  have kf15 := hts (.fieldLink RX1 15 "FiveThings$Now" "bundle" "[I") (by decide +kernel)
  have kf9 := hts (.fieldLink RX1 9 "FiveThings$Now" "room" "[I") (by decide +kernel)
  unfold f_X1_canBeTied at hf
  refine lv_bipush (v := (-9 : Int32)) hx hb dX1_canBeTied_0 rfl ?_
  refine lv_istore_n (lv' := [(2, .int (-9 : Int32)), (0, .ref a_n), (1, .int p1)]) hx hb dX1_canBeTied_2 rfl hl (by decide) rfl (fun ls hl => ?_)
  refine lv_iconst (v := (0 : Int32)) hx hb dX1_canBeTied_3 rfl ?_
  refine lv_istore_n (lv' := [(3, .int (0 : Int32)), (2, .int (-9 : Int32)), (0, .ref a_n), (1, .int p1)]) hx hb dX1_canBeTied_4 rfl hl (by decide) rfl (fun ls hl => ?_)
  refine (loop2_sound (r := r) (P := fun (x6 : Int32) (x7 : Int32) => ∀ (ls : Array Slot) (H : Heap) (locs : List Loc), lv_has ls 4 [(3, .int x7), (2, .int x6), (0, .ref a_n), (1, .int p1)] → Wd A s.heap (dC, dI) [(a_n, .inr (1, [.ref a_n_room, .ref a_n_bundle, .ref a_n_left, .int n_day, .int n_kept])), (a_n_room, .inl (cI, 8, .inl n_room)), (a_n_bundle, .inl (cI, 8, .inl n_bundle))] H locs → W p l e ({ frames := 1, cells := 0, slots := 0, locals := 21 } : Jvm.Room) s m args below meth c H locs 0 0 Q (F0 m 5 ls [])) (fun B5 x6 x7 ih5 hf => ?_) _ (-9 : Int32) (0 : Int32) hf) ls H locs (lv_sub hl [0, 1, 2, 3] rfl) hw
  intro ls H locs hl hw
  refine lv_iload_n hx hb dX1_canBeTied_5 rfl (lv_at hl 0 rfl) ?_
  refine lv_bipush (v := (8 : Int32)) hx hb dX1_canBeTied_6 rfl ?_
  refine lv_icmp_ge (tgt := 61) hx hb dX1_canBeTied_8 (by decide) (fun kc => ?_) (fun kc => ?_)
  · have hf := if_t hf kc
    refine lv_iconst (v := (1 : Int32)) hx hb dX1_canBeTied_61 rfl ?_
    obtain rfl := sm1 hf
    exact hret H locs ls 62 hw (Or.inr rfl) dX1_canBeTied_62
  · have hf := if_f hf kc
    refine lv_iload_n hx hb dX1_canBeTied_11 rfl (lv_at hl 3 rfl) ?_
    refine lv_iload_n hx hb dX1_canBeTied_12 rfl (lv_at hl 0 rfl) ?_
    obtain ⟨r8, hu9, hf⟩ := bd1_some hf
    refine cl_i (wr := [(a_n, .inr (1, [.ref a_n_room, .ref a_n_bundle, .ref a_n_left, .int n_day, .int n_kept])), (a_n_room, .inl (cI, 8, .inl n_room)), (a_n_bundle, .inl (cI, 8, .inl n_bundle))]) (w2 := [(a_n, .inr (1, [.ref a_n_room, .ref a_n_bundle, .ref a_n_left, .int n_day, .int n_kept])), (a_n_room, .inl (cI, 8, .inl n_room)), (a_n_bundle, .inl (cI, 8, .inl n_bundle))]) E hw [] [0, 1, 2] [0, 1, 2] (va_runSN (As := [.int p1, .int x7]) (rest := []) E.1 (c_X6_has l dC dI cI cB cZ aK aV H.size p1 x7 r8 hu9) ⟨va_cnB 2 hts gX1_canBeTied_X6_has_n54 rfl rfl rfl ku54 kt54 hd_X6_has ⟨Nat.le_of_ble_eq_true rfl, Nat.le_of_ble_eq_true rfl⟩, ks54, trivial⟩ (pre_S E hw [] rfl rfl) rfl rfl hl.1 rfl (lv_room (Nat.le_of_ble_eq_true rfl)) dX1_canBeTied_13 ⟨Nat.zero_le _, Nat.zero_le _⟩) rfl rfl rfl (by decide) rfl rfl (fun H locs hw => ?_)
    refine lv_if_eq (tgt := 55) hx hb dX1_canBeTied_16 (by decide) (fun kc => ?_) (fun kc => ?_)
    · have hf := if_t hf kc
      refine lv_iinc (v := (x7 + (1 : Int32))) (lv' := [(3, .int (x7 + (1 : Int32))), (2, .int x6), (0, .ref a_n), (1, .int p1)]) hx hb dX1_canBeTied_55 hl (k := 0) rfl rfl (by decide) rfl (fun ls hl => ?_)
      refine lv_goto (tgt := 5) hx hb dX1_canBeTied_58 (by decide) ?_
      exact ih5 x6 (x7 + (1 : Int32)) hf ls H locs (lv_sub hl [0, 1, 2, 3] rfl) hw
    · have hf := if_f hf kc
      refine lv_aload_n hx hb dX1_canBeTied_19 rfl (lv_at hl 2 rfl) ?_
      refine r_get E hw iX1 0 1 rfl rfl (by decide) kf15 rfl rfl dX1_canBeTied_20 ?_
      refine lv_iload_n hx hb dX1_canBeTied_23 rfl (lv_at hl 0 rfl) ?_
      obtain ⟨g10, hf⟩ := gd_some hf
      refine r_iald E hw 2 rfl g10 dX1_canBeTied_24 ?_
      refine lv_bipush (v := (-9 : Int32)) hx hb dX1_canBeTied_25 rfl ?_
      refine lv_icmp_ne (tgt := 46) hx hb dX1_canBeTied_27 (by decide) (fun kc => ?_) (fun kc => ?_)
      · have hf := if_f hf kc
        refine lv_iconst (v := (0 : Int32)) hx hb dX1_canBeTied_46 rfl ?_
        obtain rfl := sm1 hf
        exact hret H locs ls 47 hw (Or.inl rfl) dX1_canBeTied_47
      · have hf := if_t hf kc
        refine lv_iload_n hx hb dX1_canBeTied_30 rfl (lv_at hl 1 rfl) ?_
        refine lv_bipush (v := (-9 : Int32)) hx hb dX1_canBeTied_31 rfl ?_
        refine jn_sound (P := fun J => ∀ (ls : Array Slot) (H : Heap) (locs : List Loc), J = some r → lv_has ls 4 [(0, .ref a_n), (1, .int p1), (3, .int x7)] → Wd A s.heap (dC, dI) [(a_n, .inr (1, [.ref a_n_room, .ref a_n_bundle, .ref a_n_left, .int n_day, .int n_kept])), (a_n_room, .inl (cI, 8, .inl n_room)), (a_n_bundle, .inl (cI, 8, .inl n_bundle))] H locs → W p l e ({ frames := 1, cells := 0, slots := 0, locals := 21 } : Jvm.Room) s m args below meth c H locs 0 0 Q (F0 m 48 ls [])) hf ?_ ?_
        · intro ls H locs hf hl hw
          refine lv_aload_n hx hb dX1_canBeTied_48 rfl (lv_at hl 0 rfl) ?_
          refine r_get E hw iX1 0 0 rfl rfl (by decide) kf9 rfl rfl dX1_canBeTied_49 ?_
          refine lv_iload_n hx hb dX1_canBeTied_52 rfl (lv_at hl 2 rfl) ?_
          obtain ⟨g12, hf⟩ := gd_some hf
          refine r_iald E hw 1 rfl g12 dX1_canBeTied_53 ?_
          refine lv_istore_n (lv' := [(2, .int (n_room x7.toNatClampNeg)), (0, .ref a_n), (1, .int p1), (3, .int x7)]) hx hb dX1_canBeTied_54 rfl hl (by decide) rfl (fun ls hl => ?_)
          refine lv_iinc (v := (x7 + (1 : Int32))) (lv' := [(3, .int (x7 + (1 : Int32))), (2, .int (n_room x7.toNatClampNeg)), (0, .ref a_n), (1, .int p1)]) hx hb dX1_canBeTied_55 hl (k := 3) rfl rfl (by decide) rfl (fun ls hl => ?_)
          refine lv_goto (tgt := 5) hx hb dX1_canBeTied_58 (by decide) ?_
          exact ih5 (n_room x7.toNatClampNeg) (x7 + (1 : Int32)) hf ls H locs (lv_sub hl [0, 1, 2, 3] rfl) hw
        · intro J48 hJ48 hf
          refine lv_icmp_eq (tgt := 48) hx hb dX1_canBeTied_33 (by decide) (fun kc => ?_) (fun kc => ?_)
          · have hf := if_t hf kc
            exact hJ48 ls H locs hf (lv_sub hl [2, 3, 0] rfl) hw
          · have hf := if_f hf kc
            refine lv_aload_n hx hb dX1_canBeTied_36 rfl (lv_at hl 2 rfl) ?_
            refine r_get E hw iX1 0 0 rfl rfl (by decide) kf9 rfl rfl dX1_canBeTied_37 ?_
            refine lv_iload_n hx hb dX1_canBeTied_40 rfl (lv_at hl 0 rfl) ?_
            obtain ⟨g11, hf⟩ := gd_some hf
            refine r_iald E hw 1 rfl g11 dX1_canBeTied_41 ?_
            refine lv_iload_n hx hb dX1_canBeTied_42 rfl (lv_at hl 1 rfl) ?_
            refine lv_icmp_eq (tgt := 48) hx hb dX1_canBeTied_43 (by decide) (fun kc => ?_) (fun kc => ?_)
            · have hf := if_t hf kc
              exact hJ48 ls H locs hf (lv_sub hl [2, 3, 0] rfl) hw
            · have hf := if_f hf kc
              refine lv_iconst (v := (0 : Int32)) hx hb dX1_canBeTied_46 rfl ?_
              obtain rfl := sm1 hf
              exact hret H locs ls 47 hw (Or.inl rfl) dX1_canBeTied_47
def f_X1_setBundle (p1 : Int32) (p2 : Int32) (n_bundle : Nat → Int32) : Option ((Nat → Int32)) :=
  loop2 (fun B2 (x4 : Int32) (x5 : Nat → Int32) => (if (8 : Int32) ≤ x4 then some (x5) else bd1 (f_X6_has p1 x4) (fun r6 => (if r6 = 0 then B2 (x4 + (1 : Int32)) x5 else gd (inb x4 8) (B2 (x4 + (1 : Int32)) (upd x5 x4.toNatClampNeg p2)))))) FU (0 : Int32) n_bundle
theorem hd_X1_setBundle : yX1_setBundle.cls = RX1 ∧ yX1_setBundle.cls ≠ "java/lang/invoke/MethodHandle" ∧ yX1_setBundle.cls ≠ "java/lang/invoke/VarHandle" ∧ (parseMethodDescriptor yX1_setBundle.desc).map (fun d => d.parameters.length) = some 2 := by decide +kernel
set_option maxHeartbeats 4000000 in
set_option maxRecDepth 100000 in
theorem c_X1_setBundle (l : Launch) (dC : Nat → ClassId) (dI : Nat → Nat → Nat) (cI cB cZ : ClassId) (aK aV : Nat → Nat) (a_n a_n_room a_n_bundle a_n_left : Nat) (sz : Nat) (n_day : Int32) (n_kept : Int32) (n_bundle : Nat → Int32) (p1 : Int32) (p2 : Int32) (q0 : Nat → Int32) (hf : f_X1_setBundle p1 p2 n_bundle = some q0) : Met l yX1_setBundle wsX1_setBundle ({ frames := 1, cells := 0, slots := 0, locals := 21 } : Jvm.Room) (va_Pc [.ref a_n, .int p1, .int p2] (preW (dC, dI) (tyL cI cB cZ) aK aV sz [(a_n, .inr (1, [.ref a_n_room, .ref a_n_bundle, .ref a_n_left, .int n_day, .int n_kept])), (a_n_bundle, .inl (cI, 8, .inl n_bundle))])) (va_Qv (fun (_ : Unit) => True) (postW (dC, dI) (tyL cI cB cZ) (va_A [(a_n, .inr (1, [.ref a_n_room, .ref a_n_bundle, .ref a_n_left, .int n_day, .int n_kept])), (a_n_bundle, .inl (cI, 8, .inl n_bundle))] sz) [(a_n, .inr (1, [.ref a_n_room, .ref a_n_bundle, .ref a_n_left, .int n_day, .int n_kept])), (a_n_bundle, .inl (cI, 8, .inl q0))]) (va_A [(a_n, .inr (1, [.ref a_n_room, .ref a_n_bundle, .ref a_n_left, .int n_day, .int n_kept])), (a_n_bundle, .inl (cI, 8, .inl n_bundle))] sz)) 0 0 (va_A [(a_n, .inr (1, [.ref a_n_room, .ref a_n_bundle, .ref a_n_left, .int n_day, .int n_kept])), (a_n_bundle, .inl (cI, 8, .inl n_bundle))] sz) := by
  refine met_v (cc := cX1_setBundle) (maxL := 4) (own := RX1) (by decide) rfl (Nat.le_of_ble_eq_true rfl) rfl (fun p e s m args below meth c Q A E hret ls H locs hl hw => ?_)
  obtain ⟨⟨hx, hb, hml, hown, hts⟩, hK, hN, hA, hX⟩ := id E
  have hl : lv_has ls 4 [(0, .ref a_n), (1, .int p1), (2, .int p2)] := hl
  have iX1 : ∀ w ∈ wsX10, w ∈ wsX1_setBundle := by decide +kernel
  have ks54 := hts (.static yX6_has) (by decide +kernel)
  have kt54 := hts (.initialized RX6) (by decide +kernel)
  have ku54 : va_Nw (.methodLinkNest RX1 54 yX6_has "FiveThings") s := hN _ (by decide +kernel)
  have kf15 := hts (.fieldLink RX1 15 "FiveThings$Now" "bundle" "[I") (by decide +kernel)
  unfold f_X1_setBundle at hf
  refine lv_iconst (v := (0 : Int32)) hx hb dX1_setBundle_0 rfl ?_
  refine lv_istore_n (lv' := [(3, .int (0 : Int32)), (0, .ref a_n), (1, .int p1), (2, .int p2)]) hx hb dX1_setBundle_1 rfl hl (by decide) rfl (fun ls hl => ?_)
  refine (loop2_sound (r := q0) (P := fun (x4 : Int32) (x5 : Nat → Int32) => ∀ (ls : Array Slot) (H : Heap) (locs : List Loc), lv_has ls 4 [(3, .int x4), (0, .ref a_n), (1, .int p1), (2, .int p2)] → Wd A s.heap (dC, dI) [(a_n, .inr (1, [.ref a_n_room, .ref a_n_bundle, .ref a_n_left, .int n_day, .int n_kept])), (a_n_bundle, .inl (cI, 8, .inl x5))] H locs → W p l e ({ frames := 1, cells := 0, slots := 0, locals := 21 } : Jvm.Room) s m args below meth c H locs 0 0 Q (F0 m 2 ls [])) (fun B2 x4 x5 ih2 hf => ?_) _ (0 : Int32) n_bundle hf) ls H locs (lv_sub hl [0, 1, 2, 3] rfl) hw
  intro ls H locs hl hw
  refine lv_iload_n hx hb dX1_setBundle_2 rfl (lv_at hl 0 rfl) ?_
  refine lv_bipush (v := (8 : Int32)) hx hb dX1_setBundle_3 rfl ?_
  refine lv_icmp_ge (tgt := 29) hx hb dX1_setBundle_5 (by decide) (fun kc => ?_) (fun kc => ?_)
  · have hf := if_t hf kc
    obtain rfl := sm1 hf
    exact hret H locs ls 29 hw dX1_setBundle_29
  · have hf := if_f hf kc
    refine lv_iload_n hx hb dX1_setBundle_8 rfl (lv_at hl 2 rfl) ?_
    refine lv_iload_n hx hb dX1_setBundle_9 rfl (lv_at hl 0 rfl) ?_
    obtain ⟨r6, hu7, hf⟩ := bd1_some hf
    refine cl_i (wr := [(a_n, .inr (1, [.ref a_n_room, .ref a_n_bundle, .ref a_n_left, .int n_day, .int n_kept])), (a_n_bundle, .inl (cI, 8, .inl x5))]) (w2 := [(a_n, .inr (1, [.ref a_n_room, .ref a_n_bundle, .ref a_n_left, .int n_day, .int n_kept])), (a_n_bundle, .inl (cI, 8, .inl x5))]) E hw [] [0, 1] [0, 1] (va_runSN (As := [.int p1, .int x4]) (rest := []) E.1 (c_X6_has l dC dI cI cB cZ aK aV H.size p1 x4 r6 hu7) ⟨va_cnB 2 hts gX1_setBundle_X6_has_n54 rfl rfl rfl ku54 kt54 hd_X6_has ⟨Nat.le_of_ble_eq_true rfl, Nat.le_of_ble_eq_true rfl⟩, ks54, trivial⟩ (pre_S E hw [] rfl rfl) rfl rfl hl.1 rfl (lv_room (Nat.le_of_ble_eq_true rfl)) dX1_setBundle_10 ⟨Nat.zero_le _, Nat.zero_le _⟩) rfl rfl rfl (by decide) rfl rfl (fun H locs hw => ?_)
    refine lv_if_eq (tgt := 23) hx hb dX1_setBundle_13 (by decide) (fun kc => ?_) (fun kc => ?_)
    · have hf := if_t hf kc
      refine lv_iinc (v := (x4 + (1 : Int32))) (lv' := [(3, .int (x4 + (1 : Int32))), (0, .ref a_n), (1, .int p1), (2, .int p2)]) hx hb dX1_setBundle_23 hl (k := 0) rfl rfl (by decide) rfl (fun ls hl => ?_)
      refine lv_goto (tgt := 2) hx hb dX1_setBundle_26 (by decide) ?_
      exact ih2 (x4 + (1 : Int32)) x5 hf ls H locs (lv_sub hl [0, 1, 2, 3] rfl) hw
    · have hf := if_f hf kc
      refine lv_aload_n hx hb dX1_setBundle_16 rfl (lv_at hl 1 rfl) ?_
      refine r_get E hw iX1 0 1 rfl rfl (by decide) kf15 rfl rfl dX1_setBundle_17 ?_
      refine lv_iload_n hx hb dX1_setBundle_20 rfl (lv_at hl 0 rfl) ?_
      refine lv_iload_n hx hb dX1_setBundle_21 rfl (lv_at hl 3 rfl) ?_
      obtain ⟨g8, hf⟩ := gd_some hf
      refine r_iast E hw 1 rfl g8 [(a_n, .inr (1, [.ref a_n_room, .ref a_n_bundle, .ref a_n_left, .int n_day, .int n_kept])), (a_n_bundle, .inl (cI, 8, .inl (upd x5 x4.toNatClampNeg p2)))] rfl dX1_setBundle_22 (fun H locs hw => ?_)
      refine lv_iinc (v := (x4 + (1 : Int32))) (lv' := [(3, .int (x4 + (1 : Int32))), (0, .ref a_n), (1, .int p1), (2, .int p2)]) hx hb dX1_setBundle_23 hl (k := 0) rfl rfl (by decide) rfl (fun ls hl => ?_)
      refine lv_goto (tgt := 2) hx hb dX1_setBundle_26 (by decide) ?_
      exact ih2 (x4 + (1 : Int32)) (upd x5 x4.toNatClampNeg p2) hf ls H locs (lv_sub hl [0, 1, 2, 3] rfl) hw
def f_X1_carry (p1 : Int32) (p2 : Int32) (n_room : Nat → Int32) : Option ((Nat → Int32)) :=
  loop2 (fun B2 (x4 : Int32) (x5 : Nat → Int32) => (if (8 : Int32) ≤ x4 then some (x5) else bd1 (f_X6_has p1 x4) (fun r6 => (if r6 = 0 then B2 (x4 + (1 : Int32)) x5 else gd (inb x4 8) (B2 (x4 + (1 : Int32)) (upd x5 x4.toNatClampNeg p2)))))) FU (0 : Int32) n_room
theorem hd_X1_carry : yX1_carry.cls = RX1 ∧ yX1_carry.cls ≠ "java/lang/invoke/MethodHandle" ∧ yX1_carry.cls ≠ "java/lang/invoke/VarHandle" ∧ (parseMethodDescriptor yX1_carry.desc).map (fun d => d.parameters.length) = some 2 := by decide +kernel
set_option maxHeartbeats 4000000 in
set_option maxRecDepth 100000 in
theorem c_X1_carry (l : Launch) (dC : Nat → ClassId) (dI : Nat → Nat → Nat) (cI cB cZ : ClassId) (aK aV : Nat → Nat) (a_n a_n_room a_n_bundle a_n_left : Nat) (sz : Nat) (n_day : Int32) (n_kept : Int32) (n_room : Nat → Int32) (p1 : Int32) (p2 : Int32) (q0 : Nat → Int32) (hf : f_X1_carry p1 p2 n_room = some q0) : Met l yX1_carry wsX1_carry ({ frames := 1, cells := 0, slots := 0, locals := 21 } : Jvm.Room) (va_Pc [.ref a_n, .int p1, .int p2] (preW (dC, dI) (tyL cI cB cZ) aK aV sz [(a_n, .inr (1, [.ref a_n_room, .ref a_n_bundle, .ref a_n_left, .int n_day, .int n_kept])), (a_n_room, .inl (cI, 8, .inl n_room))])) (va_Qv (fun (_ : Unit) => True) (postW (dC, dI) (tyL cI cB cZ) (va_A [(a_n, .inr (1, [.ref a_n_room, .ref a_n_bundle, .ref a_n_left, .int n_day, .int n_kept])), (a_n_room, .inl (cI, 8, .inl n_room))] sz) [(a_n, .inr (1, [.ref a_n_room, .ref a_n_bundle, .ref a_n_left, .int n_day, .int n_kept])), (a_n_room, .inl (cI, 8, .inl q0))]) (va_A [(a_n, .inr (1, [.ref a_n_room, .ref a_n_bundle, .ref a_n_left, .int n_day, .int n_kept])), (a_n_room, .inl (cI, 8, .inl n_room))] sz)) 0 0 (va_A [(a_n, .inr (1, [.ref a_n_room, .ref a_n_bundle, .ref a_n_left, .int n_day, .int n_kept])), (a_n_room, .inl (cI, 8, .inl n_room))] sz) := by
  refine met_v (cc := cX1_carry) (maxL := 4) (own := RX1) (by decide) rfl (Nat.le_of_ble_eq_true rfl) rfl (fun p e s m args below meth c Q A E hret ls H locs hl hw => ?_)
  obtain ⟨⟨hx, hb, hml, hown, hts⟩, hK, hN, hA, hX⟩ := id E
  have hl : lv_has ls 4 [(0, .ref a_n), (1, .int p1), (2, .int p2)] := hl
  have iX1 : ∀ w ∈ wsX10, w ∈ wsX1_carry := by decide +kernel
  have ks54 := hts (.static yX6_has) (by decide +kernel)
  have kt54 := hts (.initialized RX6) (by decide +kernel)
  have ku54 : va_Nw (.methodLinkNest RX1 54 yX6_has "FiveThings") s := hN _ (by decide +kernel)
  have kf9 := hts (.fieldLink RX1 9 "FiveThings$Now" "room" "[I") (by decide +kernel)
  unfold f_X1_carry at hf
  refine lv_iconst (v := (0 : Int32)) hx hb dX1_carry_0 rfl ?_
  refine lv_istore_n (lv' := [(3, .int (0 : Int32)), (0, .ref a_n), (1, .int p1), (2, .int p2)]) hx hb dX1_carry_1 rfl hl (by decide) rfl (fun ls hl => ?_)
  refine (loop2_sound (r := q0) (P := fun (x4 : Int32) (x5 : Nat → Int32) => ∀ (ls : Array Slot) (H : Heap) (locs : List Loc), lv_has ls 4 [(3, .int x4), (0, .ref a_n), (1, .int p1), (2, .int p2)] → Wd A s.heap (dC, dI) [(a_n, .inr (1, [.ref a_n_room, .ref a_n_bundle, .ref a_n_left, .int n_day, .int n_kept])), (a_n_room, .inl (cI, 8, .inl x5))] H locs → W p l e ({ frames := 1, cells := 0, slots := 0, locals := 21 } : Jvm.Room) s m args below meth c H locs 0 0 Q (F0 m 2 ls [])) (fun B2 x4 x5 ih2 hf => ?_) _ (0 : Int32) n_room hf) ls H locs (lv_sub hl [0, 1, 2, 3] rfl) hw
  intro ls H locs hl hw
  refine lv_iload_n hx hb dX1_carry_2 rfl (lv_at hl 0 rfl) ?_
  refine lv_bipush (v := (8 : Int32)) hx hb dX1_carry_3 rfl ?_
  refine lv_icmp_ge (tgt := 29) hx hb dX1_carry_5 (by decide) (fun kc => ?_) (fun kc => ?_)
  · have hf := if_t hf kc
    obtain rfl := sm1 hf
    exact hret H locs ls 29 hw dX1_carry_29
  · have hf := if_f hf kc
    refine lv_iload_n hx hb dX1_carry_8 rfl (lv_at hl 2 rfl) ?_
    refine lv_iload_n hx hb dX1_carry_9 rfl (lv_at hl 0 rfl) ?_
    obtain ⟨r6, hu7, hf⟩ := bd1_some hf
    refine cl_i (wr := [(a_n, .inr (1, [.ref a_n_room, .ref a_n_bundle, .ref a_n_left, .int n_day, .int n_kept])), (a_n_room, .inl (cI, 8, .inl x5))]) (w2 := [(a_n, .inr (1, [.ref a_n_room, .ref a_n_bundle, .ref a_n_left, .int n_day, .int n_kept])), (a_n_room, .inl (cI, 8, .inl x5))]) E hw [] [0, 1] [0, 1] (va_runSN (As := [.int p1, .int x4]) (rest := []) E.1 (c_X6_has l dC dI cI cB cZ aK aV H.size p1 x4 r6 hu7) ⟨va_cnB 2 hts gX1_carry_X6_has_n54 rfl rfl rfl ku54 kt54 hd_X6_has ⟨Nat.le_of_ble_eq_true rfl, Nat.le_of_ble_eq_true rfl⟩, ks54, trivial⟩ (pre_S E hw [] rfl rfl) rfl rfl hl.1 rfl (lv_room (Nat.le_of_ble_eq_true rfl)) dX1_carry_10 ⟨Nat.zero_le _, Nat.zero_le _⟩) rfl rfl rfl (by decide) rfl rfl (fun H locs hw => ?_)
    refine lv_if_eq (tgt := 23) hx hb dX1_carry_13 (by decide) (fun kc => ?_) (fun kc => ?_)
    · have hf := if_t hf kc
      refine lv_iinc (v := (x4 + (1 : Int32))) (lv' := [(3, .int (x4 + (1 : Int32))), (0, .ref a_n), (1, .int p1), (2, .int p2)]) hx hb dX1_carry_23 hl (k := 0) rfl rfl (by decide) rfl (fun ls hl => ?_)
      refine lv_goto (tgt := 2) hx hb dX1_carry_26 (by decide) ?_
      exact ih2 (x4 + (1 : Int32)) x5 hf ls H locs (lv_sub hl [0, 1, 2, 3] rfl) hw
    · have hf := if_f hf kc
      refine lv_aload_n hx hb dX1_carry_16 rfl (lv_at hl 1 rfl) ?_
      refine r_get E hw iX1 0 0 rfl rfl (by decide) kf9 rfl rfl dX1_carry_17 ?_
      refine lv_iload_n hx hb dX1_carry_20 rfl (lv_at hl 0 rfl) ?_
      refine lv_iload_n hx hb dX1_carry_21 rfl (lv_at hl 3 rfl) ?_
      obtain ⟨g8, hf⟩ := gd_some hf
      refine r_iast E hw 1 rfl g8 [(a_n, .inr (1, [.ref a_n_room, .ref a_n_bundle, .ref a_n_left, .int n_day, .int n_kept])), (a_n_room, .inl (cI, 8, .inl (upd x5 x4.toNatClampNeg p2)))] rfl dX1_carry_22 (fun H locs hw => ?_)
      refine lv_iinc (v := (x4 + (1 : Int32))) (lv' := [(3, .int (x4 + (1 : Int32))), (0, .ref a_n), (1, .int p1), (2, .int p2)]) hx hb dX1_carry_23 hl (k := 0) rfl rfl (by decide) rfl (fun ls hl => ?_)
      refine lv_goto (tgt := 2) hx hb dX1_carry_26 (by decide) ?_
      exact ih2 (x4 + (1 : Int32)) (upd x5 x4.toNatClampNeg p2) hf ls H locs (lv_sub hl [0, 1, 2, 3] rfl) hw
def f_X1_thingsIn (p1 : Int32) (n_room : Nat → Int32) : Option (Int32) :=
  loop2 (fun B4 (x2 : Int32) (x3 : Int32) => (if (8 : Int32) ≤ x3 then some (x2) else gd (inb x3 8) ((if (n_room x3.toNatClampNeg) = p1 then B4 (x2 ||| ((1 : Int32) <<< (x3 &&& 31))) (x3 + (1 : Int32)) else B4 x2 (x3 + (1 : Int32)))))) FU (0 : Int32) (0 : Int32)
theorem hd_X1_thingsIn : yX1_thingsIn.cls = RX1 ∧ yX1_thingsIn.cls ≠ "java/lang/invoke/MethodHandle" ∧ yX1_thingsIn.cls ≠ "java/lang/invoke/VarHandle" ∧ (parseMethodDescriptor yX1_thingsIn.desc).map (fun d => d.parameters.length) = some 1 := by decide +kernel
set_option maxHeartbeats 4000000 in
set_option maxRecDepth 100000 in
theorem c_X1_thingsIn (l : Launch) (dC : Nat → ClassId) (dI : Nat → Nat → Nat) (cI cB cZ : ClassId) (aK aV : Nat → Nat) (a_n a_n_room a_n_bundle a_n_left : Nat) (sz : Nat) (n_day : Int32) (n_kept : Int32) (n_room : Nat → Int32) (p1 : Int32) (r : Int32) (hf : f_X1_thingsIn p1 n_room = some r) : Met l yX1_thingsIn wsX1_thingsIn ({ frames := 0, cells := 0, slots := 0, locals := 0 } : Jvm.Room) (va_Pc [.ref a_n, .int p1] (preW (dC, dI) (tyL cI cB cZ) aK aV sz [(a_n, .inr (1, [.ref a_n_room, .ref a_n_bundle, .ref a_n_left, .int n_day, .int n_kept])), (a_n_room, .inl (cI, 8, .inl n_room))])) (va_Qi (fun v (_ : Unit) => v = r) (postW (dC, dI) (tyL cI cB cZ) (va_A [(a_n, .inr (1, [.ref a_n_room, .ref a_n_bundle, .ref a_n_left, .int n_day, .int n_kept])), (a_n_room, .inl (cI, 8, .inl n_room))] sz) [(a_n, .inr (1, [.ref a_n_room, .ref a_n_bundle, .ref a_n_left, .int n_day, .int n_kept])), (a_n_room, .inl (cI, 8, .inl n_room))]) (va_A [(a_n, .inr (1, [.ref a_n_room, .ref a_n_bundle, .ref a_n_left, .int n_day, .int n_kept])), (a_n_room, .inl (cI, 8, .inl n_room))] sz)) 0 0 (va_A [(a_n, .inr (1, [.ref a_n_room, .ref a_n_bundle, .ref a_n_left, .int n_day, .int n_kept])), (a_n_room, .inl (cI, 8, .inl n_room))] sz) := by
  refine met_i (cc := cX1_thingsIn) (maxL := 4) (own := RX1) (by decide) rfl (Nat.le_of_ble_eq_true rfl) rfl (fun p e s m args below meth c Q A E hret ls H locs hl hw => ?_)
  obtain ⟨⟨hx, hb, hml, hown, hts⟩, hK, hN, hA, hX⟩ := id E
  have hl : lv_has ls 4 [(0, .ref a_n), (1, .int p1)] := hl
  have iX1 : ∀ w ∈ wsX10, w ∈ wsX1_thingsIn := by decide +kernel
  have kf9 := hts (.fieldLink RX1 9 "FiveThings$Now" "room" "[I") (by decide +kernel)
  unfold f_X1_thingsIn at hf
  refine lv_iconst (v := (0 : Int32)) hx hb dX1_thingsIn_0 rfl ?_
  refine lv_istore_n (lv' := [(2, .int (0 : Int32)), (0, .ref a_n), (1, .int p1)]) hx hb dX1_thingsIn_1 rfl hl (by decide) rfl (fun ls hl => ?_)
  refine lv_iconst (v := (0 : Int32)) hx hb dX1_thingsIn_2 rfl ?_
  refine lv_istore_n (lv' := [(3, .int (0 : Int32)), (2, .int (0 : Int32)), (0, .ref a_n), (1, .int p1)]) hx hb dX1_thingsIn_3 rfl hl (by decide) rfl (fun ls hl => ?_)
  refine (loop2_sound (r := r) (P := fun (x2 : Int32) (x3 : Int32) => ∀ (ls : Array Slot) (H : Heap) (locs : List Loc), lv_has ls 4 [(3, .int x3), (2, .int x2), (0, .ref a_n), (1, .int p1)] → Wd A s.heap (dC, dI) [(a_n, .inr (1, [.ref a_n_room, .ref a_n_bundle, .ref a_n_left, .int n_day, .int n_kept])), (a_n_room, .inl (cI, 8, .inl n_room))] H locs → W p l e ({ frames := 0, cells := 0, slots := 0, locals := 0 } : Jvm.Room) s m args below meth c H locs 0 0 Q (F0 m 4 ls [])) (fun B4 x2 x3 ih4 hf => ?_) _ (0 : Int32) (0 : Int32) hf) ls H locs (lv_sub hl [0, 1, 2, 3] rfl) hw
  intro ls H locs hl hw
  refine lv_iload_n hx hb dX1_thingsIn_4 rfl (lv_at hl 0 rfl) ?_
  refine lv_bipush (v := (8 : Int32)) hx hb dX1_thingsIn_5 rfl ?_
  refine lv_icmp_ge (tgt := 32) hx hb dX1_thingsIn_7 (by decide) (fun kc => ?_) (fun kc => ?_)
  · have hf := if_t hf kc
    refine lv_iload_n hx hb dX1_thingsIn_32 rfl (lv_at hl 1 rfl) ?_
    obtain rfl := sm1 hf
    exact hret H locs ls 33 hw dX1_thingsIn_33
  · have hf := if_f hf kc
    refine lv_aload_n hx hb dX1_thingsIn_10 rfl (lv_at hl 2 rfl) ?_
    refine r_get E hw iX1 0 0 rfl rfl (by decide) kf9 rfl rfl dX1_thingsIn_11 ?_
    refine lv_iload_n hx hb dX1_thingsIn_14 rfl (lv_at hl 0 rfl) ?_
    obtain ⟨g4, hf⟩ := gd_some hf
    refine r_iald E hw 1 rfl g4 dX1_thingsIn_15 ?_
    refine lv_iload_n hx hb dX1_thingsIn_16 rfl (lv_at hl 3 rfl) ?_
    refine lv_icmp_ne (tgt := 26) hx hb dX1_thingsIn_17 (by decide) (fun kc => ?_) (fun kc => ?_)
    · have hf := if_f hf kc
      refine lv_iinc (v := (x3 + (1 : Int32))) (lv' := [(3, .int (x3 + (1 : Int32))), (2, .int x2), (0, .ref a_n), (1, .int p1)]) hx hb dX1_thingsIn_26 hl (k := 0) rfl rfl (by decide) rfl (fun ls hl => ?_)
      refine lv_goto (tgt := 4) hx hb dX1_thingsIn_29 (by decide) ?_
      exact ih4 x2 (x3 + (1 : Int32)) hf ls H locs (lv_sub hl [0, 1, 2, 3] rfl) hw
    · have hf := if_t hf kc
      refine lv_iload_n hx hb dX1_thingsIn_20 rfl (lv_at hl 1 rfl) ?_
      refine lv_iconst (v := (1 : Int32)) hx hb dX1_thingsIn_21 rfl ?_
      refine lv_iload_n hx hb dX1_thingsIn_22 rfl (lv_at hl 0 rfl) ?_
      refine lv_ishl hx hb dX1_thingsIn_23 ?_
      refine lv_ior hx hb dX1_thingsIn_24 ?_
      refine lv_istore_n (lv' := [(2, .int (x2 ||| ((1 : Int32) <<< (x3 &&& 31)))), (3, .int x3), (0, .ref a_n), (1, .int p1)]) hx hb dX1_thingsIn_25 rfl hl (by decide) rfl (fun ls hl => ?_)
      refine lv_iinc (v := (x3 + (1 : Int32))) (lv' := [(3, .int (x3 + (1 : Int32))), (2, .int (x2 ||| ((1 : Int32) <<< (x3 &&& 31)))), (0, .ref a_n), (1, .int p1)]) hx hb dX1_thingsIn_26 hl (k := 1) rfl rfl (by decide) rfl (fun ls hl => ?_)
      refine lv_goto (tgt := 4) hx hb dX1_thingsIn_29 (by decide) ?_
      exact ih4 (x2 ||| ((1 : Int32) <<< (x3 &&& 31))) (x3 + (1 : Int32)) hf ls H locs (lv_sub hl [0, 1, 2, 3] rfl) hw
def f_X1_elsewhereThan  (n_room : Nat → Int32) (o_room : Nat → Int32) : Option (Int32) :=
  loop2 (fun B4 (x3 : Int32) (x4 : Int32) => (if (8 : Int32) ≤ x4 then some (x3) else gd (inb x4 8) (gd (inb x4 8) ((if (n_room x4.toNatClampNeg) = (o_room x4.toNatClampNeg) then B4 x3 (x4 + (1 : Int32)) else B4 (x3 ||| ((1 : Int32) <<< (x4 &&& 31))) (x4 + (1 : Int32))))))) FU (0 : Int32) (0 : Int32)
theorem hd_X1_elsewhereThan : yX1_elsewhereThan.cls = RX1 ∧ yX1_elsewhereThan.cls ≠ "java/lang/invoke/MethodHandle" ∧ yX1_elsewhereThan.cls ≠ "java/lang/invoke/VarHandle" ∧ (parseMethodDescriptor yX1_elsewhereThan.desc).map (fun d => d.parameters.length) = some 1 := by decide +kernel
set_option maxHeartbeats 4000000 in
set_option maxRecDepth 100000 in
theorem c_X1_elsewhereThan (l : Launch) (dC : Nat → ClassId) (dI : Nat → Nat → Nat) (cI cB cZ : ClassId) (aK aV : Nat → Nat) (a_n a_n_room a_n_bundle a_n_left a_o a_o_room a_o_bundle a_o_left : Nat) (sz : Nat) (n_day : Int32) (n_kept : Int32) (n_room : Nat → Int32) (o_day : Int32) (o_kept : Int32) (o_room : Nat → Int32) (r : Int32) (hf : f_X1_elsewhereThan n_room o_room = some r) : Met l yX1_elsewhereThan wsX1_elsewhereThan ({ frames := 0, cells := 0, slots := 0, locals := 0 } : Jvm.Room) (va_Pc [.ref a_n, .ref a_o] (preW (dC, dI) (tyL cI cB cZ) aK aV sz [(a_n, .inr (1, [.ref a_n_room, .ref a_n_bundle, .ref a_n_left, .int n_day, .int n_kept])), (a_n_room, .inl (cI, 8, .inl n_room)), (a_o, .inr (1, [.ref a_o_room, .ref a_o_bundle, .ref a_o_left, .int o_day, .int o_kept])), (a_o_room, .inl (cI, 8, .inl o_room))])) (va_Qi (fun v (_ : Unit) => v = r) (postW (dC, dI) (tyL cI cB cZ) (va_A [(a_n, .inr (1, [.ref a_n_room, .ref a_n_bundle, .ref a_n_left, .int n_day, .int n_kept])), (a_n_room, .inl (cI, 8, .inl n_room)), (a_o, .inr (1, [.ref a_o_room, .ref a_o_bundle, .ref a_o_left, .int o_day, .int o_kept])), (a_o_room, .inl (cI, 8, .inl o_room))] sz) [(a_n, .inr (1, [.ref a_n_room, .ref a_n_bundle, .ref a_n_left, .int n_day, .int n_kept])), (a_n_room, .inl (cI, 8, .inl n_room)), (a_o, .inr (1, [.ref a_o_room, .ref a_o_bundle, .ref a_o_left, .int o_day, .int o_kept])), (a_o_room, .inl (cI, 8, .inl o_room))]) (va_A [(a_n, .inr (1, [.ref a_n_room, .ref a_n_bundle, .ref a_n_left, .int n_day, .int n_kept])), (a_n_room, .inl (cI, 8, .inl n_room)), (a_o, .inr (1, [.ref a_o_room, .ref a_o_bundle, .ref a_o_left, .int o_day, .int o_kept])), (a_o_room, .inl (cI, 8, .inl o_room))] sz)) 0 0 (va_A [(a_n, .inr (1, [.ref a_n_room, .ref a_n_bundle, .ref a_n_left, .int n_day, .int n_kept])), (a_n_room, .inl (cI, 8, .inl n_room)), (a_o, .inr (1, [.ref a_o_room, .ref a_o_bundle, .ref a_o_left, .int o_day, .int o_kept])), (a_o_room, .inl (cI, 8, .inl o_room))] sz) := by
  refine met_i (cc := cX1_elsewhereThan) (maxL := 4) (own := RX1) (by decide) rfl (Nat.le_of_ble_eq_true rfl) rfl (fun p e s m args below meth c Q A E hret ls H locs hl hw => ?_)
  obtain ⟨⟨hx, hb, hml, hown, hts⟩, hK, hN, hA, hX⟩ := id E
  have hl : lv_has ls 4 [(0, .ref a_n), (1, .ref a_o)] := hl
  have iX1 : ∀ w ∈ wsX10, w ∈ wsX1_elsewhereThan := by decide +kernel
  have kf9 := hts (.fieldLink RX1 9 "FiveThings$Now" "room" "[I") (by decide +kernel)
  unfold f_X1_elsewhereThan at hf
  refine lv_iconst (v := (0 : Int32)) hx hb dX1_elsewhereThan_0 rfl ?_
  refine lv_istore_n (lv' := [(2, .int (0 : Int32)), (0, .ref a_n), (1, .ref a_o)]) hx hb dX1_elsewhereThan_1 rfl hl (by decide) rfl (fun ls hl => ?_)
  refine lv_iconst (v := (0 : Int32)) hx hb dX1_elsewhereThan_2 rfl ?_
  refine lv_istore_n (lv' := [(3, .int (0 : Int32)), (2, .int (0 : Int32)), (0, .ref a_n), (1, .ref a_o)]) hx hb dX1_elsewhereThan_3 rfl hl (by decide) rfl (fun ls hl => ?_)
  refine (loop2_sound (r := r) (P := fun (x3 : Int32) (x4 : Int32) => ∀ (ls : Array Slot) (H : Heap) (locs : List Loc), lv_has ls 4 [(3, .int x4), (2, .int x3), (0, .ref a_n), (1, .ref a_o)] → Wd A s.heap (dC, dI) [(a_n, .inr (1, [.ref a_n_room, .ref a_n_bundle, .ref a_n_left, .int n_day, .int n_kept])), (a_n_room, .inl (cI, 8, .inl n_room)), (a_o, .inr (1, [.ref a_o_room, .ref a_o_bundle, .ref a_o_left, .int o_day, .int o_kept])), (a_o_room, .inl (cI, 8, .inl o_room))] H locs → W p l e ({ frames := 0, cells := 0, slots := 0, locals := 0 } : Jvm.Room) s m args below meth c H locs 0 0 Q (F0 m 4 ls [])) (fun B4 x3 x4 ih4 hf => ?_) _ (0 : Int32) (0 : Int32) hf) ls H locs (lv_sub hl [0, 1, 2, 3] rfl) hw
  intro ls H locs hl hw
  refine lv_iload_n hx hb dX1_elsewhereThan_4 rfl (lv_at hl 0 rfl) ?_
  refine lv_bipush (v := (8 : Int32)) hx hb dX1_elsewhereThan_5 rfl ?_
  refine lv_icmp_ge (tgt := 37) hx hb dX1_elsewhereThan_7 (by decide) (fun kc => ?_) (fun kc => ?_)
  · have hf := if_t hf kc
    refine lv_iload_n hx hb dX1_elsewhereThan_37 rfl (lv_at hl 1 rfl) ?_
    obtain rfl := sm1 hf
    exact hret H locs ls 38 hw dX1_elsewhereThan_38
  · have hf := if_f hf kc
    refine lv_aload_n hx hb dX1_elsewhereThan_10 rfl (lv_at hl 2 rfl) ?_
    refine r_get E hw iX1 0 0 rfl rfl (by decide) kf9 rfl rfl dX1_elsewhereThan_11 ?_
    refine lv_iload_n hx hb dX1_elsewhereThan_14 rfl (lv_at hl 0 rfl) ?_
    obtain ⟨g5, hf⟩ := gd_some hf
    refine r_iald E hw 1 rfl g5 dX1_elsewhereThan_15 ?_
    refine lv_aload_n hx hb dX1_elsewhereThan_16 rfl (lv_at hl 3 rfl) ?_
    refine r_get E hw iX1 2 0 rfl rfl (by decide) kf9 rfl rfl dX1_elsewhereThan_17 ?_
    refine lv_iload_n hx hb dX1_elsewhereThan_20 rfl (lv_at hl 0 rfl) ?_
    obtain ⟨g6, hf⟩ := gd_some hf
    refine r_iald E hw 3 rfl g6 dX1_elsewhereThan_21 ?_
    refine lv_icmp_eq (tgt := 31) hx hb dX1_elsewhereThan_22 (by decide) (fun kc => ?_) (fun kc => ?_)
    · have hf := if_t hf kc
      refine lv_iinc (v := (x4 + (1 : Int32))) (lv' := [(3, .int (x4 + (1 : Int32))), (2, .int x3), (0, .ref a_n), (1, .ref a_o)]) hx hb dX1_elsewhereThan_31 hl (k := 0) rfl rfl (by decide) rfl (fun ls hl => ?_)
      refine lv_goto (tgt := 4) hx hb dX1_elsewhereThan_34 (by decide) ?_
      exact ih4 x3 (x4 + (1 : Int32)) hf ls H locs (lv_sub hl [0, 1, 2, 3] rfl) hw
    · have hf := if_f hf kc
      refine lv_iload_n hx hb dX1_elsewhereThan_25 rfl (lv_at hl 1 rfl) ?_
      refine lv_iconst (v := (1 : Int32)) hx hb dX1_elsewhereThan_26 rfl ?_
      refine lv_iload_n hx hb dX1_elsewhereThan_27 rfl (lv_at hl 0 rfl) ?_
      refine lv_ishl hx hb dX1_elsewhereThan_28 ?_
      refine lv_ior hx hb dX1_elsewhereThan_29 ?_
      refine lv_istore_n (lv' := [(2, .int (x3 ||| ((1 : Int32) <<< (x4 &&& 31)))), (3, .int x4), (0, .ref a_n), (1, .ref a_o)]) hx hb dX1_elsewhereThan_30 rfl hl (by decide) rfl (fun ls hl => ?_)
      refine lv_iinc (v := (x4 + (1 : Int32))) (lv' := [(3, .int (x4 + (1 : Int32))), (2, .int (x3 ||| ((1 : Int32) <<< (x4 &&& 31)))), (0, .ref a_n), (1, .ref a_o)]) hx hb dX1_elsewhereThan_31 hl (k := 1) rfl rfl (by decide) rfl (fun ls hl => ?_)
      refine lv_goto (tgt := 4) hx hb dX1_elsewhereThan_34 (by decide) ?_
      exact ih4 (x3 ||| ((1 : Int32) <<< (x4 &&& 31))) (x4 + (1 : Int32)) hf ls H locs (lv_sub hl [0, 1, 2, 3] rfl) hw
def f_X1_peopleWithLeft  (n_left : Nat → Int32) : Option (Int32) :=
  loop2 (fun B4 (x2 : Int32) (x3 : Int32) => (if (4 : Int32) ≤ x3 then some (x2) else gd (inb x3 4) ((if (n_left x3.toNatClampNeg) ≤ 0 then B4 x2 (x3 + (1 : Int32)) else B4 (x2 ||| ((1 : Int32) <<< (x3 &&& 31))) (x3 + (1 : Int32)))))) FU (0 : Int32) (0 : Int32)
theorem hd_X1_peopleWithLeft : yX1_peopleWithLeft.cls = RX1 ∧ yX1_peopleWithLeft.cls ≠ "java/lang/invoke/MethodHandle" ∧ yX1_peopleWithLeft.cls ≠ "java/lang/invoke/VarHandle" ∧ (parseMethodDescriptor yX1_peopleWithLeft.desc).map (fun d => d.parameters.length) = some 0 := by decide +kernel
set_option maxHeartbeats 4000000 in
set_option maxRecDepth 100000 in
theorem c_X1_peopleWithLeft (l : Launch) (dC : Nat → ClassId) (dI : Nat → Nat → Nat) (cI cB cZ : ClassId) (aK aV : Nat → Nat) (a_n a_n_room a_n_bundle a_n_left : Nat) (sz : Nat) (n_day : Int32) (n_kept : Int32) (n_left : Nat → Int32) (r : Int32) (hf : f_X1_peopleWithLeft n_left = some r) : Met l yX1_peopleWithLeft wsX1_peopleWithLeft ({ frames := 0, cells := 0, slots := 0, locals := 0 } : Jvm.Room) (va_Pc [.ref a_n] (preW (dC, dI) (tyL cI cB cZ) aK aV sz [(a_n, .inr (1, [.ref a_n_room, .ref a_n_bundle, .ref a_n_left, .int n_day, .int n_kept])), (a_n_left, .inl (cI, 4, .inl n_left))])) (va_Qi (fun v (_ : Unit) => v = r) (postW (dC, dI) (tyL cI cB cZ) (va_A [(a_n, .inr (1, [.ref a_n_room, .ref a_n_bundle, .ref a_n_left, .int n_day, .int n_kept])), (a_n_left, .inl (cI, 4, .inl n_left))] sz) [(a_n, .inr (1, [.ref a_n_room, .ref a_n_bundle, .ref a_n_left, .int n_day, .int n_kept])), (a_n_left, .inl (cI, 4, .inl n_left))]) (va_A [(a_n, .inr (1, [.ref a_n_room, .ref a_n_bundle, .ref a_n_left, .int n_day, .int n_kept])), (a_n_left, .inl (cI, 4, .inl n_left))] sz)) 0 0 (va_A [(a_n, .inr (1, [.ref a_n_room, .ref a_n_bundle, .ref a_n_left, .int n_day, .int n_kept])), (a_n_left, .inl (cI, 4, .inl n_left))] sz) := by
  refine met_i (cc := cX1_peopleWithLeft) (maxL := 3) (own := RX1) (by decide) rfl (Nat.le_of_ble_eq_true rfl) rfl (fun p e s m args below meth c Q A E hret ls H locs hl hw => ?_)
  obtain ⟨⟨hx, hb, hml, hown, hts⟩, hK, hN, hA, hX⟩ := id E
  have hl : lv_has ls 3 [(0, .ref a_n)] := hl
  have iX1 : ∀ w ∈ wsX10, w ∈ wsX1_peopleWithLeft := by decide +kernel
  have kf18 := hts (.fieldLink RX1 18 "FiveThings$Now" "left" "[I") (by decide +kernel)
  unfold f_X1_peopleWithLeft at hf
  refine lv_iconst (v := (0 : Int32)) hx hb dX1_peopleWithLeft_0 rfl ?_
  refine lv_istore_n (lv' := [(1, .int (0 : Int32)), (0, .ref a_n)]) hx hb dX1_peopleWithLeft_1 rfl hl (by decide) rfl (fun ls hl => ?_)
  refine lv_iconst (v := (0 : Int32)) hx hb dX1_peopleWithLeft_2 rfl ?_
  refine lv_istore_n (lv' := [(2, .int (0 : Int32)), (1, .int (0 : Int32)), (0, .ref a_n)]) hx hb dX1_peopleWithLeft_3 rfl hl (by decide) rfl (fun ls hl => ?_)
  refine (loop2_sound (r := r) (P := fun (x2 : Int32) (x3 : Int32) => ∀ (ls : Array Slot) (H : Heap) (locs : List Loc), lv_has ls 3 [(2, .int x3), (1, .int x2), (0, .ref a_n)] → Wd A s.heap (dC, dI) [(a_n, .inr (1, [.ref a_n_room, .ref a_n_bundle, .ref a_n_left, .int n_day, .int n_kept])), (a_n_left, .inl (cI, 4, .inl n_left))] H locs → W p l e ({ frames := 0, cells := 0, slots := 0, locals := 0 } : Jvm.Room) s m args below meth c H locs 0 0 Q (F0 m 4 ls [])) (fun B4 x2 x3 ih4 hf => ?_) _ (0 : Int32) (0 : Int32) hf) ls H locs (lv_sub hl [0, 1, 2] rfl) hw
  intro ls H locs hl hw
  refine lv_iload_n hx hb dX1_peopleWithLeft_4 rfl (lv_at hl 0 rfl) ?_
  refine lv_iconst (v := (4 : Int32)) hx hb dX1_peopleWithLeft_5 rfl ?_
  refine lv_icmp_ge (tgt := 30) hx hb dX1_peopleWithLeft_6 (by decide) (fun kc => ?_) (fun kc => ?_)
  · have hf := if_t hf kc
    refine lv_iload_n hx hb dX1_peopleWithLeft_30 rfl (lv_at hl 1 rfl) ?_
    obtain rfl := sm1 hf
    exact hret H locs ls 31 hw dX1_peopleWithLeft_31
  · have hf := if_f hf kc
    refine lv_aload_n hx hb dX1_peopleWithLeft_9 rfl (lv_at hl 2 rfl) ?_
    refine r_get E hw iX1 0 2 rfl rfl (by decide) kf18 rfl rfl dX1_peopleWithLeft_10 ?_
    refine lv_iload_n hx hb dX1_peopleWithLeft_13 rfl (lv_at hl 0 rfl) ?_
    obtain ⟨g4, hf⟩ := gd_some hf
    refine r_iald E hw 1 rfl g4 dX1_peopleWithLeft_14 ?_
    refine lv_if_le (tgt := 24) hx hb dX1_peopleWithLeft_15 (by decide) (fun kc => ?_) (fun kc => ?_)
    · have hf := if_t hf kc
      refine lv_iinc (v := (x3 + (1 : Int32))) (lv' := [(2, .int (x3 + (1 : Int32))), (1, .int x2), (0, .ref a_n)]) hx hb dX1_peopleWithLeft_24 hl (k := 0) rfl rfl (by decide) rfl (fun ls hl => ?_)
      refine lv_goto (tgt := 4) hx hb dX1_peopleWithLeft_27 (by decide) ?_
      exact ih4 x2 (x3 + (1 : Int32)) hf ls H locs (lv_sub hl [0, 1, 2] rfl) hw
    · have hf := if_f hf kc
      refine lv_iload_n hx hb dX1_peopleWithLeft_18 rfl (lv_at hl 1 rfl) ?_
      refine lv_iconst (v := (1 : Int32)) hx hb dX1_peopleWithLeft_19 rfl ?_
      refine lv_iload_n hx hb dX1_peopleWithLeft_20 rfl (lv_at hl 0 rfl) ?_
      refine lv_ishl hx hb dX1_peopleWithLeft_21 ?_
      refine lv_ior hx hb dX1_peopleWithLeft_22 ?_
      refine lv_istore_n (lv' := [(1, .int (x2 ||| ((1 : Int32) <<< (x3 &&& 31)))), (2, .int x3), (0, .ref a_n)]) hx hb dX1_peopleWithLeft_23 rfl hl (by decide) rfl (fun ls hl => ?_)
      refine lv_iinc (v := (x3 + (1 : Int32))) (lv' := [(2, .int (x3 + (1 : Int32))), (1, .int (x2 ||| ((1 : Int32) <<< (x3 &&& 31)))), (0, .ref a_n)]) hx hb dX1_peopleWithLeft_24 hl (k := 1) rfl rfl (by decide) rfl (fun ls hl => ?_)
      refine lv_goto (tgt := 4) hx hb dX1_peopleWithLeft_27 (by decide) ?_
      exact ih4 (x2 ||| ((1 : Int32) <<< (x3 &&& 31))) (x3 + (1 : Int32)) hf ls H locs (lv_sub hl [0, 1, 2] rfl) hw
def f_X1_leftTogether (p1 : Int32) (n_left : Nat → Int32) : Option (Int32) :=
  loop2 (fun B4 (x4 : Int32) (x5 : Int32) => (if (4 : Int32) ≤ x5 then some (x4) else bd1 (f_X6_has p1 x5) (fun r6 => (if r6 = 0 then B4 x4 (x5 + (1 : Int32)) else gd (inb x5 4) (B4 (x4 + (n_left x5.toNatClampNeg)) (x5 + (1 : Int32))))))) FU (0 : Int32) (0 : Int32)
theorem hd_X1_leftTogether : yX1_leftTogether.cls = RX1 ∧ yX1_leftTogether.cls ≠ "java/lang/invoke/MethodHandle" ∧ yX1_leftTogether.cls ≠ "java/lang/invoke/VarHandle" ∧ (parseMethodDescriptor yX1_leftTogether.desc).map (fun d => d.parameters.length) = some 1 := by decide +kernel
set_option maxHeartbeats 4000000 in
set_option maxRecDepth 100000 in
theorem c_X1_leftTogether (l : Launch) (dC : Nat → ClassId) (dI : Nat → Nat → Nat) (cI cB cZ : ClassId) (aK aV : Nat → Nat) (a_n a_n_room a_n_bundle a_n_left : Nat) (sz : Nat) (n_day : Int32) (n_kept : Int32) (n_left : Nat → Int32) (p1 : Int32) (r : Int32) (hf : f_X1_leftTogether p1 n_left = some r) : Met l yX1_leftTogether wsX1_leftTogether ({ frames := 1, cells := 0, slots := 0, locals := 21 } : Jvm.Room) (va_Pc [.ref a_n, .int p1] (preW (dC, dI) (tyL cI cB cZ) aK aV sz [(a_n, .inr (1, [.ref a_n_room, .ref a_n_bundle, .ref a_n_left, .int n_day, .int n_kept])), (a_n_left, .inl (cI, 4, .inl n_left))])) (va_Qi (fun v (_ : Unit) => v = r) (postW (dC, dI) (tyL cI cB cZ) (va_A [(a_n, .inr (1, [.ref a_n_room, .ref a_n_bundle, .ref a_n_left, .int n_day, .int n_kept])), (a_n_left, .inl (cI, 4, .inl n_left))] sz) [(a_n, .inr (1, [.ref a_n_room, .ref a_n_bundle, .ref a_n_left, .int n_day, .int n_kept])), (a_n_left, .inl (cI, 4, .inl n_left))]) (va_A [(a_n, .inr (1, [.ref a_n_room, .ref a_n_bundle, .ref a_n_left, .int n_day, .int n_kept])), (a_n_left, .inl (cI, 4, .inl n_left))] sz)) 0 0 (va_A [(a_n, .inr (1, [.ref a_n_room, .ref a_n_bundle, .ref a_n_left, .int n_day, .int n_kept])), (a_n_left, .inl (cI, 4, .inl n_left))] sz) := by
  refine met_i (cc := cX1_leftTogether) (maxL := 4) (own := RX1) (by decide) rfl (Nat.le_of_ble_eq_true rfl) rfl (fun p e s m args below meth c Q A E hret ls H locs hl hw => ?_)
  obtain ⟨⟨hx, hb, hml, hown, hts⟩, hK, hN, hA, hX⟩ := id E
  have hl : lv_has ls 4 [(0, .ref a_n), (1, .int p1)] := hl
  have iX1 : ∀ w ∈ wsX10, w ∈ wsX1_leftTogether := by decide +kernel
  have ks54 := hts (.static yX6_has) (by decide +kernel)
  have kt54 := hts (.initialized RX6) (by decide +kernel)
  have ku54 : va_Nw (.methodLinkNest RX1 54 yX6_has "FiveThings") s := hN _ (by decide +kernel)
  have kf18 := hts (.fieldLink RX1 18 "FiveThings$Now" "left" "[I") (by decide +kernel)
  unfold f_X1_leftTogether at hf
  refine lv_iconst (v := (0 : Int32)) hx hb dX1_leftTogether_0 rfl ?_
  refine lv_istore_n (lv' := [(2, .int (0 : Int32)), (0, .ref a_n), (1, .int p1)]) hx hb dX1_leftTogether_1 rfl hl (by decide) rfl (fun ls hl => ?_)
  refine lv_iconst (v := (0 : Int32)) hx hb dX1_leftTogether_2 rfl ?_
  refine lv_istore_n (lv' := [(3, .int (0 : Int32)), (2, .int (0 : Int32)), (0, .ref a_n), (1, .int p1)]) hx hb dX1_leftTogether_3 rfl hl (by decide) rfl (fun ls hl => ?_)
  refine (loop2_sound (r := r) (P := fun (x4 : Int32) (x5 : Int32) => ∀ (ls : Array Slot) (H : Heap) (locs : List Loc), lv_has ls 4 [(3, .int x5), (2, .int x4), (0, .ref a_n), (1, .int p1)] → Wd A s.heap (dC, dI) [(a_n, .inr (1, [.ref a_n_room, .ref a_n_bundle, .ref a_n_left, .int n_day, .int n_kept])), (a_n_left, .inl (cI, 4, .inl n_left))] H locs → W p l e ({ frames := 1, cells := 0, slots := 0, locals := 21 } : Jvm.Room) s m args below meth c H locs 0 0 Q (F0 m 4 ls [])) (fun B4 x4 x5 ih4 hf => ?_) _ (0 : Int32) (0 : Int32) hf) ls H locs (lv_sub hl [0, 1, 2, 3] rfl) hw
  intro ls H locs hl hw
  refine lv_iload_n hx hb dX1_leftTogether_4 rfl (lv_at hl 0 rfl) ?_
  refine lv_iconst (v := (4 : Int32)) hx hb dX1_leftTogether_5 rfl ?_
  refine lv_icmp_ge (tgt := 32) hx hb dX1_leftTogether_6 (by decide) (fun kc => ?_) (fun kc => ?_)
  · have hf := if_t hf kc
    refine lv_iload_n hx hb dX1_leftTogether_32 rfl (lv_at hl 1 rfl) ?_
    obtain rfl := sm1 hf
    exact hret H locs ls 33 hw dX1_leftTogether_33
  · have hf := if_f hf kc
    refine lv_iload_n hx hb dX1_leftTogether_9 rfl (lv_at hl 3 rfl) ?_
    refine lv_iload_n hx hb dX1_leftTogether_10 rfl (lv_at hl 0 rfl) ?_
    obtain ⟨r6, hu7, hf⟩ := bd1_some hf
    refine cl_i (wr := [(a_n, .inr (1, [.ref a_n_room, .ref a_n_bundle, .ref a_n_left, .int n_day, .int n_kept])), (a_n_left, .inl (cI, 4, .inl n_left))]) (w2 := [(a_n, .inr (1, [.ref a_n_room, .ref a_n_bundle, .ref a_n_left, .int n_day, .int n_kept])), (a_n_left, .inl (cI, 4, .inl n_left))]) E hw [] [0, 1] [0, 1] (va_runSN (As := [.int p1, .int x5]) (rest := []) E.1 (c_X6_has l dC dI cI cB cZ aK aV H.size p1 x5 r6 hu7) ⟨va_cnB 2 hts gX1_leftTogether_X6_has_n54 rfl rfl rfl ku54 kt54 hd_X6_has ⟨Nat.le_of_ble_eq_true rfl, Nat.le_of_ble_eq_true rfl⟩, ks54, trivial⟩ (pre_S E hw [] rfl rfl) rfl rfl hl.1 rfl (lv_room (Nat.le_of_ble_eq_true rfl)) dX1_leftTogether_11 ⟨Nat.zero_le _, Nat.zero_le _⟩) rfl rfl rfl (by decide) rfl rfl (fun H locs hw => ?_)
    refine lv_if_eq (tgt := 26) hx hb dX1_leftTogether_14 (by decide) (fun kc => ?_) (fun kc => ?_)
    · have hf := if_t hf kc
      refine lv_iinc (v := (x5 + (1 : Int32))) (lv' := [(3, .int (x5 + (1 : Int32))), (2, .int x4), (0, .ref a_n), (1, .int p1)]) hx hb dX1_leftTogether_26 hl (k := 0) rfl rfl (by decide) rfl (fun ls hl => ?_)
      refine lv_goto (tgt := 4) hx hb dX1_leftTogether_29 (by decide) ?_
      exact ih4 x4 (x5 + (1 : Int32)) hf ls H locs (lv_sub hl [0, 1, 2, 3] rfl) hw
    · have hf := if_f hf kc
      refine lv_iload_n hx hb dX1_leftTogether_17 rfl (lv_at hl 1 rfl) ?_
      refine lv_aload_n hx hb dX1_leftTogether_18 rfl (lv_at hl 2 rfl) ?_
      refine r_get E hw iX1 0 2 rfl rfl (by decide) kf18 rfl rfl dX1_leftTogether_19 ?_
      refine lv_iload_n hx hb dX1_leftTogether_22 rfl (lv_at hl 0 rfl) ?_
      obtain ⟨g8, hf⟩ := gd_some hf
      refine r_iald E hw 1 rfl g8 dX1_leftTogether_23 ?_
      refine lv_iadd hx hb dX1_leftTogether_24 ?_
      refine lv_istore_n (lv' := [(2, .int (x4 + (n_left x5.toNatClampNeg))), (3, .int x5), (0, .ref a_n), (1, .int p1)]) hx hb dX1_leftTogether_25 rfl hl (by decide) rfl (fun ls hl => ?_)
      refine lv_iinc (v := (x5 + (1 : Int32))) (lv' := [(3, .int (x5 + (1 : Int32))), (2, .int (x4 + (n_left x5.toNatClampNeg))), (0, .ref a_n), (1, .int p1)]) hx hb dX1_leftTogether_26 hl (k := 1) rfl rfl (by decide) rfl (fun ls hl => ?_)
      refine lv_goto (tgt := 4) hx hb dX1_leftTogether_29 (by decide) ?_
      exact ih4 (x4 + (n_left x5.toNatClampNeg)) (x5 + (1 : Int32)) hf ls H locs (lv_sub hl [0, 1, 2, 3] rfl) hw
def f_X1_allHaveLeft (p1 : Int32) (n_left : Nat → Int32) : Option (Int32) :=
  bd1 (f_X1_peopleWithLeft n_left) (fun r1 => (if (p1 &&& (r1 ^^^ (-1 : Int32))) = 0 then some ((1 : Int32)) else some ((0 : Int32))))
theorem hd_X1_allHaveLeft : yX1_allHaveLeft.cls = RX1 ∧ yX1_allHaveLeft.cls ≠ "java/lang/invoke/MethodHandle" ∧ yX1_allHaveLeft.cls ≠ "java/lang/invoke/VarHandle" ∧ (parseMethodDescriptor yX1_allHaveLeft.desc).map (fun d => d.parameters.length) = some 1 := by decide +kernel
set_option maxHeartbeats 4000000 in
set_option maxRecDepth 100000 in
theorem c_X1_allHaveLeft (l : Launch) (dC : Nat → ClassId) (dI : Nat → Nat → Nat) (cI cB cZ : ClassId) (aK aV : Nat → Nat) (a_n a_n_room a_n_bundle a_n_left : Nat) (sz : Nat) (n_day : Int32) (n_kept : Int32) (n_left : Nat → Int32) (p1 : Int32) (r : Int32) (hf : f_X1_allHaveLeft p1 n_left = some r) : Met l yX1_allHaveLeft wsX1_allHaveLeft ({ frames := 1, cells := 0, slots := 0, locals := 22 } : Jvm.Room) (va_Pc [.ref a_n, .int p1] (preW (dC, dI) (tyL cI cB cZ) aK aV sz [(a_n, .inr (1, [.ref a_n_room, .ref a_n_bundle, .ref a_n_left, .int n_day, .int n_kept])), (a_n_left, .inl (cI, 4, .inl n_left))])) (va_Qi (fun v (_ : Unit) => v = r) (postW (dC, dI) (tyL cI cB cZ) (va_A [(a_n, .inr (1, [.ref a_n_room, .ref a_n_bundle, .ref a_n_left, .int n_day, .int n_kept])), (a_n_left, .inl (cI, 4, .inl n_left))] sz) [(a_n, .inr (1, [.ref a_n_room, .ref a_n_bundle, .ref a_n_left, .int n_day, .int n_kept])), (a_n_left, .inl (cI, 4, .inl n_left))]) (va_A [(a_n, .inr (1, [.ref a_n_room, .ref a_n_bundle, .ref a_n_left, .int n_day, .int n_kept])), (a_n_left, .inl (cI, 4, .inl n_left))] sz)) 0 0 (va_A [(a_n, .inr (1, [.ref a_n_room, .ref a_n_bundle, .ref a_n_left, .int n_day, .int n_kept])), (a_n_left, .inl (cI, 4, .inl n_left))] sz) := by
  refine met_z (cc := cX1_allHaveLeft) (maxL := 2) (own := RX1) (by decide) rfl (Nat.le_of_ble_eq_true rfl) rfl (fun p e s m args below meth c Q A E hret ls H locs hl hw => ?_)
  obtain ⟨⟨hx, hb, hml, hown, hts⟩, hK, hN, hA, hX⟩ := id E
  have hl : lv_has ls 2 [(0, .ref a_n), (1, .int p1)] := hl
  unfold f_X1_allHaveLeft at hf
  refine lv_iload_n hx hb dX1_allHaveLeft_0 rfl (lv_at hl 1 rfl) ?_
  refine lv_aload_n hx hb dX1_allHaveLeft_1 rfl (lv_at hl 0 rfl) ?_
  obtain ⟨r1, hu2, hf⟩ := bd1_some hf
  refine cl_i (wr := []) (w2 := [(a_n, .inr (1, [.ref a_n_room, .ref a_n_bundle, .ref a_n_left, .int n_day, .int n_kept])), (a_n_left, .inl (cI, 4, .inl n_left))]) E hw [0, 1] [] [0, 1] (va_runV (As := []) (rest := [.int p1]) E.1 (c_X1_peopleWithLeft l dC dI cI cB cZ aK aV a_n a_n_room a_n_bundle a_n_left H.size n_day n_kept n_left r1 hu2) (cwV 0 hts gX1_allHaveLeft_X1_peopleWithLeft rfl rfl rfl hd_X1_peopleWithLeft ⟨Nat.le_of_ble_eq_true rfl, Nat.le_of_ble_eq_true rfl⟩) (pre_V E hw [0, 1] rfl rfl rfl rfl) rfl rfl hl.1 rfl (lv_room (Nat.le_of_ble_eq_true rfl)) dX1_allHaveLeft_2 ⟨Nat.zero_le _, Nat.zero_le _⟩) rfl rfl rfl (by decide) rfl rfl (fun H locs hw => ?_)
  refine lv_iconst (v := (-1 : Int32)) hx hb dX1_allHaveLeft_5 rfl ?_
  refine lv_ixor hx hb dX1_allHaveLeft_6 ?_
  refine lv_iand hx hb dX1_allHaveLeft_7 ?_
  refine lv_if_ne (tgt := 15) hx hb dX1_allHaveLeft_8 (by decide) (fun kc => ?_) (fun kc => ?_)
  · have hf := if_f hf kc
    refine lv_iconst (v := (0 : Int32)) hx hb dX1_allHaveLeft_15 rfl ?_
    obtain rfl := sm1 hf
    exact hret H locs ls 16 hw (Or.inl rfl) dX1_allHaveLeft_16
  · have hf := if_t hf kc
    refine lv_iconst (v := (1 : Int32)) hx hb dX1_allHaveLeft_11 rfl ?_
    refine lv_goto (tgt := 16) hx hb dX1_allHaveLeft_12 (by decide) ?_
    obtain rfl := sm1 hf
    exact hret H locs ls 16 hw (Or.inr rfl) dX1_allHaveLeft_16
def f_X1_spend (p1 : Int32) (n_left : Nat → Int32) : Option ((Nat → Int32)) :=
  loop2 (fun B2 (x5 : Int32) (x6 : Nat → Int32) => (if (4 : Int32) ≤ x5 then some (x6) else bd1 (f_X6_has p1 x5) (fun r7 => (if r7 = 0 then B2 (x5 + (1 : Int32)) x6 else gd (inb x5 4) (gd (inb x5 4) (B2 (x5 + (1 : Int32)) (upd x6 x5.toNatClampNeg ((x6 x5.toNatClampNeg) - (1 : Int32))))))))) FU (0 : Int32) n_left
theorem hd_X1_spend : yX1_spend.cls = RX1 ∧ yX1_spend.cls ≠ "java/lang/invoke/MethodHandle" ∧ yX1_spend.cls ≠ "java/lang/invoke/VarHandle" ∧ (parseMethodDescriptor yX1_spend.desc).map (fun d => d.parameters.length) = some 1 := by decide +kernel
set_option maxHeartbeats 4000000 in
set_option maxRecDepth 100000 in
theorem c_X1_spend (l : Launch) (dC : Nat → ClassId) (dI : Nat → Nat → Nat) (cI cB cZ : ClassId) (aK aV : Nat → Nat) (a_n a_n_room a_n_bundle a_n_left : Nat) (sz : Nat) (n_day : Int32) (n_kept : Int32) (n_left : Nat → Int32) (p1 : Int32) (q0 : Nat → Int32) (hf : f_X1_spend p1 n_left = some q0) : Met l yX1_spend wsX1_spend ({ frames := 1, cells := 0, slots := 0, locals := 21 } : Jvm.Room) (va_Pc [.ref a_n, .int p1] (preW (dC, dI) (tyL cI cB cZ) aK aV sz [(a_n, .inr (1, [.ref a_n_room, .ref a_n_bundle, .ref a_n_left, .int n_day, .int n_kept])), (a_n_left, .inl (cI, 4, .inl n_left))])) (va_Qv (fun (_ : Unit) => True) (postW (dC, dI) (tyL cI cB cZ) (va_A [(a_n, .inr (1, [.ref a_n_room, .ref a_n_bundle, .ref a_n_left, .int n_day, .int n_kept])), (a_n_left, .inl (cI, 4, .inl n_left))] sz) [(a_n, .inr (1, [.ref a_n_room, .ref a_n_bundle, .ref a_n_left, .int n_day, .int n_kept])), (a_n_left, .inl (cI, 4, .inl q0))]) (va_A [(a_n, .inr (1, [.ref a_n_room, .ref a_n_bundle, .ref a_n_left, .int n_day, .int n_kept])), (a_n_left, .inl (cI, 4, .inl n_left))] sz)) 0 0 (va_A [(a_n, .inr (1, [.ref a_n_room, .ref a_n_bundle, .ref a_n_left, .int n_day, .int n_kept])), (a_n_left, .inl (cI, 4, .inl n_left))] sz) := by
  refine met_v (cc := cX1_spend) (maxL := 3) (own := RX1) (by decide) rfl (Nat.le_of_ble_eq_true rfl) rfl (fun p e s m args below meth c Q A E hret ls H locs hl hw => ?_)
  obtain ⟨⟨hx, hb, hml, hown, hts⟩, hK, hN, hA, hX⟩ := id E
  have hl : lv_has ls 3 [(0, .ref a_n), (1, .int p1)] := hl
  have iX1 : ∀ w ∈ wsX10, w ∈ wsX1_spend := by decide +kernel
  have ks54 := hts (.static yX6_has) (by decide +kernel)
  have kt54 := hts (.initialized RX6) (by decide +kernel)
  have ku54 : va_Nw (.methodLinkNest RX1 54 yX6_has "FiveThings") s := hN _ (by decide +kernel)
  have kf18 := hts (.fieldLink RX1 18 "FiveThings$Now" "left" "[I") (by decide +kernel)
  unfold f_X1_spend at hf
  refine lv_iconst (v := (0 : Int32)) hx hb dX1_spend_0 rfl ?_
  refine lv_istore_n (lv' := [(2, .int (0 : Int32)), (0, .ref a_n), (1, .int p1)]) hx hb dX1_spend_1 rfl hl (by decide) rfl (fun ls hl => ?_)
  refine (loop2_sound (r := q0) (P := fun (x5 : Int32) (x6 : Nat → Int32) => ∀ (ls : Array Slot) (H : Heap) (locs : List Loc), lv_has ls 3 [(2, .int x5), (0, .ref a_n), (1, .int p1)] → Wd A s.heap (dC, dI) [(a_n, .inr (1, [.ref a_n_room, .ref a_n_bundle, .ref a_n_left, .int n_day, .int n_kept])), (a_n_left, .inl (cI, 4, .inl x6))] H locs → W p l e ({ frames := 1, cells := 0, slots := 0, locals := 21 } : Jvm.Room) s m args below meth c H locs 0 0 Q (F0 m 2 ls [])) (fun B2 x5 x6 ih2 hf => ?_) _ (0 : Int32) n_left hf) ls H locs (lv_sub hl [0, 1, 2] rfl) hw
  intro ls H locs hl hw
  refine lv_iload_n hx hb dX1_spend_2 rfl (lv_at hl 0 rfl) ?_
  refine lv_iconst (v := (4 : Int32)) hx hb dX1_spend_3 rfl ?_
  refine lv_icmp_ge (tgt := 31) hx hb dX1_spend_4 (by decide) (fun kc => ?_) (fun kc => ?_)
  · have hf := if_t hf kc
    obtain rfl := sm1 hf
    exact hret H locs ls 31 hw dX1_spend_31
  · have hf := if_f hf kc
    refine lv_iload_n hx hb dX1_spend_7 rfl (lv_at hl 2 rfl) ?_
    refine lv_iload_n hx hb dX1_spend_8 rfl (lv_at hl 0 rfl) ?_
    obtain ⟨r7, hu8, hf⟩ := bd1_some hf
    refine cl_i (wr := [(a_n, .inr (1, [.ref a_n_room, .ref a_n_bundle, .ref a_n_left, .int n_day, .int n_kept])), (a_n_left, .inl (cI, 4, .inl x6))]) (w2 := [(a_n, .inr (1, [.ref a_n_room, .ref a_n_bundle, .ref a_n_left, .int n_day, .int n_kept])), (a_n_left, .inl (cI, 4, .inl x6))]) E hw [] [0, 1] [0, 1] (va_runSN (As := [.int p1, .int x5]) (rest := []) E.1 (c_X6_has l dC dI cI cB cZ aK aV H.size p1 x5 r7 hu8) ⟨va_cnB 2 hts gX1_spend_X6_has_n54 rfl rfl rfl ku54 kt54 hd_X6_has ⟨Nat.le_of_ble_eq_true rfl, Nat.le_of_ble_eq_true rfl⟩, ks54, trivial⟩ (pre_S E hw [] rfl rfl) rfl rfl hl.1 rfl (lv_room (Nat.le_of_ble_eq_true rfl)) dX1_spend_9 ⟨Nat.zero_le _, Nat.zero_le _⟩) rfl rfl rfl (by decide) rfl rfl (fun H locs hw => ?_)
    refine lv_if_eq (tgt := 25) hx hb dX1_spend_12 (by decide) (fun kc => ?_) (fun kc => ?_)
    · have hf := if_t hf kc
      refine lv_iinc (v := (x5 + (1 : Int32))) (lv' := [(2, .int (x5 + (1 : Int32))), (0, .ref a_n), (1, .int p1)]) hx hb dX1_spend_25 hl (k := 0) rfl rfl (by decide) rfl (fun ls hl => ?_)
      refine lv_goto (tgt := 2) hx hb dX1_spend_28 (by decide) ?_
      exact ih2 (x5 + (1 : Int32)) x6 hf ls H locs (lv_sub hl [0, 1, 2] rfl) hw
    · have hf := if_f hf kc
      refine lv_aload_n hx hb dX1_spend_15 rfl (lv_at hl 1 rfl) ?_
      refine r_get E hw iX1 0 2 rfl rfl (by decide) kf18 rfl rfl dX1_spend_16 ?_
      refine lv_iload_n hx hb dX1_spend_19 rfl (lv_at hl 0 rfl) ?_
      refine lv_dup2_11 hx hb dX1_spend_20 rfl rfl ?_
      obtain ⟨g9, hf⟩ := gd_some hf
      refine r_iald E hw 1 rfl g9 dX1_spend_21 ?_
      refine lv_iconst (v := (1 : Int32)) hx hb dX1_spend_22 rfl ?_
      refine lv_isub hx hb dX1_spend_23 ?_
      obtain ⟨g10, hf⟩ := gd_some hf
      refine r_iast E hw 1 rfl g10 [(a_n, .inr (1, [.ref a_n_room, .ref a_n_bundle, .ref a_n_left, .int n_day, .int n_kept])), (a_n_left, .inl (cI, 4, .inl (upd x6 x5.toNatClampNeg ((x6 x5.toNatClampNeg) - (1 : Int32)))))] rfl dX1_spend_24 (fun H locs hw => ?_)
      refine lv_iinc (v := (x5 + (1 : Int32))) (lv' := [(2, .int (x5 + (1 : Int32))), (0, .ref a_n), (1, .int p1)]) hx hb dX1_spend_25 hl (k := 0) rfl rfl (by decide) rfl (fun ls hl => ?_)
      refine lv_goto (tgt := 2) hx hb dX1_spend_28 (by decide) ?_
      exact ih2 (x5 + (1 : Int32)) (upd x6 x5.toNatClampNeg ((x6 x5.toNatClampNeg) - (1 : Int32))) hf ls H locs (lv_sub hl [0, 1, 2] rfl) hw
