def f_X5_isDue (p1 : Int32) (h_things : Int32) (h_wanted : Nat → Int32) (n_room : Nat → Int32) : Option (Int32) :=
  loop1 (fun B2 (x6 : Int32) => (if h_things ≤ x6 then some ((0 : Int32)) else bd1 (f_X6_has p1 x6) (fun r7 => (if r7 = 0 then B2 (x6 + (1 : Int32)) else gd (inb x6 8) ((if (h_wanted x6.toNatClampNeg) = (-9 : Int32) then B2 (x6 + (1 : Int32)) else gd (inb x6 8) (gd (inb x6 8) ((if (h_wanted x6.toNatClampNeg) = (n_room x6.toNatClampNeg) then B2 (x6 + (1 : Int32)) else some ((1 : Int32))))))))))) FU (0 : Int32)
theorem hd_X5_isDue : yX5_isDue.cls = RX5 ∧ yX5_isDue.cls ≠ "java/lang/invoke/MethodHandle" ∧ yX5_isDue.cls ≠ "java/lang/invoke/VarHandle" ∧ (parseMethodDescriptor yX5_isDue.desc).map (fun d => d.parameters.length) = some 1 := by decide +kernel
set_option maxHeartbeats 4000000 in
set_option maxRecDepth 100000 in
theorem c_X5_isDue (l : Launch) (dC : Nat → ClassId) (dI : Nat → Nat → Nat) (cI cB cZ : ClassId) (aK aV : Nat → Nat) (a_w a_h a_n a_w_shared a_h_lifts a_h_prices a_h_starts a_h_hands a_h_wanted a_n_room a_n_bundle a_n_left : Nat) (sz : Nat) (h_rooms : Int32) (h_people : Int32) (h_things : Int32) (h_wanted : Nat → Int32) (n_day : Int32) (n_kept : Int32) (n_room : Nat → Int32) (p1 : Int32) (r : Int32) (hf : f_X5_isDue p1 h_things h_wanted n_room = some r) : Met l yX5_isDue wsX5_isDue ({ frames := 1, cells := 0, slots := 0, locals := 21 } : Jvm.Room) (va_Pc [.ref a_w, .int p1] (preW (dC, dI) (tyL cI cB cZ) aK aV sz [(a_w, .inr (5, [.ref a_h, .ref a_n, .ref a_w_shared])), (a_h, .inr (0, [.int h_rooms, .int h_people, .int h_things, .ref a_h_lifts, .ref a_h_prices, .ref a_h_starts, .ref a_h_hands, .ref a_h_wanted])), (a_h_wanted, .inl (cI, 8, .inl h_wanted)), (a_n, .inr (1, [.ref a_n_room, .ref a_n_bundle, .ref a_n_left, .int n_day, .int n_kept])), (a_n_room, .inl (cI, 8, .inl n_room))])) (va_Qi (fun v (_ : Unit) => v = r) (postW (dC, dI) (tyL cI cB cZ) (va_A [(a_w, .inr (5, [.ref a_h, .ref a_n, .ref a_w_shared])), (a_h, .inr (0, [.int h_rooms, .int h_people, .int h_things, .ref a_h_lifts, .ref a_h_prices, .ref a_h_starts, .ref a_h_hands, .ref a_h_wanted])), (a_h_wanted, .inl (cI, 8, .inl h_wanted)), (a_n, .inr (1, [.ref a_n_room, .ref a_n_bundle, .ref a_n_left, .int n_day, .int n_kept])), (a_n_room, .inl (cI, 8, .inl n_room))] sz) [(a_w, .inr (5, [.ref a_h, .ref a_n, .ref a_w_shared])), (a_h, .inr (0, [.int h_rooms, .int h_people, .int h_things, .ref a_h_lifts, .ref a_h_prices, .ref a_h_starts, .ref a_h_hands, .ref a_h_wanted])), (a_h_wanted, .inl (cI, 8, .inl h_wanted)), (a_n, .inr (1, [.ref a_n_room, .ref a_n_bundle, .ref a_n_left, .int n_day, .int n_kept])), (a_n_room, .inl (cI, 8, .inl n_room))]) (va_A [(a_w, .inr (5, [.ref a_h, .ref a_n, .ref a_w_shared])), (a_h, .inr (0, [.int h_rooms, .int h_people, .int h_things, .ref a_h_lifts, .ref a_h_prices, .ref a_h_starts, .ref a_h_hands, .ref a_h_wanted])), (a_h_wanted, .inl (cI, 8, .inl h_wanted)), (a_n, .inr (1, [.ref a_n_room, .ref a_n_bundle, .ref a_n_left, .int n_day, .int n_kept])), (a_n_room, .inl (cI, 8, .inl n_room))] sz)) 0 0 (va_A [(a_w, .inr (5, [.ref a_h, .ref a_n, .ref a_w_shared])), (a_h, .inr (0, [.int h_rooms, .int h_people, .int h_things, .ref a_h_lifts, .ref a_h_prices, .ref a_h_starts, .ref a_h_hands, .ref a_h_wanted])), (a_h_wanted, .inl (cI, 8, .inl h_wanted)), (a_n, .inr (1, [.ref a_n_room, .ref a_n_bundle, .ref a_n_left, .int n_day, .int n_kept])), (a_n_room, .inl (cI, 8, .inl n_room))] sz) := by
  refine met_z (cc := cX5_isDue) (maxL := 3) (own := RX5) (by decide) rfl (Nat.le_of_ble_eq_true rfl) rfl (fun p e s m args below meth c Q A E hret ls H locs hl hw => ?_)
  obtain ⟨⟨hx, hb, hml, hown, hts⟩, hK, hN, hA, hX⟩ := id E
  have hl : lv_has ls 3 [(0, .ref a_w), (1, .int p1)] := hl
  have iX0 : ∀ w ∈ wsX00, w ∈ wsX5_isDue := by decide +kernel
  have iX1 : ∀ w ∈ wsX10, w ∈ wsX5_isDue := by decide +kernel
  have iX5 : ∀ w ∈ wsX50, w ∈ wsX5_isDue := by decide +kernel
  have kf15 := hts (.fieldLink RX5 15 "FiveThings$Work" "house" "LFiveThings$House;") (by decide +kernel)
  have kf23 := nw_F (own := "FiveThings$Work") (i := 23) (ref := "FiveThings$House") (n := "things") (d := "I") (h := "FiveThings") (args := args) hN (by decide +kernel)
  have ks46 := hts (.static yX6_has) (by decide +kernel)
  have kt46 := hts (.initialized RX6) (by decide +kernel)
  have ku46 : va_Nw (.methodLinkNest RX5 46 yX6_has "FiveThings") s := hN _ (by decide +kernel)
  have kf50 := nw_F (own := "FiveThings$Work") (i := 50) (ref := "FiveThings$House") (n := "wanted") (d := "[I") (h := "FiveThings") (args := args) hN (by decide +kernel)
  have kf19 := hts (.fieldLink RX5 19 "FiveThings$Work" "now" "LFiveThings$Now;") (by decide +kernel)
  have kf59 := nw_F (own := "FiveThings$Work") (i := 59) (ref := "FiveThings$Now") (n := "room") (d := "[I") (h := "FiveThings") (args := args) hN (by decide +kernel)
  unfold f_X5_isDue at hf
  refine lv_iconst (v := (0 : Int32)) hx hb dX5_isDue_0 rfl ?_
  refine lv_istore_n (lv' := [(2, .int (0 : Int32)), (0, .ref a_w), (1, .int p1)]) hx hb dX5_isDue_1 rfl hl (by decide) rfl (fun ls hl => ?_)
  refine (loop1_sound (r := r) (P := fun (x6 : Int32) => ∀ (ls : Array Slot) (H : Heap) (locs : List Loc), lv_has ls 3 [(2, .int x6), (0, .ref a_w), (1, .int p1)] → Wd A s.heap (dC, dI) [(a_w, .inr (5, [.ref a_h, .ref a_n, .ref a_w_shared])), (a_h, .inr (0, [.int h_rooms, .int h_people, .int h_things, .ref a_h_lifts, .ref a_h_prices, .ref a_h_starts, .ref a_h_hands, .ref a_h_wanted])), (a_h_wanted, .inl (cI, 8, .inl h_wanted)), (a_n, .inr (1, [.ref a_n_room, .ref a_n_bundle, .ref a_n_left, .int n_day, .int n_kept])), (a_n_room, .inl (cI, 8, .inl n_room))] H locs → W p l e ({ frames := 1, cells := 0, slots := 0, locals := 21 } : Jvm.Room) s m args below meth c H locs 0 0 Q (F0 m 2 ls [])) (fun B2 x6 ih2 hf => ?_) _ (0 : Int32) hf) ls H locs (lv_sub hl [0, 1, 2] rfl) hw
  intro ls H locs hl hw
  refine lv_iload_n hx hb dX5_isDue_2 rfl (lv_at hl 0 rfl) ?_
  refine lv_aload_n hx hb dX5_isDue_3 rfl (lv_at hl 1 rfl) ?_
  refine r_get E hw iX5 0 0 rfl rfl (by decide) kf15 rfl rfl dX5_isDue_4 ?_
  refine r_getN E hw iX0 1 2 rfl rfl (by decide) kf23 rfl rfl dX5_isDue_7 ?_
  refine lv_icmp_ge (tgt := 64) hx hb dX5_isDue_10 (by decide) (fun kc => ?_) (fun kc => ?_)
  · have hf := if_t hf kc
    refine lv_iconst (v := (0 : Int32)) hx hb dX5_isDue_64 rfl ?_
    obtain rfl := sm1 hf
    exact hret H locs ls 65 hw (Or.inl rfl) dX5_isDue_65
  · have hf := if_f hf kc
    refine lv_iload_n hx hb dX5_isDue_13 rfl (lv_at hl 2 rfl) ?_
    refine lv_iload_n hx hb dX5_isDue_14 rfl (lv_at hl 0 rfl) ?_
    obtain ⟨r7, hu8, hf⟩ := bd1_some hf
    refine cl_i (wr := [(a_w, .inr (5, [.ref a_h, .ref a_n, .ref a_w_shared])), (a_h, .inr (0, [.int h_rooms, .int h_people, .int h_things, .ref a_h_lifts, .ref a_h_prices, .ref a_h_starts, .ref a_h_hands, .ref a_h_wanted])), (a_h_wanted, .inl (cI, 8, .inl h_wanted)), (a_n, .inr (1, [.ref a_n_room, .ref a_n_bundle, .ref a_n_left, .int n_day, .int n_kept])), (a_n_room, .inl (cI, 8, .inl n_room))]) (w2 := [(a_w, .inr (5, [.ref a_h, .ref a_n, .ref a_w_shared])), (a_h, .inr (0, [.int h_rooms, .int h_people, .int h_things, .ref a_h_lifts, .ref a_h_prices, .ref a_h_starts, .ref a_h_hands, .ref a_h_wanted])), (a_h_wanted, .inl (cI, 8, .inl h_wanted)), (a_n, .inr (1, [.ref a_n_room, .ref a_n_bundle, .ref a_n_left, .int n_day, .int n_kept])), (a_n_room, .inl (cI, 8, .inl n_room))]) E hw [] [0, 1, 2, 3, 4] [0, 1, 2, 3, 4] (va_runSN (As := [.int p1, .int x6]) (rest := []) E.1 (c_X6_has l dC dI cI cB cZ aK aV H.size p1 x6 r7 hu8) ⟨va_cnB 2 hts gX5_isDue_X6_has_n46 rfl rfl rfl ku46 kt46 hd_X6_has ⟨Nat.le_of_ble_eq_true rfl, Nat.le_of_ble_eq_true rfl⟩, ks46, trivial⟩ (pre_S E hw [] rfl rfl) rfl rfl hl.1 rfl (lv_room (Nat.le_of_ble_eq_true rfl)) dX5_isDue_15 ⟨Nat.zero_le _, Nat.zero_le _⟩) rfl rfl rfl (by decide) rfl rfl (fun H locs hw => ?_)
    refine lv_if_eq (tgt := 58) hx hb dX5_isDue_18 (by decide) (fun kc => ?_) (fun kc => ?_)
    · have hf := if_t hf kc
      refine lv_iinc (v := (x6 + (1 : Int32))) (lv' := [(2, .int (x6 + (1 : Int32))), (0, .ref a_w), (1, .int p1)]) hx hb dX5_isDue_58 hl (k := 0) rfl rfl (by decide) rfl (fun ls hl => ?_)
      refine lv_goto (tgt := 2) hx hb dX5_isDue_61 (by decide) ?_
      exact ih2 (x6 + (1 : Int32)) hf ls H locs (lv_sub hl [0, 1, 2] rfl) hw
    · have hf := if_f hf kc
      refine lv_aload_n hx hb dX5_isDue_21 rfl (lv_at hl 1 rfl) ?_
      refine r_get E hw iX5 0 0 rfl rfl (by decide) kf15 rfl rfl dX5_isDue_22 ?_
      refine r_getN E hw iX0 1 7 rfl rfl (by decide) kf50 rfl rfl dX5_isDue_25 ?_
      refine lv_iload_n hx hb dX5_isDue_28 rfl (lv_at hl 0 rfl) ?_
      obtain ⟨g9, hf⟩ := gd_some hf
      refine r_iald E hw 2 rfl g9 dX5_isDue_29 ?_
      refine lv_bipush (v := (-9 : Int32)) hx hb dX5_isDue_30 rfl ?_
      refine lv_icmp_eq (tgt := 58) hx hb dX5_isDue_32 (by decide) (fun kc => ?_) (fun kc => ?_)
      · have hf := if_t hf kc
        refine lv_iinc (v := (x6 + (1 : Int32))) (lv' := [(2, .int (x6 + (1 : Int32))), (0, .ref a_w), (1, .int p1)]) hx hb dX5_isDue_58 hl (k := 0) rfl rfl (by decide) rfl (fun ls hl => ?_)
        refine lv_goto (tgt := 2) hx hb dX5_isDue_61 (by decide) ?_
        exact ih2 (x6 + (1 : Int32)) hf ls H locs (lv_sub hl [0, 1, 2] rfl) hw
      · have hf := if_f hf kc
        refine lv_aload_n hx hb dX5_isDue_35 rfl (lv_at hl 1 rfl) ?_
        refine r_get E hw iX5 0 0 rfl rfl (by decide) kf15 rfl rfl dX5_isDue_36 ?_
        refine r_getN E hw iX0 1 7 rfl rfl (by decide) kf50 rfl rfl dX5_isDue_39 ?_
        refine lv_iload_n hx hb dX5_isDue_42 rfl (lv_at hl 0 rfl) ?_
        obtain ⟨g10, hf⟩ := gd_some hf
        refine r_iald E hw 2 rfl g10 dX5_isDue_43 ?_
        refine lv_aload_n hx hb dX5_isDue_44 rfl (lv_at hl 1 rfl) ?_
        refine r_get E hw iX5 0 1 rfl rfl (by decide) kf19 rfl rfl dX5_isDue_45 ?_
        refine r_getN E hw iX1 3 0 rfl rfl (by decide) kf59 rfl rfl dX5_isDue_48 ?_
        refine lv_iload_n hx hb dX5_isDue_51 rfl (lv_at hl 0 rfl) ?_
        obtain ⟨g11, hf⟩ := gd_some hf
        refine r_iald E hw 4 rfl g11 dX5_isDue_52 ?_
        refine lv_icmp_eq (tgt := 58) hx hb dX5_isDue_53 (by decide) (fun kc => ?_) (fun kc => ?_)
        · have hf := if_t hf kc
          refine lv_iinc (v := (x6 + (1 : Int32))) (lv' := [(2, .int (x6 + (1 : Int32))), (0, .ref a_w), (1, .int p1)]) hx hb dX5_isDue_58 hl (k := 0) rfl rfl (by decide) rfl (fun ls hl => ?_)
          refine lv_goto (tgt := 2) hx hb dX5_isDue_61 (by decide) ?_
          exact ih2 (x6 + (1 : Int32)) hf ls H locs (lv_sub hl [0, 1, 2] rfl) hw
        · have hf := if_f hf kc
          refine lv_iconst (v := (1 : Int32)) hx hb dX5_isDue_56 rfl ?_
          obtain rfl := sm1 hf
          exact hret H locs ls 57 hw (Or.inr rfl) dX5_isDue_57
def f_X5_leadsDueJob (p1 : Int32) (h_things : Int32) (h_wanted : Nat → Int32) (n_room : Nat → Int32) (n_bundle : Nat → Int32) : Option (Int32) :=
  bd1 (f_X1_leadsJob p1 n_bundle) (fun r1 => jn (some ((0 : Int32))) (fun J30 => (if r1 = 0 then J30 else bd1 (f_X1_jobOf p1 n_bundle) (fun r3 => bd1 (f_X5_isDue r3 h_things h_wanted n_room) (fun r5 => (if r5 = 0 then J30 else some ((1 : Int32))))))))
theorem hd_X5_leadsDueJob : yX5_leadsDueJob.cls = RX5 ∧ yX5_leadsDueJob.cls ≠ "java/lang/invoke/MethodHandle" ∧ yX5_leadsDueJob.cls ≠ "java/lang/invoke/VarHandle" ∧ (parseMethodDescriptor yX5_leadsDueJob.desc).map (fun d => d.parameters.length) = some 1 := by decide +kernel
set_option maxHeartbeats 4000000 in
set_option maxRecDepth 100000 in
theorem c_X5_leadsDueJob (l : Launch) (dC : Nat → ClassId) (dI : Nat → Nat → Nat) (cI cB cZ : ClassId) (aK aV : Nat → Nat) (a_w a_h a_n a_w_shared a_h_lifts a_h_prices a_h_starts a_h_hands a_h_wanted a_n_room a_n_bundle a_n_left : Nat) (sz : Nat) (h_rooms : Int32) (h_people : Int32) (h_things : Int32) (h_wanted : Nat → Int32) (n_day : Int32) (n_kept : Int32) (n_room : Nat → Int32) (n_bundle : Nat → Int32) (p1 : Int32) (r : Int32) (hf : f_X5_leadsDueJob p1 h_things h_wanted n_room n_bundle = some r) : Met l yX5_leadsDueJob wsX5_leadsDueJob ({ frames := 2, cells := 0, slots := 0, locals := 43 } : Jvm.Room) (va_Pc [.ref a_w, .int p1] (preW (dC, dI) (tyL cI cB cZ) aK aV sz [(a_w, .inr (5, [.ref a_h, .ref a_n, .ref a_w_shared])), (a_h, .inr (0, [.int h_rooms, .int h_people, .int h_things, .ref a_h_lifts, .ref a_h_prices, .ref a_h_starts, .ref a_h_hands, .ref a_h_wanted])), (a_h_wanted, .inl (cI, 8, .inl h_wanted)), (a_n, .inr (1, [.ref a_n_room, .ref a_n_bundle, .ref a_n_left, .int n_day, .int n_kept])), (a_n_room, .inl (cI, 8, .inl n_room)), (a_n_bundle, .inl (cI, 8, .inl n_bundle))])) (va_Qi (fun v (_ : Unit) => v = r) (postW (dC, dI) (tyL cI cB cZ) (va_A [(a_w, .inr (5, [.ref a_h, .ref a_n, .ref a_w_shared])), (a_h, .inr (0, [.int h_rooms, .int h_people, .int h_things, .ref a_h_lifts, .ref a_h_prices, .ref a_h_starts, .ref a_h_hands, .ref a_h_wanted])), (a_h_wanted, .inl (cI, 8, .inl h_wanted)), (a_n, .inr (1, [.ref a_n_room, .ref a_n_bundle, .ref a_n_left, .int n_day, .int n_kept])), (a_n_room, .inl (cI, 8, .inl n_room)), (a_n_bundle, .inl (cI, 8, .inl n_bundle))] sz) [(a_w, .inr (5, [.ref a_h, .ref a_n, .ref a_w_shared])), (a_h, .inr (0, [.int h_rooms, .int h_people, .int h_things, .ref a_h_lifts, .ref a_h_prices, .ref a_h_starts, .ref a_h_hands, .ref a_h_wanted])), (a_h_wanted, .inl (cI, 8, .inl h_wanted)), (a_n, .inr (1, [.ref a_n_room, .ref a_n_bundle, .ref a_n_left, .int n_day, .int n_kept])), (a_n_room, .inl (cI, 8, .inl n_room)), (a_n_bundle, .inl (cI, 8, .inl n_bundle))]) (va_A [(a_w, .inr (5, [.ref a_h, .ref a_n, .ref a_w_shared])), (a_h, .inr (0, [.int h_rooms, .int h_people, .int h_things, .ref a_h_lifts, .ref a_h_prices, .ref a_h_starts, .ref a_h_hands, .ref a_h_wanted])), (a_h_wanted, .inl (cI, 8, .inl h_wanted)), (a_n, .inr (1, [.ref a_n_room, .ref a_n_bundle, .ref a_n_left, .int n_day, .int n_kept])), (a_n_room, .inl (cI, 8, .inl n_room)), (a_n_bundle, .inl (cI, 8, .inl n_bundle))] sz)) 0 0 (va_A [(a_w, .inr (5, [.ref a_h, .ref a_n, .ref a_w_shared])), (a_h, .inr (0, [.int h_rooms, .int h_people, .int h_things, .ref a_h_lifts, .ref a_h_prices, .ref a_h_starts, .ref a_h_hands, .ref a_h_wanted])), (a_h_wanted, .inl (cI, 8, .inl h_wanted)), (a_n, .inr (1, [.ref a_n_room, .ref a_n_bundle, .ref a_n_left, .int n_day, .int n_kept])), (a_n_room, .inl (cI, 8, .inl n_room)), (a_n_bundle, .inl (cI, 8, .inl n_bundle))] sz) := by
  refine met_z (cc := cX5_leadsDueJob) (maxL := 2) (own := RX5) (by decide) rfl (Nat.le_of_ble_eq_true rfl) rfl (fun p e s m args below meth c Q A E hret ls H locs hl hw => ?_)
  obtain ⟨⟨hx, hb, hml, hown, hts⟩, hK, hN, hA, hX⟩ := id E
  have hl : lv_has ls 2 [(0, .ref a_w), (1, .int p1)] := hl
  have iX5 : ∀ w ∈ wsX50, w ∈ wsX5_leadsDueJob := by decide +kernel
  have kf19 := hts (.fieldLink RX5 19 "FiveThings$Work" "now" "LFiveThings$Now;") (by decide +kernel)
  unfold f_X5_leadsDueJob at hf
  refine lv_aload_n hx hb dX5_leadsDueJob_0 rfl (lv_at hl 0 rfl) ?_
  refine r_get E hw iX5 0 1 rfl rfl (by decide) kf19 rfl rfl dX5_leadsDueJob_1 ?_
  refine lv_iload_n hx hb dX5_leadsDueJob_4 rfl (lv_at hl 1 rfl) ?_
  obtain ⟨r1, hu2, hf⟩ := bd1_some hf
  refine cl_i (wr := [(a_w, .inr (5, [.ref a_h, .ref a_n, .ref a_w_shared])), (a_h, .inr (0, [.int h_rooms, .int h_people, .int h_things, .ref a_h_lifts, .ref a_h_prices, .ref a_h_starts, .ref a_h_hands, .ref a_h_wanted])), (a_h_wanted, .inl (cI, 8, .inl h_wanted)), (a_n_room, .inl (cI, 8, .inl n_room))]) (w2 := [(a_w, .inr (5, [.ref a_h, .ref a_n, .ref a_w_shared])), (a_h, .inr (0, [.int h_rooms, .int h_people, .int h_things, .ref a_h_lifts, .ref a_h_prices, .ref a_h_starts, .ref a_h_hands, .ref a_h_wanted])), (a_h_wanted, .inl (cI, 8, .inl h_wanted)), (a_n, .inr (1, [.ref a_n_room, .ref a_n_bundle, .ref a_n_left, .int n_day, .int n_kept])), (a_n_room, .inl (cI, 8, .inl n_room)), (a_n_bundle, .inl (cI, 8, .inl n_bundle))]) E hw [3, 5] [0, 1, 2, 4] [0, 1, 2, 4, 3, 5] (va_runV (As := [.int p1]) (rest := []) E.1 (c_X1_leadsJob l dC dI cI cB cZ aK aV a_n a_n_room a_n_bundle a_n_left H.size n_day n_kept n_bundle p1 r1 hu2) (cwV 1 hts gX5_leadsDueJob_X1_leadsJob rfl rfl rfl hd_X1_leadsJob ⟨Nat.le_of_ble_eq_true rfl, Nat.le_of_ble_eq_true rfl⟩) (pre_V E hw [3, 5] rfl rfl rfl rfl) rfl rfl hl.1 rfl (lv_room (Nat.le_of_ble_eq_true rfl)) dX5_leadsDueJob_5 ⟨Nat.zero_le _, Nat.zero_le _⟩) rfl rfl rfl (by decide) rfl rfl (fun H locs hw => ?_)
  refine jn_sound (P := fun J => ∀ (ls : Array Slot) (H : Heap) (locs : List Loc), J = some r → lv_has ls 2 [] → Wd A s.heap (dC, dI) [(a_w, .inr (5, [.ref a_h, .ref a_n, .ref a_w_shared])), (a_h, .inr (0, [.int h_rooms, .int h_people, .int h_things, .ref a_h_lifts, .ref a_h_prices, .ref a_h_starts, .ref a_h_hands, .ref a_h_wanted])), (a_h_wanted, .inl (cI, 8, .inl h_wanted)), (a_n, .inr (1, [.ref a_n_room, .ref a_n_bundle, .ref a_n_left, .int n_day, .int n_kept])), (a_n_room, .inl (cI, 8, .inl n_room)), (a_n_bundle, .inl (cI, 8, .inl n_bundle))] H locs → W p l e ({ frames := 2, cells := 0, slots := 0, locals := 43 } : Jvm.Room) s m args below meth c H locs 0 0 Q (F0 m 30 ls [])) hf ?_ ?_
  · intro ls H locs hf hl hw
    refine lv_iconst (v := (0 : Int32)) hx hb dX5_leadsDueJob_30 rfl ?_
    obtain rfl := sm1 hf
    exact hret H locs ls 31 hw (Or.inl rfl) dX5_leadsDueJob_31
  · intro J30 hJ30 hf
    refine lv_if_eq (tgt := 30) hx hb dX5_leadsDueJob_8 (by decide) (fun kc => ?_) (fun kc => ?_)
    · have hf := if_t hf kc
      exact hJ30 ls H locs hf (lv_sub hl [] rfl) hw
    · have hf := if_f hf kc
      refine lv_aload_n hx hb dX5_leadsDueJob_11 rfl (lv_at hl 0 rfl) ?_
      refine lv_aload_n hx hb dX5_leadsDueJob_12 rfl (lv_at hl 0 rfl) ?_
      refine r_get E hw iX5 0 1 rfl rfl (by decide) kf19 rfl rfl dX5_leadsDueJob_13 ?_
      refine lv_iload_n hx hb dX5_leadsDueJob_16 rfl (lv_at hl 1 rfl) ?_
      obtain ⟨r3, hu4, hf⟩ := bd1_some hf
      refine cl_i (wr := [(a_w, .inr (5, [.ref a_h, .ref a_n, .ref a_w_shared])), (a_h, .inr (0, [.int h_rooms, .int h_people, .int h_things, .ref a_h_lifts, .ref a_h_prices, .ref a_h_starts, .ref a_h_hands, .ref a_h_wanted])), (a_h_wanted, .inl (cI, 8, .inl h_wanted)), (a_n_room, .inl (cI, 8, .inl n_room))]) (w2 := [(a_w, .inr (5, [.ref a_h, .ref a_n, .ref a_w_shared])), (a_h, .inr (0, [.int h_rooms, .int h_people, .int h_things, .ref a_h_lifts, .ref a_h_prices, .ref a_h_starts, .ref a_h_hands, .ref a_h_wanted])), (a_h_wanted, .inl (cI, 8, .inl h_wanted)), (a_n, .inr (1, [.ref a_n_room, .ref a_n_bundle, .ref a_n_left, .int n_day, .int n_kept])), (a_n_room, .inl (cI, 8, .inl n_room)), (a_n_bundle, .inl (cI, 8, .inl n_bundle))]) E hw [3, 5] [0, 1, 2, 4] [0, 1, 2, 4, 3, 5] (va_runV (As := [.int p1]) (rest := [.ref a_w]) E.1 (c_X1_jobOf l dC dI cI cB cZ aK aV a_n a_n_room a_n_bundle a_n_left H.size n_day n_kept n_bundle p1 r3 hu4) (cwV 1 hts gX5_leadsDueJob_X1_jobOf rfl rfl rfl hd_X1_jobOf ⟨Nat.le_of_ble_eq_true rfl, Nat.le_of_ble_eq_true rfl⟩) (pre_V E hw [3, 5] rfl rfl rfl rfl) rfl rfl hl.1 rfl (lv_room (Nat.le_of_ble_eq_true rfl)) dX5_leadsDueJob_17 ⟨Nat.zero_le _, Nat.zero_le _⟩) rfl rfl rfl (by decide) rfl rfl (fun H locs hw => ?_)
      obtain ⟨r5, hu6, hf⟩ := bd1_some hf
      refine cl_i (wr := [(a_n_bundle, .inl (cI, 8, .inl n_bundle))]) (w2 := [(a_w, .inr (5, [.ref a_h, .ref a_n, .ref a_w_shared])), (a_h, .inr (0, [.int h_rooms, .int h_people, .int h_things, .ref a_h_lifts, .ref a_h_prices, .ref a_h_starts, .ref a_h_hands, .ref a_h_wanted])), (a_h_wanted, .inl (cI, 8, .inl h_wanted)), (a_n, .inr (1, [.ref a_n_room, .ref a_n_bundle, .ref a_n_left, .int n_day, .int n_kept])), (a_n_room, .inl (cI, 8, .inl n_room)), (a_n_bundle, .inl (cI, 8, .inl n_bundle))]) E hw [0, 1, 2, 3, 4] [5] [1, 2, 3, 4, 5, 0] (va_runV (As := [.int r3]) (rest := []) E.1 (c_X5_isDue l dC dI cI cB cZ aK aV a_w a_h a_n a_w_shared a_h_lifts a_h_prices a_h_starts a_h_hands a_h_wanted a_n_room a_n_bundle a_n_left H.size h_rooms h_people h_things h_wanted n_day n_kept n_room r3 r5 hu6) (cwV 1 hts gX5_leadsDueJob_X5_isDue rfl rfl rfl hd_X5_isDue ⟨Nat.le_of_ble_eq_true rfl, Nat.le_of_ble_eq_true rfl⟩) (pre_V E hw [0, 1, 2, 3, 4] rfl rfl rfl rfl) rfl rfl hl.1 rfl (lv_room (Nat.le_of_ble_eq_true rfl)) dX5_leadsDueJob_20 ⟨Nat.zero_le _, Nat.zero_le _⟩) rfl rfl rfl (by decide) rfl rfl (fun H locs hw => ?_)
      refine lv_if_eq (tgt := 30) hx hb dX5_leadsDueJob_23 (by decide) (fun kc => ?_) (fun kc => ?_)
      · have hf := if_t hf kc
        exact hJ30 ls H locs hf (lv_sub hl [] rfl) hw
      · have hf := if_f hf kc
        refine lv_iconst (v := (1 : Int32)) hx hb dX5_leadsDueJob_26 rfl ?_
        refine lv_goto (tgt := 31) hx hb dX5_leadsDueJob_27 (by decide) ?_
        obtain rfl := sm1 hf
        exact hret H locs ls 31 hw (Or.inr rfl) dX5_leadsDueJob_31
def f_X5_dueJobs  (h_things : Int32) (h_wanted : Nat → Int32) (n_room : Nat → Int32) (n_bundle : Nat → Int32) : Option (Int32) :=
  loop2 (fun B4 (x3 : Int32) (x4 : Int32) => (if h_things ≤ x4 then some (x3) else bd1 (f_X5_leadsDueJob x4 h_things h_wanted n_room n_bundle) (fun r5 => (if r5 = 0 then B4 x3 (x4 + (1 : Int32)) else B4 (x3 + (1 : Int32)) (x4 + (1 : Int32)))))) FU (0 : Int32) (0 : Int32)
theorem hd_X5_dueJobs : yX5_dueJobs.cls = RX5 ∧ yX5_dueJobs.cls ≠ "java/lang/invoke/MethodHandle" ∧ yX5_dueJobs.cls ≠ "java/lang/invoke/VarHandle" ∧ (parseMethodDescriptor yX5_dueJobs.desc).map (fun d => d.parameters.length) = some 0 := by decide +kernel
set_option maxHeartbeats 4000000 in
set_option maxRecDepth 100000 in
theorem c_X5_dueJobs (l : Launch) (dC : Nat → ClassId) (dI : Nat → Nat → Nat) (cI cB cZ : ClassId) (aK aV : Nat → Nat) (a_w a_h a_n a_w_shared a_h_lifts a_h_prices a_h_starts a_h_hands a_h_wanted a_n_room a_n_bundle a_n_left : Nat) (sz : Nat) (h_rooms : Int32) (h_people : Int32) (h_things : Int32) (h_wanted : Nat → Int32) (n_day : Int32) (n_kept : Int32) (n_room : Nat → Int32) (n_bundle : Nat → Int32) (r : Int32) (hf : f_X5_dueJobs h_things h_wanted n_room n_bundle = some r) : Met l yX5_dueJobs wsX5_dueJobs ({ frames := 3, cells := 0, slots := 0, locals := 64 } : Jvm.Room) (va_Pc [.ref a_w] (preW (dC, dI) (tyL cI cB cZ) aK aV sz [(a_w, .inr (5, [.ref a_h, .ref a_n, .ref a_w_shared])), (a_h, .inr (0, [.int h_rooms, .int h_people, .int h_things, .ref a_h_lifts, .ref a_h_prices, .ref a_h_starts, .ref a_h_hands, .ref a_h_wanted])), (a_h_wanted, .inl (cI, 8, .inl h_wanted)), (a_n, .inr (1, [.ref a_n_room, .ref a_n_bundle, .ref a_n_left, .int n_day, .int n_kept])), (a_n_room, .inl (cI, 8, .inl n_room)), (a_n_bundle, .inl (cI, 8, .inl n_bundle))])) (va_Qi (fun v (_ : Unit) => v = r) (postW (dC, dI) (tyL cI cB cZ) (va_A [(a_w, .inr (5, [.ref a_h, .ref a_n, .ref a_w_shared])), (a_h, .inr (0, [.int h_rooms, .int h_people, .int h_things, .ref a_h_lifts, .ref a_h_prices, .ref a_h_starts, .ref a_h_hands, .ref a_h_wanted])), (a_h_wanted, .inl (cI, 8, .inl h_wanted)), (a_n, .inr (1, [.ref a_n_room, .ref a_n_bundle, .ref a_n_left, .int n_day, .int n_kept])), (a_n_room, .inl (cI, 8, .inl n_room)), (a_n_bundle, .inl (cI, 8, .inl n_bundle))] sz) [(a_w, .inr (5, [.ref a_h, .ref a_n, .ref a_w_shared])), (a_h, .inr (0, [.int h_rooms, .int h_people, .int h_things, .ref a_h_lifts, .ref a_h_prices, .ref a_h_starts, .ref a_h_hands, .ref a_h_wanted])), (a_h_wanted, .inl (cI, 8, .inl h_wanted)), (a_n, .inr (1, [.ref a_n_room, .ref a_n_bundle, .ref a_n_left, .int n_day, .int n_kept])), (a_n_room, .inl (cI, 8, .inl n_room)), (a_n_bundle, .inl (cI, 8, .inl n_bundle))]) (va_A [(a_w, .inr (5, [.ref a_h, .ref a_n, .ref a_w_shared])), (a_h, .inr (0, [.int h_rooms, .int h_people, .int h_things, .ref a_h_lifts, .ref a_h_prices, .ref a_h_starts, .ref a_h_hands, .ref a_h_wanted])), (a_h_wanted, .inl (cI, 8, .inl h_wanted)), (a_n, .inr (1, [.ref a_n_room, .ref a_n_bundle, .ref a_n_left, .int n_day, .int n_kept])), (a_n_room, .inl (cI, 8, .inl n_room)), (a_n_bundle, .inl (cI, 8, .inl n_bundle))] sz)) 0 0 (va_A [(a_w, .inr (5, [.ref a_h, .ref a_n, .ref a_w_shared])), (a_h, .inr (0, [.int h_rooms, .int h_people, .int h_things, .ref a_h_lifts, .ref a_h_prices, .ref a_h_starts, .ref a_h_hands, .ref a_h_wanted])), (a_h_wanted, .inl (cI, 8, .inl h_wanted)), (a_n, .inr (1, [.ref a_n_room, .ref a_n_bundle, .ref a_n_left, .int n_day, .int n_kept])), (a_n_room, .inl (cI, 8, .inl n_room)), (a_n_bundle, .inl (cI, 8, .inl n_bundle))] sz) := by
  refine met_i (cc := cX5_dueJobs) (maxL := 3) (own := RX5) (by decide) rfl (Nat.le_of_ble_eq_true rfl) rfl (fun p e s m args below meth c Q A E hret ls H locs hl hw => ?_)
  obtain ⟨⟨hx, hb, hml, hown, hts⟩, hK, hN, hA, hX⟩ := id E
  have hl : lv_has ls 3 [(0, .ref a_w)] := hl
  have iX0 : ∀ w ∈ wsX00, w ∈ wsX5_dueJobs := by decide +kernel
  have iX5 : ∀ w ∈ wsX50, w ∈ wsX5_dueJobs := by decide +kernel
  have kf15 := hts (.fieldLink RX5 15 "FiveThings$Work" "house" "LFiveThings$House;") (by decide +kernel)
  have kf23 := nw_F (own := "FiveThings$Work") (i := 23) (ref := "FiveThings$House") (n := "things") (d := "I") (h := "FiveThings") (args := args) hN (by decide +kernel)
  unfold f_X5_dueJobs at hf
  refine lv_iconst (v := (0 : Int32)) hx hb dX5_dueJobs_0 rfl ?_
  refine lv_istore_n (lv' := [(1, .int (0 : Int32)), (0, .ref a_w)]) hx hb dX5_dueJobs_1 rfl hl (by decide) rfl (fun ls hl => ?_)
  refine lv_iconst (v := (0 : Int32)) hx hb dX5_dueJobs_2 rfl ?_
  refine lv_istore_n (lv' := [(2, .int (0 : Int32)), (1, .int (0 : Int32)), (0, .ref a_w)]) hx hb dX5_dueJobs_3 rfl hl (by decide) rfl (fun ls hl => ?_)
  refine (loop2_sound (r := r) (P := fun (x3 : Int32) (x4 : Int32) => ∀ (ls : Array Slot) (H : Heap) (locs : List Loc), lv_has ls 3 [(2, .int x4), (1, .int x3), (0, .ref a_w)] → Wd A s.heap (dC, dI) [(a_w, .inr (5, [.ref a_h, .ref a_n, .ref a_w_shared])), (a_h, .inr (0, [.int h_rooms, .int h_people, .int h_things, .ref a_h_lifts, .ref a_h_prices, .ref a_h_starts, .ref a_h_hands, .ref a_h_wanted])), (a_h_wanted, .inl (cI, 8, .inl h_wanted)), (a_n, .inr (1, [.ref a_n_room, .ref a_n_bundle, .ref a_n_left, .int n_day, .int n_kept])), (a_n_room, .inl (cI, 8, .inl n_room)), (a_n_bundle, .inl (cI, 8, .inl n_bundle))] H locs → W p l e ({ frames := 3, cells := 0, slots := 0, locals := 64 } : Jvm.Room) s m args below meth c H locs 0 0 Q (F0 m 4 ls [])) (fun B4 x3 x4 ih4 hf => ?_) _ (0 : Int32) (0 : Int32) hf) ls H locs (lv_sub hl [0, 1, 2] rfl) hw
  intro ls H locs hl hw
  refine lv_iload_n hx hb dX5_dueJobs_4 rfl (lv_at hl 0 rfl) ?_
  refine lv_aload_n hx hb dX5_dueJobs_5 rfl (lv_at hl 2 rfl) ?_
  refine r_get E hw iX5 0 0 rfl rfl (by decide) kf15 rfl rfl dX5_dueJobs_6 ?_
  refine r_getN E hw iX0 1 2 rfl rfl (by decide) kf23 rfl rfl dX5_dueJobs_9 ?_
  refine lv_icmp_ge (tgt := 32) hx hb dX5_dueJobs_12 (by decide) (fun kc => ?_) (fun kc => ?_)
  · have hf := if_t hf kc
    refine lv_iload_n hx hb dX5_dueJobs_32 rfl (lv_at hl 1 rfl) ?_
    obtain rfl := sm1 hf
    exact hret H locs ls 33 hw dX5_dueJobs_33
  · have hf := if_f hf kc
    refine lv_aload_n hx hb dX5_dueJobs_15 rfl (lv_at hl 2 rfl) ?_
    refine lv_iload_n hx hb dX5_dueJobs_16 rfl (lv_at hl 0 rfl) ?_
    obtain ⟨r5, hu6, hf⟩ := bd1_some hf
    refine cl_i (wr := []) (w2 := [(a_w, .inr (5, [.ref a_h, .ref a_n, .ref a_w_shared])), (a_h, .inr (0, [.int h_rooms, .int h_people, .int h_things, .ref a_h_lifts, .ref a_h_prices, .ref a_h_starts, .ref a_h_hands, .ref a_h_wanted])), (a_h_wanted, .inl (cI, 8, .inl h_wanted)), (a_n, .inr (1, [.ref a_n_room, .ref a_n_bundle, .ref a_n_left, .int n_day, .int n_kept])), (a_n_room, .inl (cI, 8, .inl n_room)), (a_n_bundle, .inl (cI, 8, .inl n_bundle))]) E hw [0, 1, 2, 3, 4, 5] [] [0, 1, 2, 3, 4, 5] (va_runV (As := [.int x4]) (rest := []) E.1 (c_X5_leadsDueJob l dC dI cI cB cZ aK aV a_w a_h a_n a_w_shared a_h_lifts a_h_prices a_h_starts a_h_hands a_h_wanted a_n_room a_n_bundle a_n_left H.size h_rooms h_people h_things h_wanted n_day n_kept n_room n_bundle x4 r5 hu6) (cwV 1 hts gX5_dueJobs_X5_leadsDueJob rfl rfl rfl hd_X5_leadsDueJob ⟨Nat.le_of_ble_eq_true rfl, Nat.le_of_ble_eq_true rfl⟩) (pre_V E hw [0, 1, 2, 3, 4, 5] rfl rfl rfl rfl) rfl rfl hl.1 rfl (lv_room (Nat.le_of_ble_eq_true rfl)) dX5_dueJobs_17 ⟨Nat.zero_le _, Nat.zero_le _⟩) rfl rfl rfl (by decide) rfl rfl (fun H locs hw => ?_)
    refine lv_if_eq (tgt := 26) hx hb dX5_dueJobs_20 (by decide) (fun kc => ?_) (fun kc => ?_)
    · have hf := if_t hf kc
      refine lv_iinc (v := (x4 + (1 : Int32))) (lv' := [(2, .int (x4 + (1 : Int32))), (1, .int x3), (0, .ref a_w)]) hx hb dX5_dueJobs_26 hl (k := 0) rfl rfl (by decide) rfl (fun ls hl => ?_)
      refine lv_goto (tgt := 4) hx hb dX5_dueJobs_29 (by decide) ?_
      exact ih4 x3 (x4 + (1 : Int32)) hf ls H locs (lv_sub hl [0, 1, 2] rfl) hw
    · have hf := if_f hf kc
      refine lv_iinc (v := (x3 + (1 : Int32))) (lv' := [(1, .int (x3 + (1 : Int32))), (2, .int x4), (0, .ref a_w)]) hx hb dX5_dueJobs_23 hl (k := 1) rfl rfl (by decide) rfl (fun ls hl => ?_)
      refine lv_iinc (v := (x4 + (1 : Int32))) (lv' := [(2, .int (x4 + (1 : Int32))), (1, .int (x3 + (1 : Int32))), (0, .ref a_w)]) hx hb dX5_dueJobs_26 hl (k := 1) rfl rfl (by decide) rfl (fun ls hl => ?_)
      refine lv_goto (tgt := 4) hx hb dX5_dueJobs_29 (by decide) ?_
      exact ih4 (x3 + (1 : Int32)) (x4 + (1 : Int32)) hf ls H locs (lv_sub hl [0, 1, 2] rfl) hw
def f_X5_isWantedInUnlikeRooms (p1 : Int32) (h_things : Int32) (h_wanted : Nat → Int32) : Option (Int32) :=
  loop2 (fun B5 (x6 : Int32) (x7 : Int32) => (if h_things ≤ x7 then some ((0 : Int32)) else bd1 (f_X6_has p1 x7) (fun r8 => (if r8 = 0 then B5 x6 (x7 + (1 : Int32)) else gd (inb x7 8) ((if (h_wanted x7.toNatClampNeg) = (-9 : Int32) then B5 x6 (x7 + (1 : Int32)) else jn (gd (inb x7 8) (B5 (h_wanted x7.toNatClampNeg) (x7 + (1 : Int32)))) (fun J59 => (if x6 = (-9 : Int32) then J59 else gd (inb x7 8) ((if (h_wanted x7.toNatClampNeg) = x6 then J59 else some ((1 : Int32)))))))))))) FU (-9 : Int32) (0 : Int32)
theorem hd_X5_isWantedInUnlikeRooms : yX5_isWantedInUnlikeRooms.cls = RX5 ∧ yX5_isWantedInUnlikeRooms.cls ≠ "java/lang/invoke/MethodHandle" ∧ yX5_isWantedInUnlikeRooms.cls ≠ "java/lang/invoke/VarHandle" ∧ (parseMethodDescriptor yX5_isWantedInUnlikeRooms.desc).map (fun d => d.parameters.length) = some 1 := by decide +kernel
set_option maxHeartbeats 4000000 in
set_option maxRecDepth 100000 in
theorem c_X5_isWantedInUnlikeRooms (l : Launch) (dC : Nat → ClassId) (dI : Nat → Nat → Nat) (cI cB cZ : ClassId) (aK aV : Nat → Nat) (a_w a_h a_n a_w_shared a_h_lifts a_h_prices a_h_starts a_h_hands a_h_wanted : Nat) (sz : Nat) (h_rooms : Int32) (h_people : Int32) (h_things : Int32) (h_wanted : Nat → Int32) (p1 : Int32) (r : Int32) (hf : f_X5_isWantedInUnlikeRooms p1 h_things h_wanted = some r) : Met l yX5_isWantedInUnlikeRooms wsX5_isWantedInUnlikeRooms ({ frames := 1, cells := 0, slots := 0, locals := 21 } : Jvm.Room) (va_Pc [.ref a_w, .int p1] (preW (dC, dI) (tyL cI cB cZ) aK aV sz [(a_w, .inr (5, [.ref a_h, .ref a_n, .ref a_w_shared])), (a_h, .inr (0, [.int h_rooms, .int h_people, .int h_things, .ref a_h_lifts, .ref a_h_prices, .ref a_h_starts, .ref a_h_hands, .ref a_h_wanted])), (a_h_wanted, .inl (cI, 8, .inl h_wanted))])) (va_Qi (fun v (_ : Unit) => v = r) (postW (dC, dI) (tyL cI cB cZ) (va_A [(a_w, .inr (5, [.ref a_h, .ref a_n, .ref a_w_shared])), (a_h, .inr (0, [.int h_rooms, .int h_people, .int h_things, .ref a_h_lifts, .ref a_h_prices, .ref a_h_starts, .ref a_h_hands, .ref a_h_wanted])), (a_h_wanted, .inl (cI, 8, .inl h_wanted))] sz) [(a_w, .inr (5, [.ref a_h, .ref a_n, .ref a_w_shared])), (a_h, .inr (0, [.int h_rooms, .int h_people, .int h_things, .ref a_h_lifts, .ref a_h_prices, .ref a_h_starts, .ref a_h_hands, .ref a_h_wanted])), (a_h_wanted, .inl (cI, 8, .inl h_wanted))]) (va_A [(a_w, .inr (5, [.ref a_h, .ref a_n, .ref a_w_shared])), (a_h, .inr (0, [.int h_rooms, .int h_people, .int h_things, .ref a_h_lifts, .ref a_h_prices, .ref a_h_starts, .ref a_h_hands, .ref a_h_wanted])), (a_h_wanted, .inl (cI, 8, .inl h_wanted))] sz)) 0 0 (va_A [(a_w, .inr (5, [.ref a_h, .ref a_n, .ref a_w_shared])), (a_h, .inr (0, [.int h_rooms, .int h_people, .int h_things, .ref a_h_lifts, .ref a_h_prices, .ref a_h_starts, .ref a_h_hands, .ref a_h_wanted])), (a_h_wanted, .inl (cI, 8, .inl h_wanted))] sz) := by
  refine met_z (cc := cX5_isWantedInUnlikeRooms) (maxL := 4) (own := RX5) (by decide) rfl (Nat.le_of_ble_eq_true rfl) rfl (fun p e s m args below meth c Q A E hret ls H locs hl hw => ?_)
  obtain ⟨⟨hx, hb, hml, hown, hts⟩, hK, hN, hA, hX⟩ := id E
  have hl : lv_has ls 4 [(0, .ref a_w), (1, .int p1)] := hl
  have iX0 : ∀ w ∈ wsX00, w ∈ wsX5_isWantedInUnlikeRooms := by decide +kernel
  have iX5 : ∀ w ∈ wsX50, w ∈ wsX5_isWantedInUnlikeRooms := by decide +kernel
  have kf15 := hts (.fieldLink RX5 15 "FiveThings$Work" "house" "LFiveThings$House;") (by decide +kernel)
  have kf23 := nw_F (own := "FiveThings$Work") (i := 23) (ref := "FiveThings$House") (n := "things") (d := "I") (h := "FiveThings") (args := args) hN (by decide +kernel)
  have ks46 := hts (.static yX6_has) (by decide +kernel)
  have kt46 := hts (.initialized RX6) (by decide +kernel)
  have ku46 : va_Nw (.methodLinkNest RX5 46 yX6_has "FiveThings") s := hN _ (by decide +kernel)
  have kf50 := nw_F (own := "FiveThings$Work") (i := 50) (ref := "FiveThings$House") (n := "wanted") (d := "[I") (h := "FiveThings") (args := args) hN (by decide +kernel)
  unfold f_X5_isWantedInUnlikeRooms at hf
  refine lv_bipush (v := (-9 : Int32)) hx hb dX5_isWantedInUnlikeRooms_0 rfl ?_
  refine lv_istore_n (lv' := [(2, .int (-9 : Int32)), (0, .ref a_w), (1, .int p1)]) hx hb dX5_isWantedInUnlikeRooms_2 rfl hl (by decide) rfl (fun ls hl => ?_)
  refine lv_iconst (v := (0 : Int32)) hx hb dX5_isWantedInUnlikeRooms_3 rfl ?_
  refine lv_istore_n (lv' := [(3, .int (0 : Int32)), (2, .int (-9 : Int32)), (0, .ref a_w), (1, .int p1)]) hx hb dX5_isWantedInUnlikeRooms_4 rfl hl (by decide) rfl (fun ls hl => ?_)
  refine (loop2_sound (r := r) (P := fun (x6 : Int32) (x7 : Int32) => ∀ (ls : Array Slot) (H : Heap) (locs : List Loc), lv_has ls 4 [(3, .int x7), (2, .int x6), (0, .ref a_w), (1, .int p1)] → Wd A s.heap (dC, dI) [(a_w, .inr (5, [.ref a_h, .ref a_n, .ref a_w_shared])), (a_h, .inr (0, [.int h_rooms, .int h_people, .int h_things, .ref a_h_lifts, .ref a_h_prices, .ref a_h_starts, .ref a_h_hands, .ref a_h_wanted])), (a_h_wanted, .inl (cI, 8, .inl h_wanted))] H locs → W p l e ({ frames := 1, cells := 0, slots := 0, locals := 21 } : Jvm.Room) s m args below meth c H locs 0 0 Q (F0 m 5 ls [])) (fun B5 x6 x7 ih5 hf => ?_) _ (-9 : Int32) (0 : Int32) hf) ls H locs (lv_sub hl [0, 1, 2, 3] rfl) hw
  intro ls H locs hl hw
  refine lv_iload_n hx hb dX5_isWantedInUnlikeRooms_5 rfl (lv_at hl 0 rfl) ?_
  refine lv_aload_n hx hb dX5_isWantedInUnlikeRooms_6 rfl (lv_at hl 2 rfl) ?_
  refine r_get E hw iX5 0 0 rfl rfl (by decide) kf15 rfl rfl dX5_isWantedInUnlikeRooms_7 ?_
  refine r_getN E hw iX0 1 2 rfl rfl (by decide) kf23 rfl rfl dX5_isWantedInUnlikeRooms_10 ?_
  refine lv_icmp_ge (tgt := 75) hx hb dX5_isWantedInUnlikeRooms_13 (by decide) (fun kc => ?_) (fun kc => ?_)
  · have hf := if_t hf kc
    refine lv_iconst (v := (0 : Int32)) hx hb dX5_isWantedInUnlikeRooms_75 rfl ?_
    obtain rfl := sm1 hf
    exact hret H locs ls 76 hw (Or.inl rfl) dX5_isWantedInUnlikeRooms_76
  · have hf := if_f hf kc
    refine lv_iload_n hx hb dX5_isWantedInUnlikeRooms_16 rfl (lv_at hl 3 rfl) ?_
    refine lv_iload_n hx hb dX5_isWantedInUnlikeRooms_17 rfl (lv_at hl 0 rfl) ?_
    obtain ⟨r8, hu9, hf⟩ := bd1_some hf
    refine cl_i (wr := [(a_w, .inr (5, [.ref a_h, .ref a_n, .ref a_w_shared])), (a_h, .inr (0, [.int h_rooms, .int h_people, .int h_things, .ref a_h_lifts, .ref a_h_prices, .ref a_h_starts, .ref a_h_hands, .ref a_h_wanted])), (a_h_wanted, .inl (cI, 8, .inl h_wanted))]) (w2 := [(a_w, .inr (5, [.ref a_h, .ref a_n, .ref a_w_shared])), (a_h, .inr (0, [.int h_rooms, .int h_people, .int h_things, .ref a_h_lifts, .ref a_h_prices, .ref a_h_starts, .ref a_h_hands, .ref a_h_wanted])), (a_h_wanted, .inl (cI, 8, .inl h_wanted))]) E hw [] [0, 1, 2] [0, 1, 2] (va_runSN (As := [.int p1, .int x7]) (rest := []) E.1 (c_X6_has l dC dI cI cB cZ aK aV H.size p1 x7 r8 hu9) ⟨va_cnB 2 hts gX5_isWantedInUnlikeRooms_X6_has_n46 rfl rfl rfl ku46 kt46 hd_X6_has ⟨Nat.le_of_ble_eq_true rfl, Nat.le_of_ble_eq_true rfl⟩, ks46, trivial⟩ (pre_S E hw [] rfl rfl) rfl rfl hl.1 rfl (lv_room (Nat.le_of_ble_eq_true rfl)) dX5_isWantedInUnlikeRooms_18 ⟨Nat.zero_le _, Nat.zero_le _⟩) rfl rfl rfl (by decide) rfl rfl (fun H locs hw => ?_)
    refine lv_if_eq (tgt := 69) hx hb dX5_isWantedInUnlikeRooms_21 (by decide) (fun kc => ?_) (fun kc => ?_)
    · have hf := if_t hf kc
      refine lv_iinc (v := (x7 + (1 : Int32))) (lv' := [(3, .int (x7 + (1 : Int32))), (2, .int x6), (0, .ref a_w), (1, .int p1)]) hx hb dX5_isWantedInUnlikeRooms_69 hl (k := 0) rfl rfl (by decide) rfl (fun ls hl => ?_)
      refine lv_goto (tgt := 5) hx hb dX5_isWantedInUnlikeRooms_72 (by decide) ?_
      exact ih5 x6 (x7 + (1 : Int32)) hf ls H locs (lv_sub hl [0, 1, 2, 3] rfl) hw
    · have hf := if_f hf kc
      refine lv_aload_n hx hb dX5_isWantedInUnlikeRooms_24 rfl (lv_at hl 2 rfl) ?_
      refine r_get E hw iX5 0 0 rfl rfl (by decide) kf15 rfl rfl dX5_isWantedInUnlikeRooms_25 ?_
      refine r_getN E hw iX0 1 7 rfl rfl (by decide) kf50 rfl rfl dX5_isWantedInUnlikeRooms_28 ?_
      refine lv_iload_n hx hb dX5_isWantedInUnlikeRooms_31 rfl (lv_at hl 0 rfl) ?_
      obtain ⟨g10, hf⟩ := gd_some hf
      refine r_iald E hw 2 rfl g10 dX5_isWantedInUnlikeRooms_32 ?_
      refine lv_bipush (v := (-9 : Int32)) hx hb dX5_isWantedInUnlikeRooms_33 rfl ?_
      refine lv_icmp_eq (tgt := 69) hx hb dX5_isWantedInUnlikeRooms_35 (by decide) (fun kc => ?_) (fun kc => ?_)
      · have hf := if_t hf kc
        refine lv_iinc (v := (x7 + (1 : Int32))) (lv' := [(3, .int (x7 + (1 : Int32))), (2, .int x6), (0, .ref a_w), (1, .int p1)]) hx hb dX5_isWantedInUnlikeRooms_69 hl (k := 0) rfl rfl (by decide) rfl (fun ls hl => ?_)
        refine lv_goto (tgt := 5) hx hb dX5_isWantedInUnlikeRooms_72 (by decide) ?_
        exact ih5 x6 (x7 + (1 : Int32)) hf ls H locs (lv_sub hl [0, 1, 2, 3] rfl) hw
      · have hf := if_f hf kc
        refine lv_iload_n hx hb dX5_isWantedInUnlikeRooms_38 rfl (lv_at hl 1 rfl) ?_
        refine lv_bipush (v := (-9 : Int32)) hx hb dX5_isWantedInUnlikeRooms_39 rfl ?_
        refine jn_sound (P := fun J => ∀ (ls : Array Slot) (H : Heap) (locs : List Loc), J = some r → lv_has ls 4 [(0, .ref a_w), (1, .int p1), (3, .int x7)] → Wd A s.heap (dC, dI) [(a_w, .inr (5, [.ref a_h, .ref a_n, .ref a_w_shared])), (a_h, .inr (0, [.int h_rooms, .int h_people, .int h_things, .ref a_h_lifts, .ref a_h_prices, .ref a_h_starts, .ref a_h_hands, .ref a_h_wanted])), (a_h_wanted, .inl (cI, 8, .inl h_wanted))] H locs → W p l e ({ frames := 1, cells := 0, slots := 0, locals := 21 } : Jvm.Room) s m args below meth c H locs 0 0 Q (F0 m 59 ls [])) hf ?_ ?_
        · intro ls H locs hf hl hw
          refine lv_aload_n hx hb dX5_isWantedInUnlikeRooms_59 rfl (lv_at hl 0 rfl) ?_
          refine r_get E hw iX5 0 0 rfl rfl (by decide) kf15 rfl rfl dX5_isWantedInUnlikeRooms_60 ?_
          refine r_getN E hw iX0 1 7 rfl rfl (by decide) kf50 rfl rfl dX5_isWantedInUnlikeRooms_63 ?_
          refine lv_iload_n hx hb dX5_isWantedInUnlikeRooms_66 rfl (lv_at hl 2 rfl) ?_
          obtain ⟨g12, hf⟩ := gd_some hf
          refine r_iald E hw 2 rfl g12 dX5_isWantedInUnlikeRooms_67 ?_
          refine lv_istore_n (lv' := [(2, .int (h_wanted x7.toNatClampNeg)), (0, .ref a_w), (1, .int p1), (3, .int x7)]) hx hb dX5_isWantedInUnlikeRooms_68 rfl hl (by decide) rfl (fun ls hl => ?_)
          refine lv_iinc (v := (x7 + (1 : Int32))) (lv' := [(3, .int (x7 + (1 : Int32))), (2, .int (h_wanted x7.toNatClampNeg)), (0, .ref a_w), (1, .int p1)]) hx hb dX5_isWantedInUnlikeRooms_69 hl (k := 3) rfl rfl (by decide) rfl (fun ls hl => ?_)
          refine lv_goto (tgt := 5) hx hb dX5_isWantedInUnlikeRooms_72 (by decide) ?_
          exact ih5 (h_wanted x7.toNatClampNeg) (x7 + (1 : Int32)) hf ls H locs (lv_sub hl [0, 1, 2, 3] rfl) hw
        · intro J59 hJ59 hf
          refine lv_icmp_eq (tgt := 59) hx hb dX5_isWantedInUnlikeRooms_41 (by decide) (fun kc => ?_) (fun kc => ?_)
          · have hf := if_t hf kc
            exact hJ59 ls H locs hf (lv_sub hl [2, 3, 0] rfl) hw
          · have hf := if_f hf kc
            refine lv_aload_n hx hb dX5_isWantedInUnlikeRooms_44 rfl (lv_at hl 2 rfl) ?_
            refine r_get E hw iX5 0 0 rfl rfl (by decide) kf15 rfl rfl dX5_isWantedInUnlikeRooms_45 ?_
            refine r_getN E hw iX0 1 7 rfl rfl (by decide) kf50 rfl rfl dX5_isWantedInUnlikeRooms_48 ?_
            refine lv_iload_n hx hb dX5_isWantedInUnlikeRooms_51 rfl (lv_at hl 0 rfl) ?_
            obtain ⟨g11, hf⟩ := gd_some hf
            refine r_iald E hw 2 rfl g11 dX5_isWantedInUnlikeRooms_52 ?_
            refine lv_iload_n hx hb dX5_isWantedInUnlikeRooms_53 rfl (lv_at hl 1 rfl) ?_
            refine lv_icmp_eq (tgt := 59) hx hb dX5_isWantedInUnlikeRooms_54 (by decide) (fun kc => ?_) (fun kc => ?_)
            · have hf := if_t hf kc
              exact hJ59 ls H locs hf (lv_sub hl [2, 3, 0] rfl) hw
            · have hf := if_f hf kc
              refine lv_iconst (v := (1 : Int32)) hx hb dX5_isWantedInUnlikeRooms_57 rfl ?_
              obtain rfl := sm1 hf
              exact hret H locs ls 58 hw (Or.inr rfl) dX5_isWantedInUnlikeRooms_58
def f_X5_barredThings  (h_things : Int32) (h_wanted : Nat → Int32) (n_bundle : Nat → Int32) : Option (Int32) :=
  loop2 (fun B4 (x5 : Int32) (x6 : Int32) => (if h_things ≤ x6 then some (x5) else bd1 (f_X1_jobOf x6 n_bundle) (fun r7 => bd1 (f_X5_isWantedInUnlikeRooms r7 h_things h_wanted) (fun r9 => (if r9 = 0 then B4 x5 (x6 + (1 : Int32)) else B4 (x5 ||| r7) (x6 + (1 : Int32))))))) FU (0 : Int32) (0 : Int32)
theorem hd_X5_barredThings : yX5_barredThings.cls = RX5 ∧ yX5_barredThings.cls ≠ "java/lang/invoke/MethodHandle" ∧ yX5_barredThings.cls ≠ "java/lang/invoke/VarHandle" ∧ (parseMethodDescriptor yX5_barredThings.desc).map (fun d => d.parameters.length) = some 0 := by decide +kernel
set_option maxHeartbeats 4000000 in
set_option maxRecDepth 100000 in
theorem c_X5_barredThings (l : Launch) (dC : Nat → ClassId) (dI : Nat → Nat → Nat) (cI cB cZ : ClassId) (aK aV : Nat → Nat) (a_w a_h a_n a_w_shared a_h_lifts a_h_prices a_h_starts a_h_hands a_h_wanted a_n_room a_n_bundle a_n_left : Nat) (sz : Nat) (h_rooms : Int32) (h_people : Int32) (h_things : Int32) (h_wanted : Nat → Int32) (n_day : Int32) (n_kept : Int32) (n_bundle : Nat → Int32) (r : Int32) (hf : f_X5_barredThings h_things h_wanted n_bundle = some r) : Met l yX5_barredThings wsX5_barredThings ({ frames := 2, cells := 0, slots := 0, locals := 44 } : Jvm.Room) (va_Pc [.ref a_w] (preW (dC, dI) (tyL cI cB cZ) aK aV sz [(a_w, .inr (5, [.ref a_h, .ref a_n, .ref a_w_shared])), (a_h, .inr (0, [.int h_rooms, .int h_people, .int h_things, .ref a_h_lifts, .ref a_h_prices, .ref a_h_starts, .ref a_h_hands, .ref a_h_wanted])), (a_h_wanted, .inl (cI, 8, .inl h_wanted)), (a_n, .inr (1, [.ref a_n_room, .ref a_n_bundle, .ref a_n_left, .int n_day, .int n_kept])), (a_n_bundle, .inl (cI, 8, .inl n_bundle))])) (va_Qi (fun v (_ : Unit) => v = r) (postW (dC, dI) (tyL cI cB cZ) (va_A [(a_w, .inr (5, [.ref a_h, .ref a_n, .ref a_w_shared])), (a_h, .inr (0, [.int h_rooms, .int h_people, .int h_things, .ref a_h_lifts, .ref a_h_prices, .ref a_h_starts, .ref a_h_hands, .ref a_h_wanted])), (a_h_wanted, .inl (cI, 8, .inl h_wanted)), (a_n, .inr (1, [.ref a_n_room, .ref a_n_bundle, .ref a_n_left, .int n_day, .int n_kept])), (a_n_bundle, .inl (cI, 8, .inl n_bundle))] sz) [(a_w, .inr (5, [.ref a_h, .ref a_n, .ref a_w_shared])), (a_h, .inr (0, [.int h_rooms, .int h_people, .int h_things, .ref a_h_lifts, .ref a_h_prices, .ref a_h_starts, .ref a_h_hands, .ref a_h_wanted])), (a_h_wanted, .inl (cI, 8, .inl h_wanted)), (a_n, .inr (1, [.ref a_n_room, .ref a_n_bundle, .ref a_n_left, .int n_day, .int n_kept])), (a_n_bundle, .inl (cI, 8, .inl n_bundle))]) (va_A [(a_w, .inr (5, [.ref a_h, .ref a_n, .ref a_w_shared])), (a_h, .inr (0, [.int h_rooms, .int h_people, .int h_things, .ref a_h_lifts, .ref a_h_prices, .ref a_h_starts, .ref a_h_hands, .ref a_h_wanted])), (a_h_wanted, .inl (cI, 8, .inl h_wanted)), (a_n, .inr (1, [.ref a_n_room, .ref a_n_bundle, .ref a_n_left, .int n_day, .int n_kept])), (a_n_bundle, .inl (cI, 8, .inl n_bundle))] sz)) 0 0 (va_A [(a_w, .inr (5, [.ref a_h, .ref a_n, .ref a_w_shared])), (a_h, .inr (0, [.int h_rooms, .int h_people, .int h_things, .ref a_h_lifts, .ref a_h_prices, .ref a_h_starts, .ref a_h_hands, .ref a_h_wanted])), (a_h_wanted, .inl (cI, 8, .inl h_wanted)), (a_n, .inr (1, [.ref a_n_room, .ref a_n_bundle, .ref a_n_left, .int n_day, .int n_kept])), (a_n_bundle, .inl (cI, 8, .inl n_bundle))] sz) := by
  refine met_i (cc := cX5_barredThings) (maxL := 4) (own := RX5) (by decide) rfl (Nat.le_of_ble_eq_true rfl) rfl (fun p e s m args below meth c Q A E hret ls H locs hl hw => ?_)
  obtain ⟨⟨hx, hb, hml, hown, hts⟩, hK, hN, hA, hX⟩ := id E
  have hl : lv_has ls 4 [(0, .ref a_w)] := hl
  have iX0 : ∀ w ∈ wsX00, w ∈ wsX5_barredThings := by decide +kernel
  have iX5 : ∀ w ∈ wsX50, w ∈ wsX5_barredThings := by decide +kernel
  have kf15 := hts (.fieldLink RX5 15 "FiveThings$Work" "house" "LFiveThings$House;") (by decide +kernel)
  have kf23 := nw_F (own := "FiveThings$Work") (i := 23) (ref := "FiveThings$House") (n := "things") (d := "I") (h := "FiveThings") (args := args) hN (by decide +kernel)
  have kf19 := hts (.fieldLink RX5 19 "FiveThings$Work" "now" "LFiveThings$Now;") (by decide +kernel)
  unfold f_X5_barredThings at hf
  refine lv_iconst (v := (0 : Int32)) hx hb dX5_barredThings_0 rfl ?_
  refine lv_istore_n (lv' := [(1, .int (0 : Int32)), (0, .ref a_w)]) hx hb dX5_barredThings_1 rfl hl (by decide) rfl (fun ls hl => ?_)
  refine lv_iconst (v := (0 : Int32)) hx hb dX5_barredThings_2 rfl ?_
  refine lv_istore_n (lv' := [(2, .int (0 : Int32)), (1, .int (0 : Int32)), (0, .ref a_w)]) hx hb dX5_barredThings_3 rfl hl (by decide) rfl (fun ls hl => ?_)
  refine (loop2_sound (r := r) (P := fun (x5 : Int32) (x6 : Int32) => ∀ (ls : Array Slot) (H : Heap) (locs : List Loc), lv_has ls 4 [(2, .int x6), (1, .int x5), (0, .ref a_w)] → Wd A s.heap (dC, dI) [(a_w, .inr (5, [.ref a_h, .ref a_n, .ref a_w_shared])), (a_h, .inr (0, [.int h_rooms, .int h_people, .int h_things, .ref a_h_lifts, .ref a_h_prices, .ref a_h_starts, .ref a_h_hands, .ref a_h_wanted])), (a_h_wanted, .inl (cI, 8, .inl h_wanted)), (a_n, .inr (1, [.ref a_n_room, .ref a_n_bundle, .ref a_n_left, .int n_day, .int n_kept])), (a_n_bundle, .inl (cI, 8, .inl n_bundle))] H locs → W p l e ({ frames := 2, cells := 0, slots := 0, locals := 44 } : Jvm.Room) s m args below meth c H locs 0 0 Q (F0 m 4 ls [])) (fun B4 x5 x6 ih4 hf => ?_) _ (0 : Int32) (0 : Int32) hf) ls H locs (lv_sub hl [0, 1, 2] rfl) hw
  intro ls H locs hl hw
  refine lv_iload_n hx hb dX5_barredThings_4 rfl (lv_at hl 0 rfl) ?_
  refine lv_aload_n hx hb dX5_barredThings_5 rfl (lv_at hl 2 rfl) ?_
  refine r_get E hw iX5 0 0 rfl rfl (by decide) kf15 rfl rfl dX5_barredThings_6 ?_
  refine r_getN E hw iX0 1 2 rfl rfl (by decide) kf23 rfl rfl dX5_barredThings_9 ?_
  refine lv_icmp_ge (tgt := 42) hx hb dX5_barredThings_12 (by decide) (fun kc => ?_) (fun kc => ?_)
  · have hf := if_t hf kc
    refine lv_iload_n hx hb dX5_barredThings_42 rfl (lv_at hl 1 rfl) ?_
    obtain rfl := sm1 hf
    exact hret H locs ls 43 hw dX5_barredThings_43
  · have hf := if_f hf kc
    refine lv_aload_n hx hb dX5_barredThings_15 rfl (lv_at hl 2 rfl) ?_
    refine r_get E hw iX5 0 1 rfl rfl (by decide) kf19 rfl rfl dX5_barredThings_16 ?_
    refine lv_iload_n hx hb dX5_barredThings_19 rfl (lv_at hl 0 rfl) ?_
    obtain ⟨r7, hu8, hf⟩ := bd1_some hf
    refine cl_i (wr := [(a_w, .inr (5, [.ref a_h, .ref a_n, .ref a_w_shared])), (a_h, .inr (0, [.int h_rooms, .int h_people, .int h_things, .ref a_h_lifts, .ref a_h_prices, .ref a_h_starts, .ref a_h_hands, .ref a_h_wanted])), (a_h_wanted, .inl (cI, 8, .inl h_wanted))]) (w2 := [(a_w, .inr (5, [.ref a_h, .ref a_n, .ref a_w_shared])), (a_h, .inr (0, [.int h_rooms, .int h_people, .int h_things, .ref a_h_lifts, .ref a_h_prices, .ref a_h_starts, .ref a_h_hands, .ref a_h_wanted])), (a_h_wanted, .inl (cI, 8, .inl h_wanted)), (a_n, .inr (1, [.ref a_n_room, .ref a_n_bundle, .ref a_n_left, .int n_day, .int n_kept])), (a_n_bundle, .inl (cI, 8, .inl n_bundle))]) E hw [3, 4] [0, 1, 2] [0, 1, 2, 3, 4] (va_runV (As := [.int x6]) (rest := []) E.1 (c_X1_jobOf l dC dI cI cB cZ aK aV a_n a_n_room a_n_bundle a_n_left H.size n_day n_kept n_bundle x6 r7 hu8) (cwV 1 hts gX5_barredThings_X1_jobOf rfl rfl rfl hd_X1_jobOf ⟨Nat.le_of_ble_eq_true rfl, Nat.le_of_ble_eq_true rfl⟩) (pre_V E hw [3, 4] rfl rfl rfl rfl) rfl rfl hl.1 rfl (lv_room (Nat.le_of_ble_eq_true rfl)) dX5_barredThings_20 ⟨Nat.zero_le _, Nat.zero_le _⟩) rfl rfl rfl (by decide) rfl rfl (fun H locs hw => ?_)
    refine lv_istore_n (lv' := [(3, .int r7), (2, .int x6), (1, .int x5), (0, .ref a_w)]) hx hb dX5_barredThings_23 rfl hl (by decide) rfl (fun ls hl => ?_)
    refine lv_aload_n hx hb dX5_barredThings_24 rfl (lv_at hl 3 rfl) ?_
    refine lv_iload_n hx hb dX5_barredThings_25 rfl (lv_at hl 0 rfl) ?_
    obtain ⟨r9, hu10, hf⟩ := bd1_some hf
    refine cl_i (wr := [(a_n, .inr (1, [.ref a_n_room, .ref a_n_bundle, .ref a_n_left, .int n_day, .int n_kept])), (a_n_bundle, .inl (cI, 8, .inl n_bundle))]) (w2 := [(a_w, .inr (5, [.ref a_h, .ref a_n, .ref a_w_shared])), (a_h, .inr (0, [.int h_rooms, .int h_people, .int h_things, .ref a_h_lifts, .ref a_h_prices, .ref a_h_starts, .ref a_h_hands, .ref a_h_wanted])), (a_h_wanted, .inl (cI, 8, .inl h_wanted)), (a_n, .inr (1, [.ref a_n_room, .ref a_n_bundle, .ref a_n_left, .int n_day, .int n_kept])), (a_n_bundle, .inl (cI, 8, .inl n_bundle))]) E hw [0, 1, 2] [3, 4] [2, 3, 4, 0, 1] (va_runV (As := [.int r7]) (rest := []) E.1 (c_X5_isWantedInUnlikeRooms l dC dI cI cB cZ aK aV a_w a_h a_n a_w_shared a_h_lifts a_h_prices a_h_starts a_h_hands a_h_wanted H.size h_rooms h_people h_things h_wanted r7 r9 hu10) (cwV 1 hts gX5_barredThings_X5_isWantedInUnlikeRooms rfl rfl rfl hd_X5_isWantedInUnlikeRooms ⟨Nat.le_of_ble_eq_true rfl, Nat.le_of_ble_eq_true rfl⟩) (pre_V E hw [0, 1, 2] rfl rfl rfl rfl) rfl rfl hl.1 rfl (lv_room (Nat.le_of_ble_eq_true rfl)) dX5_barredThings_26 ⟨Nat.zero_le _, Nat.zero_le _⟩) rfl rfl rfl (by decide) rfl rfl (fun H locs hw => ?_)
    refine lv_if_eq (tgt := 36) hx hb dX5_barredThings_29 (by decide) (fun kc => ?_) (fun kc => ?_)
    · have hf := if_t hf kc
      refine lv_iinc (v := (x6 + (1 : Int32))) (lv' := [(2, .int (x6 + (1 : Int32))), (3, .int r7), (1, .int x5), (0, .ref a_w)]) hx hb dX5_barredThings_36 hl (k := 1) rfl rfl (by decide) rfl (fun ls hl => ?_)
      refine lv_goto (tgt := 4) hx hb dX5_barredThings_39 (by decide) ?_
      exact ih4 x5 (x6 + (1 : Int32)) hf ls H locs (lv_sub hl [0, 2, 3] rfl) hw
    · have hf := if_f hf kc
      refine lv_iload_n hx hb dX5_barredThings_32 rfl (lv_at hl 2 rfl) ?_
      refine lv_iload_n hx hb dX5_barredThings_33 rfl (lv_at hl 0 rfl) ?_
      refine lv_ior hx hb dX5_barredThings_34 ?_
      refine lv_istore_n (lv' := [(1, .int (x5 ||| r7)), (3, .int r7), (2, .int x6), (0, .ref a_w)]) hx hb dX5_barredThings_35 rfl hl (by decide) rfl (fun ls hl => ?_)
      refine lv_iinc (v := (x6 + (1 : Int32))) (lv' := [(2, .int (x6 + (1 : Int32))), (1, .int (x5 ||| r7)), (3, .int r7), (0, .ref a_w)]) hx hb dX5_barredThings_36 hl (k := 2) rfl rfl (by decide) rfl (fun ls hl => ?_)
      refine lv_goto (tgt := 4) hx hb dX5_barredThings_39 (by decide) ?_
      exact ih4 (x5 ||| r7) (x6 + (1 : Int32)) hf ls H locs (lv_sub hl [0, 1, 3] rfl) hw
def f_X5_isBarred  (h_things : Int32) (h_wanted : Nat → Int32) (n_bundle : Nat → Int32) : Option (Int32) :=
  bd1 (f_X5_barredThings h_things h_wanted n_bundle) (fun r1 => (if r1 = 0 then some ((0 : Int32)) else some ((1 : Int32))))
theorem hd_X5_isBarred : yX5_isBarred.cls = RX5 ∧ yX5_isBarred.cls ≠ "java/lang/invoke/MethodHandle" ∧ yX5_isBarred.cls ≠ "java/lang/invoke/VarHandle" ∧ (parseMethodDescriptor yX5_isBarred.desc).map (fun d => d.parameters.length) = some 0 := by decide +kernel
set_option maxHeartbeats 4000000 in
set_option maxRecDepth 100000 in
theorem c_X5_isBarred (l : Launch) (dC : Nat → ClassId) (dI : Nat → Nat → Nat) (cI cB cZ : ClassId) (aK aV : Nat → Nat) (a_w a_h a_n a_w_shared a_h_lifts a_h_prices a_h_starts a_h_hands a_h_wanted a_n_room a_n_bundle a_n_left : Nat) (sz : Nat) (h_rooms : Int32) (h_people : Int32) (h_things : Int32) (h_wanted : Nat → Int32) (n_day : Int32) (n_kept : Int32) (n_bundle : Nat → Int32) (r : Int32) (hf : f_X5_isBarred h_things h_wanted n_bundle = some r) : Met l yX5_isBarred wsX5_isBarred ({ frames := 3, cells := 0, slots := 0, locals := 67 } : Jvm.Room) (va_Pc [.ref a_w] (preW (dC, dI) (tyL cI cB cZ) aK aV sz [(a_w, .inr (5, [.ref a_h, .ref a_n, .ref a_w_shared])), (a_h, .inr (0, [.int h_rooms, .int h_people, .int h_things, .ref a_h_lifts, .ref a_h_prices, .ref a_h_starts, .ref a_h_hands, .ref a_h_wanted])), (a_h_wanted, .inl (cI, 8, .inl h_wanted)), (a_n, .inr (1, [.ref a_n_room, .ref a_n_bundle, .ref a_n_left, .int n_day, .int n_kept])), (a_n_bundle, .inl (cI, 8, .inl n_bundle))])) (va_Qi (fun v (_ : Unit) => v = r) (postW (dC, dI) (tyL cI cB cZ) (va_A [(a_w, .inr (5, [.ref a_h, .ref a_n, .ref a_w_shared])), (a_h, .inr (0, [.int h_rooms, .int h_people, .int h_things, .ref a_h_lifts, .ref a_h_prices, .ref a_h_starts, .ref a_h_hands, .ref a_h_wanted])), (a_h_wanted, .inl (cI, 8, .inl h_wanted)), (a_n, .inr (1, [.ref a_n_room, .ref a_n_bundle, .ref a_n_left, .int n_day, .int n_kept])), (a_n_bundle, .inl (cI, 8, .inl n_bundle))] sz) [(a_w, .inr (5, [.ref a_h, .ref a_n, .ref a_w_shared])), (a_h, .inr (0, [.int h_rooms, .int h_people, .int h_things, .ref a_h_lifts, .ref a_h_prices, .ref a_h_starts, .ref a_h_hands, .ref a_h_wanted])), (a_h_wanted, .inl (cI, 8, .inl h_wanted)), (a_n, .inr (1, [.ref a_n_room, .ref a_n_bundle, .ref a_n_left, .int n_day, .int n_kept])), (a_n_bundle, .inl (cI, 8, .inl n_bundle))]) (va_A [(a_w, .inr (5, [.ref a_h, .ref a_n, .ref a_w_shared])), (a_h, .inr (0, [.int h_rooms, .int h_people, .int h_things, .ref a_h_lifts, .ref a_h_prices, .ref a_h_starts, .ref a_h_hands, .ref a_h_wanted])), (a_h_wanted, .inl (cI, 8, .inl h_wanted)), (a_n, .inr (1, [.ref a_n_room, .ref a_n_bundle, .ref a_n_left, .int n_day, .int n_kept])), (a_n_bundle, .inl (cI, 8, .inl n_bundle))] sz)) 0 0 (va_A [(a_w, .inr (5, [.ref a_h, .ref a_n, .ref a_w_shared])), (a_h, .inr (0, [.int h_rooms, .int h_people, .int h_things, .ref a_h_lifts, .ref a_h_prices, .ref a_h_starts, .ref a_h_hands, .ref a_h_wanted])), (a_h_wanted, .inl (cI, 8, .inl h_wanted)), (a_n, .inr (1, [.ref a_n_room, .ref a_n_bundle, .ref a_n_left, .int n_day, .int n_kept])), (a_n_bundle, .inl (cI, 8, .inl n_bundle))] sz) := by
  refine met_z (cc := cX5_isBarred) (maxL := 1) (own := RX5) (by decide) rfl (Nat.le_of_ble_eq_true rfl) rfl (fun p e s m args below meth c Q A E hret ls H locs hl hw => ?_)
  obtain ⟨⟨hx, hb, hml, hown, hts⟩, hK, hN, hA, hX⟩ := id E
  have hl : lv_has ls 1 [(0, .ref a_w)] := hl
  unfold f_X5_isBarred at hf
  refine lv_aload_n hx hb dX5_isBarred_0 rfl (lv_at hl 0 rfl) ?_
  obtain ⟨r1, hu2, hf⟩ := bd1_some hf
  refine cl_i (wr := []) (w2 := [(a_w, .inr (5, [.ref a_h, .ref a_n, .ref a_w_shared])), (a_h, .inr (0, [.int h_rooms, .int h_people, .int h_things, .ref a_h_lifts, .ref a_h_prices, .ref a_h_starts, .ref a_h_hands, .ref a_h_wanted])), (a_h_wanted, .inl (cI, 8, .inl h_wanted)), (a_n, .inr (1, [.ref a_n_room, .ref a_n_bundle, .ref a_n_left, .int n_day, .int n_kept])), (a_n_bundle, .inl (cI, 8, .inl n_bundle))]) E hw [0, 1, 2, 3, 4] [] [0, 1, 2, 3, 4] (va_runV (As := []) (rest := []) E.1 (c_X5_barredThings l dC dI cI cB cZ aK aV a_w a_h a_n a_w_shared a_h_lifts a_h_prices a_h_starts a_h_hands a_h_wanted a_n_room a_n_bundle a_n_left H.size h_rooms h_people h_things h_wanted n_day n_kept n_bundle r1 hu2) (cwV 0 hts gX5_isBarred_X5_barredThings rfl rfl rfl hd_X5_barredThings ⟨Nat.le_of_ble_eq_true rfl, Nat.le_of_ble_eq_true rfl⟩) (pre_V E hw [0, 1, 2, 3, 4] rfl rfl rfl rfl) rfl rfl hl.1 rfl (lv_room (Nat.le_of_ble_eq_true rfl)) dX5_isBarred_1 ⟨Nat.zero_le _, Nat.zero_le _⟩) rfl rfl rfl (by decide) rfl rfl (fun H locs hw => ?_)
  refine lv_if_eq (tgt := 11) hx hb dX5_isBarred_4 (by decide) (fun kc => ?_) (fun kc => ?_)
  · have hf := if_t hf kc
    refine lv_iconst (v := (0 : Int32)) hx hb dX5_isBarred_11 rfl ?_
    obtain rfl := sm1 hf
    exact hret H locs ls 12 hw (Or.inl rfl) dX5_isBarred_12
  · have hf := if_f hf kc
    refine lv_iconst (v := (1 : Int32)) hx hb dX5_isBarred_7 rfl ?_
    refine lv_goto (tgt := 12) hx hb dX5_isBarred_8 (by decide) ?_
    obtain rfl := sm1 hf
    exact hret H locs ls 12 hw (Or.inr rfl) dX5_isBarred_12
def f_X5_looseThings (p1 : Int32) (p2 : Int32) (h_things : Int32) (h_wanted : Nat → Int32) (n_room : Nat → Int32) (n_bundle : Nat → Int32) : Option (Int32) :=
  loop2 (fun B5 (x4 : Int32) (x5 : Int32) => (if h_things ≤ x5 then some (x4) else (if p1 = p2 then B5 x4 (x5 + (1 : Int32)) else gd (inb x5 8) ((if (n_bundle x5.toNatClampNeg) = (-9 : Int32) then gd (inb x5 8) ((if (n_room x5.toNatClampNeg) = p1 then gd (inb x5 8) ((if (h_wanted x5.toNatClampNeg) = p2 then B5 (x4 ||| ((1 : Int32) <<< (x5 &&& 31))) (x5 + (1 : Int32)) else B5 x4 (x5 + (1 : Int32)))) else B5 x4 (x5 + (1 : Int32)))) else B5 x4 (x5 + (1 : Int32))))))) FU (0 : Int32) (0 : Int32)
theorem hd_X5_looseThings : yX5_looseThings.cls = RX5 ∧ yX5_looseThings.cls ≠ "java/lang/invoke/MethodHandle" ∧ yX5_looseThings.cls ≠ "java/lang/invoke/VarHandle" ∧ (parseMethodDescriptor yX5_looseThings.desc).map (fun d => d.parameters.length) = some 2 := by decide +kernel
set_option maxHeartbeats 4000000 in
set_option maxRecDepth 100000 in
theorem c_X5_looseThings (l : Launch) (dC : Nat → ClassId) (dI : Nat → Nat → Nat) (cI cB cZ : ClassId) (aK aV : Nat → Nat) (a_w a_h a_n a_w_shared a_h_lifts a_h_prices a_h_starts a_h_hands a_h_wanted a_n_room a_n_bundle a_n_left : Nat) (sz : Nat) (h_rooms : Int32) (h_people : Int32) (h_things : Int32) (h_wanted : Nat → Int32) (n_day : Int32) (n_kept : Int32) (n_room : Nat → Int32) (n_bundle : Nat → Int32) (p1 : Int32) (p2 : Int32) (r : Int32) (hf : f_X5_looseThings p1 p2 h_things h_wanted n_room n_bundle = some r) : Met l yX5_looseThings wsX5_looseThings ({ frames := 0, cells := 0, slots := 0, locals := 0 } : Jvm.Room) (va_Pc [.ref a_w, .int p1, .int p2] (preW (dC, dI) (tyL cI cB cZ) aK aV sz [(a_w, .inr (5, [.ref a_h, .ref a_n, .ref a_w_shared])), (a_h, .inr (0, [.int h_rooms, .int h_people, .int h_things, .ref a_h_lifts, .ref a_h_prices, .ref a_h_starts, .ref a_h_hands, .ref a_h_wanted])), (a_h_wanted, .inl (cI, 8, .inl h_wanted)), (a_n, .inr (1, [.ref a_n_room, .ref a_n_bundle, .ref a_n_left, .int n_day, .int n_kept])), (a_n_room, .inl (cI, 8, .inl n_room)), (a_n_bundle, .inl (cI, 8, .inl n_bundle))])) (va_Qi (fun v (_ : Unit) => v = r) (postW (dC, dI) (tyL cI cB cZ) (va_A [(a_w, .inr (5, [.ref a_h, .ref a_n, .ref a_w_shared])), (a_h, .inr (0, [.int h_rooms, .int h_people, .int h_things, .ref a_h_lifts, .ref a_h_prices, .ref a_h_starts, .ref a_h_hands, .ref a_h_wanted])), (a_h_wanted, .inl (cI, 8, .inl h_wanted)), (a_n, .inr (1, [.ref a_n_room, .ref a_n_bundle, .ref a_n_left, .int n_day, .int n_kept])), (a_n_room, .inl (cI, 8, .inl n_room)), (a_n_bundle, .inl (cI, 8, .inl n_bundle))] sz) [(a_w, .inr (5, [.ref a_h, .ref a_n, .ref a_w_shared])), (a_h, .inr (0, [.int h_rooms, .int h_people, .int h_things, .ref a_h_lifts, .ref a_h_prices, .ref a_h_starts, .ref a_h_hands, .ref a_h_wanted])), (a_h_wanted, .inl (cI, 8, .inl h_wanted)), (a_n, .inr (1, [.ref a_n_room, .ref a_n_bundle, .ref a_n_left, .int n_day, .int n_kept])), (a_n_room, .inl (cI, 8, .inl n_room)), (a_n_bundle, .inl (cI, 8, .inl n_bundle))]) (va_A [(a_w, .inr (5, [.ref a_h, .ref a_n, .ref a_w_shared])), (a_h, .inr (0, [.int h_rooms, .int h_people, .int h_things, .ref a_h_lifts, .ref a_h_prices, .ref a_h_starts, .ref a_h_hands, .ref a_h_wanted])), (a_h_wanted, .inl (cI, 8, .inl h_wanted)), (a_n, .inr (1, [.ref a_n_room, .ref a_n_bundle, .ref a_n_left, .int n_day, .int n_kept])), (a_n_room, .inl (cI, 8, .inl n_room)), (a_n_bundle, .inl (cI, 8, .inl n_bundle))] sz)) 0 0 (va_A [(a_w, .inr (5, [.ref a_h, .ref a_n, .ref a_w_shared])), (a_h, .inr (0, [.int h_rooms, .int h_people, .int h_things, .ref a_h_lifts, .ref a_h_prices, .ref a_h_starts, .ref a_h_hands, .ref a_h_wanted])), (a_h_wanted, .inl (cI, 8, .inl h_wanted)), (a_n, .inr (1, [.ref a_n_room, .ref a_n_bundle, .ref a_n_left, .int n_day, .int n_kept])), (a_n_room, .inl (cI, 8, .inl n_room)), (a_n_bundle, .inl (cI, 8, .inl n_bundle))] sz) := by
  refine met_i (cc := cX5_looseThings) (maxL := 5) (own := RX5) (by decide) rfl (Nat.le_of_ble_eq_true rfl) rfl (fun p e s m args below meth c Q A E hret ls H locs hl hw => ?_)
  obtain ⟨⟨hx, hb, hml, hown, hts⟩, hK, hN, hA, hX⟩ := id E
  have hl : lv_has ls 5 [(0, .ref a_w), (1, .int p1), (2, .int p2)] := hl
  have iX0 : ∀ w ∈ wsX00, w ∈ wsX5_looseThings := by decide +kernel
  have iX1 : ∀ w ∈ wsX10, w ∈ wsX5_looseThings := by decide +kernel
  have iX5 : ∀ w ∈ wsX50, w ∈ wsX5_looseThings := by decide +kernel
  have kf15 := hts (.fieldLink RX5 15 "FiveThings$Work" "house" "LFiveThings$House;") (by decide +kernel)
  have kf23 := nw_F (own := "FiveThings$Work") (i := 23) (ref := "FiveThings$House") (n := "things") (d := "I") (h := "FiveThings") (args := args) hN (by decide +kernel)
  have kf19 := hts (.fieldLink RX5 19 "FiveThings$Work" "now" "LFiveThings$Now;") (by decide +kernel)
  have kf83 := nw_F (own := "FiveThings$Work") (i := 83) (ref := "FiveThings$Now") (n := "bundle") (d := "[I") (h := "FiveThings") (args := args) hN (by decide +kernel)
  have kf59 := nw_F (own := "FiveThings$Work") (i := 59) (ref := "FiveThings$Now") (n := "room") (d := "[I") (h := "FiveThings") (args := args) hN (by decide +kernel)
  have kf50 := nw_F (own := "FiveThings$Work") (i := 50) (ref := "FiveThings$House") (n := "wanted") (d := "[I") (h := "FiveThings") (args := args) hN (by decide +kernel)
  unfold f_X5_looseThings at hf
  refine lv_iconst (v := (0 : Int32)) hx hb dX5_looseThings_0 rfl ?_
  refine lv_istore_n (lv' := [(3, .int (0 : Int32)), (0, .ref a_w), (1, .int p1), (2, .int p2)]) hx hb dX5_looseThings_1 rfl hl (by decide) rfl (fun ls hl => ?_)
  refine lv_iconst (v := (0 : Int32)) hx hb dX5_looseThings_2 rfl ?_
  refine lv_istore (lv' := [(4, .int (0 : Int32)), (3, .int (0 : Int32)), (0, .ref a_w), (1, .int p1), (2, .int p2)]) hx hb dX5_looseThings_3 hl (by decide) rfl (fun ls hl => ?_)
  refine (loop2_sound (r := r) (P := fun (x4 : Int32) (x5 : Int32) => ∀ (ls : Array Slot) (H : Heap) (locs : List Loc), lv_has ls 5 [(4, .int x5), (3, .int x4), (0, .ref a_w), (1, .int p1), (2, .int p2)] → Wd A s.heap (dC, dI) [(a_w, .inr (5, [.ref a_h, .ref a_n, .ref a_w_shared])), (a_h, .inr (0, [.int h_rooms, .int h_people, .int h_things, .ref a_h_lifts, .ref a_h_prices, .ref a_h_starts, .ref a_h_hands, .ref a_h_wanted])), (a_h_wanted, .inl (cI, 8, .inl h_wanted)), (a_n, .inr (1, [.ref a_n_room, .ref a_n_bundle, .ref a_n_left, .int n_day, .int n_kept])), (a_n_room, .inl (cI, 8, .inl n_room)), (a_n_bundle, .inl (cI, 8, .inl n_bundle))] H locs → W p l e ({ frames := 0, cells := 0, slots := 0, locals := 0 } : Jvm.Room) s m args below meth c H locs 0 0 Q (F0 m 5 ls [])) (fun B5 x4 x5 ih5 hf => ?_) _ (0 : Int32) (0 : Int32) hf) ls H locs (lv_sub hl [0, 1, 2, 3, 4] rfl) hw
  intro ls H locs hl hw
  refine lv_iload hx hb dX5_looseThings_5 (lv_at hl 0 rfl) ?_
  refine lv_aload_n hx hb dX5_looseThings_7 rfl (lv_at hl 2 rfl) ?_
  refine r_get E hw iX5 0 0 rfl rfl (by decide) kf15 rfl rfl dX5_looseThings_8 ?_
  refine r_getN E hw iX0 1 2 rfl rfl (by decide) kf23 rfl rfl dX5_looseThings_11 ?_
  refine lv_icmp_ge (tgt := 78) hx hb dX5_looseThings_14 (by decide) (fun kc => ?_) (fun kc => ?_)
  · have hf := if_t hf kc
    refine lv_iload_n hx hb dX5_looseThings_78 rfl (lv_at hl 1 rfl) ?_
    obtain rfl := sm1 hf
    exact hret H locs ls 79 hw dX5_looseThings_79
  · have hf := if_f hf kc
    refine lv_iload_n hx hb dX5_looseThings_17 rfl (lv_at hl 3 rfl) ?_
    refine lv_iload_n hx hb dX5_looseThings_18 rfl (lv_at hl 4 rfl) ?_
    refine lv_icmp_eq (tgt := 72) hx hb dX5_looseThings_19 (by decide) (fun kc => ?_) (fun kc => ?_)
    · have hf := if_t hf kc
      refine lv_iinc (v := (x5 + (1 : Int32))) (lv' := [(4, .int (x5 + (1 : Int32))), (3, .int x4), (0, .ref a_w), (1, .int p1), (2, .int p2)]) hx hb dX5_looseThings_72 hl (k := 0) rfl rfl (by decide) rfl (fun ls hl => ?_)
      refine lv_goto (tgt := 5) hx hb dX5_looseThings_75 (by decide) ?_
      exact ih5 x4 (x5 + (1 : Int32)) hf ls H locs (lv_sub hl [0, 1, 2, 3, 4] rfl) hw
    · have hf := if_f hf kc
      refine lv_aload_n hx hb dX5_looseThings_22 rfl (lv_at hl 2 rfl) ?_
      refine r_get E hw iX5 0 1 rfl rfl (by decide) kf19 rfl rfl dX5_looseThings_23 ?_
      refine r_getN E hw iX1 3 1 rfl rfl (by decide) kf83 rfl rfl dX5_looseThings_26 ?_
      refine lv_iload hx hb dX5_looseThings_29 (lv_at hl 0 rfl) ?_
      obtain ⟨g6, hf⟩ := gd_some hf
      refine r_iald E hw 5 rfl g6 dX5_looseThings_31 ?_
      refine lv_bipush (v := (-9 : Int32)) hx hb dX5_looseThings_32 rfl ?_
      refine lv_icmp_ne (tgt := 72) hx hb dX5_looseThings_34 (by decide) (fun kc => ?_) (fun kc => ?_)
      · have hf := if_f hf kc
        refine lv_iinc (v := (x5 + (1 : Int32))) (lv' := [(4, .int (x5 + (1 : Int32))), (3, .int x4), (0, .ref a_w), (1, .int p1), (2, .int p2)]) hx hb dX5_looseThings_72 hl (k := 0) rfl rfl (by decide) rfl (fun ls hl => ?_)
        refine lv_goto (tgt := 5) hx hb dX5_looseThings_75 (by decide) ?_
        exact ih5 x4 (x5 + (1 : Int32)) hf ls H locs (lv_sub hl [0, 1, 2, 3, 4] rfl) hw
      · have hf := if_t hf kc
        refine lv_aload_n hx hb dX5_looseThings_37 rfl (lv_at hl 2 rfl) ?_
        refine r_get E hw iX5 0 1 rfl rfl (by decide) kf19 rfl rfl dX5_looseThings_38 ?_
        refine r_getN E hw iX1 3 0 rfl rfl (by decide) kf59 rfl rfl dX5_looseThings_41 ?_
        refine lv_iload hx hb dX5_looseThings_44 (lv_at hl 0 rfl) ?_
        obtain ⟨g7, hf⟩ := gd_some hf
        refine r_iald E hw 4 rfl g7 dX5_looseThings_46 ?_
        refine lv_iload_n hx hb dX5_looseThings_47 rfl (lv_at hl 3 rfl) ?_
        refine lv_icmp_ne (tgt := 72) hx hb dX5_looseThings_48 (by decide) (fun kc => ?_) (fun kc => ?_)
        · have hf := if_f hf kc
          refine lv_iinc (v := (x5 + (1 : Int32))) (lv' := [(4, .int (x5 + (1 : Int32))), (3, .int x4), (0, .ref a_w), (1, .int p1), (2, .int p2)]) hx hb dX5_looseThings_72 hl (k := 0) rfl rfl (by decide) rfl (fun ls hl => ?_)
          refine lv_goto (tgt := 5) hx hb dX5_looseThings_75 (by decide) ?_
          exact ih5 x4 (x5 + (1 : Int32)) hf ls H locs (lv_sub hl [0, 1, 2, 3, 4] rfl) hw
        · have hf := if_t hf kc
          refine lv_aload_n hx hb dX5_looseThings_51 rfl (lv_at hl 2 rfl) ?_
          refine r_get E hw iX5 0 0 rfl rfl (by decide) kf15 rfl rfl dX5_looseThings_52 ?_
          refine r_getN E hw iX0 1 7 rfl rfl (by decide) kf50 rfl rfl dX5_looseThings_55 ?_
          refine lv_iload hx hb dX5_looseThings_58 (lv_at hl 0 rfl) ?_
          obtain ⟨g8, hf⟩ := gd_some hf
          refine r_iald E hw 2 rfl g8 dX5_looseThings_60 ?_
          refine lv_iload_n hx hb dX5_looseThings_61 rfl (lv_at hl 4 rfl) ?_
          refine lv_icmp_ne (tgt := 72) hx hb dX5_looseThings_62 (by decide) (fun kc => ?_) (fun kc => ?_)
          · have hf := if_f hf kc
            refine lv_iinc (v := (x5 + (1 : Int32))) (lv' := [(4, .int (x5 + (1 : Int32))), (3, .int x4), (0, .ref a_w), (1, .int p1), (2, .int p2)]) hx hb dX5_looseThings_72 hl (k := 0) rfl rfl (by decide) rfl (fun ls hl => ?_)
            refine lv_goto (tgt := 5) hx hb dX5_looseThings_75 (by decide) ?_
            exact ih5 x4 (x5 + (1 : Int32)) hf ls H locs (lv_sub hl [0, 1, 2, 3, 4] rfl) hw
          · have hf := if_t hf kc
            refine lv_iload_n hx hb dX5_looseThings_65 rfl (lv_at hl 1 rfl) ?_
            refine lv_iconst (v := (1 : Int32)) hx hb dX5_looseThings_66 rfl ?_
            refine lv_iload hx hb dX5_looseThings_67 (lv_at hl 0 rfl) ?_
            refine lv_ishl hx hb dX5_looseThings_69 ?_
            refine lv_ior hx hb dX5_looseThings_70 ?_
            refine lv_istore_n (lv' := [(3, .int (x4 ||| ((1 : Int32) <<< (x5 &&& 31)))), (4, .int x5), (0, .ref a_w), (1, .int p1), (2, .int p2)]) hx hb dX5_looseThings_71 rfl hl (by decide) rfl (fun ls hl => ?_)
            refine lv_iinc (v := (x5 + (1 : Int32))) (lv' := [(4, .int (x5 + (1 : Int32))), (3, .int (x4 ||| ((1 : Int32) <<< (x5 &&& 31)))), (0, .ref a_w), (1, .int p1), (2, .int p2)]) hx hb dX5_looseThings_72 hl (k := 1) rfl rfl (by decide) rfl (fun ls hl => ?_)
            refine lv_goto (tgt := 5) hx hb dX5_looseThings_75 (by decide) ?_
            exact ih5 (x4 ||| ((1 : Int32) <<< (x5 &&& 31))) (x5 + (1 : Int32)) hf ls H locs (lv_sub hl [0, 1, 2, 3, 4] rfl) hw
def f_X5_bundleLifts  (h_things : Int32) (h_hands : Nat → Int32) (h_wanted : Nat → Int32) (n_room : Nat → Int32) (n_bundle : Nat → Int32) : Option (Int32) :=
  loop2 (fun B4 (x8 : Int32) (x9 : Int32) => (if h_things ≤ x9 then some (x8) else bd1 (f_X1_jobOf x9 n_bundle) (fun r10 => gd (inb x9 8) ((if (n_bundle x9.toNatClampNeg) = x9 then bd1 (f_X5_isDue r10 h_things h_wanted n_room) (fun r13 => (if r13 = 0 then B4 x8 (x9 + (1 : Int32)) else bd1 (f_X0_handsOf r10 h_things h_hands) (fun r15 => B4 (x8 + r15) (x9 + (1 : Int32))))) else B4 x8 (x9 + (1 : Int32))))))) FU (0 : Int32) (0 : Int32)
theorem hd_X5_bundleLifts : yX5_bundleLifts.cls = RX5 ∧ yX5_bundleLifts.cls ≠ "java/lang/invoke/MethodHandle" ∧ yX5_bundleLifts.cls ≠ "java/lang/invoke/VarHandle" ∧ (parseMethodDescriptor yX5_bundleLifts.desc).map (fun d => d.parameters.length) = some 0 := by decide +kernel
set_option maxHeartbeats 4000000 in
set_option maxRecDepth 100000 in
theorem c_X5_bundleLifts (l : Launch) (dC : Nat → ClassId) (dI : Nat → Nat → Nat) (cI cB cZ : ClassId) (aK aV : Nat → Nat) (a_w a_h a_n a_w_shared a_h_lifts a_h_prices a_h_starts a_h_hands a_h_wanted a_n_room a_n_bundle a_n_left : Nat) (sz : Nat) (h_rooms : Int32) (h_people : Int32) (h_things : Int32) (h_hands : Nat → Int32) (h_wanted : Nat → Int32) (n_day : Int32) (n_kept : Int32) (n_room : Nat → Int32) (n_bundle : Nat → Int32) (r : Int32) (hf : f_X5_bundleLifts h_things h_hands h_wanted n_room n_bundle = some r) : Met l yX5_bundleLifts wsX5_bundleLifts ({ frames := 2, cells := 0, slots := 0, locals := 44 } : Jvm.Room) (va_Pc [.ref a_w] (preW (dC, dI) (tyL cI cB cZ) aK aV sz [(a_w, .inr (5, [.ref a_h, .ref a_n, .ref a_w_shared])), (a_h, .inr (0, [.int h_rooms, .int h_people, .int h_things, .ref a_h_lifts, .ref a_h_prices, .ref a_h_starts, .ref a_h_hands, .ref a_h_wanted])), (a_h_hands, .inl (cI, 8, .inl h_hands)), (a_h_wanted, .inl (cI, 8, .inl h_wanted)), (a_n, .inr (1, [.ref a_n_room, .ref a_n_bundle, .ref a_n_left, .int n_day, .int n_kept])), (a_n_room, .inl (cI, 8, .inl n_room)), (a_n_bundle, .inl (cI, 8, .inl n_bundle))])) (va_Qi (fun v (_ : Unit) => v = r) (postW (dC, dI) (tyL cI cB cZ) (va_A [(a_w, .inr (5, [.ref a_h, .ref a_n, .ref a_w_shared])), (a_h, .inr (0, [.int h_rooms, .int h_people, .int h_things, .ref a_h_lifts, .ref a_h_prices, .ref a_h_starts, .ref a_h_hands, .ref a_h_wanted])), (a_h_hands, .inl (cI, 8, .inl h_hands)), (a_h_wanted, .inl (cI, 8, .inl h_wanted)), (a_n, .inr (1, [.ref a_n_room, .ref a_n_bundle, .ref a_n_left, .int n_day, .int n_kept])), (a_n_room, .inl (cI, 8, .inl n_room)), (a_n_bundle, .inl (cI, 8, .inl n_bundle))] sz) [(a_w, .inr (5, [.ref a_h, .ref a_n, .ref a_w_shared])), (a_h, .inr (0, [.int h_rooms, .int h_people, .int h_things, .ref a_h_lifts, .ref a_h_prices, .ref a_h_starts, .ref a_h_hands, .ref a_h_wanted])), (a_h_hands, .inl (cI, 8, .inl h_hands)), (a_h_wanted, .inl (cI, 8, .inl h_wanted)), (a_n, .inr (1, [.ref a_n_room, .ref a_n_bundle, .ref a_n_left, .int n_day, .int n_kept])), (a_n_room, .inl (cI, 8, .inl n_room)), (a_n_bundle, .inl (cI, 8, .inl n_bundle))]) (va_A [(a_w, .inr (5, [.ref a_h, .ref a_n, .ref a_w_shared])), (a_h, .inr (0, [.int h_rooms, .int h_people, .int h_things, .ref a_h_lifts, .ref a_h_prices, .ref a_h_starts, .ref a_h_hands, .ref a_h_wanted])), (a_h_hands, .inl (cI, 8, .inl h_hands)), (a_h_wanted, .inl (cI, 8, .inl h_wanted)), (a_n, .inr (1, [.ref a_n_room, .ref a_n_bundle, .ref a_n_left, .int n_day, .int n_kept])), (a_n_room, .inl (cI, 8, .inl n_room)), (a_n_bundle, .inl (cI, 8, .inl n_bundle))] sz)) 0 0 (va_A [(a_w, .inr (5, [.ref a_h, .ref a_n, .ref a_w_shared])), (a_h, .inr (0, [.int h_rooms, .int h_people, .int h_things, .ref a_h_lifts, .ref a_h_prices, .ref a_h_starts, .ref a_h_hands, .ref a_h_wanted])), (a_h_hands, .inl (cI, 8, .inl h_hands)), (a_h_wanted, .inl (cI, 8, .inl h_wanted)), (a_n, .inr (1, [.ref a_n_room, .ref a_n_bundle, .ref a_n_left, .int n_day, .int n_kept])), (a_n_room, .inl (cI, 8, .inl n_room)), (a_n_bundle, .inl (cI, 8, .inl n_bundle))] sz) := by
  refine met_i (cc := cX5_bundleLifts) (maxL := 4) (own := RX5) (by decide) rfl (Nat.le_of_ble_eq_true rfl) rfl (fun p e s m args below meth c Q A E hret ls H locs hl hw => ?_)
  obtain ⟨⟨hx, hb, hml, hown, hts⟩, hK, hN, hA, hX⟩ := id E
  have hl : lv_has ls 4 [(0, .ref a_w)] := hl
  have iX0 : ∀ w ∈ wsX00, w ∈ wsX5_bundleLifts := by decide +kernel
  have iX1 : ∀ w ∈ wsX10, w ∈ wsX5_bundleLifts := by decide +kernel
  have iX5 : ∀ w ∈ wsX50, w ∈ wsX5_bundleLifts := by decide +kernel
  have kf15 := hts (.fieldLink RX5 15 "FiveThings$Work" "house" "LFiveThings$House;") (by decide +kernel)
  have kf23 := nw_F (own := "FiveThings$Work") (i := 23) (ref := "FiveThings$House") (n := "things") (d := "I") (h := "FiveThings") (args := args) hN (by decide +kernel)
  have kf19 := hts (.fieldLink RX5 19 "FiveThings$Work" "now" "LFiveThings$Now;") (by decide +kernel)
  have kf83 := nw_F (own := "FiveThings$Work") (i := 83) (ref := "FiveThings$Now") (n := "bundle") (d := "[I") (h := "FiveThings") (args := args) hN (by decide +kernel)
  unfold f_X5_bundleLifts at hf
  refine lv_iconst (v := (0 : Int32)) hx hb dX5_bundleLifts_0 rfl ?_
  refine lv_istore_n (lv' := [(1, .int (0 : Int32)), (0, .ref a_w)]) hx hb dX5_bundleLifts_1 rfl hl (by decide) rfl (fun ls hl => ?_)
  refine lv_iconst (v := (0 : Int32)) hx hb dX5_bundleLifts_2 rfl ?_
  refine lv_istore_n (lv' := [(2, .int (0 : Int32)), (1, .int (0 : Int32)), (0, .ref a_w)]) hx hb dX5_bundleLifts_3 rfl hl (by decide) rfl (fun ls hl => ?_)
  refine (loop2_sound (r := r) (P := fun (x8 : Int32) (x9 : Int32) => ∀ (ls : Array Slot) (H : Heap) (locs : List Loc), lv_has ls 4 [(2, .int x9), (1, .int x8), (0, .ref a_w)] → Wd A s.heap (dC, dI) [(a_w, .inr (5, [.ref a_h, .ref a_n, .ref a_w_shared])), (a_h, .inr (0, [.int h_rooms, .int h_people, .int h_things, .ref a_h_lifts, .ref a_h_prices, .ref a_h_starts, .ref a_h_hands, .ref a_h_wanted])), (a_h_hands, .inl (cI, 8, .inl h_hands)), (a_h_wanted, .inl (cI, 8, .inl h_wanted)), (a_n, .inr (1, [.ref a_n_room, .ref a_n_bundle, .ref a_n_left, .int n_day, .int n_kept])), (a_n_room, .inl (cI, 8, .inl n_room)), (a_n_bundle, .inl (cI, 8, .inl n_bundle))] H locs → W p l e ({ frames := 2, cells := 0, slots := 0, locals := 44 } : Jvm.Room) s m args below meth c H locs 0 0 Q (F0 m 4 ls [])) (fun B4 x8 x9 ih4 hf => ?_) _ (0 : Int32) (0 : Int32) hf) ls H locs (lv_sub hl [0, 1, 2] rfl) hw
  intro ls H locs hl hw
  refine lv_iload_n hx hb dX5_bundleLifts_4 rfl (lv_at hl 0 rfl) ?_
  refine lv_aload_n hx hb dX5_bundleLifts_5 rfl (lv_at hl 2 rfl) ?_
  refine r_get E hw iX5 0 0 rfl rfl (by decide) kf15 rfl rfl dX5_bundleLifts_6 ?_
  refine r_getN E hw iX0 1 2 rfl rfl (by decide) kf23 rfl rfl dX5_bundleLifts_9 ?_
  refine lv_icmp_ge (tgt := 62) hx hb dX5_bundleLifts_12 (by decide) (fun kc => ?_) (fun kc => ?_)
  · have hf := if_t hf kc
    refine lv_iload_n hx hb dX5_bundleLifts_62 rfl (lv_at hl 1 rfl) ?_
    obtain rfl := sm1 hf
    exact hret H locs ls 63 hw dX5_bundleLifts_63
  · have hf := if_f hf kc
    refine lv_aload_n hx hb dX5_bundleLifts_15 rfl (lv_at hl 2 rfl) ?_
    refine r_get E hw iX5 0 1 rfl rfl (by decide) kf19 rfl rfl dX5_bundleLifts_16 ?_
    refine lv_iload_n hx hb dX5_bundleLifts_19 rfl (lv_at hl 0 rfl) ?_
    obtain ⟨r10, hu11, hf⟩ := bd1_some hf
    refine cl_i (wr := [(a_w, .inr (5, [.ref a_h, .ref a_n, .ref a_w_shared])), (a_h, .inr (0, [.int h_rooms, .int h_people, .int h_things, .ref a_h_lifts, .ref a_h_prices, .ref a_h_starts, .ref a_h_hands, .ref a_h_wanted])), (a_h_hands, .inl (cI, 8, .inl h_hands)), (a_h_wanted, .inl (cI, 8, .inl h_wanted)), (a_n_room, .inl (cI, 8, .inl n_room))]) (w2 := [(a_w, .inr (5, [.ref a_h, .ref a_n, .ref a_w_shared])), (a_h, .inr (0, [.int h_rooms, .int h_people, .int h_things, .ref a_h_lifts, .ref a_h_prices, .ref a_h_starts, .ref a_h_hands, .ref a_h_wanted])), (a_h_hands, .inl (cI, 8, .inl h_hands)), (a_h_wanted, .inl (cI, 8, .inl h_wanted)), (a_n, .inr (1, [.ref a_n_room, .ref a_n_bundle, .ref a_n_left, .int n_day, .int n_kept])), (a_n_room, .inl (cI, 8, .inl n_room)), (a_n_bundle, .inl (cI, 8, .inl n_bundle))]) E hw [4, 6] [0, 1, 2, 3, 5] [0, 1, 2, 3, 5, 4, 6] (va_runV (As := [.int x9]) (rest := []) E.1 (c_X1_jobOf l dC dI cI cB cZ aK aV a_n a_n_room a_n_bundle a_n_left H.size n_day n_kept n_bundle x9 r10 hu11) (cwV 1 hts gX5_bundleLifts_X1_jobOf rfl rfl rfl hd_X1_jobOf ⟨Nat.le_of_ble_eq_true rfl, Nat.le_of_ble_eq_true rfl⟩) (pre_V E hw [4, 6] rfl rfl rfl rfl) rfl rfl hl.1 rfl (lv_room (Nat.le_of_ble_eq_true rfl)) dX5_bundleLifts_20 ⟨Nat.zero_le _, Nat.zero_le _⟩) rfl rfl rfl (by decide) rfl rfl (fun H locs hw => ?_)
    refine lv_istore_n (lv' := [(3, .int r10), (2, .int x9), (1, .int x8), (0, .ref a_w)]) hx hb dX5_bundleLifts_23 rfl hl (by decide) rfl (fun ls hl => ?_)
    refine lv_aload_n hx hb dX5_bundleLifts_24 rfl (lv_at hl 3 rfl) ?_
    refine r_get E hw iX5 0 1 rfl rfl (by decide) kf19 rfl rfl dX5_bundleLifts_25 ?_
    refine r_getN E hw iX1 4 1 rfl rfl (by decide) kf83 rfl rfl dX5_bundleLifts_28 ?_
    refine lv_iload_n hx hb dX5_bundleLifts_31 rfl (lv_at hl 1 rfl) ?_
    obtain ⟨g12, hf⟩ := gd_some hf
    refine r_iald E hw 6 rfl g12 dX5_bundleLifts_32 ?_
    refine lv_iload_n hx hb dX5_bundleLifts_33 rfl (lv_at hl 1 rfl) ?_
    refine lv_icmp_ne (tgt := 56) hx hb dX5_bundleLifts_34 (by decide) (fun kc => ?_) (fun kc => ?_)
    · have hf := if_f hf kc
      refine lv_iinc (v := (x9 + (1 : Int32))) (lv' := [(2, .int (x9 + (1 : Int32))), (3, .int r10), (1, .int x8), (0, .ref a_w)]) hx hb dX5_bundleLifts_56 hl (k := 1) rfl rfl (by decide) rfl (fun ls hl => ?_)
      refine lv_goto (tgt := 4) hx hb dX5_bundleLifts_59 (by decide) ?_
      exact ih4 x8 (x9 + (1 : Int32)) hf ls H locs (lv_sub hl [0, 2, 3] rfl) hw
    · have hf := if_t hf kc
      refine lv_aload_n hx hb dX5_bundleLifts_37 rfl (lv_at hl 3 rfl) ?_
      refine lv_iload_n hx hb dX5_bundleLifts_38 rfl (lv_at hl 0 rfl) ?_
      obtain ⟨r13, hu14, hf⟩ := bd1_some hf
      refine cl_i (wr := [(a_h_hands, .inl (cI, 8, .inl h_hands)), (a_n_bundle, .inl (cI, 8, .inl n_bundle))]) (w2 := [(a_w, .inr (5, [.ref a_h, .ref a_n, .ref a_w_shared])), (a_h, .inr (0, [.int h_rooms, .int h_people, .int h_things, .ref a_h_lifts, .ref a_h_prices, .ref a_h_starts, .ref a_h_hands, .ref a_h_wanted])), (a_h_hands, .inl (cI, 8, .inl h_hands)), (a_h_wanted, .inl (cI, 8, .inl h_wanted)), (a_n, .inr (1, [.ref a_n_room, .ref a_n_bundle, .ref a_n_left, .int n_day, .int n_kept])), (a_n_room, .inl (cI, 8, .inl n_room)), (a_n_bundle, .inl (cI, 8, .inl n_bundle))]) E hw [0, 1, 3, 4, 5] [2, 6] [2, 3, 0, 4, 5, 6, 1] (va_runV (As := [.int r10]) (rest := []) E.1 (c_X5_isDue l dC dI cI cB cZ aK aV a_w a_h a_n a_w_shared a_h_lifts a_h_prices a_h_starts a_h_hands a_h_wanted a_n_room a_n_bundle a_n_left H.size h_rooms h_people h_things h_wanted n_day n_kept n_room r10 r13 hu14) (cwV 1 hts gX5_bundleLifts_X5_isDue rfl rfl rfl hd_X5_isDue ⟨Nat.le_of_ble_eq_true rfl, Nat.le_of_ble_eq_true rfl⟩) (pre_V E hw [0, 1, 3, 4, 5] rfl rfl rfl rfl) rfl rfl hl.1 rfl (lv_room (Nat.le_of_ble_eq_true rfl)) dX5_bundleLifts_39 ⟨Nat.zero_le _, Nat.zero_le _⟩) rfl rfl rfl (by decide) rfl rfl (fun H locs hw => ?_)
      refine lv_if_eq (tgt := 56) hx hb dX5_bundleLifts_42 (by decide) (fun kc => ?_) (fun kc => ?_)
      · have hf := if_t hf kc
        refine lv_iinc (v := (x9 + (1 : Int32))) (lv' := [(2, .int (x9 + (1 : Int32))), (3, .int r10), (1, .int x8), (0, .ref a_w)]) hx hb dX5_bundleLifts_56 hl (k := 1) rfl rfl (by decide) rfl (fun ls hl => ?_)
        refine lv_goto (tgt := 4) hx hb dX5_bundleLifts_59 (by decide) ?_
        exact ih4 x8 (x9 + (1 : Int32)) hf ls H locs (lv_sub hl [0, 2, 3] rfl) hw
      · have hf := if_f hf kc
        refine lv_iload_n hx hb dX5_bundleLifts_45 rfl (lv_at hl 2 rfl) ?_
        refine lv_aload_n hx hb dX5_bundleLifts_46 rfl (lv_at hl 3 rfl) ?_
        refine r_get E hw iX5 0 0 rfl rfl (by decide) kf15 rfl rfl dX5_bundleLifts_47 ?_
        refine lv_iload_n hx hb dX5_bundleLifts_50 rfl (lv_at hl 0 rfl) ?_
        obtain ⟨r15, hu16, hf⟩ := bd1_some hf
        refine cl_i (wr := [(a_w, .inr (5, [.ref a_h, .ref a_n, .ref a_w_shared])), (a_h_wanted, .inl (cI, 8, .inl h_wanted)), (a_n, .inr (1, [.ref a_n_room, .ref a_n_bundle, .ref a_n_left, .int n_day, .int n_kept])), (a_n_room, .inl (cI, 8, .inl n_room)), (a_n_bundle, .inl (cI, 8, .inl n_bundle))]) (w2 := [(a_w, .inr (5, [.ref a_h, .ref a_n, .ref a_w_shared])), (a_h, .inr (0, [.int h_rooms, .int h_people, .int h_things, .ref a_h_lifts, .ref a_h_prices, .ref a_h_starts, .ref a_h_hands, .ref a_h_wanted])), (a_h_hands, .inl (cI, 8, .inl h_hands)), (a_h_wanted, .inl (cI, 8, .inl h_wanted)), (a_n, .inr (1, [.ref a_n_room, .ref a_n_bundle, .ref a_n_left, .int n_day, .int n_kept])), (a_n_room, .inl (cI, 8, .inl n_room)), (a_n_bundle, .inl (cI, 8, .inl n_bundle))]) E hw [1, 2] [0, 3, 4, 5, 6] [0, 5, 6, 1, 2, 3, 4] (va_runV (As := [.int r10]) (rest := [.int x8]) E.1 (c_X0_handsOf l dC dI cI cB cZ aK aV a_h a_h_lifts a_h_prices a_h_starts a_h_hands a_h_wanted H.size h_rooms h_people h_things h_hands r10 r15 hu16) (cwV 1 hts gX5_bundleLifts_X0_handsOf rfl rfl rfl hd_X0_handsOf ⟨Nat.le_of_ble_eq_true rfl, Nat.le_of_ble_eq_true rfl⟩) (pre_V E hw [1, 2] rfl rfl rfl rfl) rfl rfl hl.1 rfl (lv_room (Nat.le_of_ble_eq_true rfl)) dX5_bundleLifts_51 ⟨Nat.zero_le _, Nat.zero_le _⟩) rfl rfl rfl (by decide) rfl rfl (fun H locs hw => ?_)
        refine lv_iadd hx hb dX5_bundleLifts_54 ?_
        refine lv_istore_n (lv' := [(1, .int (x8 + r15)), (3, .int r10), (2, .int x9), (0, .ref a_w)]) hx hb dX5_bundleLifts_55 rfl hl (by decide) rfl (fun ls hl => ?_)
        refine lv_iinc (v := (x9 + (1 : Int32))) (lv' := [(2, .int (x9 + (1 : Int32))), (1, .int (x8 + r15)), (3, .int r10), (0, .ref a_w)]) hx hb dX5_bundleLifts_56 hl (k := 2) rfl rfl (by decide) rfl (fun ls hl => ?_)
        refine lv_goto (tgt := 4) hx hb dX5_bundleLifts_59 (by decide) ?_
        exact ih4 (x8 + r15) (x9 + (1 : Int32)) hf ls H locs (lv_sub hl [0, 1, 3] rfl) hw
def f_X5_fewestLifts  (h_rooms : Int32) (h_things : Int32) (h_hands : Nat → Int32) (h_wanted : Nat → Int32) (n_room : Nat → Int32) (n_bundle : Nat → Int32) : Option (Int32) :=
  bd1 (f_X5_bundleLifts h_things h_hands h_wanted n_room n_bundle) (fun r1 => loop2 (fun B7 (x19 : Int32) (x20 : Int32) => (if h_rooms ≤ x20 then some (x19) else loop2 (fun B20 (x28 : Int32) (x29 : Int32) => (if h_rooms ≤ x29 then B7 x28 (x20 + (1 : Int32)) else bd1 (f_X5_looseThings x20 x29 h_things h_wanted n_room n_bundle) (fun r30 => bd1 (f_X0_handsTogether r30 h_things h_hands) (fun r32 => bd1 (f_X0_handsOf r30 h_things h_hands) (fun r34 => lt ((x28 + (if ((1 : Int32) + r34) < r32 then ((1 : Int32) + r34) else r32))) (fun z36 => B20 z36 (x29 + (1 : Int32)))))))) FU x19 (0 : Int32))) FU r1 (0 : Int32))
theorem hd_X5_fewestLifts : yX5_fewestLifts.cls = RX5 ∧ yX5_fewestLifts.cls ≠ "java/lang/invoke/MethodHandle" ∧ yX5_fewestLifts.cls ≠ "java/lang/invoke/VarHandle" ∧ (parseMethodDescriptor yX5_fewestLifts.desc).map (fun d => d.parameters.length) = some 0 := by decide +kernel
set_option maxHeartbeats 4000000 in
set_option maxRecDepth 100000 in
theorem c_X5_fewestLifts (l : Launch) (dC : Nat → ClassId) (dI : Nat → Nat → Nat) (cI cB cZ : ClassId) (aK aV : Nat → Nat) (a_w a_h a_n a_w_shared a_h_lifts a_h_prices a_h_starts a_h_hands a_h_wanted a_n_room a_n_bundle a_n_left : Nat) (sz : Nat) (h_rooms : Int32) (h_people : Int32) (h_things : Int32) (h_hands : Nat → Int32) (h_wanted : Nat → Int32) (n_day : Int32) (n_kept : Int32) (n_room : Nat → Int32) (n_bundle : Nat → Int32) (r : Int32) (hf : f_X5_fewestLifts h_rooms h_things h_hands h_wanted n_room n_bundle = some r) : Met l yX5_fewestLifts wsX5_fewestLifts ({ frames := 3, cells := 0, slots := 0, locals := 67 } : Jvm.Room) (va_Pc [.ref a_w] (preW (dC, dI) (tyL cI cB cZ) aK aV sz [(a_w, .inr (5, [.ref a_h, .ref a_n, .ref a_w_shared])), (a_h, .inr (0, [.int h_rooms, .int h_people, .int h_things, .ref a_h_lifts, .ref a_h_prices, .ref a_h_starts, .ref a_h_hands, .ref a_h_wanted])), (a_h_hands, .inl (cI, 8, .inl h_hands)), (a_h_wanted, .inl (cI, 8, .inl h_wanted)), (a_n, .inr (1, [.ref a_n_room, .ref a_n_bundle, .ref a_n_left, .int n_day, .int n_kept])), (a_n_room, .inl (cI, 8, .inl n_room)), (a_n_bundle, .inl (cI, 8, .inl n_bundle))])) (va_Qi (fun v (_ : Unit) => v = r) (postW (dC, dI) (tyL cI cB cZ) (va_A [(a_w, .inr (5, [.ref a_h, .ref a_n, .ref a_w_shared])), (a_h, .inr (0, [.int h_rooms, .int h_people, .int h_things, .ref a_h_lifts, .ref a_h_prices, .ref a_h_starts, .ref a_h_hands, .ref a_h_wanted])), (a_h_hands, .inl (cI, 8, .inl h_hands)), (a_h_wanted, .inl (cI, 8, .inl h_wanted)), (a_n, .inr (1, [.ref a_n_room, .ref a_n_bundle, .ref a_n_left, .int n_day, .int n_kept])), (a_n_room, .inl (cI, 8, .inl n_room)), (a_n_bundle, .inl (cI, 8, .inl n_bundle))] sz) [(a_w, .inr (5, [.ref a_h, .ref a_n, .ref a_w_shared])), (a_h, .inr (0, [.int h_rooms, .int h_people, .int h_things, .ref a_h_lifts, .ref a_h_prices, .ref a_h_starts, .ref a_h_hands, .ref a_h_wanted])), (a_h_hands, .inl (cI, 8, .inl h_hands)), (a_h_wanted, .inl (cI, 8, .inl h_wanted)), (a_n, .inr (1, [.ref a_n_room, .ref a_n_bundle, .ref a_n_left, .int n_day, .int n_kept])), (a_n_room, .inl (cI, 8, .inl n_room)), (a_n_bundle, .inl (cI, 8, .inl n_bundle))]) (va_A [(a_w, .inr (5, [.ref a_h, .ref a_n, .ref a_w_shared])), (a_h, .inr (0, [.int h_rooms, .int h_people, .int h_things, .ref a_h_lifts, .ref a_h_prices, .ref a_h_starts, .ref a_h_hands, .ref a_h_wanted])), (a_h_hands, .inl (cI, 8, .inl h_hands)), (a_h_wanted, .inl (cI, 8, .inl h_wanted)), (a_n, .inr (1, [.ref a_n_room, .ref a_n_bundle, .ref a_n_left, .int n_day, .int n_kept])), (a_n_room, .inl (cI, 8, .inl n_room)), (a_n_bundle, .inl (cI, 8, .inl n_bundle))] sz)) 0 0 (va_A [(a_w, .inr (5, [.ref a_h, .ref a_n, .ref a_w_shared])), (a_h, .inr (0, [.int h_rooms, .int h_people, .int h_things, .ref a_h_lifts, .ref a_h_prices, .ref a_h_starts, .ref a_h_hands, .ref a_h_wanted])), (a_h_hands, .inl (cI, 8, .inl h_hands)), (a_h_wanted, .inl (cI, 8, .inl h_wanted)), (a_n, .inr (1, [.ref a_n_room, .ref a_n_bundle, .ref a_n_left, .int n_day, .int n_kept])), (a_n_room, .inl (cI, 8, .inl n_room)), (a_n_bundle, .inl (cI, 8, .inl n_bundle))] sz) := by
  refine met_i (cc := cX5_fewestLifts) (maxL := 5) (own := RX5) (by decide) rfl (Nat.le_of_ble_eq_true rfl) rfl (fun p e s m args below meth c Q A E hret ls H locs hl hw => ?_)
  obtain ⟨⟨hx, hb, hml, hown, hts⟩, hK, hN, hA, hX⟩ := id E
  have hl : lv_has ls 5 [(0, .ref a_w)] := hl
  have iX0 : ∀ w ∈ wsX00, w ∈ wsX5_fewestLifts := by decide +kernel
  have iX5 : ∀ w ∈ wsX50, w ∈ wsX5_fewestLifts := by decide +kernel
  have kf15 := hts (.fieldLink RX5 15 "FiveThings$Work" "house" "LFiveThings$House;") (by decide +kernel)
  have kf65 := nw_F (own := "FiveThings$Work") (i := 65) (ref := "FiveThings$House") (n := "rooms") (d := "I") (h := "FiveThings") (args := args) hN (by decide +kernel)
  have km78 := hts (.methodLink RX5 78 Lib.Math.min.name) (by decide +kernel)
  have kn78 := hts (.static Lib.Math.min.name) (by decide +kernel)
  have ko78 := hts (.initialized "java/lang/Math") (by decide +kernel)
  have kp78 := hts (.code Lib.Math.min.name Lib.Math.min.code 2 (some .int)) (by decide +kernel)
  unfold f_X5_fewestLifts at hf
  refine lv_aload_n hx hb dX5_fewestLifts_0 rfl (lv_at hl 0 rfl) ?_
  obtain ⟨r1, hu2, hf⟩ := bd1_some hf
  refine cl_i (wr := []) (w2 := [(a_w, .inr (5, [.ref a_h, .ref a_n, .ref a_w_shared])), (a_h, .inr (0, [.int h_rooms, .int h_people, .int h_things, .ref a_h_lifts, .ref a_h_prices, .ref a_h_starts, .ref a_h_hands, .ref a_h_wanted])), (a_h_hands, .inl (cI, 8, .inl h_hands)), (a_h_wanted, .inl (cI, 8, .inl h_wanted)), (a_n, .inr (1, [.ref a_n_room, .ref a_n_bundle, .ref a_n_left, .int n_day, .int n_kept])), (a_n_room, .inl (cI, 8, .inl n_room)), (a_n_bundle, .inl (cI, 8, .inl n_bundle))]) E hw [0, 1, 2, 3, 4, 5, 6] [] [0, 1, 2, 3, 4, 5, 6] (va_runV (As := []) (rest := []) E.1 (c_X5_bundleLifts l dC dI cI cB cZ aK aV a_w a_h a_n a_w_shared a_h_lifts a_h_prices a_h_starts a_h_hands a_h_wanted a_n_room a_n_bundle a_n_left H.size h_rooms h_people h_things h_hands h_wanted n_day n_kept n_room n_bundle r1 hu2) (cwV 0 hts gX5_fewestLifts_X5_bundleLifts rfl rfl rfl hd_X5_bundleLifts ⟨Nat.le_of_ble_eq_true rfl, Nat.le_of_ble_eq_true rfl⟩) (pre_V E hw [0, 1, 2, 3, 4, 5, 6] rfl rfl rfl rfl) rfl rfl hl.1 rfl (lv_room (Nat.le_of_ble_eq_true rfl)) dX5_fewestLifts_1 ⟨Nat.zero_le _, Nat.zero_le _⟩) rfl rfl rfl (by decide) rfl rfl (fun H locs hw => ?_)
  refine lv_istore_n (lv' := [(1, .int r1), (0, .ref a_w)]) hx hb dX5_fewestLifts_4 rfl hl (by decide) rfl (fun ls hl => ?_)
  refine lv_iconst (v := (0 : Int32)) hx hb dX5_fewestLifts_5 rfl ?_
  refine lv_istore_n (lv' := [(2, .int (0 : Int32)), (1, .int r1), (0, .ref a_w)]) hx hb dX5_fewestLifts_6 rfl hl (by decide) rfl (fun ls hl => ?_)
  refine (loop2_sound (r := r) (P := fun (x19 : Int32) (x20 : Int32) => ∀ (ls : Array Slot) (H : Heap) (locs : List Loc), lv_has ls 5 [(2, .int x20), (1, .int x19), (0, .ref a_w)] → Wd A s.heap (dC, dI) [(a_w, .inr (5, [.ref a_h, .ref a_n, .ref a_w_shared])), (a_h, .inr (0, [.int h_rooms, .int h_people, .int h_things, .ref a_h_lifts, .ref a_h_prices, .ref a_h_starts, .ref a_h_hands, .ref a_h_wanted])), (a_h_hands, .inl (cI, 8, .inl h_hands)), (a_h_wanted, .inl (cI, 8, .inl h_wanted)), (a_n, .inr (1, [.ref a_n_room, .ref a_n_bundle, .ref a_n_left, .int n_day, .int n_kept])), (a_n_room, .inl (cI, 8, .inl n_room)), (a_n_bundle, .inl (cI, 8, .inl n_bundle))] H locs → W p l e ({ frames := 3, cells := 0, slots := 0, locals := 67 } : Jvm.Room) s m args below meth c H locs 0 0 Q (F0 m 7 ls [])) (fun B7 x19 x20 ih7 hf => ?_) _ r1 (0 : Int32) hf) ls H locs (lv_sub hl [0, 1, 2] rfl) hw
  intro ls H locs hl hw
  refine lv_iload_n hx hb dX5_fewestLifts_7 rfl (lv_at hl 0 rfl) ?_
  refine lv_aload_n hx hb dX5_fewestLifts_8 rfl (lv_at hl 2 rfl) ?_
  refine r_get E hw iX5 0 0 rfl rfl (by decide) kf15 rfl rfl dX5_fewestLifts_9 ?_
  refine r_getN E hw iX0 1 0 rfl rfl (by decide) kf65 rfl rfl dX5_fewestLifts_12 ?_
  refine lv_icmp_ge (tgt := 77) hx hb dX5_fewestLifts_15 (by decide) (fun kc => ?_) (fun kc => ?_)
  · have hf := if_t hf kc
    refine lv_iload_n hx hb dX5_fewestLifts_77 rfl (lv_at hl 1 rfl) ?_
    obtain rfl := sm1 hf
    exact hret H locs ls 78 hw dX5_fewestLifts_78
  · have hf := if_f hf kc
    refine lv_iconst (v := (0 : Int32)) hx hb dX5_fewestLifts_18 rfl ?_
    refine lv_istore_n (lv' := [(3, .int (0 : Int32)), (2, .int x20), (1, .int x19), (0, .ref a_w)]) hx hb dX5_fewestLifts_19 rfl hl (by decide) rfl (fun ls hl => ?_)
    refine (loop2_sound (r := r) (P := fun (x28 : Int32) (x29 : Int32) => ∀ (ls : Array Slot) (H : Heap) (locs : List Loc), lv_has ls 5 [(3, .int x29), (2, .int x20), (1, .int x28), (0, .ref a_w)] → Wd A s.heap (dC, dI) [(a_w, .inr (5, [.ref a_h, .ref a_n, .ref a_w_shared])), (a_h, .inr (0, [.int h_rooms, .int h_people, .int h_things, .ref a_h_lifts, .ref a_h_prices, .ref a_h_starts, .ref a_h_hands, .ref a_h_wanted])), (a_h_hands, .inl (cI, 8, .inl h_hands)), (a_h_wanted, .inl (cI, 8, .inl h_wanted)), (a_n, .inr (1, [.ref a_n_room, .ref a_n_bundle, .ref a_n_left, .int n_day, .int n_kept])), (a_n_room, .inl (cI, 8, .inl n_room)), (a_n_bundle, .inl (cI, 8, .inl n_bundle))] H locs → W p l e ({ frames := 3, cells := 0, slots := 0, locals := 67 } : Jvm.Room) s m args below meth c H locs 0 0 Q (F0 m 20 ls [])) (fun B20 x28 x29 ih20 hf => ?_) _ x19 (0 : Int32) hf) ls H locs (lv_sub hl [0, 1, 2, 3] rfl) hw
    intro ls H locs hl hw
    refine lv_iload_n hx hb dX5_fewestLifts_20 rfl (lv_at hl 0 rfl) ?_
    refine lv_aload_n hx hb dX5_fewestLifts_21 rfl (lv_at hl 3 rfl) ?_
    refine r_get E hw iX5 0 0 rfl rfl (by decide) kf15 rfl rfl dX5_fewestLifts_22 ?_
    refine r_getN E hw iX0 1 0 rfl rfl (by decide) kf65 rfl rfl dX5_fewestLifts_25 ?_
    refine lv_icmp_ge (tgt := 71) hx hb dX5_fewestLifts_28 (by decide) (fun kc => ?_) (fun kc => ?_)
    · have hf := if_t hf kc
      refine lv_iinc (v := (x20 + (1 : Int32))) (lv' := [(2, .int (x20 + (1 : Int32))), (3, .int x29), (1, .int x28), (0, .ref a_w)]) hx hb dX5_fewestLifts_71 hl (k := 1) rfl rfl (by decide) rfl (fun ls hl => ?_)
      refine lv_goto (tgt := 7) hx hb dX5_fewestLifts_74 (by decide) ?_
      exact ih7 x28 (x20 + (1 : Int32)) hf ls H locs (lv_sub hl [0, 2, 3] rfl) hw
    · have hf := if_f hf kc
      refine lv_aload_n hx hb dX5_fewestLifts_31 rfl (lv_at hl 3 rfl) ?_
      refine lv_iload_n hx hb dX5_fewestLifts_32 rfl (lv_at hl 1 rfl) ?_
      refine lv_iload_n hx hb dX5_fewestLifts_33 rfl (lv_at hl 0 rfl) ?_
      obtain ⟨r30, hu31, hf⟩ := bd1_some hf
      refine cl_i (wr := [(a_h_hands, .inl (cI, 8, .inl h_hands))]) (w2 := [(a_w, .inr (5, [.ref a_h, .ref a_n, .ref a_w_shared])), (a_h, .inr (0, [.int h_rooms, .int h_people, .int h_things, .ref a_h_lifts, .ref a_h_prices, .ref a_h_starts, .ref a_h_hands, .ref a_h_wanted])), (a_h_hands, .inl (cI, 8, .inl h_hands)), (a_h_wanted, .inl (cI, 8, .inl h_wanted)), (a_n, .inr (1, [.ref a_n_room, .ref a_n_bundle, .ref a_n_left, .int n_day, .int n_kept])), (a_n_room, .inl (cI, 8, .inl n_room)), (a_n_bundle, .inl (cI, 8, .inl n_bundle))]) E hw [0, 1, 3, 4, 5, 6] [2] [1, 2, 0, 3, 4, 5, 6] (va_runV (As := [.int x20, .int x29]) (rest := []) E.1 (c_X5_looseThings l dC dI cI cB cZ aK aV a_w a_h a_n a_w_shared a_h_lifts a_h_prices a_h_starts a_h_hands a_h_wanted a_n_room a_n_bundle a_n_left H.size h_rooms h_people h_things h_wanted n_day n_kept n_room n_bundle x20 x29 r30 hu31) (cwV 2 hts gX5_fewestLifts_X5_looseThings rfl rfl rfl hd_X5_looseThings ⟨Nat.le_of_ble_eq_true rfl, Nat.le_of_ble_eq_true rfl⟩) (pre_V E hw [0, 1, 3, 4, 5, 6] rfl rfl rfl rfl) rfl rfl hl.1 rfl (lv_room (Nat.le_of_ble_eq_true rfl)) dX5_fewestLifts_34 ⟨Nat.zero_le _, Nat.zero_le _⟩) rfl rfl rfl (by decide) rfl rfl (fun H locs hw => ?_)
      refine lv_istore (lv' := [(4, .int r30), (3, .int x29), (2, .int x20), (1, .int x28), (0, .ref a_w)]) hx hb dX5_fewestLifts_37 hl (by decide) rfl (fun ls hl => ?_)
      refine lv_iload_n hx hb dX5_fewestLifts_39 rfl (lv_at hl 3 rfl) ?_
      refine lv_aload_n hx hb dX5_fewestLifts_40 rfl (lv_at hl 4 rfl) ?_
      refine r_get E hw iX5 0 0 rfl rfl (by decide) kf15 rfl rfl dX5_fewestLifts_41 ?_
      refine lv_iload hx hb dX5_fewestLifts_44 (lv_at hl 0 rfl) ?_
      obtain ⟨r32, hu33, hf⟩ := bd1_some hf
      refine cl_i (wr := [(a_w, .inr (5, [.ref a_h, .ref a_n, .ref a_w_shared])), (a_h_wanted, .inl (cI, 8, .inl h_wanted)), (a_n, .inr (1, [.ref a_n_room, .ref a_n_bundle, .ref a_n_left, .int n_day, .int n_kept])), (a_n_room, .inl (cI, 8, .inl n_room)), (a_n_bundle, .inl (cI, 8, .inl n_bundle))]) (w2 := [(a_w, .inr (5, [.ref a_h, .ref a_n, .ref a_w_shared])), (a_h, .inr (0, [.int h_rooms, .int h_people, .int h_things, .ref a_h_lifts, .ref a_h_prices, .ref a_h_starts, .ref a_h_hands, .ref a_h_wanted])), (a_h_hands, .inl (cI, 8, .inl h_hands)), (a_h_wanted, .inl (cI, 8, .inl h_wanted)), (a_n, .inr (1, [.ref a_n_room, .ref a_n_bundle, .ref a_n_left, .int n_day, .int n_kept])), (a_n_room, .inl (cI, 8, .inl n_room)), (a_n_bundle, .inl (cI, 8, .inl n_bundle))]) E hw [1, 2] [0, 3, 4, 5, 6] [0, 5, 6, 1, 2, 3, 4] (va_runV (As := [.int r30]) (rest := [.int x28]) E.1 (c_X0_handsTogether l dC dI cI cB cZ aK aV a_h a_h_lifts a_h_prices a_h_starts a_h_hands a_h_wanted H.size h_rooms h_people h_things h_hands r30 r32 hu33) (cwV 1 hts gX5_fewestLifts_X0_handsTogether rfl rfl rfl hd_X0_handsTogether ⟨Nat.le_of_ble_eq_true rfl, Nat.le_of_ble_eq_true rfl⟩) (pre_V E hw [1, 2] rfl rfl rfl rfl) rfl rfl hl.1 rfl (lv_room (Nat.le_of_ble_eq_true rfl)) dX5_fewestLifts_46 ⟨Nat.zero_le _, Nat.zero_le _⟩) rfl rfl rfl (by decide) rfl rfl (fun H locs hw => ?_)
      refine lv_iconst (v := (1 : Int32)) hx hb dX5_fewestLifts_49 rfl ?_
      refine lv_aload_n hx hb dX5_fewestLifts_50 rfl (lv_at hl 4 rfl) ?_
      refine r_get E hw iX5 0 0 rfl rfl (by decide) kf15 rfl rfl dX5_fewestLifts_51 ?_
      refine lv_iload hx hb dX5_fewestLifts_54 (lv_at hl 0 rfl) ?_
      obtain ⟨r34, hu35, hf⟩ := bd1_some hf
      refine cl_i (wr := [(a_w, .inr (5, [.ref a_h, .ref a_n, .ref a_w_shared])), (a_h_wanted, .inl (cI, 8, .inl h_wanted)), (a_n, .inr (1, [.ref a_n_room, .ref a_n_bundle, .ref a_n_left, .int n_day, .int n_kept])), (a_n_room, .inl (cI, 8, .inl n_room)), (a_n_bundle, .inl (cI, 8, .inl n_bundle))]) (w2 := [(a_w, .inr (5, [.ref a_h, .ref a_n, .ref a_w_shared])), (a_h, .inr (0, [.int h_rooms, .int h_people, .int h_things, .ref a_h_lifts, .ref a_h_prices, .ref a_h_starts, .ref a_h_hands, .ref a_h_wanted])), (a_h_hands, .inl (cI, 8, .inl h_hands)), (a_h_wanted, .inl (cI, 8, .inl h_wanted)), (a_n, .inr (1, [.ref a_n_room, .ref a_n_bundle, .ref a_n_left, .int n_day, .int n_kept])), (a_n_room, .inl (cI, 8, .inl n_room)), (a_n_bundle, .inl (cI, 8, .inl n_bundle))]) E hw [1, 2] [0, 3, 4, 5, 6] [0, 5, 6, 1, 2, 3, 4] (va_runV (As := [.int r30]) (rest := [.int (1 : Int32), .int r32, .int x28]) E.1 (c_X0_handsOf l dC dI cI cB cZ aK aV a_h a_h_lifts a_h_prices a_h_starts a_h_hands a_h_wanted H.size h_rooms h_people h_things h_hands r30 r34 hu35) (cwV 1 hts gX5_fewestLifts_X0_handsOf rfl rfl rfl hd_X0_handsOf ⟨Nat.le_of_ble_eq_true rfl, Nat.le_of_ble_eq_true rfl⟩) (pre_V E hw [1, 2] rfl rfl rfl rfl) rfl rfl hl.1 rfl (lv_room (Nat.le_of_ble_eq_true rfl)) dX5_fewestLifts_56 ⟨Nat.zero_le _, Nat.zero_le _⟩) rfl rfl rfl (by decide) rfl rfl (fun H locs hw => ?_)
      refine lv_iadd hx hb dX5_fewestLifts_59 ?_
      refine va_mmin hx hb (by rw [hml]; exact hl.1.symm) hown km78 kn78 ko78 kp78 (Nat.le_of_ble_eq_true rfl) (Nat.le_of_ble_eq_true rfl) (Nat.zero_le _) (Nat.zero_le _) dX5_fewestLifts_60 ?_
      refine lv_iadd hx hb dX5_fewestLifts_63 ?_
      refine lv_topi (fun z36 ez36 => ?_)
      have hf := lt_at hf ez36
      refine lv_istore_n (lv' := [(1, .int z36), (4, .int r30), (3, .int x29), (2, .int x20), (0, .ref a_w)]) hx hb dX5_fewestLifts_64 rfl hl (by decide) rfl (fun ls hl => ?_)
      refine lv_iinc (v := (x29 + (1 : Int32))) (lv' := [(3, .int (x29 + (1 : Int32))), (1, .int z36), (4, .int r30), (2, .int x20), (0, .ref a_w)]) hx hb dX5_fewestLifts_65 hl (k := 2) rfl rfl (by decide) rfl (fun ls hl => ?_)
      refine lv_goto (tgt := 20) hx hb dX5_fewestLifts_68 (by decide) ?_
      exact ih20 z36 (x29 + (1 : Int32)) hf ls H locs (lv_sub hl [0, 3, 1, 4] rfl) hw
def f_X5_newBundles  (h_rooms : Int32) (h_things : Int32) (h_hands : Nat → Int32) (h_wanted : Nat → Int32) (n_room : Nat → Int32) (n_bundle : Nat → Int32) : Option (Int32) :=
  loop2 (fun B4 (x15 : Int32) (x16 : Int32) => (if h_rooms ≤ x16 then some (x15) else loop2 (fun B17 (x23 : Int32) (x24 : Int32) => (if h_rooms ≤ x24 then B4 x23 (x16 + (1 : Int32)) else bd1 (f_X5_looseThings x16 x24 h_things h_wanted n_room n_bundle) (fun r25 => bd1 (f_X0_handsOf r25 h_things h_hands) (fun r27 => bd1 (f_X0_handsTogether r25 h_things h_hands) (fun r29 => (if r29 ≤ ((1 : Int32) + r27) then B17 x23 (x24 + (1 : Int32)) else B17 (x23 + (1 : Int32)) (x24 + (1 : Int32)))))))) FU x15 (0 : Int32))) FU (0 : Int32) (0 : Int32)
theorem hd_X5_newBundles : yX5_newBundles.cls = RX5 ∧ yX5_newBundles.cls ≠ "java/lang/invoke/MethodHandle" ∧ yX5_newBundles.cls ≠ "java/lang/invoke/VarHandle" ∧ (parseMethodDescriptor yX5_newBundles.desc).map (fun d => d.parameters.length) = some 0 := by decide +kernel
set_option maxHeartbeats 4000000 in
set_option maxRecDepth 100000 in
theorem c_X5_newBundles (l : Launch) (dC : Nat → ClassId) (dI : Nat → Nat → Nat) (cI cB cZ : ClassId) (aK aV : Nat → Nat) (a_w a_h a_n a_w_shared a_h_lifts a_h_prices a_h_starts a_h_hands a_h_wanted a_n_room a_n_bundle a_n_left : Nat) (sz : Nat) (h_rooms : Int32) (h_people : Int32) (h_things : Int32) (h_hands : Nat → Int32) (h_wanted : Nat → Int32) (n_day : Int32) (n_kept : Int32) (n_room : Nat → Int32) (n_bundle : Nat → Int32) (r : Int32) (hf : f_X5_newBundles h_rooms h_things h_hands h_wanted n_room n_bundle = some r) : Met l yX5_newBundles wsX5_newBundles ({ frames := 2, cells := 0, slots := 0, locals := 44 } : Jvm.Room) (va_Pc [.ref a_w] (preW (dC, dI) (tyL cI cB cZ) aK aV sz [(a_w, .inr (5, [.ref a_h, .ref a_n, .ref a_w_shared])), (a_h, .inr (0, [.int h_rooms, .int h_people, .int h_things, .ref a_h_lifts, .ref a_h_prices, .ref a_h_starts, .ref a_h_hands, .ref a_h_wanted])), (a_h_hands, .inl (cI, 8, .inl h_hands)), (a_h_wanted, .inl (cI, 8, .inl h_wanted)), (a_n, .inr (1, [.ref a_n_room, .ref a_n_bundle, .ref a_n_left, .int n_day, .int n_kept])), (a_n_room, .inl (cI, 8, .inl n_room)), (a_n_bundle, .inl (cI, 8, .inl n_bundle))])) (va_Qi (fun v (_ : Unit) => v = r) (postW (dC, dI) (tyL cI cB cZ) (va_A [(a_w, .inr (5, [.ref a_h, .ref a_n, .ref a_w_shared])), (a_h, .inr (0, [.int h_rooms, .int h_people, .int h_things, .ref a_h_lifts, .ref a_h_prices, .ref a_h_starts, .ref a_h_hands, .ref a_h_wanted])), (a_h_hands, .inl (cI, 8, .inl h_hands)), (a_h_wanted, .inl (cI, 8, .inl h_wanted)), (a_n, .inr (1, [.ref a_n_room, .ref a_n_bundle, .ref a_n_left, .int n_day, .int n_kept])), (a_n_room, .inl (cI, 8, .inl n_room)), (a_n_bundle, .inl (cI, 8, .inl n_bundle))] sz) [(a_w, .inr (5, [.ref a_h, .ref a_n, .ref a_w_shared])), (a_h, .inr (0, [.int h_rooms, .int h_people, .int h_things, .ref a_h_lifts, .ref a_h_prices, .ref a_h_starts, .ref a_h_hands, .ref a_h_wanted])), (a_h_hands, .inl (cI, 8, .inl h_hands)), (a_h_wanted, .inl (cI, 8, .inl h_wanted)), (a_n, .inr (1, [.ref a_n_room, .ref a_n_bundle, .ref a_n_left, .int n_day, .int n_kept])), (a_n_room, .inl (cI, 8, .inl n_room)), (a_n_bundle, .inl (cI, 8, .inl n_bundle))]) (va_A [(a_w, .inr (5, [.ref a_h, .ref a_n, .ref a_w_shared])), (a_h, .inr (0, [.int h_rooms, .int h_people, .int h_things, .ref a_h_lifts, .ref a_h_prices, .ref a_h_starts, .ref a_h_hands, .ref a_h_wanted])), (a_h_hands, .inl (cI, 8, .inl h_hands)), (a_h_wanted, .inl (cI, 8, .inl h_wanted)), (a_n, .inr (1, [.ref a_n_room, .ref a_n_bundle, .ref a_n_left, .int n_day, .int n_kept])), (a_n_room, .inl (cI, 8, .inl n_room)), (a_n_bundle, .inl (cI, 8, .inl n_bundle))] sz)) 0 0 (va_A [(a_w, .inr (5, [.ref a_h, .ref a_n, .ref a_w_shared])), (a_h, .inr (0, [.int h_rooms, .int h_people, .int h_things, .ref a_h_lifts, .ref a_h_prices, .ref a_h_starts, .ref a_h_hands, .ref a_h_wanted])), (a_h_hands, .inl (cI, 8, .inl h_hands)), (a_h_wanted, .inl (cI, 8, .inl h_wanted)), (a_n, .inr (1, [.ref a_n_room, .ref a_n_bundle, .ref a_n_left, .int n_day, .int n_kept])), (a_n_room, .inl (cI, 8, .inl n_room)), (a_n_bundle, .inl (cI, 8, .inl n_bundle))] sz) := by
  refine met_i (cc := cX5_newBundles) (maxL := 5) (own := RX5) (by decide) rfl (Nat.le_of_ble_eq_true rfl) rfl (fun p e s m args below meth c Q A E hret ls H locs hl hw => ?_)
  obtain ⟨⟨hx, hb, hml, hown, hts⟩, hK, hN, hA, hX⟩ := id E
  have hl : lv_has ls 5 [(0, .ref a_w)] := hl
  have iX0 : ∀ w ∈ wsX00, w ∈ wsX5_newBundles := by decide +kernel
  have iX5 : ∀ w ∈ wsX50, w ∈ wsX5_newBundles := by decide +kernel
  have kf15 := hts (.fieldLink RX5 15 "FiveThings$Work" "house" "LFiveThings$House;") (by decide +kernel)
  have kf65 := nw_F (own := "FiveThings$Work") (i := 65) (ref := "FiveThings$House") (n := "rooms") (d := "I") (h := "FiveThings") (args := args) hN (by decide +kernel)
  unfold f_X5_newBundles at hf
  refine lv_iconst (v := (0 : Int32)) hx hb dX5_newBundles_0 rfl ?_
  refine lv_istore_n (lv' := [(1, .int (0 : Int32)), (0, .ref a_w)]) hx hb dX5_newBundles_1 rfl hl (by decide) rfl (fun ls hl => ?_)
  refine lv_iconst (v := (0 : Int32)) hx hb dX5_newBundles_2 rfl ?_
  refine lv_istore_n (lv' := [(2, .int (0 : Int32)), (1, .int (0 : Int32)), (0, .ref a_w)]) hx hb dX5_newBundles_3 rfl hl (by decide) rfl (fun ls hl => ?_)
  refine (loop2_sound (r := r) (P := fun (x15 : Int32) (x16 : Int32) => ∀ (ls : Array Slot) (H : Heap) (locs : List Loc), lv_has ls 5 [(2, .int x16), (1, .int x15), (0, .ref a_w)] → Wd A s.heap (dC, dI) [(a_w, .inr (5, [.ref a_h, .ref a_n, .ref a_w_shared])), (a_h, .inr (0, [.int h_rooms, .int h_people, .int h_things, .ref a_h_lifts, .ref a_h_prices, .ref a_h_starts, .ref a_h_hands, .ref a_h_wanted])), (a_h_hands, .inl (cI, 8, .inl h_hands)), (a_h_wanted, .inl (cI, 8, .inl h_wanted)), (a_n, .inr (1, [.ref a_n_room, .ref a_n_bundle, .ref a_n_left, .int n_day, .int n_kept])), (a_n_room, .inl (cI, 8, .inl n_room)), (a_n_bundle, .inl (cI, 8, .inl n_bundle))] H locs → W p l e ({ frames := 2, cells := 0, slots := 0, locals := 44 } : Jvm.Room) s m args below meth c H locs 0 0 Q (F0 m 4 ls [])) (fun B4 x15 x16 ih4 hf => ?_) _ (0 : Int32) (0 : Int32) hf) ls H locs (lv_sub hl [0, 1, 2] rfl) hw
  intro ls H locs hl hw
  refine lv_iload_n hx hb dX5_newBundles_4 rfl (lv_at hl 0 rfl) ?_
  refine lv_aload_n hx hb dX5_newBundles_5 rfl (lv_at hl 2 rfl) ?_
  refine r_get E hw iX5 0 0 rfl rfl (by decide) kf15 rfl rfl dX5_newBundles_6 ?_
  refine r_getN E hw iX0 1 0 rfl rfl (by decide) kf65 rfl rfl dX5_newBundles_9 ?_
  refine lv_icmp_ge (tgt := 74) hx hb dX5_newBundles_12 (by decide) (fun kc => ?_) (fun kc => ?_)
  · have hf := if_t hf kc
    refine lv_iload_n hx hb dX5_newBundles_74 rfl (lv_at hl 1 rfl) ?_
    obtain rfl := sm1 hf
    exact hret H locs ls 75 hw dX5_newBundles_75
  · have hf := if_f hf kc
    refine lv_iconst (v := (0 : Int32)) hx hb dX5_newBundles_15 rfl ?_
    refine lv_istore_n (lv' := [(3, .int (0 : Int32)), (2, .int x16), (1, .int x15), (0, .ref a_w)]) hx hb dX5_newBundles_16 rfl hl (by decide) rfl (fun ls hl => ?_)
    refine (loop2_sound (r := r) (P := fun (x23 : Int32) (x24 : Int32) => ∀ (ls : Array Slot) (H : Heap) (locs : List Loc), lv_has ls 5 [(3, .int x24), (2, .int x16), (1, .int x23), (0, .ref a_w)] → Wd A s.heap (dC, dI) [(a_w, .inr (5, [.ref a_h, .ref a_n, .ref a_w_shared])), (a_h, .inr (0, [.int h_rooms, .int h_people, .int h_things, .ref a_h_lifts, .ref a_h_prices, .ref a_h_starts, .ref a_h_hands, .ref a_h_wanted])), (a_h_hands, .inl (cI, 8, .inl h_hands)), (a_h_wanted, .inl (cI, 8, .inl h_wanted)), (a_n, .inr (1, [.ref a_n_room, .ref a_n_bundle, .ref a_n_left, .int n_day, .int n_kept])), (a_n_room, .inl (cI, 8, .inl n_room)), (a_n_bundle, .inl (cI, 8, .inl n_bundle))] H locs → W p l e ({ frames := 2, cells := 0, slots := 0, locals := 44 } : Jvm.Room) s m args below meth c H locs 0 0 Q (F0 m 17 ls [])) (fun B17 x23 x24 ih17 hf => ?_) _ x15 (0 : Int32) hf) ls H locs (lv_sub hl [0, 1, 2, 3] rfl) hw
    intro ls H locs hl hw
    refine lv_iload_n hx hb dX5_newBundles_17 rfl (lv_at hl 0 rfl) ?_
    refine lv_aload_n hx hb dX5_newBundles_18 rfl (lv_at hl 3 rfl) ?_
    refine r_get E hw iX5 0 0 rfl rfl (by decide) kf15 rfl rfl dX5_newBundles_19 ?_
    refine r_getN E hw iX0 1 0 rfl rfl (by decide) kf65 rfl rfl dX5_newBundles_22 ?_
    refine lv_icmp_ge (tgt := 68) hx hb dX5_newBundles_25 (by decide) (fun kc => ?_) (fun kc => ?_)
    · have hf := if_t hf kc
      refine lv_iinc (v := (x16 + (1 : Int32))) (lv' := [(2, .int (x16 + (1 : Int32))), (3, .int x24), (1, .int x23), (0, .ref a_w)]) hx hb dX5_newBundles_68 hl (k := 1) rfl rfl (by decide) rfl (fun ls hl => ?_)
      refine lv_goto (tgt := 4) hx hb dX5_newBundles_71 (by decide) ?_
      exact ih4 x23 (x16 + (1 : Int32)) hf ls H locs (lv_sub hl [0, 2, 3] rfl) hw
    · have hf := if_f hf kc
      refine lv_aload_n hx hb dX5_newBundles_28 rfl (lv_at hl 3 rfl) ?_
      refine lv_iload_n hx hb dX5_newBundles_29 rfl (lv_at hl 1 rfl) ?_
      refine lv_iload_n hx hb dX5_newBundles_30 rfl (lv_at hl 0 rfl) ?_
      obtain ⟨r25, hu26, hf⟩ := bd1_some hf
      refine cl_i (wr := [(a_h_hands, .inl (cI, 8, .inl h_hands))]) (w2 := [(a_w, .inr (5, [.ref a_h, .ref a_n, .ref a_w_shared])), (a_h, .inr (0, [.int h_rooms, .int h_people, .int h_things, .ref a_h_lifts, .ref a_h_prices, .ref a_h_starts, .ref a_h_hands, .ref a_h_wanted])), (a_h_hands, .inl (cI, 8, .inl h_hands)), (a_h_wanted, .inl (cI, 8, .inl h_wanted)), (a_n, .inr (1, [.ref a_n_room, .ref a_n_bundle, .ref a_n_left, .int n_day, .int n_kept])), (a_n_room, .inl (cI, 8, .inl n_room)), (a_n_bundle, .inl (cI, 8, .inl n_bundle))]) E hw [0, 1, 3, 4, 5, 6] [2] [1, 2, 0, 3, 4, 5, 6] (va_runV (As := [.int x16, .int x24]) (rest := []) E.1 (c_X5_looseThings l dC dI cI cB cZ aK aV a_w a_h a_n a_w_shared a_h_lifts a_h_prices a_h_starts a_h_hands a_h_wanted a_n_room a_n_bundle a_n_left H.size h_rooms h_people h_things h_wanted n_day n_kept n_room n_bundle x16 x24 r25 hu26) (cwV 2 hts gX5_newBundles_X5_looseThings rfl rfl rfl hd_X5_looseThings ⟨Nat.le_of_ble_eq_true rfl, Nat.le_of_ble_eq_true rfl⟩) (pre_V E hw [0, 1, 3, 4, 5, 6] rfl rfl rfl rfl) rfl rfl hl.1 rfl (lv_room (Nat.le_of_ble_eq_true rfl)) dX5_newBundles_31 ⟨Nat.zero_le _, Nat.zero_le _⟩) rfl rfl rfl (by decide) rfl rfl (fun H locs hw => ?_)
      refine lv_istore (lv' := [(4, .int r25), (3, .int x24), (2, .int x16), (1, .int x23), (0, .ref a_w)]) hx hb dX5_newBundles_34 hl (by decide) rfl (fun ls hl => ?_)
      refine lv_iconst (v := (1 : Int32)) hx hb dX5_newBundles_36 rfl ?_
      refine lv_aload_n hx hb dX5_newBundles_37 rfl (lv_at hl 4 rfl) ?_
      refine r_get E hw iX5 0 0 rfl rfl (by decide) kf15 rfl rfl dX5_newBundles_38 ?_
      refine lv_iload hx hb dX5_newBundles_41 (lv_at hl 0 rfl) ?_
      obtain ⟨r27, hu28, hf⟩ := bd1_some hf
      refine cl_i (wr := [(a_w, .inr (5, [.ref a_h, .ref a_n, .ref a_w_shared])), (a_h_wanted, .inl (cI, 8, .inl h_wanted)), (a_n, .inr (1, [.ref a_n_room, .ref a_n_bundle, .ref a_n_left, .int n_day, .int n_kept])), (a_n_room, .inl (cI, 8, .inl n_room)), (a_n_bundle, .inl (cI, 8, .inl n_bundle))]) (w2 := [(a_w, .inr (5, [.ref a_h, .ref a_n, .ref a_w_shared])), (a_h, .inr (0, [.int h_rooms, .int h_people, .int h_things, .ref a_h_lifts, .ref a_h_prices, .ref a_h_starts, .ref a_h_hands, .ref a_h_wanted])), (a_h_hands, .inl (cI, 8, .inl h_hands)), (a_h_wanted, .inl (cI, 8, .inl h_wanted)), (a_n, .inr (1, [.ref a_n_room, .ref a_n_bundle, .ref a_n_left, .int n_day, .int n_kept])), (a_n_room, .inl (cI, 8, .inl n_room)), (a_n_bundle, .inl (cI, 8, .inl n_bundle))]) E hw [1, 2] [0, 3, 4, 5, 6] [0, 5, 6, 1, 2, 3, 4] (va_runV (As := [.int r25]) (rest := [.int (1 : Int32)]) E.1 (c_X0_handsOf l dC dI cI cB cZ aK aV a_h a_h_lifts a_h_prices a_h_starts a_h_hands a_h_wanted H.size h_rooms h_people h_things h_hands r25 r27 hu28) (cwV 1 hts gX5_newBundles_X0_handsOf rfl rfl rfl hd_X0_handsOf ⟨Nat.le_of_ble_eq_true rfl, Nat.le_of_ble_eq_true rfl⟩) (pre_V E hw [1, 2] rfl rfl rfl rfl) rfl rfl hl.1 rfl (lv_room (Nat.le_of_ble_eq_true rfl)) dX5_newBundles_43 ⟨Nat.zero_le _, Nat.zero_le _⟩) rfl rfl rfl (by decide) rfl rfl (fun H locs hw => ?_)
      refine lv_iadd hx hb dX5_newBundles_46 ?_
      refine lv_aload_n hx hb dX5_newBundles_47 rfl (lv_at hl 4 rfl) ?_
      refine r_get E hw iX5 0 0 rfl rfl (by decide) kf15 rfl rfl dX5_newBundles_48 ?_
      refine lv_iload hx hb dX5_newBundles_51 (lv_at hl 0 rfl) ?_
      obtain ⟨r29, hu30, hf⟩ := bd1_some hf
      refine cl_i (wr := [(a_w, .inr (5, [.ref a_h, .ref a_n, .ref a_w_shared])), (a_h_wanted, .inl (cI, 8, .inl h_wanted)), (a_n, .inr (1, [.ref a_n_room, .ref a_n_bundle, .ref a_n_left, .int n_day, .int n_kept])), (a_n_room, .inl (cI, 8, .inl n_room)), (a_n_bundle, .inl (cI, 8, .inl n_bundle))]) (w2 := [(a_w, .inr (5, [.ref a_h, .ref a_n, .ref a_w_shared])), (a_h, .inr (0, [.int h_rooms, .int h_people, .int h_things, .ref a_h_lifts, .ref a_h_prices, .ref a_h_starts, .ref a_h_hands, .ref a_h_wanted])), (a_h_hands, .inl (cI, 8, .inl h_hands)), (a_h_wanted, .inl (cI, 8, .inl h_wanted)), (a_n, .inr (1, [.ref a_n_room, .ref a_n_bundle, .ref a_n_left, .int n_day, .int n_kept])), (a_n_room, .inl (cI, 8, .inl n_room)), (a_n_bundle, .inl (cI, 8, .inl n_bundle))]) E hw [1, 2] [0, 3, 4, 5, 6] [0, 5, 6, 1, 2, 3, 4] (va_runV (As := [.int r25]) (rest := [.int ((1 : Int32) + r27)]) E.1 (c_X0_handsTogether l dC dI cI cB cZ aK aV a_h a_h_lifts a_h_prices a_h_starts a_h_hands a_h_wanted H.size h_rooms h_people h_things h_hands r25 r29 hu30) (cwV 1 hts gX5_newBundles_X0_handsTogether rfl rfl rfl hd_X0_handsTogether ⟨Nat.le_of_ble_eq_true rfl, Nat.le_of_ble_eq_true rfl⟩) (pre_V E hw [1, 2] rfl rfl rfl rfl) rfl rfl hl.1 rfl (lv_room (Nat.le_of_ble_eq_true rfl)) dX5_newBundles_53 ⟨Nat.zero_le _, Nat.zero_le _⟩) rfl rfl rfl (by decide) rfl rfl (fun H locs hw => ?_)
      refine lv_icmp_ge (tgt := 62) hx hb dX5_newBundles_56 (by decide) (fun kc => ?_) (fun kc => ?_)
      · have hf := if_t hf kc
        refine lv_iinc (v := (x24 + (1 : Int32))) (lv' := [(3, .int (x24 + (1 : Int32))), (4, .int r25), (2, .int x16), (1, .int x23), (0, .ref a_w)]) hx hb dX5_newBundles_62 hl (k := 1) rfl rfl (by decide) rfl (fun ls hl => ?_)
        refine lv_goto (tgt := 17) hx hb dX5_newBundles_65 (by decide) ?_
        exact ih17 x23 (x24 + (1 : Int32)) hf ls H locs (lv_sub hl [0, 2, 3, 4] rfl) hw
      · have hf := if_f hf kc
        refine lv_iinc (v := (x23 + (1 : Int32))) (lv' := [(1, .int (x23 + (1 : Int32))), (4, .int r25), (3, .int x24), (2, .int x16), (0, .ref a_w)]) hx hb dX5_newBundles_59 hl (k := 3) rfl rfl (by decide) rfl (fun ls hl => ?_)
        refine lv_iinc (v := (x24 + (1 : Int32))) (lv' := [(3, .int (x24 + (1 : Int32))), (1, .int (x23 + (1 : Int32))), (4, .int r25), (2, .int x16), (0, .ref a_w)]) hx hb dX5_newBundles_62 hl (k := 2) rfl rfl (by decide) rfl (fun ls hl => ?_)
        refine lv_goto (tgt := 17) hx hb dX5_newBundles_65 (by decide) ?_
        exact ih17 (x23 + (1 : Int32)) (x24 + (1 : Int32)) hf ls H locs (lv_sub hl [0, 3, 1, 4] rfl) hw
def f_X5_everybody  (h_people : Int32) : Option (Int32) :=
  some ((((1 : Int32) <<< (h_people &&& 31)) - (1 : Int32)))
theorem hd_X5_everybody : yX5_everybody.cls = RX5 ∧ yX5_everybody.cls ≠ "java/lang/invoke/MethodHandle" ∧ yX5_everybody.cls ≠ "java/lang/invoke/VarHandle" ∧ (parseMethodDescriptor yX5_everybody.desc).map (fun d => d.parameters.length) = some 0 := by decide +kernel
set_option maxHeartbeats 4000000 in
set_option maxRecDepth 100000 in
theorem c_X5_everybody (l : Launch) (dC : Nat → ClassId) (dI : Nat → Nat → Nat) (cI cB cZ : ClassId) (aK aV : Nat → Nat) (a_w a_h a_n a_w_shared a_h_lifts a_h_prices a_h_starts a_h_hands a_h_wanted : Nat) (sz : Nat) (h_rooms : Int32) (h_people : Int32) (h_things : Int32) (r : Int32) (hf : f_X5_everybody h_people = some r) : Met l yX5_everybody wsX5_everybody ({ frames := 0, cells := 0, slots := 0, locals := 0 } : Jvm.Room) (va_Pc [.ref a_w] (preW (dC, dI) (tyL cI cB cZ) aK aV sz [(a_w, .inr (5, [.ref a_h, .ref a_n, .ref a_w_shared])), (a_h, .inr (0, [.int h_rooms, .int h_people, .int h_things, .ref a_h_lifts, .ref a_h_prices, .ref a_h_starts, .ref a_h_hands, .ref a_h_wanted]))])) (va_Qi (fun v (_ : Unit) => v = r) (postW (dC, dI) (tyL cI cB cZ) (va_A [(a_w, .inr (5, [.ref a_h, .ref a_n, .ref a_w_shared])), (a_h, .inr (0, [.int h_rooms, .int h_people, .int h_things, .ref a_h_lifts, .ref a_h_prices, .ref a_h_starts, .ref a_h_hands, .ref a_h_wanted]))] sz) [(a_w, .inr (5, [.ref a_h, .ref a_n, .ref a_w_shared])), (a_h, .inr (0, [.int h_rooms, .int h_people, .int h_things, .ref a_h_lifts, .ref a_h_prices, .ref a_h_starts, .ref a_h_hands, .ref a_h_wanted]))]) (va_A [(a_w, .inr (5, [.ref a_h, .ref a_n, .ref a_w_shared])), (a_h, .inr (0, [.int h_rooms, .int h_people, .int h_things, .ref a_h_lifts, .ref a_h_prices, .ref a_h_starts, .ref a_h_hands, .ref a_h_wanted]))] sz)) 0 0 (va_A [(a_w, .inr (5, [.ref a_h, .ref a_n, .ref a_w_shared])), (a_h, .inr (0, [.int h_rooms, .int h_people, .int h_things, .ref a_h_lifts, .ref a_h_prices, .ref a_h_starts, .ref a_h_hands, .ref a_h_wanted]))] sz) := by
  refine met_i (cc := cX5_everybody) (maxL := 1) (own := RX5) (by decide) rfl (Nat.le_of_ble_eq_true rfl) rfl (fun p e s m args below meth c Q A E hret ls H locs hl hw => ?_)
  obtain ⟨⟨hx, hb, hml, hown, hts⟩, hK, hN, hA, hX⟩ := id E
  have hl : lv_has ls 1 [(0, .ref a_w)] := hl
  have iX0 : ∀ w ∈ wsX00, w ∈ wsX5_everybody := by decide +kernel
  have iX5 : ∀ w ∈ wsX50, w ∈ wsX5_everybody := by decide +kernel
  have kf15 := hts (.fieldLink RX5 15 "FiveThings$Work" "house" "LFiveThings$House;") (by decide +kernel)
  have kf95 := nw_F (own := "FiveThings$Work") (i := 95) (ref := "FiveThings$House") (n := "people") (d := "I") (h := "FiveThings") (args := args) hN (by decide +kernel)
  unfold f_X5_everybody at hf
  refine lv_iconst (v := (1 : Int32)) hx hb dX5_everybody_0 rfl ?_
  refine lv_aload_n hx hb dX5_everybody_1 rfl (lv_at hl 0 rfl) ?_
  refine r_get E hw iX5 0 0 rfl rfl (by decide) kf15 rfl rfl dX5_everybody_2 ?_
  refine r_getN E hw iX0 1 1 rfl rfl (by decide) kf95 rfl rfl dX5_everybody_5 ?_
  refine lv_ishl hx hb dX5_everybody_8 ?_
  refine lv_iconst (v := (1 : Int32)) hx hb dX5_everybody_9 rfl ?_
  refine lv_isub hx hb dX5_everybody_10 ?_
  obtain rfl := sm1 hf
  exact hret H locs ls 11 hw dX5_everybody_11
def f_X5_fillShared  (w_shared : Nat → Int32) (h_things : Int32) (h_hands : Nat → Int32) (h_wanted : Nat → Int32) (n_room : Nat → Int32) (n_bundle : Nat → Int32) : Option ((Nat → Int32)) :=
  loop2 (fun B2 (x28 : Int32) (x29 : Nat → Int32) => (if (4 : Int32) < x28 then loop2 (fun B22 (x42 : Int32) (x43 : Nat → Int32) => (if h_things ≤ x42 then some (x43) else bd1 (f_X5_leadsDueJob x42 h_things h_wanted n_room n_bundle) (fun r44 => (if r44 = 0 then B22 (x42 + (1 : Int32)) x43 else bd1 (f_X1_jobOf x42 n_bundle) (fun r46 => bd1 (f_X0_handsOf r46 h_things h_hands) (fun r48 => loop2 (fun B59 (x52 : Int32) (x53 : Nat → Int32) => (if (4 : Int32) < x52 then B22 (x42 + (1 : Int32)) x53 else gd (inb x52 5) (gd (inb x52 5) (B59 (x52 + (1 : Int32)) (upd x53 x52.toNatClampNeg ((x53 x52.toNatClampNeg) + (if x52 < r48 then x52 else r48))))))) FU (0 : Int32) x43)))))) FU (0 : Int32) x29 else gd (inb x28 5) (B2 (x28 + (1 : Int32)) (upd x29 x28.toNatClampNeg (0 : Int32))))) FU (0 : Int32) w_shared
theorem hd_X5_fillShared : yX5_fillShared.cls = RX5 ∧ yX5_fillShared.cls ≠ "java/lang/invoke/MethodHandle" ∧ yX5_fillShared.cls ≠ "java/lang/invoke/VarHandle" ∧ (parseMethodDescriptor yX5_fillShared.desc).map (fun d => d.parameters.length) = some 0 := by decide +kernel
set_option maxHeartbeats 4000000 in
set_option maxRecDepth 100000 in
theorem c_X5_fillShared (l : Launch) (dC : Nat → ClassId) (dI : Nat → Nat → Nat) (cI cB cZ : ClassId) (aK aV : Nat → Nat) (a_w a_h a_n a_w_shared a_h_lifts a_h_prices a_h_starts a_h_hands a_h_wanted a_n_room a_n_bundle a_n_left : Nat) (sz : Nat) (w_shared : Nat → Int32) (h_rooms : Int32) (h_people : Int32) (h_things : Int32) (h_hands : Nat → Int32) (h_wanted : Nat → Int32) (n_day : Int32) (n_kept : Int32) (n_room : Nat → Int32) (n_bundle : Nat → Int32) (q0 : Nat → Int32) (hf : f_X5_fillShared w_shared h_things h_hands h_wanted n_room n_bundle = some q0) : Met l yX5_fillShared wsX5_fillShared ({ frames := 3, cells := 0, slots := 0, locals := 64 } : Jvm.Room) (va_Pc [.ref a_w] (preW (dC, dI) (tyL cI cB cZ) aK aV sz [(a_w, .inr (5, [.ref a_h, .ref a_n, .ref a_w_shared])), (a_w_shared, .inl (cI, 5, .inl w_shared)), (a_h, .inr (0, [.int h_rooms, .int h_people, .int h_things, .ref a_h_lifts, .ref a_h_prices, .ref a_h_starts, .ref a_h_hands, .ref a_h_wanted])), (a_h_hands, .inl (cI, 8, .inl h_hands)), (a_h_wanted, .inl (cI, 8, .inl h_wanted)), (a_n, .inr (1, [.ref a_n_room, .ref a_n_bundle, .ref a_n_left, .int n_day, .int n_kept])), (a_n_room, .inl (cI, 8, .inl n_room)), (a_n_bundle, .inl (cI, 8, .inl n_bundle))])) (va_Qv (fun (_ : Unit) => True) (postW (dC, dI) (tyL cI cB cZ) (va_A [(a_w, .inr (5, [.ref a_h, .ref a_n, .ref a_w_shared])), (a_w_shared, .inl (cI, 5, .inl w_shared)), (a_h, .inr (0, [.int h_rooms, .int h_people, .int h_things, .ref a_h_lifts, .ref a_h_prices, .ref a_h_starts, .ref a_h_hands, .ref a_h_wanted])), (a_h_hands, .inl (cI, 8, .inl h_hands)), (a_h_wanted, .inl (cI, 8, .inl h_wanted)), (a_n, .inr (1, [.ref a_n_room, .ref a_n_bundle, .ref a_n_left, .int n_day, .int n_kept])), (a_n_room, .inl (cI, 8, .inl n_room)), (a_n_bundle, .inl (cI, 8, .inl n_bundle))] sz) [(a_w, .inr (5, [.ref a_h, .ref a_n, .ref a_w_shared])), (a_w_shared, .inl (cI, 5, .inl q0)), (a_h, .inr (0, [.int h_rooms, .int h_people, .int h_things, .ref a_h_lifts, .ref a_h_prices, .ref a_h_starts, .ref a_h_hands, .ref a_h_wanted])), (a_h_hands, .inl (cI, 8, .inl h_hands)), (a_h_wanted, .inl (cI, 8, .inl h_wanted)), (a_n, .inr (1, [.ref a_n_room, .ref a_n_bundle, .ref a_n_left, .int n_day, .int n_kept])), (a_n_room, .inl (cI, 8, .inl n_room)), (a_n_bundle, .inl (cI, 8, .inl n_bundle))]) (va_A [(a_w, .inr (5, [.ref a_h, .ref a_n, .ref a_w_shared])), (a_w_shared, .inl (cI, 5, .inl w_shared)), (a_h, .inr (0, [.int h_rooms, .int h_people, .int h_things, .ref a_h_lifts, .ref a_h_prices, .ref a_h_starts, .ref a_h_hands, .ref a_h_wanted])), (a_h_hands, .inl (cI, 8, .inl h_hands)), (a_h_wanted, .inl (cI, 8, .inl h_wanted)), (a_n, .inr (1, [.ref a_n_room, .ref a_n_bundle, .ref a_n_left, .int n_day, .int n_kept])), (a_n_room, .inl (cI, 8, .inl n_room)), (a_n_bundle, .inl (cI, 8, .inl n_bundle))] sz)) 0 0 (va_A [(a_w, .inr (5, [.ref a_h, .ref a_n, .ref a_w_shared])), (a_w_shared, .inl (cI, 5, .inl w_shared)), (a_h, .inr (0, [.int h_rooms, .int h_people, .int h_things, .ref a_h_lifts, .ref a_h_prices, .ref a_h_starts, .ref a_h_hands, .ref a_h_wanted])), (a_h_hands, .inl (cI, 8, .inl h_hands)), (a_h_wanted, .inl (cI, 8, .inl h_wanted)), (a_n, .inr (1, [.ref a_n_room, .ref a_n_bundle, .ref a_n_left, .int n_day, .int n_kept])), (a_n_room, .inl (cI, 8, .inl n_room)), (a_n_bundle, .inl (cI, 8, .inl n_bundle))] sz) := by
  refine met_v (cc := cX5_fillShared) (maxL := 4) (own := RX5) (by decide) rfl (Nat.le_of_ble_eq_true rfl) rfl (fun p e s m args below meth c Q A E hret ls H locs hl hw => ?_)
  obtain ⟨⟨hx, hb, hml, hown, hts⟩, hK, hN, hA, hX⟩ := id E
  have hl : lv_has ls 4 [(0, .ref a_w)] := hl
  have iX0 : ∀ w ∈ wsX00, w ∈ wsX5_fillShared := by decide +kernel
  have iX5 : ∀ w ∈ wsX50, w ∈ wsX5_fillShared := by decide +kernel
  have kf15 := hts (.fieldLink RX5 15 "FiveThings$Work" "house" "LFiveThings$House;") (by decide +kernel)
  have kf23 := nw_F (own := "FiveThings$Work") (i := 23) (ref := "FiveThings$House") (n := "things") (d := "I") (h := "FiveThings") (args := args) hN (by decide +kernel)
  have kf19 := hts (.fieldLink RX5 19 "FiveThings$Work" "now" "LFiveThings$Now;") (by decide +kernel)
  have kf9 := hts (.fieldLink RX5 9 "FiveThings$Work" "shared" "[I") (by decide +kernel)
  have km78 := hts (.methodLink RX5 78 Lib.Math.min.name) (by decide +kernel)
  have kn78 := hts (.static Lib.Math.min.name) (by decide +kernel)
  have ko78 := hts (.initialized "java/lang/Math") (by decide +kernel)
  have kp78 := hts (.code Lib.Math.min.name Lib.Math.min.code 2 (some .int)) (by decide +kernel)
  unfold f_X5_fillShared at hf
  refine lv_iconst (v := (0 : Int32)) hx hb dX5_fillShared_0 rfl ?_
  refine lv_istore_n (lv' := [(1, .int (0 : Int32)), (0, .ref a_w)]) hx hb dX5_fillShared_1 rfl hl (by decide) rfl (fun ls hl => ?_)
  refine (loop2_sound (r := q0) (P := fun (x28 : Int32) (x29 : Nat → Int32) => ∀ (ls : Array Slot) (H : Heap) (locs : List Loc), lv_has ls 4 [(1, .int x28), (0, .ref a_w)] → Wd A s.heap (dC, dI) [(a_w, .inr (5, [.ref a_h, .ref a_n, .ref a_w_shared])), (a_w_shared, .inl (cI, 5, .inl x29)), (a_h, .inr (0, [.int h_rooms, .int h_people, .int h_things, .ref a_h_lifts, .ref a_h_prices, .ref a_h_starts, .ref a_h_hands, .ref a_h_wanted])), (a_h_hands, .inl (cI, 8, .inl h_hands)), (a_h_wanted, .inl (cI, 8, .inl h_wanted)), (a_n, .inr (1, [.ref a_n_room, .ref a_n_bundle, .ref a_n_left, .int n_day, .int n_kept])), (a_n_room, .inl (cI, 8, .inl n_room)), (a_n_bundle, .inl (cI, 8, .inl n_bundle))] H locs → W p l e ({ frames := 3, cells := 0, slots := 0, locals := 64 } : Jvm.Room) s m args below meth c H locs 0 0 Q (F0 m 2 ls [])) (fun B2 x28 x29 ih2 hf => ?_) _ (0 : Int32) w_shared hf) ls H locs (lv_sub hl [0, 1] rfl) hw
  intro ls H locs hl hw
  refine lv_iload_n hx hb dX5_fillShared_2 rfl (lv_at hl 0 rfl) ?_
  refine lv_iconst (v := (4 : Int32)) hx hb dX5_fillShared_3 rfl ?_
  refine lv_icmp_gt (tgt := 20) hx hb dX5_fillShared_4 (by decide) (fun kc => ?_) (fun kc => ?_)
  · have hf := if_t hf kc
    refine lv_iconst (v := (0 : Int32)) hx hb dX5_fillShared_20 rfl ?_
    refine lv_istore_n (lv' := [(1, .int (0 : Int32)), (0, .ref a_w)]) hx hb dX5_fillShared_21 rfl hl (by decide) rfl (fun ls hl => ?_)
    refine (loop2_sound (r := q0) (P := fun (x42 : Int32) (x43 : Nat → Int32) => ∀ (ls : Array Slot) (H : Heap) (locs : List Loc), lv_has ls 4 [(1, .int x42), (0, .ref a_w)] → Wd A s.heap (dC, dI) [(a_w, .inr (5, [.ref a_h, .ref a_n, .ref a_w_shared])), (a_w_shared, .inl (cI, 5, .inl x43)), (a_h, .inr (0, [.int h_rooms, .int h_people, .int h_things, .ref a_h_lifts, .ref a_h_prices, .ref a_h_starts, .ref a_h_hands, .ref a_h_wanted])), (a_h_hands, .inl (cI, 8, .inl h_hands)), (a_h_wanted, .inl (cI, 8, .inl h_wanted)), (a_n, .inr (1, [.ref a_n_room, .ref a_n_bundle, .ref a_n_left, .int n_day, .int n_kept])), (a_n_room, .inl (cI, 8, .inl n_room)), (a_n_bundle, .inl (cI, 8, .inl n_bundle))] H locs → W p l e ({ frames := 3, cells := 0, slots := 0, locals := 64 } : Jvm.Room) s m args below meth c H locs 0 0 Q (F0 m 22 ls [])) (fun B22 x42 x43 ih22 hf => ?_) _ (0 : Int32) x29 hf) ls H locs (lv_sub hl [0, 1] rfl) hw
    intro ls H locs hl hw
    refine lv_iload_n hx hb dX5_fillShared_22 rfl (lv_at hl 0 rfl) ?_
    refine lv_aload_n hx hb dX5_fillShared_23 rfl (lv_at hl 1 rfl) ?_
    refine r_get E hw iX5 0 0 rfl rfl (by decide) kf15 rfl rfl dX5_fillShared_24 ?_
    refine r_getN E hw iX0 2 2 rfl rfl (by decide) kf23 rfl rfl dX5_fillShared_27 ?_
    refine lv_icmp_ge (tgt := 90) hx hb dX5_fillShared_30 (by decide) (fun kc => ?_) (fun kc => ?_)
    · have hf := if_t hf kc
      obtain rfl := sm1 hf
      exact hret H locs ls 90 hw dX5_fillShared_90
    · have hf := if_f hf kc
      refine lv_aload_n hx hb dX5_fillShared_33 rfl (lv_at hl 1 rfl) ?_
      refine lv_iload_n hx hb dX5_fillShared_34 rfl (lv_at hl 0 rfl) ?_
      obtain ⟨r44, hu45, hf⟩ := bd1_some hf
      refine cl_i (wr := [(a_w_shared, .inl (cI, 5, .inl x43)), (a_h_hands, .inl (cI, 8, .inl h_hands))]) (w2 := [(a_w, .inr (5, [.ref a_h, .ref a_n, .ref a_w_shared])), (a_w_shared, .inl (cI, 5, .inl x43)), (a_h, .inr (0, [.int h_rooms, .int h_people, .int h_things, .ref a_h_lifts, .ref a_h_prices, .ref a_h_starts, .ref a_h_hands, .ref a_h_wanted])), (a_h_hands, .inl (cI, 8, .inl h_hands)), (a_h_wanted, .inl (cI, 8, .inl h_wanted)), (a_n, .inr (1, [.ref a_n_room, .ref a_n_bundle, .ref a_n_left, .int n_day, .int n_kept])), (a_n_room, .inl (cI, 8, .inl n_room)), (a_n_bundle, .inl (cI, 8, .inl n_bundle))]) E hw [0, 2, 4, 5, 6, 7] [1, 3] [2, 0, 3, 1, 4, 5, 6, 7] (va_runV (As := [.int x42]) (rest := []) E.1 (c_X5_leadsDueJob l dC dI cI cB cZ aK aV a_w a_h a_n a_w_shared a_h_lifts a_h_prices a_h_starts a_h_hands a_h_wanted a_n_room a_n_bundle a_n_left H.size h_rooms h_people h_things h_wanted n_day n_kept n_room n_bundle x42 r44 hu45) (cwV 1 hts gX5_fillShared_X5_leadsDueJob rfl rfl rfl hd_X5_leadsDueJob ⟨Nat.le_of_ble_eq_true rfl, Nat.le_of_ble_eq_true rfl⟩) (pre_V E hw [0, 2, 4, 5, 6, 7] rfl rfl rfl rfl) rfl rfl hl.1 rfl (lv_room (Nat.le_of_ble_eq_true rfl)) dX5_fillShared_35 ⟨Nat.zero_le _, Nat.zero_le _⟩) rfl rfl rfl (by decide) rfl rfl (fun H locs hw => ?_)
      refine lv_if_eq (tgt := 84) hx hb dX5_fillShared_38 (by decide) (fun kc => ?_) (fun kc => ?_)
      · have hf := if_t hf kc
        refine lv_iinc (v := (x42 + (1 : Int32))) (lv' := [(1, .int (x42 + (1 : Int32))), (0, .ref a_w)]) hx hb dX5_fillShared_84 hl (k := 0) rfl rfl (by decide) rfl (fun ls hl => ?_)
        refine lv_goto (tgt := 22) hx hb dX5_fillShared_87 (by decide) ?_
        exact ih22 (x42 + (1 : Int32)) x43 hf ls H locs (lv_sub hl [0, 1] rfl) hw
      · have hf := if_f hf kc
        refine lv_aload_n hx hb dX5_fillShared_41 rfl (lv_at hl 1 rfl) ?_
        refine r_get E hw iX5 0 0 rfl rfl (by decide) kf15 rfl rfl dX5_fillShared_42 ?_
        refine lv_aload_n hx hb dX5_fillShared_45 rfl (lv_at hl 1 rfl) ?_
        refine r_get E hw iX5 0 1 rfl rfl (by decide) kf19 rfl rfl dX5_fillShared_46 ?_
        refine lv_iload_n hx hb dX5_fillShared_49 rfl (lv_at hl 0 rfl) ?_
        obtain ⟨r46, hu47, hf⟩ := bd1_some hf
        refine cl_i (wr := [(a_w, .inr (5, [.ref a_h, .ref a_n, .ref a_w_shared])), (a_w_shared, .inl (cI, 5, .inl x43)), (a_h, .inr (0, [.int h_rooms, .int h_people, .int h_things, .ref a_h_lifts, .ref a_h_prices, .ref a_h_starts, .ref a_h_hands, .ref a_h_wanted])), (a_h_hands, .inl (cI, 8, .inl h_hands)), (a_h_wanted, .inl (cI, 8, .inl h_wanted)), (a_n_room, .inl (cI, 8, .inl n_room))]) (w2 := [(a_w, .inr (5, [.ref a_h, .ref a_n, .ref a_w_shared])), (a_w_shared, .inl (cI, 5, .inl x43)), (a_h, .inr (0, [.int h_rooms, .int h_people, .int h_things, .ref a_h_lifts, .ref a_h_prices, .ref a_h_starts, .ref a_h_hands, .ref a_h_wanted])), (a_h_hands, .inl (cI, 8, .inl h_hands)), (a_h_wanted, .inl (cI, 8, .inl h_wanted)), (a_n, .inr (1, [.ref a_n_room, .ref a_n_bundle, .ref a_n_left, .int n_day, .int n_kept])), (a_n_room, .inl (cI, 8, .inl n_room)), (a_n_bundle, .inl (cI, 8, .inl n_bundle))]) E hw [5, 7] [0, 1, 2, 3, 4, 6] [0, 1, 2, 3, 4, 6, 5, 7] (va_runV (As := [.int x42]) (rest := [.ref a_h]) E.1 (c_X1_jobOf l dC dI cI cB cZ aK aV a_n a_n_room a_n_bundle a_n_left H.size n_day n_kept n_bundle x42 r46 hu47) (cwV 1 hts gX5_fillShared_X1_jobOf rfl rfl rfl hd_X1_jobOf ⟨Nat.le_of_ble_eq_true rfl, Nat.le_of_ble_eq_true rfl⟩) (pre_V E hw [5, 7] rfl rfl rfl rfl) rfl rfl hl.1 rfl (lv_room (Nat.le_of_ble_eq_true rfl)) dX5_fillShared_50 ⟨Nat.zero_le _, Nat.zero_le _⟩) rfl rfl rfl (by decide) rfl rfl (fun H locs hw => ?_)
        obtain ⟨r48, hu49, hf⟩ := bd1_some hf
        refine cl_i (wr := [(a_w, .inr (5, [.ref a_h, .ref a_n, .ref a_w_shared])), (a_w_shared, .inl (cI, 5, .inl x43)), (a_h_wanted, .inl (cI, 8, .inl h_wanted)), (a_n, .inr (1, [.ref a_n_room, .ref a_n_bundle, .ref a_n_left, .int n_day, .int n_kept])), (a_n_room, .inl (cI, 8, .inl n_room)), (a_n_bundle, .inl (cI, 8, .inl n_bundle))]) (w2 := [(a_w, .inr (5, [.ref a_h, .ref a_n, .ref a_w_shared])), (a_w_shared, .inl (cI, 5, .inl x43)), (a_h, .inr (0, [.int h_rooms, .int h_people, .int h_things, .ref a_h_lifts, .ref a_h_prices, .ref a_h_starts, .ref a_h_hands, .ref a_h_wanted])), (a_h_hands, .inl (cI, 8, .inl h_hands)), (a_h_wanted, .inl (cI, 8, .inl h_wanted)), (a_n, .inr (1, [.ref a_n_room, .ref a_n_bundle, .ref a_n_left, .int n_day, .int n_kept])), (a_n_room, .inl (cI, 8, .inl n_room)), (a_n_bundle, .inl (cI, 8, .inl n_bundle))]) E hw [2, 3] [0, 1, 4, 5, 6, 7] [0, 1, 6, 7, 2, 3, 4, 5] (va_runV (As := [.int r46]) (rest := []) E.1 (c_X0_handsOf l dC dI cI cB cZ aK aV a_h a_h_lifts a_h_prices a_h_starts a_h_hands a_h_wanted H.size h_rooms h_people h_things h_hands r46 r48 hu49) (cwV 1 hts gX5_fillShared_X0_handsOf rfl rfl rfl hd_X0_handsOf ⟨Nat.le_of_ble_eq_true rfl, Nat.le_of_ble_eq_true rfl⟩) (pre_V E hw [2, 3] rfl rfl rfl rfl) rfl rfl hl.1 rfl (lv_room (Nat.le_of_ble_eq_true rfl)) dX5_fillShared_53 ⟨Nat.zero_le _, Nat.zero_le _⟩) rfl rfl rfl (by decide) rfl rfl (fun H locs hw => ?_)
        refine lv_istore_n (lv' := [(2, .int r48), (1, .int x42), (0, .ref a_w)]) hx hb dX5_fillShared_56 rfl hl (by decide) rfl (fun ls hl => ?_)
        refine lv_iconst (v := (0 : Int32)) hx hb dX5_fillShared_57 rfl ?_
        refine lv_istore_n (lv' := [(3, .int (0 : Int32)), (2, .int r48), (1, .int x42), (0, .ref a_w)]) hx hb dX5_fillShared_58 rfl hl (by decide) rfl (fun ls hl => ?_)
        refine (loop2_sound (r := q0) (P := fun (x52 : Int32) (x53 : Nat → Int32) => ∀ (ls : Array Slot) (H : Heap) (locs : List Loc), lv_has ls 4 [(3, .int x52), (2, .int r48), (1, .int x42), (0, .ref a_w)] → Wd A s.heap (dC, dI) [(a_w, .inr (5, [.ref a_h, .ref a_n, .ref a_w_shared])), (a_w_shared, .inl (cI, 5, .inl x53)), (a_h, .inr (0, [.int h_rooms, .int h_people, .int h_things, .ref a_h_lifts, .ref a_h_prices, .ref a_h_starts, .ref a_h_hands, .ref a_h_wanted])), (a_h_hands, .inl (cI, 8, .inl h_hands)), (a_h_wanted, .inl (cI, 8, .inl h_wanted)), (a_n, .inr (1, [.ref a_n_room, .ref a_n_bundle, .ref a_n_left, .int n_day, .int n_kept])), (a_n_room, .inl (cI, 8, .inl n_room)), (a_n_bundle, .inl (cI, 8, .inl n_bundle))] H locs → W p l e ({ frames := 3, cells := 0, slots := 0, locals := 64 } : Jvm.Room) s m args below meth c H locs 0 0 Q (F0 m 59 ls [])) (fun B59 x52 x53 ih59 hf => ?_) _ (0 : Int32) x43 hf) ls H locs (lv_sub hl [0, 1, 2, 3] rfl) hw
        intro ls H locs hl hw
        refine lv_iload_n hx hb dX5_fillShared_59 rfl (lv_at hl 0 rfl) ?_
        refine lv_iconst (v := (4 : Int32)) hx hb dX5_fillShared_60 rfl ?_
        refine lv_icmp_gt (tgt := 84) hx hb dX5_fillShared_61 (by decide) (fun kc => ?_) (fun kc => ?_)
        · have hf := if_t hf kc
          refine lv_iinc (v := (x42 + (1 : Int32))) (lv' := [(1, .int (x42 + (1 : Int32))), (3, .int x52), (2, .int r48), (0, .ref a_w)]) hx hb dX5_fillShared_84 hl (k := 2) rfl rfl (by decide) rfl (fun ls hl => ?_)
          refine lv_goto (tgt := 22) hx hb dX5_fillShared_87 (by decide) ?_
          exact ih22 (x42 + (1 : Int32)) x53 hf ls H locs (lv_sub hl [0, 3] rfl) hw
        · have hf := if_f hf kc
          refine lv_aload_n hx hb dX5_fillShared_64 rfl (lv_at hl 3 rfl) ?_
          refine r_get E hw iX5 0 2 rfl rfl (by decide) kf9 rfl rfl dX5_fillShared_65 ?_
          refine lv_iload_n hx hb dX5_fillShared_68 rfl (lv_at hl 0 rfl) ?_
          refine lv_dup2_11 hx hb dX5_fillShared_69 rfl rfl ?_
          obtain ⟨g54, hf⟩ := gd_some hf
          refine r_iald E hw 1 rfl g54 dX5_fillShared_70 ?_
          refine lv_iload_n hx hb dX5_fillShared_71 rfl (lv_at hl 1 rfl) ?_
          refine lv_iload_n hx hb dX5_fillShared_72 rfl (lv_at hl 0 rfl) ?_
          refine va_mmin hx hb (by rw [hml]; exact hl.1.symm) hown km78 kn78 ko78 kp78 (Nat.le_of_ble_eq_true rfl) (Nat.le_of_ble_eq_true rfl) (Nat.zero_le _) (Nat.zero_le _) dX5_fillShared_73 ?_
          refine lv_iadd hx hb dX5_fillShared_76 ?_
          obtain ⟨g55, hf⟩ := gd_some hf
          refine r_iast E hw 1 rfl g55 [(a_w, .inr (5, [.ref a_h, .ref a_n, .ref a_w_shared])), (a_w_shared, .inl (cI, 5, .inl (upd x53 x52.toNatClampNeg ((x53 x52.toNatClampNeg) + (if x52 < r48 then x52 else r48))))), (a_h, .inr (0, [.int h_rooms, .int h_people, .int h_things, .ref a_h_lifts, .ref a_h_prices, .ref a_h_starts, .ref a_h_hands, .ref a_h_wanted])), (a_h_hands, .inl (cI, 8, .inl h_hands)), (a_h_wanted, .inl (cI, 8, .inl h_wanted)), (a_n, .inr (1, [.ref a_n_room, .ref a_n_bundle, .ref a_n_left, .int n_day, .int n_kept])), (a_n_room, .inl (cI, 8, .inl n_room)), (a_n_bundle, .inl (cI, 8, .inl n_bundle))] rfl dX5_fillShared_77 (fun H locs hw => ?_)
          refine lv_iinc (v := (x52 + (1 : Int32))) (lv' := [(3, .int (x52 + (1 : Int32))), (2, .int r48), (1, .int x42), (0, .ref a_w)]) hx hb dX5_fillShared_78 hl (k := 0) rfl rfl (by decide) rfl (fun ls hl => ?_)
          refine lv_goto (tgt := 59) hx hb dX5_fillShared_81 (by decide) ?_
          exact ih59 (x52 + (1 : Int32)) (upd x53 x52.toNatClampNeg ((x53 x52.toNatClampNeg) + (if x52 < r48 then x52 else r48))) hf ls H locs (lv_sub hl [0, 1, 2, 3] rfl) hw
  · have hf := if_f hf kc
    refine lv_aload_n hx hb dX5_fillShared_7 rfl (lv_at hl 1 rfl) ?_
    refine r_get E hw iX5 0 2 rfl rfl (by decide) kf9 rfl rfl dX5_fillShared_8 ?_
    refine lv_iload_n hx hb dX5_fillShared_11 rfl (lv_at hl 0 rfl) ?_
    refine lv_iconst (v := (0 : Int32)) hx hb dX5_fillShared_12 rfl ?_
    obtain ⟨g56, hf⟩ := gd_some hf
    refine r_iast E hw 1 rfl g56 [(a_w, .inr (5, [.ref a_h, .ref a_n, .ref a_w_shared])), (a_w_shared, .inl (cI, 5, .inl (upd x29 x28.toNatClampNeg (0 : Int32)))), (a_h, .inr (0, [.int h_rooms, .int h_people, .int h_things, .ref a_h_lifts, .ref a_h_prices, .ref a_h_starts, .ref a_h_hands, .ref a_h_wanted])), (a_h_hands, .inl (cI, 8, .inl h_hands)), (a_h_wanted, .inl (cI, 8, .inl h_wanted)), (a_n, .inr (1, [.ref a_n_room, .ref a_n_bundle, .ref a_n_left, .int n_day, .int n_kept])), (a_n_room, .inl (cI, 8, .inl n_room)), (a_n_bundle, .inl (cI, 8, .inl n_bundle))] rfl dX5_fillShared_13 (fun H locs hw => ?_)
    refine lv_iinc (v := (x28 + (1 : Int32))) (lv' := [(1, .int (x28 + (1 : Int32))), (0, .ref a_w)]) hx hb dX5_fillShared_14 hl (k := 0) rfl rfl (by decide) rfl (fun ls hl => ?_)
    refine lv_goto (tgt := 2) hx hb dX5_fillShared_17 (by decide) ?_
    exact ih2 (x28 + (1 : Int32)) (upd x29 x28.toNatClampNeg (0 : Int32)) hf ls H locs (lv_sub hl [0, 1] rfl) hw
def f_X5_mostLiftings (p1 : Int32) (w_shared : Nat → Int32) (n_left : Nat → Int32) : Option (Int32) :=
  bd1 (f_X1_leftTogether p1 n_left) (fun r1 => loop2 (fun B11 (x9 : Int32) (x10 : Int32) => (if (16 : Int32) ≤ x10 then some (x9) else (if (x10 &&& p1) = x10 then bd1 (f_J6_bitCount_0f7a4 x10) (fun r11 => gd (inb r11 5) (bd1 (f_X1_leftTogether (p1 &&& (x10 ^^^ (-1 : Int32))) n_left) (fun r14 => lt ((if ((w_shared r11.toNatClampNeg) + r14) < x9 then ((w_shared r11.toNatClampNeg) + r14) else x9)) (fun z16 => B11 z16 (x10 + (1 : Int32)))))) else B11 x9 (x10 + (1 : Int32))))) FU r1 (1 : Int32))
theorem hd_X5_mostLiftings : yX5_mostLiftings.cls = RX5 ∧ yX5_mostLiftings.cls ≠ "java/lang/invoke/MethodHandle" ∧ yX5_mostLiftings.cls ≠ "java/lang/invoke/VarHandle" ∧ (parseMethodDescriptor yX5_mostLiftings.desc).map (fun d => d.parameters.length) = some 1 := by decide +kernel
set_option maxHeartbeats 4000000 in
set_option maxRecDepth 100000 in
theorem c_X5_mostLiftings (l : Launch) (dC : Nat → ClassId) (dI : Nat → Nat → Nat) (cI cB cZ : ClassId) (aK aV : Nat → Nat) (a_w a_h a_n a_w_shared a_n_room a_n_bundle a_n_left : Nat) (sz : Nat) (w_shared : Nat → Int32) (n_day : Int32) (n_kept : Int32) (n_left : Nat → Int32) (p1 : Int32) (r : Int32) (hf : f_X5_mostLiftings p1 w_shared n_left = some r) : Met l yX5_mostLiftings wsX5_mostLiftings ({ frames := 2, cells := 0, slots := 0, locals := 44 } : Jvm.Room) (va_Pc [.ref a_w, .int p1] (preW (dC, dI) (tyL cI cB cZ) aK aV sz [(a_w, .inr (5, [.ref a_h, .ref a_n, .ref a_w_shared])), (a_w_shared, .inl (cI, 5, .inl w_shared)), (a_n, .inr (1, [.ref a_n_room, .ref a_n_bundle, .ref a_n_left, .int n_day, .int n_kept])), (a_n_left, .inl (cI, 4, .inl n_left))])) (va_Qi (fun v (_ : Unit) => v = r) (postW (dC, dI) (tyL cI cB cZ) (va_A [(a_w, .inr (5, [.ref a_h, .ref a_n, .ref a_w_shared])), (a_w_shared, .inl (cI, 5, .inl w_shared)), (a_n, .inr (1, [.ref a_n_room, .ref a_n_bundle, .ref a_n_left, .int n_day, .int n_kept])), (a_n_left, .inl (cI, 4, .inl n_left))] sz) [(a_w, .inr (5, [.ref a_h, .ref a_n, .ref a_w_shared])), (a_w_shared, .inl (cI, 5, .inl w_shared)), (a_n, .inr (1, [.ref a_n_room, .ref a_n_bundle, .ref a_n_left, .int n_day, .int n_kept])), (a_n_left, .inl (cI, 4, .inl n_left))]) (va_A [(a_w, .inr (5, [.ref a_h, .ref a_n, .ref a_w_shared])), (a_w_shared, .inl (cI, 5, .inl w_shared)), (a_n, .inr (1, [.ref a_n_room, .ref a_n_bundle, .ref a_n_left, .int n_day, .int n_kept])), (a_n_left, .inl (cI, 4, .inl n_left))] sz)) 0 0 (va_A [(a_w, .inr (5, [.ref a_h, .ref a_n, .ref a_w_shared])), (a_w_shared, .inl (cI, 5, .inl w_shared)), (a_n, .inr (1, [.ref a_n_room, .ref a_n_bundle, .ref a_n_left, .int n_day, .int n_kept])), (a_n_left, .inl (cI, 4, .inl n_left))] sz) := by
  refine met_i (cc := cX5_mostLiftings) (maxL := 5) (own := RX5) (by decide) rfl (Nat.le_of_ble_eq_true rfl) rfl (fun p e s m args below meth c Q A E hret ls H locs hl hw => ?_)
  obtain ⟨⟨hx, hb, hml, hown, hts⟩, hK, hN, hA, hX⟩ := id E
  have hl : lv_has ls 5 [(0, .ref a_w), (1, .int p1)] := hl
  have iX5 : ∀ w ∈ wsX50, w ∈ wsX5_mostLiftings := by decide +kernel
  have kf19 := hts (.fieldLink RX5 19 "FiveThings$Work" "now" "LFiveThings$Now;") (by decide +kernel)
  have kf9 := hts (.fieldLink RX5 9 "FiveThings$Work" "shared" "[I") (by decide +kernel)
  have km78 := hts (.methodLink RX5 78 Lib.Math.min.name) (by decide +kernel)
  have kn78 := hts (.static Lib.Math.min.name) (by decide +kernel)
  have ko78 := hts (.initialized "java/lang/Math") (by decide +kernel)
  have kp78 := hts (.code Lib.Math.min.name Lib.Math.min.code 2 (some .int)) (by decide +kernel)
  unfold f_X5_mostLiftings at hf
  refine lv_aload_n hx hb dX5_mostLiftings_0 rfl (lv_at hl 0 rfl) ?_
  refine r_get E hw iX5 0 1 rfl rfl (by decide) kf19 rfl rfl dX5_mostLiftings_1 ?_
  refine lv_iload_n hx hb dX5_mostLiftings_4 rfl (lv_at hl 1 rfl) ?_
  obtain ⟨r1, hu2, hf⟩ := bd1_some hf
  refine cl_i (wr := [(a_w, .inr (5, [.ref a_h, .ref a_n, .ref a_w_shared])), (a_w_shared, .inl (cI, 5, .inl w_shared))]) (w2 := [(a_w, .inr (5, [.ref a_h, .ref a_n, .ref a_w_shared])), (a_w_shared, .inl (cI, 5, .inl w_shared)), (a_n, .inr (1, [.ref a_n_room, .ref a_n_bundle, .ref a_n_left, .int n_day, .int n_kept])), (a_n_left, .inl (cI, 4, .inl n_left))]) E hw [2, 3] [0, 1] [0, 1, 2, 3] (va_runV (As := [.int p1]) (rest := []) E.1 (c_X1_leftTogether l dC dI cI cB cZ aK aV a_n a_n_room a_n_bundle a_n_left H.size n_day n_kept n_left p1 r1 hu2) (cwV 1 hts gX5_mostLiftings_X1_leftTogether rfl rfl rfl hd_X1_leftTogether ⟨Nat.le_of_ble_eq_true rfl, Nat.le_of_ble_eq_true rfl⟩) (pre_V E hw [2, 3] rfl rfl rfl rfl) rfl rfl hl.1 rfl (lv_room (Nat.le_of_ble_eq_true rfl)) dX5_mostLiftings_5 ⟨Nat.zero_le _, Nat.zero_le _⟩) rfl rfl rfl (by decide) rfl rfl (fun H locs hw => ?_)
  refine lv_istore_n (lv' := [(2, .int r1), (0, .ref a_w), (1, .int p1)]) hx hb dX5_mostLiftings_8 rfl hl (by decide) rfl (fun ls hl => ?_)
  refine lv_iconst (v := (1 : Int32)) hx hb dX5_mostLiftings_9 rfl ?_
  refine lv_istore_n (lv' := [(3, .int (1 : Int32)), (2, .int r1), (0, .ref a_w), (1, .int p1)]) hx hb dX5_mostLiftings_10 rfl hl (by decide) rfl (fun ls hl => ?_)
  refine (loop2_sound (r := r) (P := fun (x9 : Int32) (x10 : Int32) => ∀ (ls : Array Slot) (H : Heap) (locs : List Loc), lv_has ls 5 [(3, .int x10), (2, .int x9), (0, .ref a_w), (1, .int p1)] → Wd A s.heap (dC, dI) [(a_w, .inr (5, [.ref a_h, .ref a_n, .ref a_w_shared])), (a_w_shared, .inl (cI, 5, .inl w_shared)), (a_n, .inr (1, [.ref a_n_room, .ref a_n_bundle, .ref a_n_left, .int n_day, .int n_kept])), (a_n_left, .inl (cI, 4, .inl n_left))] H locs → W p l e ({ frames := 2, cells := 0, slots := 0, locals := 44 } : Jvm.Room) s m args below meth c H locs 0 0 Q (F0 m 11 ls [])) (fun B11 x9 x10 ih11 hf => ?_) _ r1 (1 : Int32) hf) ls H locs (lv_sub hl [0, 1, 2, 3] rfl) hw
  intro ls H locs hl hw
  refine lv_iload_n hx hb dX5_mostLiftings_11 rfl (lv_at hl 0 rfl) ?_
  refine lv_bipush (v := (16 : Int32)) hx hb dX5_mostLiftings_12 rfl ?_
  refine lv_icmp_ge (tgt := 61) hx hb dX5_mostLiftings_14 (by decide) (fun kc => ?_) (fun kc => ?_)
  · have hf := if_t hf kc
    refine lv_iload_n hx hb dX5_mostLiftings_61 rfl (lv_at hl 1 rfl) ?_
    obtain rfl := sm1 hf
    exact hret H locs ls 62 hw dX5_mostLiftings_62
  · have hf := if_f hf kc
    refine lv_iload_n hx hb dX5_mostLiftings_17 rfl (lv_at hl 0 rfl) ?_
    refine lv_iload_n hx hb dX5_mostLiftings_18 rfl (lv_at hl 3 rfl) ?_
    refine lv_iand hx hb dX5_mostLiftings_19 ?_
    refine lv_iload_n hx hb dX5_mostLiftings_20 rfl (lv_at hl 0 rfl) ?_
    refine lv_icmp_ne (tgt := 55) hx hb dX5_mostLiftings_21 (by decide) (fun kc => ?_) (fun kc => ?_)
    · have hf := if_f hf kc
      refine lv_iinc (v := (x10 + (1 : Int32))) (lv' := [(3, .int (x10 + (1 : Int32))), (2, .int x9), (0, .ref a_w), (1, .int p1)]) hx hb dX5_mostLiftings_55 hl (k := 0) rfl rfl (by decide) rfl (fun ls hl => ?_)
      refine lv_goto (tgt := 11) hx hb dX5_mostLiftings_58 (by decide) ?_
      exact ih11 x9 (x10 + (1 : Int32)) hf ls H locs (lv_sub hl [0, 1, 2, 3] rfl) hw
    · have hf := if_t hf kc
      refine lv_aload_n hx hb dX5_mostLiftings_24 rfl (lv_at hl 2 rfl) ?_
      refine r_get E hw iX5 0 2 rfl rfl (by decide) kf9 rfl rfl dX5_mostLiftings_25 ?_
      refine lv_iload_n hx hb dX5_mostLiftings_28 rfl (lv_at hl 0 rfl) ?_
      obtain ⟨r11, hu12, hf⟩ := bd1_some hf
      refine cl_i (wr := [(a_w, .inr (5, [.ref a_h, .ref a_n, .ref a_w_shared])), (a_w_shared, .inl (cI, 5, .inl w_shared)), (a_n, .inr (1, [.ref a_n_room, .ref a_n_bundle, .ref a_n_left, .int n_day, .int n_kept])), (a_n_left, .inl (cI, 4, .inl n_left))]) (w2 := [(a_w, .inr (5, [.ref a_h, .ref a_n, .ref a_w_shared])), (a_w_shared, .inl (cI, 5, .inl w_shared)), (a_n, .inr (1, [.ref a_n_room, .ref a_n_bundle, .ref a_n_left, .int n_day, .int n_kept])), (a_n_left, .inl (cI, 4, .inl n_left))]) E hw [] [0, 1, 2, 3] [0, 1, 2, 3] (va_runS (As := [.int x10]) (rest := [.ref a_w_shared]) E.1 (c_J6_bitCount_0f7a4 l dC dI cI cB cZ aK aV H.size x10 r11 hu12) (va_cwS 1 hts gX5_mostLiftings_J6_bitCount_0f7a4 rfl rfl rfl hd_J6_bitCount_0f7a4 ⟨Nat.le_of_ble_eq_true rfl, Nat.le_of_ble_eq_true rfl⟩) (pre_S E hw [] rfl rfl) rfl rfl hl.1 rfl (lv_room (Nat.le_of_ble_eq_true rfl)) dX5_mostLiftings_29 ⟨Nat.zero_le _, Nat.zero_le _⟩) rfl rfl rfl (by decide) rfl rfl (fun H locs hw => ?_)
      obtain ⟨g13, hf⟩ := gd_some hf
      refine r_iald E hw 1 rfl g13 dX5_mostLiftings_32 ?_
      refine lv_aload_n hx hb dX5_mostLiftings_33 rfl (lv_at hl 2 rfl) ?_
      refine r_get E hw iX5 0 1 rfl rfl (by decide) kf19 rfl rfl dX5_mostLiftings_34 ?_
      refine lv_iload_n hx hb dX5_mostLiftings_37 rfl (lv_at hl 3 rfl) ?_
      refine lv_iload_n hx hb dX5_mostLiftings_38 rfl (lv_at hl 0 rfl) ?_
      refine lv_iconst (v := (-1 : Int32)) hx hb dX5_mostLiftings_39 rfl ?_
      refine lv_ixor hx hb dX5_mostLiftings_40 ?_
      refine lv_iand hx hb dX5_mostLiftings_41 ?_
      obtain ⟨r14, hu15, hf⟩ := bd1_some hf
      refine cl_i (wr := [(a_w, .inr (5, [.ref a_h, .ref a_n, .ref a_w_shared])), (a_w_shared, .inl (cI, 5, .inl w_shared))]) (w2 := [(a_w, .inr (5, [.ref a_h, .ref a_n, .ref a_w_shared])), (a_w_shared, .inl (cI, 5, .inl w_shared)), (a_n, .inr (1, [.ref a_n_room, .ref a_n_bundle, .ref a_n_left, .int n_day, .int n_kept])), (a_n_left, .inl (cI, 4, .inl n_left))]) E hw [2, 3] [0, 1] [0, 1, 2, 3] (va_runV (As := [.int (p1 &&& (x10 ^^^ (-1 : Int32)))]) (rest := [.int (w_shared r11.toNatClampNeg)]) E.1 (c_X1_leftTogether l dC dI cI cB cZ aK aV a_n a_n_room a_n_bundle a_n_left H.size n_day n_kept n_left (p1 &&& (x10 ^^^ (-1 : Int32))) r14 hu15) (cwV 1 hts gX5_mostLiftings_X1_leftTogether rfl rfl rfl hd_X1_leftTogether ⟨Nat.le_of_ble_eq_true rfl, Nat.le_of_ble_eq_true rfl⟩) (pre_V E hw [2, 3] rfl rfl rfl rfl) rfl rfl hl.1 rfl (lv_room (Nat.le_of_ble_eq_true rfl)) dX5_mostLiftings_42 ⟨Nat.zero_le _, Nat.zero_le _⟩) rfl rfl rfl (by decide) rfl rfl (fun H locs hw => ?_)
      refine lv_iadd hx hb dX5_mostLiftings_45 ?_
      refine lv_istore (lv' := [(4, .int ((w_shared r11.toNatClampNeg) + r14)), (3, .int x10), (2, .int x9), (0, .ref a_w), (1, .int p1)]) hx hb dX5_mostLiftings_46 hl (by decide) rfl (fun ls hl => ?_)
      refine lv_iload_n hx hb dX5_mostLiftings_48 rfl (lv_at hl 2 rfl) ?_
      refine lv_iload hx hb dX5_mostLiftings_49 (lv_at hl 0 rfl) ?_
      refine va_mmin hx hb (by rw [hml]; exact hl.1.symm) hown km78 kn78 ko78 kp78 (Nat.le_of_ble_eq_true rfl) (Nat.le_of_ble_eq_true rfl) (Nat.zero_le _) (Nat.zero_le _) dX5_mostLiftings_51 ?_
      refine lv_topi (fun z16 ez16 => ?_)
      have hf := lt_at hf ez16
      refine lv_istore_n (lv' := [(2, .int z16), (4, .int ((w_shared r11.toNatClampNeg) + r14)), (3, .int x10), (0, .ref a_w), (1, .int p1)]) hx hb dX5_mostLiftings_54 rfl hl (by decide) rfl (fun ls hl => ?_)
      refine lv_iinc (v := (x10 + (1 : Int32))) (lv' := [(3, .int (x10 + (1 : Int32))), (2, .int z16), (4, .int ((w_shared r11.toNatClampNeg) + r14)), (0, .ref a_w), (1, .int p1)]) hx hb dX5_mostLiftings_55 hl (k := 2) rfl rfl (by decide) rfl (fun ls hl => ?_)
      refine lv_goto (tgt := 11) hx hb dX5_mostLiftings_58 (by decide) ?_
      exact ih11 z16 (x10 + (1 : Int32)) hf ls H locs (lv_sub hl [0, 1, 3, 4] rfl) hw
def f_X5_canDoAll (p1 : Int32) (w_shared : Nat → Int32) (n_left : Nat → Int32) : Option (Int32) :=
  bd1 (f_X5_mostLiftings p1 w_shared n_left) (fun r1 => gd (inb (4 : Int32) 5) ((if r1 = (w_shared (4 : Int32).toNatClampNeg) then some ((1 : Int32)) else some ((0 : Int32)))))
theorem hd_X5_canDoAll : yX5_canDoAll.cls = RX5 ∧ yX5_canDoAll.cls ≠ "java/lang/invoke/MethodHandle" ∧ yX5_canDoAll.cls ≠ "java/lang/invoke/VarHandle" ∧ (parseMethodDescriptor yX5_canDoAll.desc).map (fun d => d.parameters.length) = some 1 := by decide +kernel
set_option maxHeartbeats 4000000 in
set_option maxRecDepth 100000 in
theorem c_X5_canDoAll (l : Launch) (dC : Nat → ClassId) (dI : Nat → Nat → Nat) (cI cB cZ : ClassId) (aK aV : Nat → Nat) (a_w a_h a_n a_w_shared a_n_room a_n_bundle a_n_left : Nat) (sz : Nat) (w_shared : Nat → Int32) (n_day : Int32) (n_kept : Int32) (n_left : Nat → Int32) (p1 : Int32) (r : Int32) (hf : f_X5_canDoAll p1 w_shared n_left = some r) : Met l yX5_canDoAll wsX5_canDoAll ({ frames := 3, cells := 0, slots := 0, locals := 68 } : Jvm.Room) (va_Pc [.ref a_w, .int p1] (preW (dC, dI) (tyL cI cB cZ) aK aV sz [(a_w, .inr (5, [.ref a_h, .ref a_n, .ref a_w_shared])), (a_w_shared, .inl (cI, 5, .inl w_shared)), (a_n, .inr (1, [.ref a_n_room, .ref a_n_bundle, .ref a_n_left, .int n_day, .int n_kept])), (a_n_left, .inl (cI, 4, .inl n_left))])) (va_Qi (fun v (_ : Unit) => v = r) (postW (dC, dI) (tyL cI cB cZ) (va_A [(a_w, .inr (5, [.ref a_h, .ref a_n, .ref a_w_shared])), (a_w_shared, .inl (cI, 5, .inl w_shared)), (a_n, .inr (1, [.ref a_n_room, .ref a_n_bundle, .ref a_n_left, .int n_day, .int n_kept])), (a_n_left, .inl (cI, 4, .inl n_left))] sz) [(a_w, .inr (5, [.ref a_h, .ref a_n, .ref a_w_shared])), (a_w_shared, .inl (cI, 5, .inl w_shared)), (a_n, .inr (1, [.ref a_n_room, .ref a_n_bundle, .ref a_n_left, .int n_day, .int n_kept])), (a_n_left, .inl (cI, 4, .inl n_left))]) (va_A [(a_w, .inr (5, [.ref a_h, .ref a_n, .ref a_w_shared])), (a_w_shared, .inl (cI, 5, .inl w_shared)), (a_n, .inr (1, [.ref a_n_room, .ref a_n_bundle, .ref a_n_left, .int n_day, .int n_kept])), (a_n_left, .inl (cI, 4, .inl n_left))] sz)) 0 0 (va_A [(a_w, .inr (5, [.ref a_h, .ref a_n, .ref a_w_shared])), (a_w_shared, .inl (cI, 5, .inl w_shared)), (a_n, .inr (1, [.ref a_n_room, .ref a_n_bundle, .ref a_n_left, .int n_day, .int n_kept])), (a_n_left, .inl (cI, 4, .inl n_left))] sz) := by
  refine met_z (cc := cX5_canDoAll) (maxL := 2) (own := RX5) (by decide) rfl (Nat.le_of_ble_eq_true rfl) rfl (fun p e s m args below meth c Q A E hret ls H locs hl hw => ?_)
  obtain ⟨⟨hx, hb, hml, hown, hts⟩, hK, hN, hA, hX⟩ := id E
  have hl : lv_has ls 2 [(0, .ref a_w), (1, .int p1)] := hl
  have iX5 : ∀ w ∈ wsX50, w ∈ wsX5_canDoAll := by decide +kernel
  have kf9 := hts (.fieldLink RX5 9 "FiveThings$Work" "shared" "[I") (by decide +kernel)
  unfold f_X5_canDoAll at hf
  refine lv_aload_n hx hb dX5_canDoAll_0 rfl (lv_at hl 0 rfl) ?_
  refine lv_iload_n hx hb dX5_canDoAll_1 rfl (lv_at hl 1 rfl) ?_
  obtain ⟨r1, hu2, hf⟩ := bd1_some hf
  refine cl_i (wr := []) (w2 := [(a_w, .inr (5, [.ref a_h, .ref a_n, .ref a_w_shared])), (a_w_shared, .inl (cI, 5, .inl w_shared)), (a_n, .inr (1, [.ref a_n_room, .ref a_n_bundle, .ref a_n_left, .int n_day, .int n_kept])), (a_n_left, .inl (cI, 4, .inl n_left))]) E hw [0, 1, 2, 3] [] [0, 1, 2, 3] (va_runV (As := [.int p1]) (rest := []) E.1 (c_X5_mostLiftings l dC dI cI cB cZ aK aV a_w a_h a_n a_w_shared a_n_room a_n_bundle a_n_left H.size w_shared n_day n_kept n_left p1 r1 hu2) (cwV 1 hts gX5_canDoAll_X5_mostLiftings rfl rfl rfl hd_X5_mostLiftings ⟨Nat.le_of_ble_eq_true rfl, Nat.le_of_ble_eq_true rfl⟩) (pre_V E hw [0, 1, 2, 3] rfl rfl rfl rfl) rfl rfl hl.1 rfl (lv_room (Nat.le_of_ble_eq_true rfl)) dX5_canDoAll_2 ⟨Nat.zero_le _, Nat.zero_le _⟩) rfl rfl rfl (by decide) rfl rfl (fun H locs hw => ?_)
  refine lv_aload_n hx hb dX5_canDoAll_5 rfl (lv_at hl 0 rfl) ?_
  refine r_get E hw iX5 0 2 rfl rfl (by decide) kf9 rfl rfl dX5_canDoAll_6 ?_
  refine lv_iconst (v := (4 : Int32)) hx hb dX5_canDoAll_9 rfl ?_
  obtain ⟨g3, hf⟩ := gd_some hf
  refine r_iald E hw 1 rfl g3 dX5_canDoAll_10 ?_
  refine lv_icmp_ne (tgt := 18) hx hb dX5_canDoAll_11 (by decide) (fun kc => ?_) (fun kc => ?_)
  · have hf := if_f hf kc
    refine lv_iconst (v := (0 : Int32)) hx hb dX5_canDoAll_18 rfl ?_
    obtain rfl := sm1 hf
    exact hret H locs ls 19 hw (Or.inl rfl) dX5_canDoAll_19
  · have hf := if_t hf kc
    refine lv_iconst (v := (1 : Int32)) hx hb dX5_canDoAll_14 rfl ?_
    refine lv_goto (tgt := 19) hx hb dX5_canDoAll_15 (by decide) ?_
    obtain rfl := sm1 hf
    exact hret H locs ls 19 hw (Or.inr rfl) dX5_canDoAll_19
def f_X5_canBeDone  (w_shared : Nat → Int32) (h_people : Int32) (h_things : Int32) (h_hands : Nat → Int32) (h_wanted : Nat → Int32) (n_room : Nat → Int32) (n_bundle : Nat → Int32) (n_left : Nat → Int32) : Option (Int32 × (Nat → Int32)) :=
  bd1 (f_X5_fillShared w_shared h_things h_hands h_wanted n_room n_bundle) (fun u1 => bd1 (f_X5_everybody h_people) (fun r3 => bd1 (f_X5_canDoAll r3 u1 n_left) (fun r5 => gd (decide (r5 = 0 ∨ r5 = 1)) (some (r5, u1)))))
theorem hd_X5_canBeDone : yX5_canBeDone.cls = RX5 ∧ yX5_canBeDone.cls ≠ "java/lang/invoke/MethodHandle" ∧ yX5_canBeDone.cls ≠ "java/lang/invoke/VarHandle" ∧ (parseMethodDescriptor yX5_canBeDone.desc).map (fun d => d.parameters.length) = some 0 := by decide +kernel
set_option maxHeartbeats 4000000 in
set_option maxRecDepth 100000 in
theorem c_X5_canBeDone (l : Launch) (dC : Nat → ClassId) (dI : Nat → Nat → Nat) (cI cB cZ : ClassId) (aK aV : Nat → Nat) (a_w a_h a_n a_w_shared a_h_lifts a_h_prices a_h_starts a_h_hands a_h_wanted a_n_room a_n_bundle a_n_left : Nat) (sz : Nat) (w_shared : Nat → Int32) (h_rooms : Int32) (h_people : Int32) (h_things : Int32) (h_hands : Nat → Int32) (h_wanted : Nat → Int32) (n_day : Int32) (n_kept : Int32) (n_room : Nat → Int32) (n_bundle : Nat → Int32) (n_left : Nat → Int32) (r : Int32) (q0 : Nat → Int32) (hf : f_X5_canBeDone w_shared h_people h_things h_hands h_wanted n_room n_bundle n_left = some (r, q0)) : Met l yX5_canBeDone wsX5_canBeDone ({ frames := 4, cells := 0, slots := 0, locals := 89 } : Jvm.Room) (va_Pc [.ref a_w] (preW (dC, dI) (tyL cI cB cZ) aK aV sz [(a_w, .inr (5, [.ref a_h, .ref a_n, .ref a_w_shared])), (a_w_shared, .inl (cI, 5, .inl w_shared)), (a_h, .inr (0, [.int h_rooms, .int h_people, .int h_things, .ref a_h_lifts, .ref a_h_prices, .ref a_h_starts, .ref a_h_hands, .ref a_h_wanted])), (a_h_hands, .inl (cI, 8, .inl h_hands)), (a_h_wanted, .inl (cI, 8, .inl h_wanted)), (a_n, .inr (1, [.ref a_n_room, .ref a_n_bundle, .ref a_n_left, .int n_day, .int n_kept])), (a_n_room, .inl (cI, 8, .inl n_room)), (a_n_bundle, .inl (cI, 8, .inl n_bundle)), (a_n_left, .inl (cI, 4, .inl n_left))])) (va_Qi (fun v (_ : Unit) => v = r) (postW (dC, dI) (tyL cI cB cZ) (va_A [(a_w, .inr (5, [.ref a_h, .ref a_n, .ref a_w_shared])), (a_w_shared, .inl (cI, 5, .inl w_shared)), (a_h, .inr (0, [.int h_rooms, .int h_people, .int h_things, .ref a_h_lifts, .ref a_h_prices, .ref a_h_starts, .ref a_h_hands, .ref a_h_wanted])), (a_h_hands, .inl (cI, 8, .inl h_hands)), (a_h_wanted, .inl (cI, 8, .inl h_wanted)), (a_n, .inr (1, [.ref a_n_room, .ref a_n_bundle, .ref a_n_left, .int n_day, .int n_kept])), (a_n_room, .inl (cI, 8, .inl n_room)), (a_n_bundle, .inl (cI, 8, .inl n_bundle)), (a_n_left, .inl (cI, 4, .inl n_left))] sz) [(a_w, .inr (5, [.ref a_h, .ref a_n, .ref a_w_shared])), (a_w_shared, .inl (cI, 5, .inl q0)), (a_h, .inr (0, [.int h_rooms, .int h_people, .int h_things, .ref a_h_lifts, .ref a_h_prices, .ref a_h_starts, .ref a_h_hands, .ref a_h_wanted])), (a_h_hands, .inl (cI, 8, .inl h_hands)), (a_h_wanted, .inl (cI, 8, .inl h_wanted)), (a_n, .inr (1, [.ref a_n_room, .ref a_n_bundle, .ref a_n_left, .int n_day, .int n_kept])), (a_n_room, .inl (cI, 8, .inl n_room)), (a_n_bundle, .inl (cI, 8, .inl n_bundle)), (a_n_left, .inl (cI, 4, .inl n_left))]) (va_A [(a_w, .inr (5, [.ref a_h, .ref a_n, .ref a_w_shared])), (a_w_shared, .inl (cI, 5, .inl w_shared)), (a_h, .inr (0, [.int h_rooms, .int h_people, .int h_things, .ref a_h_lifts, .ref a_h_prices, .ref a_h_starts, .ref a_h_hands, .ref a_h_wanted])), (a_h_hands, .inl (cI, 8, .inl h_hands)), (a_h_wanted, .inl (cI, 8, .inl h_wanted)), (a_n, .inr (1, [.ref a_n_room, .ref a_n_bundle, .ref a_n_left, .int n_day, .int n_kept])), (a_n_room, .inl (cI, 8, .inl n_room)), (a_n_bundle, .inl (cI, 8, .inl n_bundle)), (a_n_left, .inl (cI, 4, .inl n_left))] sz)) 0 0 (va_A [(a_w, .inr (5, [.ref a_h, .ref a_n, .ref a_w_shared])), (a_w_shared, .inl (cI, 5, .inl w_shared)), (a_h, .inr (0, [.int h_rooms, .int h_people, .int h_things, .ref a_h_lifts, .ref a_h_prices, .ref a_h_starts, .ref a_h_hands, .ref a_h_wanted])), (a_h_hands, .inl (cI, 8, .inl h_hands)), (a_h_wanted, .inl (cI, 8, .inl h_wanted)), (a_n, .inr (1, [.ref a_n_room, .ref a_n_bundle, .ref a_n_left, .int n_day, .int n_kept])), (a_n_room, .inl (cI, 8, .inl n_room)), (a_n_bundle, .inl (cI, 8, .inl n_bundle)), (a_n_left, .inl (cI, 4, .inl n_left))] sz) := by
  refine met_z (cc := cX5_canBeDone) (maxL := 1) (own := RX5) (by decide) rfl (Nat.le_of_ble_eq_true rfl) rfl (fun p e s m args below meth c Q A E hret ls H locs hl hw => ?_)
  obtain ⟨⟨hx, hb, hml, hown, hts⟩, hK, hN, hA, hX⟩ := id E
  have hl : lv_has ls 1 [(0, .ref a_w)] := hl
  unfold f_X5_canBeDone at hf
  refine lv_aload_n hx hb dX5_canBeDone_0 rfl (lv_at hl 0 rfl) ?_
  obtain ⟨u1, hu2, hf⟩ := bd1_some hf
  refine cl_v (wr := [(a_n_left, .inl (cI, 4, .inl n_left))]) (w2 := [(a_w, .inr (5, [.ref a_h, .ref a_n, .ref a_w_shared])), (a_w_shared, .inl (cI, 5, .inl u1)), (a_h, .inr (0, [.int h_rooms, .int h_people, .int h_things, .ref a_h_lifts, .ref a_h_prices, .ref a_h_starts, .ref a_h_hands, .ref a_h_wanted])), (a_h_hands, .inl (cI, 8, .inl h_hands)), (a_h_wanted, .inl (cI, 8, .inl h_wanted)), (a_n, .inr (1, [.ref a_n_room, .ref a_n_bundle, .ref a_n_left, .int n_day, .int n_kept])), (a_n_room, .inl (cI, 8, .inl n_room)), (a_n_bundle, .inl (cI, 8, .inl n_bundle)), (a_n_left, .inl (cI, 4, .inl n_left))]) E hw [0, 1, 2, 3, 4, 5, 6, 7] [8] [1, 2, 3, 4, 5, 6, 7, 8, 0] (va_runV (As := []) (rest := []) E.1 (c_X5_fillShared l dC dI cI cB cZ aK aV a_w a_h a_n a_w_shared a_h_lifts a_h_prices a_h_starts a_h_hands a_h_wanted a_n_room a_n_bundle a_n_left H.size w_shared h_rooms h_people h_things h_hands h_wanted n_day n_kept n_room n_bundle u1 hu2) (cwV 0 hts gX5_canBeDone_X5_fillShared rfl rfl rfl hd_X5_fillShared ⟨Nat.le_of_ble_eq_true rfl, Nat.le_of_ble_eq_true rfl⟩) (pre_V E hw [0, 1, 2, 3, 4, 5, 6, 7] rfl rfl rfl rfl) rfl rfl hl.1 rfl (lv_room (Nat.le_of_ble_eq_true rfl)) dX5_canBeDone_1 ⟨Nat.zero_le _, Nat.zero_le _⟩) rfl rfl rfl (by decide) rfl rfl (fun H locs hw => ?_)
  refine lv_aload_n hx hb dX5_canBeDone_4 rfl (lv_at hl 0 rfl) ?_
  refine lv_aload_n hx hb dX5_canBeDone_5 rfl (lv_at hl 0 rfl) ?_
  obtain ⟨r3, hu4, hf⟩ := bd1_some hf
  refine cl_i (wr := [(a_w_shared, .inl (cI, 5, .inl u1)), (a_h_hands, .inl (cI, 8, .inl h_hands)), (a_h_wanted, .inl (cI, 8, .inl h_wanted)), (a_n, .inr (1, [.ref a_n_room, .ref a_n_bundle, .ref a_n_left, .int n_day, .int n_kept])), (a_n_room, .inl (cI, 8, .inl n_room)), (a_n_bundle, .inl (cI, 8, .inl n_bundle)), (a_n_left, .inl (cI, 4, .inl n_left))]) (w2 := [(a_w, .inr (5, [.ref a_h, .ref a_n, .ref a_w_shared])), (a_w_shared, .inl (cI, 5, .inl u1)), (a_h, .inr (0, [.int h_rooms, .int h_people, .int h_things, .ref a_h_lifts, .ref a_h_prices, .ref a_h_starts, .ref a_h_hands, .ref a_h_wanted])), (a_h_hands, .inl (cI, 8, .inl h_hands)), (a_h_wanted, .inl (cI, 8, .inl h_wanted)), (a_n, .inr (1, [.ref a_n_room, .ref a_n_bundle, .ref a_n_left, .int n_day, .int n_kept])), (a_n_room, .inl (cI, 8, .inl n_room)), (a_n_bundle, .inl (cI, 8, .inl n_bundle)), (a_n_left, .inl (cI, 4, .inl n_left))]) E hw [0, 2] [1, 3, 4, 5, 6, 7, 8] [7, 0, 8, 1, 2, 3, 4, 5, 6] (va_runV (As := []) (rest := [.ref a_w]) E.1 (c_X5_everybody l dC dI cI cB cZ aK aV a_w a_h a_n a_w_shared a_h_lifts a_h_prices a_h_starts a_h_hands a_h_wanted H.size h_rooms h_people h_things r3 hu4) (cwV 0 hts gX5_canBeDone_X5_everybody rfl rfl rfl hd_X5_everybody ⟨Nat.le_of_ble_eq_true rfl, Nat.le_of_ble_eq_true rfl⟩) (pre_V E hw [0, 2] rfl rfl rfl rfl) rfl rfl hl.1 rfl (lv_room (Nat.le_of_ble_eq_true rfl)) dX5_canBeDone_6 ⟨Nat.zero_le _, Nat.zero_le _⟩) rfl rfl rfl (by decide) rfl rfl (fun H locs hw => ?_)
  obtain ⟨r5, hu6, hf⟩ := bd1_some hf
  refine cl_i (wr := [(a_h, .inr (0, [.int h_rooms, .int h_people, .int h_things, .ref a_h_lifts, .ref a_h_prices, .ref a_h_starts, .ref a_h_hands, .ref a_h_wanted])), (a_h_hands, .inl (cI, 8, .inl h_hands)), (a_h_wanted, .inl (cI, 8, .inl h_wanted)), (a_n_room, .inl (cI, 8, .inl n_room)), (a_n_bundle, .inl (cI, 8, .inl n_bundle))]) (w2 := [(a_w, .inr (5, [.ref a_h, .ref a_n, .ref a_w_shared])), (a_w_shared, .inl (cI, 5, .inl u1)), (a_h, .inr (0, [.int h_rooms, .int h_people, .int h_things, .ref a_h_lifts, .ref a_h_prices, .ref a_h_starts, .ref a_h_hands, .ref a_h_wanted])), (a_h_hands, .inl (cI, 8, .inl h_hands)), (a_h_wanted, .inl (cI, 8, .inl h_wanted)), (a_n, .inr (1, [.ref a_n_room, .ref a_n_bundle, .ref a_n_left, .int n_day, .int n_kept])), (a_n_room, .inl (cI, 8, .inl n_room)), (a_n_bundle, .inl (cI, 8, .inl n_bundle)), (a_n_left, .inl (cI, 4, .inl n_left))]) E hw [0, 1, 5, 8] [2, 3, 4, 6, 7] [5, 6, 0, 1, 2, 7, 3, 4, 8] (va_runV (As := [.int r3]) (rest := []) E.1 (c_X5_canDoAll l dC dI cI cB cZ aK aV a_w a_h a_n a_w_shared a_n_room a_n_bundle a_n_left H.size u1 n_day n_kept n_left r3 r5 hu6) (cwV 1 hts gX5_canBeDone_X5_canDoAll rfl rfl rfl hd_X5_canDoAll ⟨Nat.le_of_ble_eq_true rfl, Nat.le_of_ble_eq_true rfl⟩) (pre_V E hw [0, 1, 5, 8] rfl rfl rfl rfl) rfl rfl hl.1 rfl (lv_room (Nat.le_of_ble_eq_true rfl)) dX5_canBeDone_9 ⟨Nat.zero_le _, Nat.zero_le _⟩) rfl rfl rfl (by decide) rfl rfl (fun H locs hw => ?_)
  obtain ⟨gz, hf⟩ := gd_some hf
  have gz := of_decide_eq_true gz
  obtain ⟨rfl, rfl⟩ := sm2 hf
  exact hret H locs ls 12 hw gz dX5_canBeDone_12
def f_X5_leastCost  (w_shared : Nat → Int32) (h_people : Int32) (h_things : Int32) (h_prices : Nat → Int32) (h_hands : Nat → Int32) (h_wanted : Nat → Int32) (n_room : Nat → Int32) (n_bundle : Nat → Int32) (n_left : Nat → Int32) : Option (Int32 × (Nat → Int32)) :=
  bd1 (f_X5_fillShared w_shared h_things h_hands h_wanted n_room n_bundle) (fun u1 => bd1 (f_X5_everybody h_people) (fun r3 => bd1 (f_X5_canDoAll r3 u1 n_left) (fun r5 => (if r5 = 0 then some ((-9 : Int32), u1) else loop4 (fun B27 (x17 : Int32) (x18 : Int32) (x19 : Int32) (x20 : Int32) => (if (9 : Int32) < x20 then some (x19, u1) else loop4 (fun B37 (x24 : Int32) (x25 : Int32) (x26 : Int32) (x27 : Int32) => (if h_people ≤ x27 then B27 x24 x25 x26 (x20 + (1 : Int32)) else gd (inb x27 4) ((if (h_prices x27.toNatClampNeg) = x20 then bd1 (f_X5_mostLiftings (x24 ||| ((1 : Int32) <<< (x27 &&& 31))) u1 n_left) (fun r29 => B37 (x24 ||| ((1 : Int32) <<< (x27 &&& 31))) r29 (x26 + (x20 * (r29 - x25))) (x27 + (1 : Int32))) else B37 x24 x25 x26 (x27 + (1 : Int32)))))) FU x17 x18 x19 (0 : Int32))) FU (0 : Int32) (0 : Int32) (0 : Int32) (0 : Int32)))))
theorem hd_X5_leastCost : yX5_leastCost.cls = RX5 ∧ yX5_leastCost.cls ≠ "java/lang/invoke/MethodHandle" ∧ yX5_leastCost.cls ≠ "java/lang/invoke/VarHandle" ∧ (parseMethodDescriptor yX5_leastCost.desc).map (fun d => d.parameters.length) = some 0 := by decide +kernel
set_option maxHeartbeats 4000000 in
set_option maxRecDepth 100000 in
theorem c_X5_leastCost (l : Launch) (dC : Nat → ClassId) (dI : Nat → Nat → Nat) (cI cB cZ : ClassId) (aK aV : Nat → Nat) (a_w a_h a_n a_w_shared a_h_lifts a_h_prices a_h_starts a_h_hands a_h_wanted a_n_room a_n_bundle a_n_left : Nat) (sz : Nat) (w_shared : Nat → Int32) (h_rooms : Int32) (h_people : Int32) (h_things : Int32) (h_prices : Nat → Int32) (h_hands : Nat → Int32) (h_wanted : Nat → Int32) (n_day : Int32) (n_kept : Int32) (n_room : Nat → Int32) (n_bundle : Nat → Int32) (n_left : Nat → Int32) (r : Int32) (q0 : Nat → Int32) (hf : f_X5_leastCost w_shared h_people h_things h_prices h_hands h_wanted n_room n_bundle n_left = some (r, q0)) : Met l yX5_leastCost wsX5_leastCost ({ frames := 4, cells := 0, slots := 0, locals := 89 } : Jvm.Room) (va_Pc [.ref a_w] (preW (dC, dI) (tyL cI cB cZ) aK aV sz [(a_w, .inr (5, [.ref a_h, .ref a_n, .ref a_w_shared])), (a_w_shared, .inl (cI, 5, .inl w_shared)), (a_h, .inr (0, [.int h_rooms, .int h_people, .int h_things, .ref a_h_lifts, .ref a_h_prices, .ref a_h_starts, .ref a_h_hands, .ref a_h_wanted])), (a_h_prices, .inl (cI, 4, .inl h_prices)), (a_h_hands, .inl (cI, 8, .inl h_hands)), (a_h_wanted, .inl (cI, 8, .inl h_wanted)), (a_n, .inr (1, [.ref a_n_room, .ref a_n_bundle, .ref a_n_left, .int n_day, .int n_kept])), (a_n_room, .inl (cI, 8, .inl n_room)), (a_n_bundle, .inl (cI, 8, .inl n_bundle)), (a_n_left, .inl (cI, 4, .inl n_left))])) (va_Qi (fun v (_ : Unit) => v = r) (postW (dC, dI) (tyL cI cB cZ) (va_A [(a_w, .inr (5, [.ref a_h, .ref a_n, .ref a_w_shared])), (a_w_shared, .inl (cI, 5, .inl w_shared)), (a_h, .inr (0, [.int h_rooms, .int h_people, .int h_things, .ref a_h_lifts, .ref a_h_prices, .ref a_h_starts, .ref a_h_hands, .ref a_h_wanted])), (a_h_prices, .inl (cI, 4, .inl h_prices)), (a_h_hands, .inl (cI, 8, .inl h_hands)), (a_h_wanted, .inl (cI, 8, .inl h_wanted)), (a_n, .inr (1, [.ref a_n_room, .ref a_n_bundle, .ref a_n_left, .int n_day, .int n_kept])), (a_n_room, .inl (cI, 8, .inl n_room)), (a_n_bundle, .inl (cI, 8, .inl n_bundle)), (a_n_left, .inl (cI, 4, .inl n_left))] sz) [(a_w, .inr (5, [.ref a_h, .ref a_n, .ref a_w_shared])), (a_w_shared, .inl (cI, 5, .inl q0)), (a_h, .inr (0, [.int h_rooms, .int h_people, .int h_things, .ref a_h_lifts, .ref a_h_prices, .ref a_h_starts, .ref a_h_hands, .ref a_h_wanted])), (a_h_prices, .inl (cI, 4, .inl h_prices)), (a_h_hands, .inl (cI, 8, .inl h_hands)), (a_h_wanted, .inl (cI, 8, .inl h_wanted)), (a_n, .inr (1, [.ref a_n_room, .ref a_n_bundle, .ref a_n_left, .int n_day, .int n_kept])), (a_n_room, .inl (cI, 8, .inl n_room)), (a_n_bundle, .inl (cI, 8, .inl n_bundle)), (a_n_left, .inl (cI, 4, .inl n_left))]) (va_A [(a_w, .inr (5, [.ref a_h, .ref a_n, .ref a_w_shared])), (a_w_shared, .inl (cI, 5, .inl w_shared)), (a_h, .inr (0, [.int h_rooms, .int h_people, .int h_things, .ref a_h_lifts, .ref a_h_prices, .ref a_h_starts, .ref a_h_hands, .ref a_h_wanted])), (a_h_prices, .inl (cI, 4, .inl h_prices)), (a_h_hands, .inl (cI, 8, .inl h_hands)), (a_h_wanted, .inl (cI, 8, .inl h_wanted)), (a_n, .inr (1, [.ref a_n_room, .ref a_n_bundle, .ref a_n_left, .int n_day, .int n_kept])), (a_n_room, .inl (cI, 8, .inl n_room)), (a_n_bundle, .inl (cI, 8, .inl n_bundle)), (a_n_left, .inl (cI, 4, .inl n_left))] sz)) 0 0 (va_A [(a_w, .inr (5, [.ref a_h, .ref a_n, .ref a_w_shared])), (a_w_shared, .inl (cI, 5, .inl w_shared)), (a_h, .inr (0, [.int h_rooms, .int h_people, .int h_things, .ref a_h_lifts, .ref a_h_prices, .ref a_h_starts, .ref a_h_hands, .ref a_h_wanted])), (a_h_prices, .inl (cI, 4, .inl h_prices)), (a_h_hands, .inl (cI, 8, .inl h_hands)), (a_h_wanted, .inl (cI, 8, .inl h_wanted)), (a_n, .inr (1, [.ref a_n_room, .ref a_n_bundle, .ref a_n_left, .int n_day, .int n_kept])), (a_n_room, .inl (cI, 8, .inl n_room)), (a_n_bundle, .inl (cI, 8, .inl n_bundle)), (a_n_left, .inl (cI, 4, .inl n_left))] sz) := by
  refine met_i (cc := cX5_leastCost) (maxL := 7) (own := RX5) (by decide) rfl (Nat.le_of_ble_eq_true rfl) rfl (fun p e s m args below meth c Q A E hret ls H locs hl hw => ?_)
  obtain ⟨⟨hx, hb, hml, hown, hts⟩, hK, hN, hA, hX⟩ := id E
  have hl : lv_has ls 7 [(0, .ref a_w)] := hl
  have iX0 : ∀ w ∈ wsX00, w ∈ wsX5_leastCost := by decide +kernel
  have iX5 : ∀ w ∈ wsX50, w ∈ wsX5_leastCost := by decide +kernel
  have kf15 := hts (.fieldLink RX5 15 "FiveThings$Work" "house" "LFiveThings$House;") (by decide +kernel)
  have kf95 := nw_F (own := "FiveThings$Work") (i := 95) (ref := "FiveThings$House") (n := "people") (d := "I") (h := "FiveThings") (args := args) hN (by decide +kernel)
  have kf98 := nw_F (own := "FiveThings$Work") (i := 98) (ref := "FiveThings$House") (n := "prices") (d := "[I") (h := "FiveThings") (args := args) hN (by decide +kernel)
  unfold f_X5_leastCost at hf
  refine lv_aload_n hx hb dX5_leastCost_0 rfl (lv_at hl 0 rfl) ?_
  obtain ⟨u1, hu2, hf⟩ := bd1_some hf
  refine cl_v (wr := [(a_h_prices, .inl (cI, 4, .inl h_prices)), (a_n_left, .inl (cI, 4, .inl n_left))]) (w2 := [(a_w, .inr (5, [.ref a_h, .ref a_n, .ref a_w_shared])), (a_w_shared, .inl (cI, 5, .inl u1)), (a_h, .inr (0, [.int h_rooms, .int h_people, .int h_things, .ref a_h_lifts, .ref a_h_prices, .ref a_h_starts, .ref a_h_hands, .ref a_h_wanted])), (a_h_prices, .inl (cI, 4, .inl h_prices)), (a_h_hands, .inl (cI, 8, .inl h_hands)), (a_h_wanted, .inl (cI, 8, .inl h_wanted)), (a_n, .inr (1, [.ref a_n_room, .ref a_n_bundle, .ref a_n_left, .int n_day, .int n_kept])), (a_n_room, .inl (cI, 8, .inl n_room)), (a_n_bundle, .inl (cI, 8, .inl n_bundle)), (a_n_left, .inl (cI, 4, .inl n_left))]) E hw [0, 1, 2, 4, 5, 6, 7, 8] [3, 9] [2, 3, 4, 0, 5, 6, 7, 8, 9, 1] (va_runV (As := []) (rest := []) E.1 (c_X5_fillShared l dC dI cI cB cZ aK aV a_w a_h a_n a_w_shared a_h_lifts a_h_prices a_h_starts a_h_hands a_h_wanted a_n_room a_n_bundle a_n_left H.size w_shared h_rooms h_people h_things h_hands h_wanted n_day n_kept n_room n_bundle u1 hu2) (cwV 0 hts gX5_leastCost_X5_fillShared rfl rfl rfl hd_X5_fillShared ⟨Nat.le_of_ble_eq_true rfl, Nat.le_of_ble_eq_true rfl⟩) (pre_V E hw [0, 1, 2, 4, 5, 6, 7, 8] rfl rfl rfl rfl) rfl rfl hl.1 rfl (lv_room (Nat.le_of_ble_eq_true rfl)) dX5_leastCost_1 ⟨Nat.zero_le _, Nat.zero_le _⟩) rfl rfl rfl (by decide) rfl rfl (fun H locs hw => ?_)
  refine lv_aload_n hx hb dX5_leastCost_4 rfl (lv_at hl 0 rfl) ?_
  refine lv_aload_n hx hb dX5_leastCost_5 rfl (lv_at hl 0 rfl) ?_
  obtain ⟨r3, hu4, hf⟩ := bd1_some hf
  refine cl_i (wr := [(a_w_shared, .inl (cI, 5, .inl u1)), (a_h_prices, .inl (cI, 4, .inl h_prices)), (a_h_hands, .inl (cI, 8, .inl h_hands)), (a_h_wanted, .inl (cI, 8, .inl h_wanted)), (a_n, .inr (1, [.ref a_n_room, .ref a_n_bundle, .ref a_n_left, .int n_day, .int n_kept])), (a_n_room, .inl (cI, 8, .inl n_room)), (a_n_bundle, .inl (cI, 8, .inl n_bundle)), (a_n_left, .inl (cI, 4, .inl n_left))]) (w2 := [(a_w, .inr (5, [.ref a_h, .ref a_n, .ref a_w_shared])), (a_w_shared, .inl (cI, 5, .inl u1)), (a_h, .inr (0, [.int h_rooms, .int h_people, .int h_things, .ref a_h_lifts, .ref a_h_prices, .ref a_h_starts, .ref a_h_hands, .ref a_h_wanted])), (a_h_prices, .inl (cI, 4, .inl h_prices)), (a_h_hands, .inl (cI, 8, .inl h_hands)), (a_h_wanted, .inl (cI, 8, .inl h_wanted)), (a_n, .inr (1, [.ref a_n_room, .ref a_n_bundle, .ref a_n_left, .int n_day, .int n_kept])), (a_n_room, .inl (cI, 8, .inl n_room)), (a_n_bundle, .inl (cI, 8, .inl n_bundle)), (a_n_left, .inl (cI, 4, .inl n_left))]) E hw [0, 2] [1, 3, 4, 5, 6, 7, 8, 9] [8, 0, 9, 1, 2, 3, 4, 5, 6, 7] (va_runV (As := []) (rest := [.ref a_w]) E.1 (c_X5_everybody l dC dI cI cB cZ aK aV a_w a_h a_n a_w_shared a_h_lifts a_h_prices a_h_starts a_h_hands a_h_wanted H.size h_rooms h_people h_things r3 hu4) (cwV 0 hts gX5_leastCost_X5_everybody rfl rfl rfl hd_X5_everybody ⟨Nat.le_of_ble_eq_true rfl, Nat.le_of_ble_eq_true rfl⟩) (pre_V E hw [0, 2] rfl rfl rfl rfl) rfl rfl hl.1 rfl (lv_room (Nat.le_of_ble_eq_true rfl)) dX5_leastCost_6 ⟨Nat.zero_le _, Nat.zero_le _⟩) rfl rfl rfl (by decide) rfl rfl (fun H locs hw => ?_)
  obtain ⟨r5, hu6, hf⟩ := bd1_some hf
  refine cl_i (wr := [(a_h, .inr (0, [.int h_rooms, .int h_people, .int h_things, .ref a_h_lifts, .ref a_h_prices, .ref a_h_starts, .ref a_h_hands, .ref a_h_wanted])), (a_h_prices, .inl (cI, 4, .inl h_prices)), (a_h_hands, .inl (cI, 8, .inl h_hands)), (a_h_wanted, .inl (cI, 8, .inl h_wanted)), (a_n_room, .inl (cI, 8, .inl n_room)), (a_n_bundle, .inl (cI, 8, .inl n_bundle))]) (w2 := [(a_w, .inr (5, [.ref a_h, .ref a_n, .ref a_w_shared])), (a_w_shared, .inl (cI, 5, .inl u1)), (a_h, .inr (0, [.int h_rooms, .int h_people, .int h_things, .ref a_h_lifts, .ref a_h_prices, .ref a_h_starts, .ref a_h_hands, .ref a_h_wanted])), (a_h_prices, .inl (cI, 4, .inl h_prices)), (a_h_hands, .inl (cI, 8, .inl h_hands)), (a_h_wanted, .inl (cI, 8, .inl h_wanted)), (a_n, .inr (1, [.ref a_n_room, .ref a_n_bundle, .ref a_n_left, .int n_day, .int n_kept])), (a_n_room, .inl (cI, 8, .inl n_room)), (a_n_bundle, .inl (cI, 8, .inl n_bundle)), (a_n_left, .inl (cI, 4, .inl n_left))]) E hw [0, 1, 6, 9] [2, 3, 4, 5, 7, 8] [6, 7, 0, 1, 2, 3, 8, 4, 5, 9] (va_runV (As := [.int r3]) (rest := []) E.1 (c_X5_canDoAll l dC dI cI cB cZ aK aV a_w a_h a_n a_w_shared a_n_room a_n_bundle a_n_left H.size u1 n_day n_kept n_left r3 r5 hu6) (cwV 1 hts gX5_leastCost_X5_canDoAll rfl rfl rfl hd_X5_canDoAll ⟨Nat.le_of_ble_eq_true rfl, Nat.le_of_ble_eq_true rfl⟩) (pre_V E hw [0, 1, 6, 9] rfl rfl rfl rfl) rfl rfl hl.1 rfl (lv_room (Nat.le_of_ble_eq_true rfl)) dX5_leastCost_9 ⟨Nat.zero_le _, Nat.zero_le _⟩) rfl rfl rfl (by decide) rfl rfl (fun H locs hw => ?_)
  refine lv_if_ne (tgt := 18) hx hb dX5_leastCost_12 (by decide) (fun kc => ?_) (fun kc => ?_)
  · have hf := if_f hf kc
    refine lv_iconst (v := (0 : Int32)) hx hb dX5_leastCost_18 rfl ?_
    refine lv_istore_n (lv' := [(1, .int (0 : Int32)), (0, .ref a_w)]) hx hb dX5_leastCost_19 rfl hl (by decide) rfl (fun ls hl => ?_)
    refine lv_iconst (v := (0 : Int32)) hx hb dX5_leastCost_20 rfl ?_
    refine lv_istore_n (lv' := [(2, .int (0 : Int32)), (1, .int (0 : Int32)), (0, .ref a_w)]) hx hb dX5_leastCost_21 rfl hl (by decide) rfl (fun ls hl => ?_)
    refine lv_iconst (v := (0 : Int32)) hx hb dX5_leastCost_22 rfl ?_
    refine lv_istore_n (lv' := [(3, .int (0 : Int32)), (2, .int (0 : Int32)), (1, .int (0 : Int32)), (0, .ref a_w)]) hx hb dX5_leastCost_23 rfl hl (by decide) rfl (fun ls hl => ?_)
    refine lv_iconst (v := (0 : Int32)) hx hb dX5_leastCost_24 rfl ?_
    refine lv_istore (lv' := [(4, .int (0 : Int32)), (3, .int (0 : Int32)), (2, .int (0 : Int32)), (1, .int (0 : Int32)), (0, .ref a_w)]) hx hb dX5_leastCost_25 hl (by decide) rfl (fun ls hl => ?_)
    refine (loop4_sound (r := (r, q0)) (P := fun (x17 : Int32) (x18 : Int32) (x19 : Int32) (x20 : Int32) => ∀ (ls : Array Slot) (H : Heap) (locs : List Loc), lv_has ls 7 [(4, .int x20), (3, .int x19), (2, .int x18), (1, .int x17), (0, .ref a_w)] → Wd A s.heap (dC, dI) [(a_w, .inr (5, [.ref a_h, .ref a_n, .ref a_w_shared])), (a_w_shared, .inl (cI, 5, .inl u1)), (a_h, .inr (0, [.int h_rooms, .int h_people, .int h_things, .ref a_h_lifts, .ref a_h_prices, .ref a_h_starts, .ref a_h_hands, .ref a_h_wanted])), (a_h_prices, .inl (cI, 4, .inl h_prices)), (a_h_hands, .inl (cI, 8, .inl h_hands)), (a_h_wanted, .inl (cI, 8, .inl h_wanted)), (a_n, .inr (1, [.ref a_n_room, .ref a_n_bundle, .ref a_n_left, .int n_day, .int n_kept])), (a_n_room, .inl (cI, 8, .inl n_room)), (a_n_bundle, .inl (cI, 8, .inl n_bundle)), (a_n_left, .inl (cI, 4, .inl n_left))] H locs → W p l e ({ frames := 4, cells := 0, slots := 0, locals := 89 } : Jvm.Room) s m args below meth c H locs 0 0 Q (F0 m 27 ls [])) (fun B27 x17 x18 x19 x20 ih27 hf => ?_) _ (0 : Int32) (0 : Int32) (0 : Int32) (0 : Int32) hf) ls H locs (lv_sub hl [0, 1, 2, 3, 4] rfl) hw
    intro ls H locs hl hw
    refine lv_iload hx hb dX5_leastCost_27 (lv_at hl 0 rfl) ?_
    refine lv_bipush (v := (9 : Int32)) hx hb dX5_leastCost_29 rfl ?_
    refine lv_icmp_gt (tgt := 103) hx hb dX5_leastCost_31 (by decide) (fun kc => ?_) (fun kc => ?_)
    · have hf := if_t hf kc
      refine lv_iload_n hx hb dX5_leastCost_103 rfl (lv_at hl 1 rfl) ?_
      obtain ⟨rfl, rfl⟩ := sm2 hf
      exact hret H locs ls 104 hw dX5_leastCost_104
    · have hf := if_f hf kc
      refine lv_iconst (v := (0 : Int32)) hx hb dX5_leastCost_34 rfl ?_
      refine lv_istore (lv' := [(5, .int (0 : Int32)), (4, .int x20), (3, .int x19), (2, .int x18), (1, .int x17), (0, .ref a_w)]) hx hb dX5_leastCost_35 hl (by decide) rfl (fun ls hl => ?_)
      refine (loop4_sound (r := (r, q0)) (P := fun (x24 : Int32) (x25 : Int32) (x26 : Int32) (x27 : Int32) => ∀ (ls : Array Slot) (H : Heap) (locs : List Loc), lv_has ls 7 [(5, .int x27), (4, .int x20), (3, .int x26), (2, .int x25), (1, .int x24), (0, .ref a_w)] → Wd A s.heap (dC, dI) [(a_w, .inr (5, [.ref a_h, .ref a_n, .ref a_w_shared])), (a_w_shared, .inl (cI, 5, .inl u1)), (a_h, .inr (0, [.int h_rooms, .int h_people, .int h_things, .ref a_h_lifts, .ref a_h_prices, .ref a_h_starts, .ref a_h_hands, .ref a_h_wanted])), (a_h_prices, .inl (cI, 4, .inl h_prices)), (a_h_hands, .inl (cI, 8, .inl h_hands)), (a_h_wanted, .inl (cI, 8, .inl h_wanted)), (a_n, .inr (1, [.ref a_n_room, .ref a_n_bundle, .ref a_n_left, .int n_day, .int n_kept])), (a_n_room, .inl (cI, 8, .inl n_room)), (a_n_bundle, .inl (cI, 8, .inl n_bundle)), (a_n_left, .inl (cI, 4, .inl n_left))] H locs → W p l e ({ frames := 4, cells := 0, slots := 0, locals := 89 } : Jvm.Room) s m args below meth c H locs 0 0 Q (F0 m 37 ls [])) (fun B37 x24 x25 x26 x27 ih37 hf => ?_) _ x17 x18 x19 (0 : Int32) hf) ls H locs (lv_sub hl [0, 1, 2, 3, 4, 5] rfl) hw
      intro ls H locs hl hw
      refine lv_iload hx hb dX5_leastCost_37 (lv_at hl 0 rfl) ?_
      refine lv_aload_n hx hb dX5_leastCost_39 rfl (lv_at hl 5 rfl) ?_
      refine r_get E hw iX5 0 0 rfl rfl (by decide) kf15 rfl rfl dX5_leastCost_40 ?_
      refine r_getN E hw iX0 2 1 rfl rfl (by decide) kf95 rfl rfl dX5_leastCost_43 ?_
      refine lv_icmp_ge (tgt := 97) hx hb dX5_leastCost_46 (by decide) (fun kc => ?_) (fun kc => ?_)
      · have hf := if_t hf kc
        refine lv_iinc (v := (x20 + (1 : Int32))) (lv' := [(4, .int (x20 + (1 : Int32))), (5, .int x27), (3, .int x26), (2, .int x25), (1, .int x24), (0, .ref a_w)]) hx hb dX5_leastCost_97 hl (k := 1) rfl rfl (by decide) rfl (fun ls hl => ?_)
        refine lv_goto (tgt := 27) hx hb dX5_leastCost_100 (by decide) ?_
        exact ih27 x24 x25 x26 (x20 + (1 : Int32)) hf ls H locs (lv_sub hl [0, 2, 3, 4, 5] rfl) hw
      · have hf := if_f hf kc
        refine lv_aload_n hx hb dX5_leastCost_49 rfl (lv_at hl 5 rfl) ?_
        refine r_get E hw iX5 0 0 rfl rfl (by decide) kf15 rfl rfl dX5_leastCost_50 ?_
        refine r_getN E hw iX0 2 4 rfl rfl (by decide) kf98 rfl rfl dX5_leastCost_53 ?_
        refine lv_iload hx hb dX5_leastCost_56 (lv_at hl 0 rfl) ?_
        obtain ⟨g28, hf⟩ := gd_some hf
        refine r_iald E hw 3 rfl g28 dX5_leastCost_58 ?_
        refine lv_iload hx hb dX5_leastCost_59 (lv_at hl 1 rfl) ?_
        refine lv_icmp_ne (tgt := 91) hx hb dX5_leastCost_61 (by decide) (fun kc => ?_) (fun kc => ?_)
        · have hf := if_f hf kc
          refine lv_iinc (v := (x27 + (1 : Int32))) (lv' := [(5, .int (x27 + (1 : Int32))), (4, .int x20), (3, .int x26), (2, .int x25), (1, .int x24), (0, .ref a_w)]) hx hb dX5_leastCost_91 hl (k := 0) rfl rfl (by decide) rfl (fun ls hl => ?_)
          refine lv_goto (tgt := 37) hx hb dX5_leastCost_94 (by decide) ?_
          exact ih37 x24 x25 x26 (x27 + (1 : Int32)) hf ls H locs (lv_sub hl [0, 1, 2, 3, 4, 5] rfl) hw
        · have hf := if_t hf kc
          refine lv_iload_n hx hb dX5_leastCost_64 rfl (lv_at hl 4 rfl) ?_
          refine lv_iconst (v := (1 : Int32)) hx hb dX5_leastCost_65 rfl ?_
          refine lv_iload hx hb dX5_leastCost_66 (lv_at hl 0 rfl) ?_
          refine lv_ishl hx hb dX5_leastCost_68 ?_
          refine lv_ior hx hb dX5_leastCost_69 ?_
          refine lv_istore_n (lv' := [(1, .int (x24 ||| ((1 : Int32) <<< (x27 &&& 31)))), (5, .int x27), (4, .int x20), (3, .int x26), (2, .int x25), (0, .ref a_w)]) hx hb dX5_leastCost_70 rfl hl (by decide) rfl (fun ls hl => ?_)
          refine lv_aload_n hx hb dX5_leastCost_71 rfl (lv_at hl 5 rfl) ?_
          refine lv_iload_n hx hb dX5_leastCost_72 rfl (lv_at hl 0 rfl) ?_
          obtain ⟨r29, hu30, hf⟩ := bd1_some hf
          refine cl_i (wr := [(a_h, .inr (0, [.int h_rooms, .int h_people, .int h_things, .ref a_h_lifts, .ref a_h_prices, .ref a_h_starts, .ref a_h_hands, .ref a_h_wanted])), (a_h_prices, .inl (cI, 4, .inl h_prices)), (a_h_hands, .inl (cI, 8, .inl h_hands)), (a_h_wanted, .inl (cI, 8, .inl h_wanted)), (a_n_room, .inl (cI, 8, .inl n_room)), (a_n_bundle, .inl (cI, 8, .inl n_bundle))]) (w2 := [(a_w, .inr (5, [.ref a_h, .ref a_n, .ref a_w_shared])), (a_w_shared, .inl (cI, 5, .inl u1)), (a_h, .inr (0, [.int h_rooms, .int h_people, .int h_things, .ref a_h_lifts, .ref a_h_prices, .ref a_h_starts, .ref a_h_hands, .ref a_h_wanted])), (a_h_prices, .inl (cI, 4, .inl h_prices)), (a_h_hands, .inl (cI, 8, .inl h_hands)), (a_h_wanted, .inl (cI, 8, .inl h_wanted)), (a_n, .inr (1, [.ref a_n_room, .ref a_n_bundle, .ref a_n_left, .int n_day, .int n_kept])), (a_n_room, .inl (cI, 8, .inl n_room)), (a_n_bundle, .inl (cI, 8, .inl n_bundle)), (a_n_left, .inl (cI, 4, .inl n_left))]) E hw [0, 1, 6, 9] [2, 3, 4, 5, 7, 8] [6, 7, 0, 1, 2, 3, 8, 4, 5, 9] (va_runV (As := [.int (x24 ||| ((1 : Int32) <<< (x27 &&& 31)))]) (rest := []) E.1 (c_X5_mostLiftings l dC dI cI cB cZ aK aV a_w a_h a_n a_w_shared a_n_room a_n_bundle a_n_left H.size u1 n_day n_kept n_left (x24 ||| ((1 : Int32) <<< (x27 &&& 31))) r29 hu30) (cwV 1 hts gX5_leastCost_X5_mostLiftings rfl rfl rfl hd_X5_mostLiftings ⟨Nat.le_of_ble_eq_true rfl, Nat.le_of_ble_eq_true rfl⟩) (pre_V E hw [0, 1, 6, 9] rfl rfl rfl rfl) rfl rfl hl.1 rfl (lv_room (Nat.le_of_ble_eq_true rfl)) dX5_leastCost_73 ⟨Nat.zero_le _, Nat.zero_le _⟩) rfl rfl rfl (by decide) rfl rfl (fun H locs hw => ?_)
          refine lv_istore (lv' := [(6, .int r29), (1, .int (x24 ||| ((1 : Int32) <<< (x27 &&& 31)))), (5, .int x27), (4, .int x20), (3, .int x26), (2, .int x25), (0, .ref a_w)]) hx hb dX5_leastCost_76 hl (by decide) rfl (fun ls hl => ?_)
          refine lv_iload_n hx hb dX5_leastCost_78 rfl (lv_at hl 4 rfl) ?_
          refine lv_iload hx hb dX5_leastCost_79 (lv_at hl 3 rfl) ?_
          refine lv_iload hx hb dX5_leastCost_81 (lv_at hl 0 rfl) ?_
          refine lv_iload_n hx hb dX5_leastCost_83 rfl (lv_at hl 5 rfl) ?_
          refine lv_isub hx hb dX5_leastCost_84 ?_
          refine lv_imul hx hb dX5_leastCost_85 ?_
          refine lv_iadd hx hb dX5_leastCost_86 ?_
          refine lv_istore_n (lv' := [(3, .int (x26 + (x20 * (r29 - x25)))), (6, .int r29), (1, .int (x24 ||| ((1 : Int32) <<< (x27 &&& 31)))), (5, .int x27), (4, .int x20), (2, .int x25), (0, .ref a_w)]) hx hb dX5_leastCost_87 rfl hl (by decide) rfl (fun ls hl => ?_)
          refine lv_iload hx hb dX5_leastCost_88 (lv_at hl 1 rfl) ?_
          refine lv_istore_n (lv' := [(2, .int r29), (3, .int (x26 + (x20 * (r29 - x25)))), (6, .int r29), (1, .int (x24 ||| ((1 : Int32) <<< (x27 &&& 31)))), (5, .int x27), (4, .int x20), (0, .ref a_w)]) hx hb dX5_leastCost_90 rfl hl (by decide) rfl (fun ls hl => ?_)
          refine lv_iinc (v := (x27 + (1 : Int32))) (lv' := [(5, .int (x27 + (1 : Int32))), (2, .int r29), (3, .int (x26 + (x20 * (r29 - x25)))), (6, .int r29), (1, .int (x24 ||| ((1 : Int32) <<< (x27 &&& 31)))), (4, .int x20), (0, .ref a_w)]) hx hb dX5_leastCost_91 hl (k := 4) rfl rfl (by decide) rfl (fun ls hl => ?_)
          refine lv_goto (tgt := 37) hx hb dX5_leastCost_94 (by decide) ?_
          exact ih37 (x24 ||| ((1 : Int32) <<< (x27 &&& 31))) r29 (x26 + (x20 * (r29 - x25))) (x27 + (1 : Int32)) hf ls H locs (lv_sub hl [0, 5, 2, 1, 4, 6] rfl) hw
  · have hf := if_t hf kc
    refine lv_bipush (v := (-9 : Int32)) hx hb dX5_leastCost_15 rfl ?_
    obtain ⟨rfl, rfl⟩ := sm2 hf
    exact hret H locs ls 17 hw dX5_leastCost_17
def f_X5_leastSet  (w_shared : Nat → Int32) (h_people : Int32) (h_things : Int32) (h_hands : Nat → Int32) (h_wanted : Nat → Int32) (n_room : Nat → Int32) (n_bundle : Nat → Int32) (n_left : Nat → Int32) : Option (Int32 × (Nat → Int32)) :=
  bd1 (f_X5_fillShared w_shared h_things h_hands h_wanted n_room n_bundle) (fun u1 => loop2 (fun B9 (x12 : Int32) (x13 : Int32) => bd1 (f_X5_everybody h_people) (fun r14 => (if r14 < x13 then some (x12, u1) else jn (fun (x20 : Int32) => (if x20 = 0 then B9 x12 (x13 + (1 : Int32)) else bd1 (f_X5_canDoAll x13 u1 n_left) (fun r21 => (if r21 = 0 then B9 x12 (x13 + (1 : Int32)) else B9 x13 (x13 + (1 : Int32)))))) (fun J39 => jn (J39 (1 : Int32)) (fun J34 => (if x12 = (-9 : Int32) then J34 else bd1 (f_J6_bitCount_0f7a4 x13) (fun r16 => bd1 (f_J6_bitCount_0f7a4 x12) (fun r18 => (if r18 ≤ r16 then J39 (0 : Int32) else J34))))))))) FU (-9 : Int32) (0 : Int32))
theorem hd_X5_leastSet : yX5_leastSet.cls = RX5 ∧ yX5_leastSet.cls ≠ "java/lang/invoke/MethodHandle" ∧ yX5_leastSet.cls ≠ "java/lang/invoke/VarHandle" ∧ (parseMethodDescriptor yX5_leastSet.desc).map (fun d => d.parameters.length) = some 0 := by decide +kernel
set_option maxHeartbeats 4000000 in
set_option maxRecDepth 100000 in
theorem c_X5_leastSet (l : Launch) (dC : Nat → ClassId) (dI : Nat → Nat → Nat) (cI cB cZ : ClassId) (aK aV : Nat → Nat) (a_w a_h a_n a_w_shared a_h_lifts a_h_prices a_h_starts a_h_hands a_h_wanted a_n_room a_n_bundle a_n_left : Nat) (sz : Nat) (w_shared : Nat → Int32) (h_rooms : Int32) (h_people : Int32) (h_things : Int32) (h_hands : Nat → Int32) (h_wanted : Nat → Int32) (n_day : Int32) (n_kept : Int32) (n_room : Nat → Int32) (n_bundle : Nat → Int32) (n_left : Nat → Int32) (r : Int32) (q0 : Nat → Int32) (hf : f_X5_leastSet w_shared h_people h_things h_hands h_wanted n_room n_bundle n_left = some (r, q0)) : Met l yX5_leastSet wsX5_leastSet ({ frames := 4, cells := 0, slots := 0, locals := 89 } : Jvm.Room) (va_Pc [.ref a_w] (preW (dC, dI) (tyL cI cB cZ) aK aV sz [(a_w, .inr (5, [.ref a_h, .ref a_n, .ref a_w_shared])), (a_w_shared, .inl (cI, 5, .inl w_shared)), (a_h, .inr (0, [.int h_rooms, .int h_people, .int h_things, .ref a_h_lifts, .ref a_h_prices, .ref a_h_starts, .ref a_h_hands, .ref a_h_wanted])), (a_h_hands, .inl (cI, 8, .inl h_hands)), (a_h_wanted, .inl (cI, 8, .inl h_wanted)), (a_n, .inr (1, [.ref a_n_room, .ref a_n_bundle, .ref a_n_left, .int n_day, .int n_kept])), (a_n_room, .inl (cI, 8, .inl n_room)), (a_n_bundle, .inl (cI, 8, .inl n_bundle)), (a_n_left, .inl (cI, 4, .inl n_left))])) (va_Qi (fun v (_ : Unit) => v = r) (postW (dC, dI) (tyL cI cB cZ) (va_A [(a_w, .inr (5, [.ref a_h, .ref a_n, .ref a_w_shared])), (a_w_shared, .inl (cI, 5, .inl w_shared)), (a_h, .inr (0, [.int h_rooms, .int h_people, .int h_things, .ref a_h_lifts, .ref a_h_prices, .ref a_h_starts, .ref a_h_hands, .ref a_h_wanted])), (a_h_hands, .inl (cI, 8, .inl h_hands)), (a_h_wanted, .inl (cI, 8, .inl h_wanted)), (a_n, .inr (1, [.ref a_n_room, .ref a_n_bundle, .ref a_n_left, .int n_day, .int n_kept])), (a_n_room, .inl (cI, 8, .inl n_room)), (a_n_bundle, .inl (cI, 8, .inl n_bundle)), (a_n_left, .inl (cI, 4, .inl n_left))] sz) [(a_w, .inr (5, [.ref a_h, .ref a_n, .ref a_w_shared])), (a_w_shared, .inl (cI, 5, .inl q0)), (a_h, .inr (0, [.int h_rooms, .int h_people, .int h_things, .ref a_h_lifts, .ref a_h_prices, .ref a_h_starts, .ref a_h_hands, .ref a_h_wanted])), (a_h_hands, .inl (cI, 8, .inl h_hands)), (a_h_wanted, .inl (cI, 8, .inl h_wanted)), (a_n, .inr (1, [.ref a_n_room, .ref a_n_bundle, .ref a_n_left, .int n_day, .int n_kept])), (a_n_room, .inl (cI, 8, .inl n_room)), (a_n_bundle, .inl (cI, 8, .inl n_bundle)), (a_n_left, .inl (cI, 4, .inl n_left))]) (va_A [(a_w, .inr (5, [.ref a_h, .ref a_n, .ref a_w_shared])), (a_w_shared, .inl (cI, 5, .inl w_shared)), (a_h, .inr (0, [.int h_rooms, .int h_people, .int h_things, .ref a_h_lifts, .ref a_h_prices, .ref a_h_starts, .ref a_h_hands, .ref a_h_wanted])), (a_h_hands, .inl (cI, 8, .inl h_hands)), (a_h_wanted, .inl (cI, 8, .inl h_wanted)), (a_n, .inr (1, [.ref a_n_room, .ref a_n_bundle, .ref a_n_left, .int n_day, .int n_kept])), (a_n_room, .inl (cI, 8, .inl n_room)), (a_n_bundle, .inl (cI, 8, .inl n_bundle)), (a_n_left, .inl (cI, 4, .inl n_left))] sz)) 0 0 (va_A [(a_w, .inr (5, [.ref a_h, .ref a_n, .ref a_w_shared])), (a_w_shared, .inl (cI, 5, .inl w_shared)), (a_h, .inr (0, [.int h_rooms, .int h_people, .int h_things, .ref a_h_lifts, .ref a_h_prices, .ref a_h_starts, .ref a_h_hands, .ref a_h_wanted])), (a_h_hands, .inl (cI, 8, .inl h_hands)), (a_h_wanted, .inl (cI, 8, .inl h_wanted)), (a_n, .inr (1, [.ref a_n_room, .ref a_n_bundle, .ref a_n_left, .int n_day, .int n_kept])), (a_n_room, .inl (cI, 8, .inl n_room)), (a_n_bundle, .inl (cI, 8, .inl n_bundle)), (a_n_left, .inl (cI, 4, .inl n_left))] sz) := by
  refine met_i (cc := cX5_leastSet) (maxL := 4) (own := RX5) (by decide) rfl (Nat.le_of_ble_eq_true rfl) rfl (fun p e s m args below meth c Q A E hret ls H locs hl hw => ?_)
  obtain ⟨⟨hx, hb, hml, hown, hts⟩, hK, hN, hA, hX⟩ := id E
  have hl : lv_has ls 4 [(0, .ref a_w)] := hl
  unfold f_X5_leastSet at hf
  refine lv_aload_n hx hb dX5_leastSet_0 rfl (lv_at hl 0 rfl) ?_
  obtain ⟨u1, hu2, hf⟩ := bd1_some hf
  refine cl_v (wr := [(a_n_left, .inl (cI, 4, .inl n_left))]) (w2 := [(a_w, .inr (5, [.ref a_h, .ref a_n, .ref a_w_shared])), (a_w_shared, .inl (cI, 5, .inl u1)), (a_h, .inr (0, [.int h_rooms, .int h_people, .int h_things, .ref a_h_lifts, .ref a_h_prices, .ref a_h_starts, .ref a_h_hands, .ref a_h_wanted])), (a_h_hands, .inl (cI, 8, .inl h_hands)), (a_h_wanted, .inl (cI, 8, .inl h_wanted)), (a_n, .inr (1, [.ref a_n_room, .ref a_n_bundle, .ref a_n_left, .int n_day, .int n_kept])), (a_n_room, .inl (cI, 8, .inl n_room)), (a_n_bundle, .inl (cI, 8, .inl n_bundle)), (a_n_left, .inl (cI, 4, .inl n_left))]) E hw [0, 1, 2, 3, 4, 5, 6, 7] [8] [1, 2, 3, 4, 5, 6, 7, 8, 0] (va_runV (As := []) (rest := []) E.1 (c_X5_fillShared l dC dI cI cB cZ aK aV a_w a_h a_n a_w_shared a_h_lifts a_h_prices a_h_starts a_h_hands a_h_wanted a_n_room a_n_bundle a_n_left H.size w_shared h_rooms h_people h_things h_hands h_wanted n_day n_kept n_room n_bundle u1 hu2) (cwV 0 hts gX5_leastSet_X5_fillShared rfl rfl rfl hd_X5_fillShared ⟨Nat.le_of_ble_eq_true rfl, Nat.le_of_ble_eq_true rfl⟩) (pre_V E hw [0, 1, 2, 3, 4, 5, 6, 7] rfl rfl rfl rfl) rfl rfl hl.1 rfl (lv_room (Nat.le_of_ble_eq_true rfl)) dX5_leastSet_1 ⟨Nat.zero_le _, Nat.zero_le _⟩) rfl rfl rfl (by decide) rfl rfl (fun H locs hw => ?_)
  refine lv_bipush (v := (-9 : Int32)) hx hb dX5_leastSet_4 rfl ?_
  refine lv_istore_n (lv' := [(1, .int (-9 : Int32)), (0, .ref a_w)]) hx hb dX5_leastSet_6 rfl hl (by decide) rfl (fun ls hl => ?_)
  refine lv_iconst (v := (0 : Int32)) hx hb dX5_leastSet_7 rfl ?_
  refine lv_istore_n (lv' := [(2, .int (0 : Int32)), (1, .int (-9 : Int32)), (0, .ref a_w)]) hx hb dX5_leastSet_8 rfl hl (by decide) rfl (fun ls hl => ?_)
  refine (loop2_sound (r := (r, q0)) (P := fun (x12 : Int32) (x13 : Int32) => ∀ (ls : Array Slot) (H : Heap) (locs : List Loc), lv_has ls 4 [(2, .int x13), (1, .int x12), (0, .ref a_w)] → Wd A s.heap (dC, dI) [(a_w, .inr (5, [.ref a_h, .ref a_n, .ref a_w_shared])), (a_w_shared, .inl (cI, 5, .inl u1)), (a_h, .inr (0, [.int h_rooms, .int h_people, .int h_things, .ref a_h_lifts, .ref a_h_prices, .ref a_h_starts, .ref a_h_hands, .ref a_h_wanted])), (a_h_hands, .inl (cI, 8, .inl h_hands)), (a_h_wanted, .inl (cI, 8, .inl h_wanted)), (a_n, .inr (1, [.ref a_n_room, .ref a_n_bundle, .ref a_n_left, .int n_day, .int n_kept])), (a_n_room, .inl (cI, 8, .inl n_room)), (a_n_bundle, .inl (cI, 8, .inl n_bundle)), (a_n_left, .inl (cI, 4, .inl n_left))] H locs → W p l e ({ frames := 4, cells := 0, slots := 0, locals := 89 } : Jvm.Room) s m args below meth c H locs 0 0 Q (F0 m 9 ls [])) (fun B9 x12 x13 ih9 hf => ?_) _ (-9 : Int32) (0 : Int32) hf) ls H locs (lv_sub hl [0, 1, 2] rfl) hw
  intro ls H locs hl hw
  refine lv_iload_n hx hb dX5_leastSet_9 rfl (lv_at hl 0 rfl) ?_
  refine lv_aload_n hx hb dX5_leastSet_10 rfl (lv_at hl 2 rfl) ?_
  obtain ⟨r14, hu15, hf⟩ := bd1_some hf
  refine cl_i (wr := [(a_w_shared, .inl (cI, 5, .inl u1)), (a_h_hands, .inl (cI, 8, .inl h_hands)), (a_h_wanted, .inl (cI, 8, .inl h_wanted)), (a_n, .inr (1, [.ref a_n_room, .ref a_n_bundle, .ref a_n_left, .int n_day, .int n_kept])), (a_n_room, .inl (cI, 8, .inl n_room)), (a_n_bundle, .inl (cI, 8, .inl n_bundle)), (a_n_left, .inl (cI, 4, .inl n_left))]) (w2 := [(a_w, .inr (5, [.ref a_h, .ref a_n, .ref a_w_shared])), (a_w_shared, .inl (cI, 5, .inl u1)), (a_h, .inr (0, [.int h_rooms, .int h_people, .int h_things, .ref a_h_lifts, .ref a_h_prices, .ref a_h_starts, .ref a_h_hands, .ref a_h_wanted])), (a_h_hands, .inl (cI, 8, .inl h_hands)), (a_h_wanted, .inl (cI, 8, .inl h_wanted)), (a_n, .inr (1, [.ref a_n_room, .ref a_n_bundle, .ref a_n_left, .int n_day, .int n_kept])), (a_n_room, .inl (cI, 8, .inl n_room)), (a_n_bundle, .inl (cI, 8, .inl n_bundle)), (a_n_left, .inl (cI, 4, .inl n_left))]) E hw [0, 2] [1, 3, 4, 5, 6, 7, 8] [7, 0, 8, 1, 2, 3, 4, 5, 6] (va_runV (As := []) (rest := [.int x13]) E.1 (c_X5_everybody l dC dI cI cB cZ aK aV a_w a_h a_n a_w_shared a_h_lifts a_h_prices a_h_starts a_h_hands a_h_wanted H.size h_rooms h_people h_things r14 hu15) (cwV 0 hts gX5_leastSet_X5_everybody rfl rfl rfl hd_X5_everybody ⟨Nat.le_of_ble_eq_true rfl, Nat.le_of_ble_eq_true rfl⟩) (pre_V E hw [0, 2] rfl rfl rfl rfl) rfl rfl hl.1 rfl (lv_room (Nat.le_of_ble_eq_true rfl)) dX5_leastSet_11 ⟨Nat.zero_le _, Nat.zero_le _⟩) rfl rfl rfl (by decide) rfl rfl (fun H locs hw => ?_)
  refine lv_icmp_gt (tgt := 60) hx hb dX5_leastSet_14 (by decide) (fun kc => ?_) (fun kc => ?_)
  · have hf := if_t hf kc
    refine lv_iload_n hx hb dX5_leastSet_60 rfl (lv_at hl 1 rfl) ?_
    obtain ⟨rfl, rfl⟩ := sm2 hf
    exact hret H locs ls 61 hw dX5_leastSet_61
  · have hf := if_f hf kc
    refine lv_iload_n hx hb dX5_leastSet_17 rfl (lv_at hl 1 rfl) ?_
    refine lv_bipush (v := (-9 : Int32)) hx hb dX5_leastSet_18 rfl ?_
    refine jn_sound (P := fun J => ∀ (x20 : Int32) (ls : Array Slot) (H : Heap) (locs : List Loc), J x20 = some (r, q0) → lv_has ls 4 [(0, .ref a_w), (1, .int x12), (2, .int x13)] → Wd A s.heap (dC, dI) [(a_w, .inr (5, [.ref a_h, .ref a_n, .ref a_w_shared])), (a_w_shared, .inl (cI, 5, .inl u1)), (a_h, .inr (0, [.int h_rooms, .int h_people, .int h_things, .ref a_h_lifts, .ref a_h_prices, .ref a_h_starts, .ref a_h_hands, .ref a_h_wanted])), (a_h_hands, .inl (cI, 8, .inl h_hands)), (a_h_wanted, .inl (cI, 8, .inl h_wanted)), (a_n, .inr (1, [.ref a_n_room, .ref a_n_bundle, .ref a_n_left, .int n_day, .int n_kept])), (a_n_room, .inl (cI, 8, .inl n_room)), (a_n_bundle, .inl (cI, 8, .inl n_bundle)), (a_n_left, .inl (cI, 4, .inl n_left))] H locs → W p l e ({ frames := 4, cells := 0, slots := 0, locals := 89 } : Jvm.Room) s m args below meth c H locs 0 0 Q (F0 m 39 ls [.int x20])) hf ?_ ?_
    · intro x20 ls H locs hf hl hw
      refine lv_istore_n (lv' := [(3, .int x20), (0, .ref a_w), (1, .int x12), (2, .int x13)]) hx hb dX5_leastSet_39 rfl hl (by decide) rfl (fun ls hl => ?_)
      refine lv_iload_n hx hb dX5_leastSet_40 rfl (lv_at hl 0 rfl) ?_
      refine lv_if_eq (tgt := 54) hx hb dX5_leastSet_41 (by decide) (fun kc => ?_) (fun kc => ?_)
      · have hf := if_t hf kc
        refine lv_iinc (v := (x13 + (1 : Int32))) (lv' := [(2, .int (x13 + (1 : Int32))), (3, .int x20), (0, .ref a_w), (1, .int x12)]) hx hb dX5_leastSet_54 hl (k := 3) rfl rfl (by decide) rfl (fun ls hl => ?_)
        refine lv_goto (tgt := 9) hx hb dX5_leastSet_57 (by decide) ?_
        exact ih9 x12 (x13 + (1 : Int32)) hf ls H locs (lv_sub hl [0, 3, 2] rfl) hw
      · have hf := if_f hf kc
        refine lv_aload_n hx hb dX5_leastSet_44 rfl (lv_at hl 1 rfl) ?_
        refine lv_iload_n hx hb dX5_leastSet_45 rfl (lv_at hl 3 rfl) ?_
        obtain ⟨r21, hu22, hf⟩ := bd1_some hf
        refine cl_i (wr := [(a_h, .inr (0, [.int h_rooms, .int h_people, .int h_things, .ref a_h_lifts, .ref a_h_prices, .ref a_h_starts, .ref a_h_hands, .ref a_h_wanted])), (a_h_hands, .inl (cI, 8, .inl h_hands)), (a_h_wanted, .inl (cI, 8, .inl h_wanted)), (a_n_room, .inl (cI, 8, .inl n_room)), (a_n_bundle, .inl (cI, 8, .inl n_bundle))]) (w2 := [(a_w, .inr (5, [.ref a_h, .ref a_n, .ref a_w_shared])), (a_w_shared, .inl (cI, 5, .inl u1)), (a_h, .inr (0, [.int h_rooms, .int h_people, .int h_things, .ref a_h_lifts, .ref a_h_prices, .ref a_h_starts, .ref a_h_hands, .ref a_h_wanted])), (a_h_hands, .inl (cI, 8, .inl h_hands)), (a_h_wanted, .inl (cI, 8, .inl h_wanted)), (a_n, .inr (1, [.ref a_n_room, .ref a_n_bundle, .ref a_n_left, .int n_day, .int n_kept])), (a_n_room, .inl (cI, 8, .inl n_room)), (a_n_bundle, .inl (cI, 8, .inl n_bundle)), (a_n_left, .inl (cI, 4, .inl n_left))]) E hw [0, 1, 5, 8] [2, 3, 4, 6, 7] [5, 6, 0, 1, 2, 7, 3, 4, 8] (va_runV (As := [.int x13]) (rest := []) E.1 (c_X5_canDoAll l dC dI cI cB cZ aK aV a_w a_h a_n a_w_shared a_n_room a_n_bundle a_n_left H.size u1 n_day n_kept n_left x13 r21 hu22) (cwV 1 hts gX5_leastSet_X5_canDoAll rfl rfl rfl hd_X5_canDoAll ⟨Nat.le_of_ble_eq_true rfl, Nat.le_of_ble_eq_true rfl⟩) (pre_V E hw [0, 1, 5, 8] rfl rfl rfl rfl) rfl rfl hl.1 rfl (lv_room (Nat.le_of_ble_eq_true rfl)) dX5_leastSet_46 ⟨Nat.zero_le _, Nat.zero_le _⟩) rfl rfl rfl (by decide) rfl rfl (fun H locs hw => ?_)
        refine lv_if_eq (tgt := 54) hx hb dX5_leastSet_49 (by decide) (fun kc => ?_) (fun kc => ?_)
        · have hf := if_t hf kc
          refine lv_iinc (v := (x13 + (1 : Int32))) (lv' := [(2, .int (x13 + (1 : Int32))), (3, .int x20), (0, .ref a_w), (1, .int x12)]) hx hb dX5_leastSet_54 hl (k := 3) rfl rfl (by decide) rfl (fun ls hl => ?_)
          refine lv_goto (tgt := 9) hx hb dX5_leastSet_57 (by decide) ?_
          exact ih9 x12 (x13 + (1 : Int32)) hf ls H locs (lv_sub hl [0, 3, 2] rfl) hw
        · have hf := if_f hf kc
          refine lv_iload_n hx hb dX5_leastSet_52 rfl (lv_at hl 3 rfl) ?_
          refine lv_istore_n (lv' := [(1, .int x13), (3, .int x20), (0, .ref a_w), (2, .int x13)]) hx hb dX5_leastSet_53 rfl hl (by decide) rfl (fun ls hl => ?_)
          refine lv_iinc (v := (x13 + (1 : Int32))) (lv' := [(2, .int (x13 + (1 : Int32))), (1, .int x13), (3, .int x20), (0, .ref a_w)]) hx hb dX5_leastSet_54 hl (k := 3) rfl rfl (by decide) rfl (fun ls hl => ?_)
          refine lv_goto (tgt := 9) hx hb dX5_leastSet_57 (by decide) ?_
          exact ih9 x13 (x13 + (1 : Int32)) hf ls H locs (lv_sub hl [0, 1, 3] rfl) hw
    · intro J39 hJ39 hf
      refine jn_sound (P := fun J => ∀ (ls : Array Slot) (H : Heap) (locs : List Loc), J = some (r, q0) → lv_has ls 4 [(0, .ref a_w), (1, .int x12), (2, .int x13)] → Wd A s.heap (dC, dI) [(a_w, .inr (5, [.ref a_h, .ref a_n, .ref a_w_shared])), (a_w_shared, .inl (cI, 5, .inl u1)), (a_h, .inr (0, [.int h_rooms, .int h_people, .int h_things, .ref a_h_lifts, .ref a_h_prices, .ref a_h_starts, .ref a_h_hands, .ref a_h_wanted])), (a_h_hands, .inl (cI, 8, .inl h_hands)), (a_h_wanted, .inl (cI, 8, .inl h_wanted)), (a_n, .inr (1, [.ref a_n_room, .ref a_n_bundle, .ref a_n_left, .int n_day, .int n_kept])), (a_n_room, .inl (cI, 8, .inl n_room)), (a_n_bundle, .inl (cI, 8, .inl n_bundle)), (a_n_left, .inl (cI, 4, .inl n_left))] H locs → W p l e ({ frames := 4, cells := 0, slots := 0, locals := 89 } : Jvm.Room) s m args below meth c H locs 0 0 Q (F0 m 34 ls [])) hf ?_ ?_
      · intro ls H locs hf hl hw
        refine lv_iconst (v := (1 : Int32)) hx hb dX5_leastSet_34 rfl ?_
        refine lv_goto (tgt := 39) hx hb dX5_leastSet_35 (by decide) ?_
        exact hJ39 (1 : Int32) ls H locs hf hl hw
      · intro J34 hJ34 hf
        refine lv_icmp_eq (tgt := 34) hx hb dX5_leastSet_20 (by decide) (fun kc => ?_) (fun kc => ?_)
        · have hf := if_t hf kc
          exact hJ34 ls H locs hf (lv_sub hl [2, 1, 0] rfl) hw
        · have hf := if_f hf kc
          refine lv_iload_n hx hb dX5_leastSet_23 rfl (lv_at hl 0 rfl) ?_
          obtain ⟨r16, hu17, hf⟩ := bd1_some hf
          refine cl_i (wr := [(a_w, .inr (5, [.ref a_h, .ref a_n, .ref a_w_shared])), (a_w_shared, .inl (cI, 5, .inl u1)), (a_h, .inr (0, [.int h_rooms, .int h_people, .int h_things, .ref a_h_lifts, .ref a_h_prices, .ref a_h_starts, .ref a_h_hands, .ref a_h_wanted])), (a_h_hands, .inl (cI, 8, .inl h_hands)), (a_h_wanted, .inl (cI, 8, .inl h_wanted)), (a_n, .inr (1, [.ref a_n_room, .ref a_n_bundle, .ref a_n_left, .int n_day, .int n_kept])), (a_n_room, .inl (cI, 8, .inl n_room)), (a_n_bundle, .inl (cI, 8, .inl n_bundle)), (a_n_left, .inl (cI, 4, .inl n_left))]) (w2 := [(a_w, .inr (5, [.ref a_h, .ref a_n, .ref a_w_shared])), (a_w_shared, .inl (cI, 5, .inl u1)), (a_h, .inr (0, [.int h_rooms, .int h_people, .int h_things, .ref a_h_lifts, .ref a_h_prices, .ref a_h_starts, .ref a_h_hands, .ref a_h_wanted])), (a_h_hands, .inl (cI, 8, .inl h_hands)), (a_h_wanted, .inl (cI, 8, .inl h_wanted)), (a_n, .inr (1, [.ref a_n_room, .ref a_n_bundle, .ref a_n_left, .int n_day, .int n_kept])), (a_n_room, .inl (cI, 8, .inl n_room)), (a_n_bundle, .inl (cI, 8, .inl n_bundle)), (a_n_left, .inl (cI, 4, .inl n_left))]) E hw [] [0, 1, 2, 3, 4, 5, 6, 7, 8] [0, 1, 2, 3, 4, 5, 6, 7, 8] (va_runS (As := [.int x13]) (rest := []) E.1 (c_J6_bitCount_0f7a4 l dC dI cI cB cZ aK aV H.size x13 r16 hu17) (va_cwS 1 hts gX5_leastSet_J6_bitCount_0f7a4 rfl rfl rfl hd_J6_bitCount_0f7a4 ⟨Nat.le_of_ble_eq_true rfl, Nat.le_of_ble_eq_true rfl⟩) (pre_S E hw [] rfl rfl) rfl rfl hl.1 rfl (lv_room (Nat.le_of_ble_eq_true rfl)) dX5_leastSet_24 ⟨Nat.zero_le _, Nat.zero_le _⟩) rfl rfl rfl (by decide) rfl rfl (fun H locs hw => ?_)
          refine lv_iload_n hx hb dX5_leastSet_27 rfl (lv_at hl 1 rfl) ?_
          obtain ⟨r18, hu19, hf⟩ := bd1_some hf
          refine cl_i (wr := [(a_w, .inr (5, [.ref a_h, .ref a_n, .ref a_w_shared])), (a_w_shared, .inl (cI, 5, .inl u1)), (a_h, .inr (0, [.int h_rooms, .int h_people, .int h_things, .ref a_h_lifts, .ref a_h_prices, .ref a_h_starts, .ref a_h_hands, .ref a_h_wanted])), (a_h_hands, .inl (cI, 8, .inl h_hands)), (a_h_wanted, .inl (cI, 8, .inl h_wanted)), (a_n, .inr (1, [.ref a_n_room, .ref a_n_bundle, .ref a_n_left, .int n_day, .int n_kept])), (a_n_room, .inl (cI, 8, .inl n_room)), (a_n_bundle, .inl (cI, 8, .inl n_bundle)), (a_n_left, .inl (cI, 4, .inl n_left))]) (w2 := [(a_w, .inr (5, [.ref a_h, .ref a_n, .ref a_w_shared])), (a_w_shared, .inl (cI, 5, .inl u1)), (a_h, .inr (0, [.int h_rooms, .int h_people, .int h_things, .ref a_h_lifts, .ref a_h_prices, .ref a_h_starts, .ref a_h_hands, .ref a_h_wanted])), (a_h_hands, .inl (cI, 8, .inl h_hands)), (a_h_wanted, .inl (cI, 8, .inl h_wanted)), (a_n, .inr (1, [.ref a_n_room, .ref a_n_bundle, .ref a_n_left, .int n_day, .int n_kept])), (a_n_room, .inl (cI, 8, .inl n_room)), (a_n_bundle, .inl (cI, 8, .inl n_bundle)), (a_n_left, .inl (cI, 4, .inl n_left))]) E hw [] [0, 1, 2, 3, 4, 5, 6, 7, 8] [0, 1, 2, 3, 4, 5, 6, 7, 8] (va_runS (As := [.int x12]) (rest := [.int r16]) E.1 (c_J6_bitCount_0f7a4 l dC dI cI cB cZ aK aV H.size x12 r18 hu19) (va_cwS 1 hts gX5_leastSet_J6_bitCount_0f7a4 rfl rfl rfl hd_J6_bitCount_0f7a4 ⟨Nat.le_of_ble_eq_true rfl, Nat.le_of_ble_eq_true rfl⟩) (pre_S E hw [] rfl rfl) rfl rfl hl.1 rfl (lv_room (Nat.le_of_ble_eq_true rfl)) dX5_leastSet_28 ⟨Nat.zero_le _, Nat.zero_le _⟩) rfl rfl rfl (by decide) rfl rfl (fun H locs hw => ?_)
          refine lv_icmp_ge (tgt := 38) hx hb dX5_leastSet_31 (by decide) (fun kc => ?_) (fun kc => ?_)
          · have hf := if_t hf kc
            refine lv_iconst (v := (0 : Int32)) hx hb dX5_leastSet_38 rfl ?_
            exact hJ39 (0 : Int32) ls H locs hf (lv_sub hl [2, 1, 0] rfl) hw
          · have hf := if_f hf kc
            exact hJ34 ls H locs hf (lv_sub hl [2, 1, 0] rfl) hw
def f_X5_lostThings  (h_things : Int32) (h_hands : Nat → Int32) (h_wanted : Nat → Int32) (n_room : Nat → Int32) (n_bundle : Nat → Int32) (n_left : Nat → Int32) : Option (Int32) :=
  bd1 (f_X1_peopleWithLeft n_left) (fun r1 => bd1 (f_J6_bitCount_0f7a4 r1) (fun r3 => loop2 (fun B15 (x11 : Int32) (x12 : Int32) => (if h_things ≤ x12 then some (x11) else bd1 (f_X1_jobOf x12 n_bundle) (fun r13 => bd1 (f_X5_isDue r13 h_things h_wanted n_room) (fun r15 => (if r15 = 0 then B15 x11 (x12 + (1 : Int32)) else bd1 (f_X0_handsOf r13 h_things h_hands) (fun r17 => (if r17 ≤ r3 then B15 x11 (x12 + (1 : Int32)) else B15 (x11 ||| r13) (x12 + (1 : Int32))))))))) FU (0 : Int32) (0 : Int32)))
theorem hd_X5_lostThings : yX5_lostThings.cls = RX5 ∧ yX5_lostThings.cls ≠ "java/lang/invoke/MethodHandle" ∧ yX5_lostThings.cls ≠ "java/lang/invoke/VarHandle" ∧ (parseMethodDescriptor yX5_lostThings.desc).map (fun d => d.parameters.length) = some 0 := by decide +kernel
set_option maxHeartbeats 4000000 in
set_option maxRecDepth 100000 in
theorem c_X5_lostThings (l : Launch) (dC : Nat → ClassId) (dI : Nat → Nat → Nat) (cI cB cZ : ClassId) (aK aV : Nat → Nat) (a_w a_h a_n a_w_shared a_h_lifts a_h_prices a_h_starts a_h_hands a_h_wanted a_n_room a_n_bundle a_n_left : Nat) (sz : Nat) (h_rooms : Int32) (h_people : Int32) (h_things : Int32) (h_hands : Nat → Int32) (h_wanted : Nat → Int32) (n_day : Int32) (n_kept : Int32) (n_room : Nat → Int32) (n_bundle : Nat → Int32) (n_left : Nat → Int32) (r : Int32) (hf : f_X5_lostThings h_things h_hands h_wanted n_room n_bundle n_left = some r) : Met l yX5_lostThings wsX5_lostThings ({ frames := 2, cells := 0, slots := 0, locals := 44 } : Jvm.Room) (va_Pc [.ref a_w] (preW (dC, dI) (tyL cI cB cZ) aK aV sz [(a_w, .inr (5, [.ref a_h, .ref a_n, .ref a_w_shared])), (a_h, .inr (0, [.int h_rooms, .int h_people, .int h_things, .ref a_h_lifts, .ref a_h_prices, .ref a_h_starts, .ref a_h_hands, .ref a_h_wanted])), (a_h_hands, .inl (cI, 8, .inl h_hands)), (a_h_wanted, .inl (cI, 8, .inl h_wanted)), (a_n, .inr (1, [.ref a_n_room, .ref a_n_bundle, .ref a_n_left, .int n_day, .int n_kept])), (a_n_room, .inl (cI, 8, .inl n_room)), (a_n_bundle, .inl (cI, 8, .inl n_bundle)), (a_n_left, .inl (cI, 4, .inl n_left))])) (va_Qi (fun v (_ : Unit) => v = r) (postW (dC, dI) (tyL cI cB cZ) (va_A [(a_w, .inr (5, [.ref a_h, .ref a_n, .ref a_w_shared])), (a_h, .inr (0, [.int h_rooms, .int h_people, .int h_things, .ref a_h_lifts, .ref a_h_prices, .ref a_h_starts, .ref a_h_hands, .ref a_h_wanted])), (a_h_hands, .inl (cI, 8, .inl h_hands)), (a_h_wanted, .inl (cI, 8, .inl h_wanted)), (a_n, .inr (1, [.ref a_n_room, .ref a_n_bundle, .ref a_n_left, .int n_day, .int n_kept])), (a_n_room, .inl (cI, 8, .inl n_room)), (a_n_bundle, .inl (cI, 8, .inl n_bundle)), (a_n_left, .inl (cI, 4, .inl n_left))] sz) [(a_w, .inr (5, [.ref a_h, .ref a_n, .ref a_w_shared])), (a_h, .inr (0, [.int h_rooms, .int h_people, .int h_things, .ref a_h_lifts, .ref a_h_prices, .ref a_h_starts, .ref a_h_hands, .ref a_h_wanted])), (a_h_hands, .inl (cI, 8, .inl h_hands)), (a_h_wanted, .inl (cI, 8, .inl h_wanted)), (a_n, .inr (1, [.ref a_n_room, .ref a_n_bundle, .ref a_n_left, .int n_day, .int n_kept])), (a_n_room, .inl (cI, 8, .inl n_room)), (a_n_bundle, .inl (cI, 8, .inl n_bundle)), (a_n_left, .inl (cI, 4, .inl n_left))]) (va_A [(a_w, .inr (5, [.ref a_h, .ref a_n, .ref a_w_shared])), (a_h, .inr (0, [.int h_rooms, .int h_people, .int h_things, .ref a_h_lifts, .ref a_h_prices, .ref a_h_starts, .ref a_h_hands, .ref a_h_wanted])), (a_h_hands, .inl (cI, 8, .inl h_hands)), (a_h_wanted, .inl (cI, 8, .inl h_wanted)), (a_n, .inr (1, [.ref a_n_room, .ref a_n_bundle, .ref a_n_left, .int n_day, .int n_kept])), (a_n_room, .inl (cI, 8, .inl n_room)), (a_n_bundle, .inl (cI, 8, .inl n_bundle)), (a_n_left, .inl (cI, 4, .inl n_left))] sz)) 0 0 (va_A [(a_w, .inr (5, [.ref a_h, .ref a_n, .ref a_w_shared])), (a_h, .inr (0, [.int h_rooms, .int h_people, .int h_things, .ref a_h_lifts, .ref a_h_prices, .ref a_h_starts, .ref a_h_hands, .ref a_h_wanted])), (a_h_hands, .inl (cI, 8, .inl h_hands)), (a_h_wanted, .inl (cI, 8, .inl h_wanted)), (a_n, .inr (1, [.ref a_n_room, .ref a_n_bundle, .ref a_n_left, .int n_day, .int n_kept])), (a_n_room, .inl (cI, 8, .inl n_room)), (a_n_bundle, .inl (cI, 8, .inl n_bundle)), (a_n_left, .inl (cI, 4, .inl n_left))] sz) := by
  refine met_i (cc := cX5_lostThings) (maxL := 5) (own := RX5) (by decide) rfl (Nat.le_of_ble_eq_true rfl) rfl (fun p e s m args below meth c Q A E hret ls H locs hl hw => ?_)
  obtain ⟨⟨hx, hb, hml, hown, hts⟩, hK, hN, hA, hX⟩ := id E
  have hl : lv_has ls 5 [(0, .ref a_w)] := hl
  have iX0 : ∀ w ∈ wsX00, w ∈ wsX5_lostThings := by decide +kernel
  have iX5 : ∀ w ∈ wsX50, w ∈ wsX5_lostThings := by decide +kernel
  have kf19 := hts (.fieldLink RX5 19 "FiveThings$Work" "now" "LFiveThings$Now;") (by decide +kernel)
  have kf15 := hts (.fieldLink RX5 15 "FiveThings$Work" "house" "LFiveThings$House;") (by decide +kernel)
  have kf23 := nw_F (own := "FiveThings$Work") (i := 23) (ref := "FiveThings$House") (n := "things") (d := "I") (h := "FiveThings") (args := args) hN (by decide +kernel)
  unfold f_X5_lostThings at hf
  refine lv_aload_n hx hb dX5_lostThings_0 rfl (lv_at hl 0 rfl) ?_
  refine r_get E hw iX5 0 1 rfl rfl (by decide) kf19 rfl rfl dX5_lostThings_1 ?_
  obtain ⟨r1, hu2, hf⟩ := bd1_some hf
  refine cl_i (wr := [(a_w, .inr (5, [.ref a_h, .ref a_n, .ref a_w_shared])), (a_h, .inr (0, [.int h_rooms, .int h_people, .int h_things, .ref a_h_lifts, .ref a_h_prices, .ref a_h_starts, .ref a_h_hands, .ref a_h_wanted])), (a_h_hands, .inl (cI, 8, .inl h_hands)), (a_h_wanted, .inl (cI, 8, .inl h_wanted)), (a_n_room, .inl (cI, 8, .inl n_room)), (a_n_bundle, .inl (cI, 8, .inl n_bundle))]) (w2 := [(a_w, .inr (5, [.ref a_h, .ref a_n, .ref a_w_shared])), (a_h, .inr (0, [.int h_rooms, .int h_people, .int h_things, .ref a_h_lifts, .ref a_h_prices, .ref a_h_starts, .ref a_h_hands, .ref a_h_wanted])), (a_h_hands, .inl (cI, 8, .inl h_hands)), (a_h_wanted, .inl (cI, 8, .inl h_wanted)), (a_n, .inr (1, [.ref a_n_room, .ref a_n_bundle, .ref a_n_left, .int n_day, .int n_kept])), (a_n_room, .inl (cI, 8, .inl n_room)), (a_n_bundle, .inl (cI, 8, .inl n_bundle)), (a_n_left, .inl (cI, 4, .inl n_left))]) E hw [4, 7] [0, 1, 2, 3, 5, 6] [0, 1, 2, 3, 6, 4, 5, 7] (va_runV (As := []) (rest := []) E.1 (c_X1_peopleWithLeft l dC dI cI cB cZ aK aV a_n a_n_room a_n_bundle a_n_left H.size n_day n_kept n_left r1 hu2) (cwV 0 hts gX5_lostThings_X1_peopleWithLeft rfl rfl rfl hd_X1_peopleWithLeft ⟨Nat.le_of_ble_eq_true rfl, Nat.le_of_ble_eq_true rfl⟩) (pre_V E hw [4, 7] rfl rfl rfl rfl) rfl rfl hl.1 rfl (lv_room (Nat.le_of_ble_eq_true rfl)) dX5_lostThings_4 ⟨Nat.zero_le _, Nat.zero_le _⟩) rfl rfl rfl (by decide) rfl rfl (fun H locs hw => ?_)
  obtain ⟨r3, hu4, hf⟩ := bd1_some hf
  refine cl_i (wr := [(a_w, .inr (5, [.ref a_h, .ref a_n, .ref a_w_shared])), (a_h, .inr (0, [.int h_rooms, .int h_people, .int h_things, .ref a_h_lifts, .ref a_h_prices, .ref a_h_starts, .ref a_h_hands, .ref a_h_wanted])), (a_h_hands, .inl (cI, 8, .inl h_hands)), (a_h_wanted, .inl (cI, 8, .inl h_wanted)), (a_n, .inr (1, [.ref a_n_room, .ref a_n_bundle, .ref a_n_left, .int n_day, .int n_kept])), (a_n_room, .inl (cI, 8, .inl n_room)), (a_n_bundle, .inl (cI, 8, .inl n_bundle)), (a_n_left, .inl (cI, 4, .inl n_left))]) (w2 := [(a_w, .inr (5, [.ref a_h, .ref a_n, .ref a_w_shared])), (a_h, .inr (0, [.int h_rooms, .int h_people, .int h_things, .ref a_h_lifts, .ref a_h_prices, .ref a_h_starts, .ref a_h_hands, .ref a_h_wanted])), (a_h_hands, .inl (cI, 8, .inl h_hands)), (a_h_wanted, .inl (cI, 8, .inl h_wanted)), (a_n, .inr (1, [.ref a_n_room, .ref a_n_bundle, .ref a_n_left, .int n_day, .int n_kept])), (a_n_room, .inl (cI, 8, .inl n_room)), (a_n_bundle, .inl (cI, 8, .inl n_bundle)), (a_n_left, .inl (cI, 4, .inl n_left))]) E hw [] [0, 1, 2, 3, 4, 5, 6, 7] [0, 1, 2, 3, 4, 5, 6, 7] (va_runS (As := [.int r1]) (rest := []) E.1 (c_J6_bitCount_0f7a4 l dC dI cI cB cZ aK aV H.size r1 r3 hu4) (va_cwS 1 hts gX5_lostThings_J6_bitCount_0f7a4 rfl rfl rfl hd_J6_bitCount_0f7a4 ⟨Nat.le_of_ble_eq_true rfl, Nat.le_of_ble_eq_true rfl⟩) (pre_S E hw [] rfl rfl) rfl rfl hl.1 rfl (lv_room (Nat.le_of_ble_eq_true rfl)) dX5_lostThings_7 ⟨Nat.zero_le _, Nat.zero_le _⟩) rfl rfl rfl (by decide) rfl rfl (fun H locs hw => ?_)
  refine lv_istore_n (lv' := [(1, .int r3), (0, .ref a_w)]) hx hb dX5_lostThings_10 rfl hl (by decide) rfl (fun ls hl => ?_)
  refine lv_iconst (v := (0 : Int32)) hx hb dX5_lostThings_11 rfl ?_
  refine lv_istore_n (lv' := [(2, .int (0 : Int32)), (1, .int r3), (0, .ref a_w)]) hx hb dX5_lostThings_12 rfl hl (by decide) rfl (fun ls hl => ?_)
  refine lv_iconst (v := (0 : Int32)) hx hb dX5_lostThings_13 rfl ?_
  refine lv_istore_n (lv' := [(3, .int (0 : Int32)), (2, .int (0 : Int32)), (1, .int r3), (0, .ref a_w)]) hx hb dX5_lostThings_14 rfl hl (by decide) rfl (fun ls hl => ?_)
  refine (loop2_sound (r := r) (P := fun (x11 : Int32) (x12 : Int32) => ∀ (ls : Array Slot) (H : Heap) (locs : List Loc), lv_has ls 5 [(3, .int x12), (2, .int x11), (1, .int r3), (0, .ref a_w)] → Wd A s.heap (dC, dI) [(a_w, .inr (5, [.ref a_h, .ref a_n, .ref a_w_shared])), (a_h, .inr (0, [.int h_rooms, .int h_people, .int h_things, .ref a_h_lifts, .ref a_h_prices, .ref a_h_starts, .ref a_h_hands, .ref a_h_wanted])), (a_h_hands, .inl (cI, 8, .inl h_hands)), (a_h_wanted, .inl (cI, 8, .inl h_wanted)), (a_n, .inr (1, [.ref a_n_room, .ref a_n_bundle, .ref a_n_left, .int n_day, .int n_kept])), (a_n_room, .inl (cI, 8, .inl n_room)), (a_n_bundle, .inl (cI, 8, .inl n_bundle)), (a_n_left, .inl (cI, 4, .inl n_left))] H locs → W p l e ({ frames := 2, cells := 0, slots := 0, locals := 44 } : Jvm.Room) s m args below meth c H locs 0 0 Q (F0 m 15 ls [])) (fun B15 x11 x12 ih15 hf => ?_) _ (0 : Int32) (0 : Int32) hf) ls H locs (lv_sub hl [0, 1, 2, 3] rfl) hw
  intro ls H locs hl hw
  refine lv_iload_n hx hb dX5_lostThings_15 rfl (lv_at hl 0 rfl) ?_
  refine lv_aload_n hx hb dX5_lostThings_16 rfl (lv_at hl 3 rfl) ?_
  refine r_get E hw iX5 0 0 rfl rfl (by decide) kf15 rfl rfl dX5_lostThings_17 ?_
  refine r_getN E hw iX0 1 2 rfl rfl (by decide) kf23 rfl rfl dX5_lostThings_20 ?_
  refine lv_icmp_ge (tgt := 69) hx hb dX5_lostThings_23 (by decide) (fun kc => ?_) (fun kc => ?_)
  · have hf := if_t hf kc
    refine lv_iload_n hx hb dX5_lostThings_69 rfl (lv_at hl 1 rfl) ?_
    obtain rfl := sm1 hf
    exact hret H locs ls 70 hw dX5_lostThings_70
  · have hf := if_f hf kc
    refine lv_aload_n hx hb dX5_lostThings_26 rfl (lv_at hl 3 rfl) ?_
    refine r_get E hw iX5 0 1 rfl rfl (by decide) kf19 rfl rfl dX5_lostThings_27 ?_
    refine lv_iload_n hx hb dX5_lostThings_30 rfl (lv_at hl 0 rfl) ?_
    obtain ⟨r13, hu14, hf⟩ := bd1_some hf
    refine cl_i (wr := [(a_w, .inr (5, [.ref a_h, .ref a_n, .ref a_w_shared])), (a_h, .inr (0, [.int h_rooms, .int h_people, .int h_things, .ref a_h_lifts, .ref a_h_prices, .ref a_h_starts, .ref a_h_hands, .ref a_h_wanted])), (a_h_hands, .inl (cI, 8, .inl h_hands)), (a_h_wanted, .inl (cI, 8, .inl h_wanted)), (a_n_room, .inl (cI, 8, .inl n_room)), (a_n_left, .inl (cI, 4, .inl n_left))]) (w2 := [(a_w, .inr (5, [.ref a_h, .ref a_n, .ref a_w_shared])), (a_h, .inr (0, [.int h_rooms, .int h_people, .int h_things, .ref a_h_lifts, .ref a_h_prices, .ref a_h_starts, .ref a_h_hands, .ref a_h_wanted])), (a_h_hands, .inl (cI, 8, .inl h_hands)), (a_h_wanted, .inl (cI, 8, .inl h_wanted)), (a_n, .inr (1, [.ref a_n_room, .ref a_n_bundle, .ref a_n_left, .int n_day, .int n_kept])), (a_n_room, .inl (cI, 8, .inl n_room)), (a_n_bundle, .inl (cI, 8, .inl n_bundle)), (a_n_left, .inl (cI, 4, .inl n_left))]) E hw [4, 6] [0, 1, 2, 3, 5, 7] [0, 1, 2, 3, 6, 4, 7, 5] (va_runV (As := [.int x12]) (rest := []) E.1 (c_X1_jobOf l dC dI cI cB cZ aK aV a_n a_n_room a_n_bundle a_n_left H.size n_day n_kept n_bundle x12 r13 hu14) (cwV 1 hts gX5_lostThings_X1_jobOf rfl rfl rfl hd_X1_jobOf ⟨Nat.le_of_ble_eq_true rfl, Nat.le_of_ble_eq_true rfl⟩) (pre_V E hw [4, 6] rfl rfl rfl rfl) rfl rfl hl.1 rfl (lv_room (Nat.le_of_ble_eq_true rfl)) dX5_lostThings_31 ⟨Nat.zero_le _, Nat.zero_le _⟩) rfl rfl rfl (by decide) rfl rfl (fun H locs hw => ?_)
    refine lv_istore (lv' := [(4, .int r13), (3, .int x12), (2, .int x11), (1, .int r3), (0, .ref a_w)]) hx hb dX5_lostThings_34 hl (by decide) rfl (fun ls hl => ?_)
    refine lv_aload_n hx hb dX5_lostThings_36 rfl (lv_at hl 4 rfl) ?_
    refine lv_iload hx hb dX5_lostThings_37 (lv_at hl 0 rfl) ?_
    obtain ⟨r15, hu16, hf⟩ := bd1_some hf
    refine cl_i (wr := [(a_h_hands, .inl (cI, 8, .inl h_hands)), (a_n_bundle, .inl (cI, 8, .inl n_bundle)), (a_n_left, .inl (cI, 4, .inl n_left))]) (w2 := [(a_w, .inr (5, [.ref a_h, .ref a_n, .ref a_w_shared])), (a_h, .inr (0, [.int h_rooms, .int h_people, .int h_things, .ref a_h_lifts, .ref a_h_prices, .ref a_h_starts, .ref a_h_hands, .ref a_h_wanted])), (a_h_hands, .inl (cI, 8, .inl h_hands)), (a_h_wanted, .inl (cI, 8, .inl h_wanted)), (a_n, .inr (1, [.ref a_n_room, .ref a_n_bundle, .ref a_n_left, .int n_day, .int n_kept])), (a_n_room, .inl (cI, 8, .inl n_room)), (a_n_bundle, .inl (cI, 8, .inl n_bundle)), (a_n_left, .inl (cI, 4, .inl n_left))]) E hw [0, 1, 3, 4, 5] [2, 6, 7] [3, 4, 0, 5, 6, 7, 1, 2] (va_runV (As := [.int r13]) (rest := []) E.1 (c_X5_isDue l dC dI cI cB cZ aK aV a_w a_h a_n a_w_shared a_h_lifts a_h_prices a_h_starts a_h_hands a_h_wanted a_n_room a_n_bundle a_n_left H.size h_rooms h_people h_things h_wanted n_day n_kept n_room r13 r15 hu16) (cwV 1 hts gX5_lostThings_X5_isDue rfl rfl rfl hd_X5_isDue ⟨Nat.le_of_ble_eq_true rfl, Nat.le_of_ble_eq_true rfl⟩) (pre_V E hw [0, 1, 3, 4, 5] rfl rfl rfl rfl) rfl rfl hl.1 rfl (lv_room (Nat.le_of_ble_eq_true rfl)) dX5_lostThings_39 ⟨Nat.zero_le _, Nat.zero_le _⟩) rfl rfl rfl (by decide) rfl rfl (fun H locs hw => ?_)
    refine lv_if_eq (tgt := 63) hx hb dX5_lostThings_42 (by decide) (fun kc => ?_) (fun kc => ?_)
    · have hf := if_t hf kc
      refine lv_iinc (v := (x12 + (1 : Int32))) (lv' := [(3, .int (x12 + (1 : Int32))), (4, .int r13), (2, .int x11), (1, .int r3), (0, .ref a_w)]) hx hb dX5_lostThings_63 hl (k := 1) rfl rfl (by decide) rfl (fun ls hl => ?_)
      refine lv_goto (tgt := 15) hx hb dX5_lostThings_66 (by decide) ?_
      exact ih15 x11 (x12 + (1 : Int32)) hf ls H locs (lv_sub hl [0, 2, 3, 4] rfl) hw
    · have hf := if_f hf kc
      refine lv_aload_n hx hb dX5_lostThings_45 rfl (lv_at hl 4 rfl) ?_
      refine r_get E hw iX5 0 0 rfl rfl (by decide) kf15 rfl rfl dX5_lostThings_46 ?_
      refine lv_iload hx hb dX5_lostThings_49 (lv_at hl 0 rfl) ?_
      obtain ⟨r17, hu18, hf⟩ := bd1_some hf
      refine cl_i (wr := [(a_w, .inr (5, [.ref a_h, .ref a_n, .ref a_w_shared])), (a_h_wanted, .inl (cI, 8, .inl h_wanted)), (a_n, .inr (1, [.ref a_n_room, .ref a_n_bundle, .ref a_n_left, .int n_day, .int n_kept])), (a_n_room, .inl (cI, 8, .inl n_room)), (a_n_bundle, .inl (cI, 8, .inl n_bundle)), (a_n_left, .inl (cI, 4, .inl n_left))]) (w2 := [(a_w, .inr (5, [.ref a_h, .ref a_n, .ref a_w_shared])), (a_h, .inr (0, [.int h_rooms, .int h_people, .int h_things, .ref a_h_lifts, .ref a_h_prices, .ref a_h_starts, .ref a_h_hands, .ref a_h_wanted])), (a_h_hands, .inl (cI, 8, .inl h_hands)), (a_h_wanted, .inl (cI, 8, .inl h_wanted)), (a_n, .inr (1, [.ref a_n_room, .ref a_n_bundle, .ref a_n_left, .int n_day, .int n_kept])), (a_n_room, .inl (cI, 8, .inl n_room)), (a_n_bundle, .inl (cI, 8, .inl n_bundle)), (a_n_left, .inl (cI, 4, .inl n_left))]) E hw [1, 2] [0, 3, 4, 5, 6, 7] [0, 6, 7, 1, 2, 3, 4, 5] (va_runV (As := [.int r13]) (rest := []) E.1 (c_X0_handsOf l dC dI cI cB cZ aK aV a_h a_h_lifts a_h_prices a_h_starts a_h_hands a_h_wanted H.size h_rooms h_people h_things h_hands r13 r17 hu18) (cwV 1 hts gX5_lostThings_X0_handsOf rfl rfl rfl hd_X0_handsOf ⟨Nat.le_of_ble_eq_true rfl, Nat.le_of_ble_eq_true rfl⟩) (pre_V E hw [1, 2] rfl rfl rfl rfl) rfl rfl hl.1 rfl (lv_room (Nat.le_of_ble_eq_true rfl)) dX5_lostThings_51 ⟨Nat.zero_le _, Nat.zero_le _⟩) rfl rfl rfl (by decide) rfl rfl (fun H locs hw => ?_)
      refine lv_iload_n hx hb dX5_lostThings_54 rfl (lv_at hl 3 rfl) ?_
      refine lv_icmp_le (tgt := 63) hx hb dX5_lostThings_55 (by decide) (fun kc => ?_) (fun kc => ?_)
      · have hf := if_t hf kc
        refine lv_iinc (v := (x12 + (1 : Int32))) (lv' := [(3, .int (x12 + (1 : Int32))), (4, .int r13), (2, .int x11), (1, .int r3), (0, .ref a_w)]) hx hb dX5_lostThings_63 hl (k := 1) rfl rfl (by decide) rfl (fun ls hl => ?_)
        refine lv_goto (tgt := 15) hx hb dX5_lostThings_66 (by decide) ?_
        exact ih15 x11 (x12 + (1 : Int32)) hf ls H locs (lv_sub hl [0, 2, 3, 4] rfl) hw
      · have hf := if_f hf kc
        refine lv_iload_n hx hb dX5_lostThings_58 rfl (lv_at hl 2 rfl) ?_
        refine lv_iload hx hb dX5_lostThings_59 (lv_at hl 0 rfl) ?_
        refine lv_ior hx hb dX5_lostThings_61 ?_
        refine lv_istore_n (lv' := [(2, .int (x11 ||| r13)), (4, .int r13), (3, .int x12), (1, .int r3), (0, .ref a_w)]) hx hb dX5_lostThings_62 rfl hl (by decide) rfl (fun ls hl => ?_)
        refine lv_iinc (v := (x12 + (1 : Int32))) (lv' := [(3, .int (x12 + (1 : Int32))), (2, .int (x11 ||| r13)), (4, .int r13), (1, .int r3), (0, .ref a_w)]) hx hb dX5_lostThings_63 hl (k := 2) rfl rfl (by decide) rfl (fun ls hl => ?_)
        refine lv_goto (tgt := 15) hx hb dX5_lostThings_66 (by decide) ?_
        exact ih15 (x11 ||| r13) (x12 + (1 : Int32)) hf ls H locs (lv_sub hl [0, 1, 3, 4] rfl) hw
