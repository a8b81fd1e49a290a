def f_X4_choices (p0 : Int32) (p1 : Int32) : Option (Int32) :=
  loop2 (fun B4 (x2 : Int32) (x3 : Int32) => (if p1 < x3 then some (x2) else gd (decide (¬ x3 = 0)) (B4 ((x2 * ((p0 - p1) + x3)) / x3) (x3 + (1 : Int32))))) FU (1 : Int32) (1 : Int32)
theorem hd_X4_choices : yX4_choices.cls ≠ "java/lang/invoke/MethodHandle" ∧ yX4_choices.cls ≠ "java/lang/invoke/VarHandle" ∧ (parseMethodDescriptor yX4_choices.desc).map (fun d => d.parameters.length) = some 2 := by decide +kernel
set_option maxHeartbeats 4000000 in
set_option maxRecDepth 100000 in
theorem c_X4_choices (l : Launch) (dC : Nat → ClassId) (dI : Nat → Nat → Nat) (cI cB cZ : ClassId) (aK aV : Nat → Nat) (sz : Nat) (p0 : Int32) (p1 : Int32) (r : Int32) (hf : f_X4_choices p0 p1 = some r) : Met l yX4_choices wsX4_choices ({ frames := 0, cells := 0, slots := 0, locals := 0 } : Jvm.Room) (va_Pc [.int p0, .int p1] (preW (dC, dI) (tyL cI cB cZ) aK aV sz [])) (va_Qi (fun v (_ : Unit) => v = r) (postW (dC, dI) (tyL cI cB cZ) (va_A [] sz) []) (va_A [] sz)) 0 0 (va_A [] sz) := by
  refine met_i (cc := cX4_choices) (maxL := 4) (own := RX4) (by decide) rfl (Nat.le_of_ble_eq_true rfl) rfl (fun p e s m args below meth c Q A E hret ls H locs hl hw => ?_)
  obtain ⟨⟨hx, hb, hml, hown, hts⟩, hK, hN, hA, hX⟩ := id E
  have hl : lv_has ls 4 [(0, .int p0), (1, .int p1)] := hl
  unfold f_X4_choices at hf
  refine lv_iconst (v := (1 : Int32)) hx hb dX4_choices_0 rfl ?_
  refine lv_istore_n (lv' := [(2, .int (1 : Int32)), (0, .int p0), (1, .int p1)]) hx hb dX4_choices_1 rfl hl (by decide) rfl (fun ls hl => ?_)
  refine lv_iconst (v := (1 : Int32)) hx hb dX4_choices_2 rfl ?_
  refine lv_istore_n (lv' := [(3, .int (1 : Int32)), (2, .int (1 : Int32)), (0, .int p0), (1, .int p1)]) hx hb dX4_choices_3 rfl hl (by decide) rfl (fun ls hl => ?_)
  refine (loop2_sound (r := r) (P := fun (x2 : Int32) (x3 : Int32) => ∀ (ls : Array Slot) (H : Heap) (locs : List Loc), lv_has ls 4 [(3, .int x3), (2, .int x2), (0, .int p0), (1, .int p1)] → Wd A s.heap (dC, dI) [] H locs → W p l e ({ frames := 0, cells := 0, slots := 0, locals := 0 } : Jvm.Room) s m args below meth c H locs 0 0 Q (F0 m 4 ls [])) (fun B4 x2 x3 ih4 hf => ?_) _ (1 : Int32) (1 : Int32) hf) ls H locs (lv_sub hl [0, 1, 2, 3] rfl) hw
  intro ls H locs hl hw
  refine lv_iload_n hx hb dX4_choices_4 rfl (lv_at hl 0 rfl) ?_
  refine lv_iload_n hx hb dX4_choices_5 rfl (lv_at hl 3 rfl) ?_
  refine lv_icmp_gt (tgt := 25) hx hb dX4_choices_6 (by decide) (fun kc => ?_) (fun kc => ?_)
  · have hf := if_t hf kc
    refine lv_iload_n hx hb dX4_choices_25 rfl (lv_at hl 1 rfl) ?_
    obtain rfl := sm1 hf
    exact hret H locs ls 26 hw dX4_choices_26
  · have hf := if_f hf kc
    refine lv_iload_n hx hb dX4_choices_9 rfl (lv_at hl 1 rfl) ?_
    refine lv_iload_n hx hb dX4_choices_10 rfl (lv_at hl 2 rfl) ?_
    refine lv_iload_n hx hb dX4_choices_11 rfl (lv_at hl 3 rfl) ?_
    refine lv_isub hx hb dX4_choices_12 ?_
    refine lv_iload_n hx hb dX4_choices_13 rfl (lv_at hl 0 rfl) ?_
    refine lv_iadd hx hb dX4_choices_14 ?_
    refine lv_imul hx hb dX4_choices_15 ?_
    refine lv_iload_n hx hb dX4_choices_16 rfl (lv_at hl 0 rfl) ?_
    obtain ⟨g4, hf⟩ := gd_some hf
    refine lv_idiv hx hb dX4_choices_17 (of_decide_eq_true g4) ?_
    refine lv_istore_n (lv' := [(2, .int ((x2 * ((p0 - p1) + x3)) / x3)), (3, .int x3), (0, .int p0), (1, .int p1)]) hx hb dX4_choices_18 rfl hl (by decide) rfl (fun ls hl => ?_)
    refine lv_iinc (v := (x3 + (1 : Int32))) (lv' := [(3, .int (x3 + (1 : Int32))), (2, .int ((x2 * ((p0 - p1) + x3)) / x3)), (0, .int p0), (1, .int p1)]) hx hb dX4_choices_19 hl (k := 1) rfl rfl (by decide) rfl (fun ls hl => ?_)
    refine lv_goto (tgt := 4) hx hb dX4_choices_22 (by decide) ?_
    exact ih4 ((x2 * ((p0 - p1) + x3)) / x3) (x3 + (1 : Int32)) hf ls H locs (lv_sub hl [0, 1, 2, 3] rfl) hw
def f_X4_addCarrier (p1 : Int32) (p2 : Int32) (y_ways : Nat → Int32) : Option ((Nat → Int32)) :=
  loop2 (fun B2 (x12 : Int32) (x13 : Nat → Int32) => (if x12 < (1 : Int32) then some (x13) else loop2 (fun B13 (x19 : Int32) (x20 : Int32) => jn (gd (inb x12 9) (B2 (x12 + (-1 : Int32)) (upd x13 x12.toNatClampNeg x19))) (fun J52 => (if x12 < x20 then J52 else (if p1 < x20 then J52 else bd1 (f_X4_choices x12 x20) (fun r21 => gd (inb (x12 - x20) 9) (B13 (x19 + (r21 * (x13 (x12 - x20).toNatClampNeg))) (x20 + (1 : Int32)))))))) FU (0 : Int32) (0 : Int32))) FU p2 y_ways
theorem hd_X4_addCarrier : yX4_addCarrier.cls = RX4 ∧ yX4_addCarrier.cls ≠ "java/lang/invoke/MethodHandle" ∧ yX4_addCarrier.cls ≠ "java/lang/invoke/VarHandle" ∧ (parseMethodDescriptor yX4_addCarrier.desc).map (fun d => d.parameters.length) = some 2 := by decide +kernel
set_option maxHeartbeats 4000000 in
set_option maxRecDepth 100000 in
theorem c_X4_addCarrier (l : Launch) (dC : Nat → ClassId) (dI : Nat → Nat → Nat) (cI cB cZ : ClassId) (aK aV : Nat → Nat) (a_y a_y_ways : Nat) (sz : Nat) (y_ways : Nat → Int32) (p1 : Int32) (p2 : Int32) (q0 : Nat → Int32) (hf : f_X4_addCarrier p1 p2 y_ways = some q0) : Met l yX4_addCarrier wsX4_addCarrier ({ frames := 1, cells := 0, slots := 0, locals := 23 } : Jvm.Room) (va_Pc [.ref a_y, .int p1, .int p2] (preW (dC, dI) (tyL cI cB cZ) aK aV sz [(a_y, .inr (4, [.ref a_y_ways])), (a_y_ways, .inl (cI, 9, .inl y_ways))])) (va_Qv (fun (_ : Unit) => True) (postW (dC, dI) (tyL cI cB cZ) (va_A [(a_y, .inr (4, [.ref a_y_ways])), (a_y_ways, .inl (cI, 9, .inl y_ways))] sz) [(a_y, .inr (4, [.ref a_y_ways])), (a_y_ways, .inl (cI, 9, .inl q0))]) (va_A [(a_y, .inr (4, [.ref a_y_ways])), (a_y_ways, .inl (cI, 9, .inl y_ways))] sz)) 0 0 (va_A [(a_y, .inr (4, [.ref a_y_ways])), (a_y_ways, .inl (cI, 9, .inl y_ways))] sz) := by
  refine met_v (cc := cX4_addCarrier) (maxL := 6) (own := RX4) (by decide) rfl (Nat.le_of_ble_eq_true rfl) rfl (fun p e s m args below meth c Q A E hret ls H locs hl hw => ?_)
  obtain ⟨⟨hx, hb, hml, hown, hts⟩, hK, hN, hA, hX⟩ := id E
  have hl : lv_has ls 6 [(0, .ref a_y), (1, .int p1), (2, .int p2)] := hl
  have iX4 : ∀ w ∈ wsX40, w ∈ wsX4_addCarrier := by decide +kernel
  have kf9 := hts (.fieldLink RX4 9 "FiveThings$Ways" "ways" "[I") (by decide +kernel)
  unfold f_X4_addCarrier at hf
  refine lv_iload_n hx hb dX4_addCarrier_0 rfl (lv_at hl 2 rfl) ?_
  refine lv_istore_n (lv' := [(3, .int p2), (0, .ref a_y), (1, .int p1), (2, .int p2)]) hx hb dX4_addCarrier_1 rfl hl (by decide) rfl (fun ls hl => ?_)
  refine (loop2_sound (r := q0) (P := fun (x12 : Int32) (x13 : Nat → Int32) => ∀ (ls : Array Slot) (H : Heap) (locs : List Loc), lv_has ls 6 [(3, .int x12), (0, .ref a_y), (1, .int p1)] → Wd A s.heap (dC, dI) [(a_y, .inr (4, [.ref a_y_ways])), (a_y_ways, .inl (cI, 9, .inl x13))] H locs → W p l e ({ frames := 1, cells := 0, slots := 0, locals := 23 } : Jvm.Room) s m args below meth c H locs 0 0 Q (F0 m 2 ls [])) (fun B2 x12 x13 ih2 hf => ?_) _ p2 y_ways hf) ls H locs (lv_sub hl [0, 1, 2] rfl) hw
  intro ls H locs hl hw
  refine lv_iload_n hx hb dX4_addCarrier_2 rfl (lv_at hl 0 rfl) ?_
  refine lv_iconst (v := (1 : Int32)) hx hb dX4_addCarrier_3 rfl ?_
  refine lv_icmp_lt (tgt := 66) hx hb dX4_addCarrier_4 (by decide) (fun kc => ?_) (fun kc => ?_)
  · have hf := if_t hf kc
    obtain rfl := sm1 hf
    exact hret H locs ls 66 hw dX4_addCarrier_66
  · have hf := if_f hf kc
    refine lv_iconst (v := (0 : Int32)) hx hb dX4_addCarrier_7 rfl ?_
    refine lv_istore (lv' := [(4, .int (0 : Int32)), (3, .int x12), (0, .ref a_y), (1, .int p1)]) hx hb dX4_addCarrier_8 hl (by decide) rfl (fun ls hl => ?_)
    refine lv_iconst (v := (0 : Int32)) hx hb dX4_addCarrier_10 rfl ?_
    refine lv_istore (lv' := [(5, .int (0 : Int32)), (4, .int (0 : Int32)), (3, .int x12), (0, .ref a_y), (1, .int p1)]) hx hb dX4_addCarrier_11 hl (by decide) rfl (fun ls hl => ?_)
    refine (loop2_sound (r := q0) (P := fun (x19 : Int32) (x20 : Int32) => ∀ (ls : Array Slot) (H : Heap) (locs : List Loc), lv_has ls 6 [(5, .int x20), (4, .int x19), (3, .int x12), (0, .ref a_y), (1, .int p1)] → Wd A s.heap (dC, dI) [(a_y, .inr (4, [.ref a_y_ways])), (a_y_ways, .inl (cI, 9, .inl x13))] H locs → W p l e ({ frames := 1, cells := 0, slots := 0, locals := 23 } : Jvm.Room) s m args below meth c H locs 0 0 Q (F0 m 13 ls [])) (fun B13 x19 x20 ih13 hf => ?_) _ (0 : Int32) (0 : Int32) hf) ls H locs (lv_sub hl [0, 1, 2, 3, 4] rfl) hw
    intro ls H locs hl hw
    refine lv_iload hx hb dX4_addCarrier_13 (lv_at hl 0 rfl) ?_
    refine lv_iload_n hx hb dX4_addCarrier_15 rfl (lv_at hl 2 rfl) ?_
    refine jn_sound (P := fun J => ∀ (ls : Array Slot) (H : Heap) (locs : List Loc), J = some q0 → lv_has ls 6 [(0, .ref a_y), (1, .int p1), (3, .int x12), (4, .int x19)] → Wd A s.heap (dC, dI) [(a_y, .inr (4, [.ref a_y_ways])), (a_y_ways, .inl (cI, 9, .inl x13))] H locs → W p l e ({ frames := 1, cells := 0, slots := 0, locals := 23 } : Jvm.Room) s m args below meth c H locs 0 0 Q (F0 m 52 ls [])) hf ?_ ?_
    · intro ls H locs hf hl hw
      refine lv_aload_n hx hb dX4_addCarrier_52 rfl (lv_at hl 0 rfl) ?_
      refine r_get E hw iX4 0 0 rfl rfl (by decide) kf9 rfl rfl dX4_addCarrier_53 ?_
      refine lv_iload_n hx hb dX4_addCarrier_56 rfl (lv_at hl 2 rfl) ?_
      refine lv_iload hx hb dX4_addCarrier_57 (lv_at hl 3 rfl) ?_
      obtain ⟨g24, hf⟩ := gd_some hf
      refine r_iast E hw 1 rfl g24 [(a_y, .inr (4, [.ref a_y_ways])), (a_y_ways, .inl (cI, 9, .inl (upd x13 x12.toNatClampNeg x19)))] rfl dX4_addCarrier_59 (fun H locs hw => ?_)
      refine lv_iinc (v := (x12 + (-1 : Int32))) (lv' := [(3, .int (x12 + (-1 : Int32))), (0, .ref a_y), (1, .int p1), (4, .int x19)]) hx hb dX4_addCarrier_60 hl (k := 2) rfl rfl (by decide) rfl (fun ls hl => ?_)
      refine lv_goto (tgt := 2) hx hb dX4_addCarrier_63 (by decide) ?_
      exact ih2 (x12 + (-1 : Int32)) (upd x13 x12.toNatClampNeg x19) hf ls H locs (lv_sub hl [0, 1, 2] rfl) hw
    · intro J52 hJ52 hf
      refine lv_icmp_gt (tgt := 52) hx hb dX4_addCarrier_16 (by decide) (fun kc => ?_) (fun kc => ?_)
      · have hf := if_t hf kc
        exact hJ52 ls H locs hf (lv_sub hl [3, 4, 2, 1] rfl) hw
      · have hf := if_f hf kc
        refine lv_iload hx hb dX4_addCarrier_19 (lv_at hl 0 rfl) ?_
        refine lv_iload_n hx hb dX4_addCarrier_21 rfl (lv_at hl 4 rfl) ?_
        refine lv_icmp_gt (tgt := 52) hx hb dX4_addCarrier_22 (by decide) (fun kc => ?_) (fun kc => ?_)
        · have hf := if_t hf kc
          exact hJ52 ls H locs hf (lv_sub hl [3, 4, 2, 1] rfl) hw
        · have hf := if_f hf kc
          refine lv_iload hx hb dX4_addCarrier_25 (lv_at hl 1 rfl) ?_
          refine lv_iload_n hx hb dX4_addCarrier_27 rfl (lv_at hl 2 rfl) ?_
          refine lv_iload hx hb dX4_addCarrier_28 (lv_at hl 0 rfl) ?_
          obtain ⟨r21, hu22, hf⟩ := bd1_some hf
          refine cl_i (wr := [(a_y, .inr (4, [.ref a_y_ways])), (a_y_ways, .inl (cI, 9, .inl x13))]) (w2 := [(a_y, .inr (4, [.ref a_y_ways])), (a_y_ways, .inl (cI, 9, .inl x13))]) E hw [] [0, 1] [0, 1] (va_runS (As := [.int x12, .int x20]) (rest := [.int x19]) E.1 (c_X4_choices l dC dI cI cB cZ aK aV H.size x12 x20 r21 hu22) (va_cwS 2 hts gX4_addCarrier_X4_choices rfl rfl rfl hd_X4_choices ⟨Nat.le_of_ble_eq_true rfl, Nat.le_of_ble_eq_true rfl⟩) (pre_S E hw [] rfl rfl) rfl rfl hl.1 rfl (lv_room (Nat.le_of_ble_eq_true rfl)) dX4_addCarrier_30 ⟨Nat.zero_le _, Nat.zero_le _⟩) rfl rfl rfl (by decide) rfl rfl (fun H locs hw => ?_)
          refine lv_aload_n hx hb dX4_addCarrier_33 rfl (lv_at hl 3 rfl) ?_
          refine r_get E hw iX4 0 0 rfl rfl (by decide) kf9 rfl rfl dX4_addCarrier_34 ?_
          refine lv_iload_n hx hb dX4_addCarrier_37 rfl (lv_at hl 2 rfl) ?_
          refine lv_iload hx hb dX4_addCarrier_38 (lv_at hl 0 rfl) ?_
          refine lv_isub hx hb dX4_addCarrier_40 ?_
          obtain ⟨g23, hf⟩ := gd_some hf
          refine r_iald E hw 1 rfl g23 dX4_addCarrier_41 ?_
          refine lv_imul hx hb dX4_addCarrier_42 ?_
          refine lv_iadd hx hb dX4_addCarrier_43 ?_
          refine lv_istore (lv' := [(4, .int (x19 + (r21 * (x13 (x12 - x20).toNatClampNeg)))), (5, .int x20), (3, .int x12), (0, .ref a_y), (1, .int p1)]) hx hb dX4_addCarrier_44 hl (by decide) rfl (fun ls hl => ?_)
          refine lv_iinc (v := (x20 + (1 : Int32))) (lv' := [(5, .int (x20 + (1 : Int32))), (4, .int (x19 + (r21 * (x13 (x12 - x20).toNatClampNeg)))), (3, .int x12), (0, .ref a_y), (1, .int p1)]) hx hb dX4_addCarrier_46 hl (k := 1) rfl rfl (by decide) rfl (fun ls hl => ?_)
          refine lv_goto (tgt := 13) hx hb dX4_addCarrier_49 (by decide) ?_
          exact ih13 (x19 + (r21 * (x13 (x12 - x20).toNatClampNeg))) (x20 + (1 : Int32)) hf ls H locs (lv_sub hl [0, 1, 2, 3, 4] rfl) hw
def f_X4_ofCarrying (p1 : Int32) (y_ways : Nat → Int32) (h_people : Int32) (h_lifts : Nat → Int32) : Option (Int32 × (Nat → Int32)) :=
  (if p1 < 0 then some ((0 : Int32), y_ways) else (if p1 ≤ (8 : Int32) then gd (inb (0 : Int32) 9) (loop2 (fun B21 (x13 : Int32) (x14 : Nat → Int32) => (if p1 < x13 then loop2 (fun B41 (x19 : Int32) (x20 : Nat → Int32) => (if h_people ≤ x19 then gd (inb p1 9) (some ((x20 p1.toNatClampNeg), x20)) else gd (inb x19 4) (bd1 (f_X4_addCarrier (h_lifts x19.toNatClampNeg) p1 x20) (fun u23 => B41 (x19 + (1 : Int32)) u23)))) FU (0 : Int32) x14 else gd (inb x13 9) (B21 (x13 + (1 : Int32)) (upd x14 x13.toNatClampNeg (0 : Int32))))) FU (1 : Int32) (upd y_ways (0 : Int32).toNatClampNeg (1 : Int32))) else some ((0 : Int32), y_ways)))
theorem hd_X4_ofCarrying : yX4_ofCarrying.cls = RX4 ∧ yX4_ofCarrying.cls ≠ "java/lang/invoke/MethodHandle" ∧ yX4_ofCarrying.cls ≠ "java/lang/invoke/VarHandle" ∧ (parseMethodDescriptor yX4_ofCarrying.desc).map (fun d => d.parameters.length) = some 2 := by decide +kernel
set_option maxHeartbeats 4000000 in
set_option maxRecDepth 100000 in
theorem c_X4_ofCarrying (l : Launch) (dC : Nat → ClassId) (dI : Nat → Nat → Nat) (cI cB cZ : ClassId) (aK aV : Nat → Nat) (a_y a_y_ways a_h a_h_lifts a_h_prices a_h_starts a_h_hands a_h_wanted : Nat) (sz : Nat) (y_ways : Nat → Int32) (h_rooms : Int32) (h_people : Int32) (h_things : Int32) (h_lifts : Nat → Int32) (p1 : Int32) (r : Int32) (q0 : Nat → Int32) (hf : f_X4_ofCarrying p1 y_ways h_people h_lifts = some (r, q0)) : Met l yX4_ofCarrying wsX4_ofCarrying ({ frames := 2, cells := 0, slots := 0, locals := 48 } : Jvm.Room) (va_Pc [.ref a_y, .int p1, .ref a_h] (preW (dC, dI) (tyL cI cB cZ) aK aV sz [(a_y, .inr (4, [.ref a_y_ways])), (a_y_ways, .inl (cI, 9, .inl y_ways)), (a_h, .inr (0, [.int h_rooms, .int h_people, .int h_things, .ref a_h_lifts, .ref a_h_prices, .ref a_h_starts, .ref a_h_hands, .ref a_h_wanted])), (a_h_lifts, .inl (cI, 4, .inl h_lifts))])) (va_Qi (fun v (_ : Unit) => v = r) (postW (dC, dI) (tyL cI cB cZ) (va_A [(a_y, .inr (4, [.ref a_y_ways])), (a_y_ways, .inl (cI, 9, .inl y_ways)), (a_h, .inr (0, [.int h_rooms, .int h_people, .int h_things, .ref a_h_lifts, .ref a_h_prices, .ref a_h_starts, .ref a_h_hands, .ref a_h_wanted])), (a_h_lifts, .inl (cI, 4, .inl h_lifts))] sz) [(a_y, .inr (4, [.ref a_y_ways])), (a_y_ways, .inl (cI, 9, .inl q0)), (a_h, .inr (0, [.int h_rooms, .int h_people, .int h_things, .ref a_h_lifts, .ref a_h_prices, .ref a_h_starts, .ref a_h_hands, .ref a_h_wanted])), (a_h_lifts, .inl (cI, 4, .inl h_lifts))]) (va_A [(a_y, .inr (4, [.ref a_y_ways])), (a_y_ways, .inl (cI, 9, .inl y_ways)), (a_h, .inr (0, [.int h_rooms, .int h_people, .int h_things, .ref a_h_lifts, .ref a_h_prices, .ref a_h_starts, .ref a_h_hands, .ref a_h_wanted])), (a_h_lifts, .inl (cI, 4, .inl h_lifts))] sz)) 0 0 (va_A [(a_y, .inr (4, [.ref a_y_ways])), (a_y_ways, .inl (cI, 9, .inl y_ways)), (a_h, .inr (0, [.int h_rooms, .int h_people, .int h_things, .ref a_h_lifts, .ref a_h_prices, .ref a_h_starts, .ref a_h_hands, .ref a_h_wanted])), (a_h_lifts, .inl (cI, 4, .inl h_lifts))] sz) := by
  refine met_i (cc := cX4_ofCarrying) (maxL := 4) (own := RX4) (by decide) rfl (Nat.le_of_ble_eq_true rfl) rfl (fun p e s m args below meth c Q A E hret ls H locs hl hw => ?_)
  obtain ⟨⟨hx, hb, hml, hown, hts⟩, hK, hN, hA, hX⟩ := id E
  have hl : lv_has ls 4 [(0, .ref a_y), (1, .int p1), (2, .ref a_h)] := hl
  have iX0 : ∀ w ∈ wsX00, w ∈ wsX4_ofCarrying := by decide +kernel
  have iX4 : ∀ w ∈ wsX40, w ∈ wsX4_ofCarrying := by decide +kernel
  have kf9 := hts (.fieldLink RX4 9 "FiveThings$Ways" "ways" "[I") (by decide +kernel)
  have kf15 := nw_F (own := "FiveThings$Ways") (i := 15) (ref := "FiveThings$House") (n := "people") (d := "I") (h := "FiveThings") (args := args) hN (by decide +kernel)
  have kf21 := nw_F (own := "FiveThings$Ways") (i := 21) (ref := "FiveThings$House") (n := "lifts") (d := "[I") (h := "FiveThings") (args := args) hN (by decide +kernel)
  unfold f_X4_ofCarrying at hf
  refine lv_iload_n hx hb dX4_ofCarrying_0 rfl (lv_at hl 1 rfl) ?_
  refine lv_if_lt (tgt := 10) hx hb dX4_ofCarrying_1 (by decide) (fun kc => ?_) (fun kc => ?_)
  · have hf := if_t hf kc
    refine lv_iconst (v := (0 : Int32)) hx hb dX4_ofCarrying_10 rfl ?_
    obtain ⟨rfl, rfl⟩ := sm2 hf
    exact hret H locs ls 11 hw dX4_ofCarrying_11
  · have hf := if_f hf kc
    refine lv_iload_n hx hb dX4_ofCarrying_4 rfl (lv_at hl 1 rfl) ?_
    refine lv_bipush (v := (8 : Int32)) hx hb dX4_ofCarrying_5 rfl ?_
    refine lv_icmp_le (tgt := 12) hx hb dX4_ofCarrying_7 (by decide) (fun kc => ?_) (fun kc => ?_)
    · have hf := if_t hf kc
      refine lv_aload_n hx hb dX4_ofCarrying_12 rfl (lv_at hl 0 rfl) ?_
      refine r_get E hw iX4 0 0 rfl rfl (by decide) kf9 rfl rfl dX4_ofCarrying_13 ?_
      refine lv_iconst (v := (0 : Int32)) hx hb dX4_ofCarrying_16 rfl ?_
      refine lv_iconst (v := (1 : Int32)) hx hb dX4_ofCarrying_17 rfl ?_
      obtain ⟨g1, hf⟩ := gd_some hf
      refine r_iast E hw 1 rfl g1 [(a_y, .inr (4, [.ref a_y_ways])), (a_y_ways, .inl (cI, 9, .inl (upd y_ways (0 : Int32).toNatClampNeg (1 : Int32)))), (a_h, .inr (0, [.int h_rooms, .int h_people, .int h_things, .ref a_h_lifts, .ref a_h_prices, .ref a_h_starts, .ref a_h_hands, .ref a_h_wanted])), (a_h_lifts, .inl (cI, 4, .inl h_lifts))] rfl dX4_ofCarrying_18 (fun H locs hw => ?_)
      refine lv_iconst (v := (1 : Int32)) hx hb dX4_ofCarrying_19 rfl ?_
      refine lv_istore_n (lv' := [(3, .int (1 : Int32)), (0, .ref a_y), (1, .int p1), (2, .ref a_h)]) hx hb dX4_ofCarrying_20 rfl hl (by decide) rfl (fun ls hl => ?_)
      refine (loop2_sound (r := (r, q0)) (P := fun (x13 : Int32) (x14 : Nat → Int32) => ∀ (ls : Array Slot) (H : Heap) (locs : List Loc), lv_has ls 4 [(3, .int x13), (0, .ref a_y), (1, .int p1), (2, .ref a_h)] → Wd A s.heap (dC, dI) [(a_y, .inr (4, [.ref a_y_ways])), (a_y_ways, .inl (cI, 9, .inl x14)), (a_h, .inr (0, [.int h_rooms, .int h_people, .int h_things, .ref a_h_lifts, .ref a_h_prices, .ref a_h_starts, .ref a_h_hands, .ref a_h_wanted])), (a_h_lifts, .inl (cI, 4, .inl h_lifts))] H locs → W p l e ({ frames := 2, cells := 0, slots := 0, locals := 48 } : Jvm.Room) s m args below meth c H locs 0 0 Q (F0 m 21 ls [])) (fun B21 x13 x14 ih21 hf => ?_) _ (1 : Int32) (upd y_ways (0 : Int32).toNatClampNeg (1 : Int32)) hf) ls H locs (lv_sub hl [0, 1, 2, 3] rfl) hw
      intro ls H locs hl hw
      refine lv_iload_n hx hb dX4_ofCarrying_21 rfl (lv_at hl 0 rfl) ?_
      refine lv_iload_n hx hb dX4_ofCarrying_22 rfl (lv_at hl 2 rfl) ?_
      refine lv_icmp_gt (tgt := 39) hx hb dX4_ofCarrying_23 (by decide) (fun kc => ?_) (fun kc => ?_)
      · have hf := if_t hf kc
        refine lv_iconst (v := (0 : Int32)) hx hb dX4_ofCarrying_39 rfl ?_
        refine lv_istore_n (lv' := [(3, .int (0 : Int32)), (0, .ref a_y), (1, .int p1), (2, .ref a_h)]) hx hb dX4_ofCarrying_40 rfl hl (by decide) rfl (fun ls hl => ?_)
        refine (loop2_sound (r := (r, q0)) (P := fun (x19 : Int32) (x20 : Nat → Int32) => ∀ (ls : Array Slot) (H : Heap) (locs : List Loc), lv_has ls 4 [(3, .int x19), (0, .ref a_y), (1, .int p1), (2, .ref a_h)] → Wd A s.heap (dC, dI) [(a_y, .inr (4, [.ref a_y_ways])), (a_y_ways, .inl (cI, 9, .inl x20)), (a_h, .inr (0, [.int h_rooms, .int h_people, .int h_things, .ref a_h_lifts, .ref a_h_prices, .ref a_h_starts, .ref a_h_hands, .ref a_h_wanted])), (a_h_lifts, .inl (cI, 4, .inl h_lifts))] H locs → W p l e ({ frames := 2, cells := 0, slots := 0, locals := 48 } : Jvm.Room) s m args below meth c H locs 0 0 Q (F0 m 41 ls [])) (fun B41 x19 x20 ih41 hf => ?_) _ (0 : Int32) x14 hf) ls H locs (lv_sub hl [0, 1, 2, 3] rfl) hw
        intro ls H locs hl hw
        refine lv_iload_n hx hb dX4_ofCarrying_41 rfl (lv_at hl 0 rfl) ?_
        refine lv_aload_n hx hb dX4_ofCarrying_42 rfl (lv_at hl 3 rfl) ?_
        refine r_getN E hw iX0 2 1 rfl rfl (by decide) kf15 rfl rfl dX4_ofCarrying_43 ?_
        refine lv_icmp_ge (tgt := 66) hx hb dX4_ofCarrying_46 (by decide) (fun kc => ?_) (fun kc => ?_)
        · have hf := if_t hf kc
          refine lv_aload_n hx hb dX4_ofCarrying_66 rfl (lv_at hl 1 rfl) ?_
          refine r_get E hw iX4 0 0 rfl rfl (by decide) kf9 rfl rfl dX4_ofCarrying_67 ?_
          refine lv_iload_n hx hb dX4_ofCarrying_70 rfl (lv_at hl 2 rfl) ?_
          obtain ⟨g21, hf⟩ := gd_some hf
          refine r_iald E hw 1 rfl g21 dX4_ofCarrying_71 ?_
          obtain ⟨rfl, rfl⟩ := sm2 hf
          exact hret H locs ls 72 hw dX4_ofCarrying_72
        · have hf := if_f hf kc
          refine lv_aload_n hx hb dX4_ofCarrying_49 rfl (lv_at hl 1 rfl) ?_
          refine lv_aload_n hx hb dX4_ofCarrying_50 rfl (lv_at hl 3 rfl) ?_
          refine r_getN E hw iX0 2 3 rfl rfl (by decide) kf21 rfl rfl dX4_ofCarrying_51 ?_
          refine lv_iload_n hx hb dX4_ofCarrying_54 rfl (lv_at hl 0 rfl) ?_
          obtain ⟨g22, hf⟩ := gd_some hf
          refine r_iald E hw 3 rfl g22 dX4_ofCarrying_55 ?_
          refine lv_iload_n hx hb dX4_ofCarrying_56 rfl (lv_at hl 2 rfl) ?_
          obtain ⟨u23, hu24, hf⟩ := bd1_some hf
          refine cl_v (wr := [(a_h, .inr (0, [.int h_rooms, .int h_people, .int h_things, .ref a_h_lifts, .ref a_h_prices, .ref a_h_starts, .ref a_h_hands, .ref a_h_wanted])), (a_h_lifts, .inl (cI, 4, .inl h_lifts))]) (w2 := [(a_y, .inr (4, [.ref a_y_ways])), (a_y_ways, .inl (cI, 9, .inl u23)), (a_h, .inr (0, [.int h_rooms, .int h_people, .int h_things, .ref a_h_lifts, .ref a_h_prices, .ref a_h_starts, .ref a_h_hands, .ref a_h_wanted])), (a_h_lifts, .inl (cI, 4, .inl h_lifts))]) E hw [0, 1] [2, 3] [2, 3, 0, 1] (va_runV (As := [.int (h_lifts x19.toNatClampNeg), .int p1]) (rest := []) E.1 (c_X4_addCarrier l dC dI cI cB cZ aK aV a_y a_y_ways H.size x20 (h_lifts x19.toNatClampNeg) p1 u23 hu24) (cwV 2 hts gX4_ofCarrying_X4_addCarrier rfl rfl rfl hd_X4_addCarrier ⟨Nat.le_of_ble_eq_true rfl, Nat.le_of_ble_eq_true rfl⟩) (pre_V E hw [0, 1] rfl rfl rfl rfl) rfl rfl hl.1 rfl (lv_room (Nat.le_of_ble_eq_true rfl)) dX4_ofCarrying_57 ⟨Nat.zero_le _, Nat.zero_le _⟩) rfl rfl rfl (by decide) rfl rfl (fun H locs hw => ?_)
          refine lv_iinc (v := (x19 + (1 : Int32))) (lv' := [(3, .int (x19 + (1 : Int32))), (0, .ref a_y), (1, .int p1), (2, .ref a_h)]) hx hb dX4_ofCarrying_60 hl (k := 0) rfl rfl (by decide) rfl (fun ls hl => ?_)
          refine lv_goto (tgt := 41) hx hb dX4_ofCarrying_63 (by decide) ?_
          exact ih41 (x19 + (1 : Int32)) u23 hf ls H locs (lv_sub hl [0, 1, 2, 3] rfl) hw
      · have hf := if_f hf kc
        refine lv_aload_n hx hb dX4_ofCarrying_26 rfl (lv_at hl 1 rfl) ?_
        refine r_get E hw iX4 0 0 rfl rfl (by decide) kf9 rfl rfl dX4_ofCarrying_27 ?_
        refine lv_iload_n hx hb dX4_ofCarrying_30 rfl (lv_at hl 0 rfl) ?_
        refine lv_iconst (v := (0 : Int32)) hx hb dX4_ofCarrying_31 rfl ?_
        obtain ⟨g25, hf⟩ := gd_some hf
        refine r_iast E hw 1 rfl g25 [(a_y, .inr (4, [.ref a_y_ways])), (a_y_ways, .inl (cI, 9, .inl (upd x14 x13.toNatClampNeg (0 : Int32)))), (a_h, .inr (0, [.int h_rooms, .int h_people, .int h_things, .ref a_h_lifts, .ref a_h_prices, .ref a_h_starts, .ref a_h_hands, .ref a_h_wanted])), (a_h_lifts, .inl (cI, 4, .inl h_lifts))] rfl dX4_ofCarrying_32 (fun H locs hw => ?_)
        refine lv_iinc (v := (x13 + (1 : Int32))) (lv' := [(3, .int (x13 + (1 : Int32))), (0, .ref a_y), (1, .int p1), (2, .ref a_h)]) hx hb dX4_ofCarrying_33 hl (k := 0) rfl rfl (by decide) rfl (fun ls hl => ?_)
        refine lv_goto (tgt := 21) hx hb dX4_ofCarrying_36 (by decide) ?_
        exact ih21 (x13 + (1 : Int32)) (upd x14 x13.toNatClampNeg (0 : Int32)) hf ls H locs (lv_sub hl [0, 1, 2, 3] rfl) hw
    · have hf := if_f hf kc
      refine lv_iconst (v := (0 : Int32)) hx hb dX4_ofCarrying_10 rfl ?_
      obtain ⟨rfl, rfl⟩ := sm2 hf
      exact hret H locs ls 11 hw dX4_ofCarrying_11
