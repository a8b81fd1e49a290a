def f_X7_waysToCarry (p1 : Int32) (m_people : Int32) (m_lifts : Nat → Int32) (m_by : Nat → Int32) : Option (Int32 × (Nat → Int32)) :=
  loop2 (fun B4 (x76 : Int32) (x77 : Int32) => (if p1 ≤ x77 then loop3 (fun B27 (x114 : Int32) (x115 : Int32) (x116 : Nat → Int32) => (if x76 ≤ x115 then some (x114, x116) else loop2 (fun B36 (x134 : Int32) (x135 : Nat → Int32) => (if (4 : Int32) ≤ x134 then loop4 (fun B66 (x142 : Int32) (x143 : Int32) (x144 : Int32) (x145 : Nat → Int32) => (if p1 ≤ x144 then (if x143 = 0 then B27 (x114 + (0 : Int32)) (x115 + (1 : Int32)) x145 else B27 (x114 + (1 : Int32)) (x115 + (1 : Int32)) x145) else gd (decide (¬ m_people = 0)) (gd (decide (¬ m_people = 0)) (gd (inb (x142 - x142 / m_people * m_people) 4) (gd (inb (x142 - x142 / m_people * m_people) 4) (jn (B66 (x142 / m_people) (0 : Int32) (x144 + (1 : Int32)) (upd x145 (x142 - x142 / m_people * m_people).toNatClampNeg ((x145 (x142 - x142 / m_people * m_people).toNatClampNeg) + (1 : Int32)))) (fun J127 => (if x143 = 0 then J127 else gd (inb (x142 - x142 / m_people * m_people) 4) (gd (inb (x142 - x142 / m_people * m_people) 8) ((if (m_lifts (x142 - x142 / m_people * m_people).toNatClampNeg) < ((upd x145 (x142 - x142 / m_people * m_people).toNatClampNeg ((x145 (x142 - x142 / m_people * m_people).toNatClampNeg) + (1 : Int32))) (x142 - x142 / m_people * m_people).toNatClampNeg) then J127 else B66 (x142 / m_people) (1 : Int32) (x144 + (1 : Int32)) (upd x145 (x142 - x142 / m_people * m_people).toNatClampNeg ((x145 (x142 - x142 / m_people * m_people).toNatClampNeg) + (1 : Int32)))))))))))))) FU x115 (1 : Int32) (0 : Int32) x135 else gd (inb x134 4) (B36 (x134 + (1 : Int32)) (upd x135 x134.toNatClampNeg (0 : Int32))))) FU (0 : Int32) x116)) FU (0 : Int32) (0 : Int32) m_by else B4 (x76 * m_people) (x77 + (1 : Int32)))) FU (1 : Int32) (0 : Int32)
theorem hd_X7_waysToCarry : yX7_waysToCarry.cls = RX7 ∧ yX7_waysToCarry.cls ≠ "java/lang/invoke/MethodHandle" ∧ yX7_waysToCarry.cls ≠ "java/lang/invoke/VarHandle" ∧ (parseMethodDescriptor yX7_waysToCarry.desc).map (fun d => d.parameters.length) = some 1 := by decide +kernel
set_option maxHeartbeats 4000000 in
set_option maxRecDepth 100000 in
theorem c_X7_waysToCarry (l : Launch) (dC : Nat → ClassId) (dI : Nat → Nat → Nat) (cI cB cZ : ClassId) (aK aV : Nat → Nat) (a_m a_m_text a_m_lifts a_m_price a_m_stood a_m_hands a_m_wanted a_m_s a_m_kept a_m_isKept a_m_due a_m_cost a_m_then a_m_by : Nat) (sz : Nat) (m_thrown : Int32) (m_trace : Int64) (m_typed : Int32) (m_next : Int32) (m_token : Int32) (m_place : Int32) (m_value : Int32) (m_fault : Int32) (m_rooms : Int32) (m_people : Int32) (m_things : Int32) (m_draftRooms : Int32) (m_draftPeople : Int32) (m_draftThings : Int32) (m_dueMany : Int32) (m_lifts : Nat → Int32) (m_by : Nat → Int32) (p1 : Int32) (r : Int32) (q0 : Nat → Int32) (hf : f_X7_waysToCarry p1 m_people m_lifts m_by = some (r, q0)) : Met l yX7_waysToCarry wsX7_waysToCarry ({ frames := 0, cells := 0, slots := 0, locals := 0 } : Jvm.Room) (va_Pc [.ref a_m, .int p1] (preW (dC, dI) (tyL cI cB cZ) aK aV sz [(a_m, .inr (7, [.int m_thrown, .long m_trace, .ref a_m_text, .int m_typed, .int m_next, .int m_token, .int m_place, .int m_value, .int m_fault, .ref a_m_lifts, .ref a_m_price, .ref a_m_stood, .ref a_m_hands, .ref a_m_wanted, .int m_rooms, .int m_people, .int m_things, .int m_draftRooms, .int m_draftPeople, .int m_draftThings, .ref a_m_s, .ref a_m_kept, .ref a_m_isKept, .ref a_m_due, .int m_dueMany, .ref a_m_cost, .ref a_m_then, .ref a_m_by])), (a_m_lifts, .inl (cI, 8, .inl m_lifts)), (a_m_by, .inl (cI, 4, .inl m_by))])) (va_Qi (fun v (_ : Unit) => v = r) (postW (dC, dI) (tyL cI cB cZ) (va_A [(a_m, .inr (7, [.int m_thrown, .long m_trace, .ref a_m_text, .int m_typed, .int m_next, .int m_token, .int m_place, .int m_value, .int m_fault, .ref a_m_lifts, .ref a_m_price, .ref a_m_stood, .ref a_m_hands, .ref a_m_wanted, .int m_rooms, .int m_people, .int m_things, .int m_draftRooms, .int m_draftPeople, .int m_draftThings, .ref a_m_s, .ref a_m_kept, .ref a_m_isKept, .ref a_m_due, .int m_dueMany, .ref a_m_cost, .ref a_m_then, .ref a_m_by])), (a_m_lifts, .inl (cI, 8, .inl m_lifts)), (a_m_by, .inl (cI, 4, .inl m_by))] sz) [(a_m, .inr (7, [.int m_thrown, .long m_trace, .ref a_m_text, .int m_typed, .int m_next, .int m_token, .int m_place, .int m_value, .int m_fault, .ref a_m_lifts, .ref a_m_price, .ref a_m_stood, .ref a_m_hands, .ref a_m_wanted, .int m_rooms, .int m_people, .int m_things, .int m_draftRooms, .int m_draftPeople, .int m_draftThings, .ref a_m_s, .ref a_m_kept, .ref a_m_isKept, .ref a_m_due, .int m_dueMany, .ref a_m_cost, .ref a_m_then, .ref a_m_by])), (a_m_lifts, .inl (cI, 8, .inl m_lifts)), (a_m_by, .inl (cI, 4, .inl q0))]) (va_A [(a_m, .inr (7, [.int m_thrown, .long m_trace, .ref a_m_text, .int m_typed, .int m_next, .int m_token, .int m_place, .int m_value, .int m_fault, .ref a_m_lifts, .ref a_m_price, .ref a_m_stood, .ref a_m_hands, .ref a_m_wanted, .int m_rooms, .int m_people, .int m_things, .int m_draftRooms, .int m_draftPeople, .int m_draftThings, .ref a_m_s, .ref a_m_kept, .ref a_m_isKept, .ref a_m_due, .int m_dueMany, .ref a_m_cost, .ref a_m_then, .ref a_m_by])), (a_m_lifts, .inl (cI, 8, .inl m_lifts)), (a_m_by, .inl (cI, 4, .inl m_by))] sz)) 0 0 (va_A [(a_m, .inr (7, [.int m_thrown, .long m_trace, .ref a_m_text, .int m_typed, .int m_next, .int m_token, .int m_place, .int m_value, .int m_fault, .ref a_m_lifts, .ref a_m_price, .ref a_m_stood, .ref a_m_hands, .ref a_m_wanted, .int m_rooms, .int m_people, .int m_things, .int m_draftRooms, .int m_draftPeople, .int m_draftThings, .ref a_m_s, .ref a_m_kept, .ref a_m_isKept, .ref a_m_due, .int m_dueMany, .ref a_m_cost, .ref a_m_then, .ref a_m_by])), (a_m_lifts, .inl (cI, 8, .inl m_lifts)), (a_m_by, .inl (cI, 4, .inl m_by))] sz) := by
  refine met_i (cc := cX7_waysToCarry) (maxL := 9) (own := RX7) (by decide) rfl (Nat.le_of_ble_eq_true rfl) rfl (fun p e s m args below meth c Q A E hret ls H locs hl hw => ?_)
  obtain ⟨⟨hx, hb, hml, hown, hts⟩, hK, hN, hA, hX⟩ := id E
  have hl : lv_has ls 9 [(0, .ref a_m), (1, .int p1)] := hl
  have iX7 : ∀ w ∈ wsX70, w ∈ wsX7_waysToCarry := by decide +kernel
  have kf130 := hts (.fieldLink RX7 130 "FiveThingsModel" "people" "I") (by decide +kernel)
  have kf47 := hts (.fieldLink RX7 47 "FiveThingsModel" "by" "[I") (by decide +kernel)
  have kf13 := hts (.fieldLink RX7 13 "FiveThingsModel" "lifts" "[I") (by decide +kernel)
  unfold f_X7_waysToCarry at hf
  refine lv_iconst (v := (1 : Int32)) hx hb dX7_waysToCarry_0 rfl ?_
  refine lv_istore_n (lv' := [(2, .int (1 : Int32)), (0, .ref a_m), (1, .int p1)]) hx hb dX7_waysToCarry_1 rfl hl (by decide) rfl (fun ls hl => ?_)
  refine lv_iconst (v := (0 : Int32)) hx hb dX7_waysToCarry_2 rfl ?_
  refine lv_istore_n (lv' := [(3, .int (0 : Int32)), (2, .int (1 : Int32)), (0, .ref a_m), (1, .int p1)]) hx hb dX7_waysToCarry_3 rfl hl (by decide) rfl (fun ls hl => ?_)
  refine (loop2_sound (r := (r, q0)) (P := fun (x76 : Int32) (x77 : Int32) => ∀ (ls : Array Slot) (H : Heap) (locs : List Loc), lv_has ls 9 [(3, .int x77), (2, .int x76), (0, .ref a_m), (1, .int p1)] → Wd A s.heap (dC, dI) [(a_m, .inr (7, [.int m_thrown, .long m_trace, .ref a_m_text, .int m_typed, .int m_next, .int m_token, .int m_place, .int m_value, .int m_fault, .ref a_m_lifts, .ref a_m_price, .ref a_m_stood, .ref a_m_hands, .ref a_m_wanted, .int m_rooms, .int m_people, .int m_things, .int m_draftRooms, .int m_draftPeople, .int m_draftThings, .ref a_m_s, .ref a_m_kept, .ref a_m_isKept, .ref a_m_due, .int m_dueMany, .ref a_m_cost, .ref a_m_then, .ref a_m_by])), (a_m_lifts, .inl (cI, 8, .inl m_lifts)), (a_m_by, .inl (cI, 4, .inl m_by))] H locs → W p l e ({ frames := 0, cells := 0, slots := 0, locals := 0 } : Jvm.Room) s m args below meth c H locs 0 0 Q (F0 m 4 ls [])) (fun B4 x76 x77 ih4 hf => ?_) _ (1 : Int32) (0 : Int32) hf) ls H locs (lv_sub hl [0, 1, 2, 3] rfl) hw
  intro ls H locs hl hw
  refine lv_iload_n hx hb dX7_waysToCarry_4 rfl (lv_at hl 0 rfl) ?_
  refine lv_iload_n hx hb dX7_waysToCarry_5 rfl (lv_at hl 3 rfl) ?_
  refine lv_icmp_ge (tgt := 22) hx hb dX7_waysToCarry_6 (by decide) (fun kc => ?_) (fun kc => ?_)
  · have hf := if_t hf kc
    refine lv_iconst (v := (0 : Int32)) hx hb dX7_waysToCarry_22 rfl ?_
    refine lv_istore_n (lv' := [(3, .int (0 : Int32)), (2, .int x76), (0, .ref a_m), (1, .int p1)]) hx hb dX7_waysToCarry_23 rfl hl (by decide) rfl (fun ls hl => ?_)
    refine lv_iconst (v := (0 : Int32)) hx hb dX7_waysToCarry_24 rfl ?_
    refine lv_istore (lv' := [(4, .int (0 : Int32)), (3, .int (0 : Int32)), (2, .int x76), (0, .ref a_m), (1, .int p1)]) hx hb dX7_waysToCarry_25 hl (by decide) rfl (fun ls hl => ?_)
    refine (loop3_sound (r := (r, q0)) (P := fun (x114 : Int32) (x115 : Int32) (x116 : Nat → Int32) => ∀ (ls : Array Slot) (H : Heap) (locs : List Loc), lv_has ls 9 [(4, .int x115), (3, .int x114), (2, .int x76), (0, .ref a_m), (1, .int p1)] → Wd A s.heap (dC, dI) [(a_m, .inr (7, [.int m_thrown, .long m_trace, .ref a_m_text, .int m_typed, .int m_next, .int m_token, .int m_place, .int m_value, .int m_fault, .ref a_m_lifts, .ref a_m_price, .ref a_m_stood, .ref a_m_hands, .ref a_m_wanted, .int m_rooms, .int m_people, .int m_things, .int m_draftRooms, .int m_draftPeople, .int m_draftThings, .ref a_m_s, .ref a_m_kept, .ref a_m_isKept, .ref a_m_due, .int m_dueMany, .ref a_m_cost, .ref a_m_then, .ref a_m_by])), (a_m_lifts, .inl (cI, 8, .inl m_lifts)), (a_m_by, .inl (cI, 4, .inl x116))] H locs → W p l e ({ frames := 0, cells := 0, slots := 0, locals := 0 } : Jvm.Room) s m args below meth c H locs 0 0 Q (F0 m 27 ls [])) (fun B27 x114 x115 x116 ih27 hf => ?_) _ (0 : Int32) (0 : Int32) m_by hf) ls H locs (lv_sub hl [0, 1, 2, 3, 4] rfl) hw
    intro ls H locs hl hw
    refine lv_iload hx hb dX7_waysToCarry_27 (lv_at hl 0 rfl) ?_
    refine lv_iload_n hx hb dX7_waysToCarry_29 rfl (lv_at hl 2 rfl) ?_
    refine lv_icmp_ge (tgt := 155) hx hb dX7_waysToCarry_30 (by decide) (fun kc => ?_) (fun kc => ?_)
    · have hf := if_t hf kc
      refine lv_iload_n hx hb dX7_waysToCarry_155 rfl (lv_at hl 1 rfl) ?_
      obtain ⟨rfl, rfl⟩ := sm2 hf
      exact hret H locs ls 156 hw dX7_waysToCarry_156
    · have hf := if_f hf kc
      refine lv_iconst (v := (0 : Int32)) hx hb dX7_waysToCarry_33 rfl ?_
      refine lv_istore (lv' := [(5, .int (0 : Int32)), (4, .int x115), (3, .int x114), (2, .int x76), (0, .ref a_m), (1, .int p1)]) hx hb dX7_waysToCarry_34 hl (by decide) rfl (fun ls hl => ?_)
      refine (loop2_sound (r := (r, q0)) (P := fun (x134 : Int32) (x135 : Nat → Int32) => ∀ (ls : Array Slot) (H : Heap) (locs : List Loc), lv_has ls 9 [(5, .int x134), (4, .int x115), (3, .int x114), (2, .int x76), (0, .ref a_m), (1, .int p1)] → Wd A s.heap (dC, dI) [(a_m, .inr (7, [.int m_thrown, .long m_trace, .ref a_m_text, .int m_typed, .int m_next, .int m_token, .int m_place, .int m_value, .int m_fault, .ref a_m_lifts, .ref a_m_price, .ref a_m_stood, .ref a_m_hands, .ref a_m_wanted, .int m_rooms, .int m_people, .int m_things, .int m_draftRooms, .int m_draftPeople, .int m_draftThings, .ref a_m_s, .ref a_m_kept, .ref a_m_isKept, .ref a_m_due, .int m_dueMany, .ref a_m_cost, .ref a_m_then, .ref a_m_by])), (a_m_lifts, .inl (cI, 8, .inl m_lifts)), (a_m_by, .inl (cI, 4, .inl x135))] H locs → W p l e ({ frames := 0, cells := 0, slots := 0, locals := 0 } : Jvm.Room) s m args below meth c H locs 0 0 Q (F0 m 36 ls [])) (fun B36 x134 x135 ih36 hf => ?_) _ (0 : Int32) x116 hf) ls H locs (lv_sub hl [0, 1, 2, 3, 4, 5] rfl) hw
      intro ls H locs hl hw
      refine lv_iload hx hb dX7_waysToCarry_36 (lv_at hl 0 rfl) ?_
      refine lv_iconst (v := (4 : Int32)) hx hb dX7_waysToCarry_38 rfl ?_
      refine lv_icmp_ge (tgt := 56) hx hb dX7_waysToCarry_39 (by decide) (fun kc => ?_) (fun kc => ?_)
      · have hf := if_t hf kc
        refine lv_iload hx hb dX7_waysToCarry_56 (lv_at hl 1 rfl) ?_
        refine lv_istore (lv' := [(5, .int x115), (4, .int x115), (3, .int x114), (2, .int x76), (0, .ref a_m), (1, .int p1)]) hx hb dX7_waysToCarry_58 hl (by decide) rfl (fun ls hl => ?_)
        refine lv_iconst (v := (1 : Int32)) hx hb dX7_waysToCarry_60 rfl ?_
        refine lv_istore (lv' := [(6, .int (1 : Int32)), (5, .int x115), (4, .int x115), (3, .int x114), (2, .int x76), (0, .ref a_m), (1, .int p1)]) hx hb dX7_waysToCarry_61 hl (by decide) rfl (fun ls hl => ?_)
        refine lv_iconst (v := (0 : Int32)) hx hb dX7_waysToCarry_63 rfl ?_
        refine lv_istore (lv' := [(7, .int (0 : Int32)), (6, .int (1 : Int32)), (5, .int x115), (4, .int x115), (3, .int x114), (2, .int x76), (0, .ref a_m), (1, .int p1)]) hx hb dX7_waysToCarry_64 hl (by decide) rfl (fun ls hl => ?_)
        refine (loop4_sound (r := (r, q0)) (P := fun (x142 : Int32) (x143 : Int32) (x144 : Int32) (x145 : Nat → Int32) => ∀ (ls : Array Slot) (H : Heap) (locs : List Loc), lv_has ls 9 [(7, .int x144), (6, .int x143), (5, .int x142), (4, .int x115), (3, .int x114), (2, .int x76), (0, .ref a_m), (1, .int p1)] → Wd A s.heap (dC, dI) [(a_m, .inr (7, [.int m_thrown, .long m_trace, .ref a_m_text, .int m_typed, .int m_next, .int m_token, .int m_place, .int m_value, .int m_fault, .ref a_m_lifts, .ref a_m_price, .ref a_m_stood, .ref a_m_hands, .ref a_m_wanted, .int m_rooms, .int m_people, .int m_things, .int m_draftRooms, .int m_draftPeople, .int m_draftThings, .ref a_m_s, .ref a_m_kept, .ref a_m_isKept, .ref a_m_due, .int m_dueMany, .ref a_m_cost, .ref a_m_then, .ref a_m_by])), (a_m_lifts, .inl (cI, 8, .inl m_lifts)), (a_m_by, .inl (cI, 4, .inl x145))] H locs → W p l e ({ frames := 0, cells := 0, slots := 0, locals := 0 } : Jvm.Room) s m args below meth c H locs 0 0 Q (F0 m 66 ls [])) (fun B66 x142 x143 x144 x145 ih66 hf => ?_) _ x115 (1 : Int32) (0 : Int32) x135 hf) ls H locs (lv_sub hl [0, 1, 2, 3, 4, 5, 6, 7] rfl) hw
        intro ls H locs hl hw
        refine lv_iload hx hb dX7_waysToCarry_66 (lv_at hl 0 rfl) ?_
        refine lv_iload_n hx hb dX7_waysToCarry_68 rfl (lv_at hl 7 rfl) ?_
        refine lv_icmp_ge (tgt := 136) hx hb dX7_waysToCarry_69 (by decide) (fun kc => ?_) (fun kc => ?_)
        · have hf := if_t hf kc
          refine lv_iload_n hx hb dX7_waysToCarry_136 rfl (lv_at hl 4 rfl) ?_
          refine lv_iload hx hb dX7_waysToCarry_137 (lv_at hl 1 rfl) ?_
          refine lv_if_eq (tgt := 146) hx hb dX7_waysToCarry_139 (by decide) (fun kc => ?_) (fun kc => ?_)
          · have hf := if_t hf kc
            refine lv_iconst (v := (0 : Int32)) hx hb dX7_waysToCarry_146 rfl ?_
            refine lv_iadd hx hb dX7_waysToCarry_147 ?_
            refine lv_istore_n (lv' := [(3, .int (x114 + (0 : Int32))), (7, .int x144), (6, .int x143), (5, .int x142), (4, .int x115), (2, .int x76), (0, .ref a_m), (1, .int p1)]) hx hb dX7_waysToCarry_148 rfl hl (by decide) rfl (fun ls hl => ?_)
            refine lv_iinc (v := (x115 + (1 : Int32))) (lv' := [(4, .int (x115 + (1 : Int32))), (3, .int (x114 + (0 : Int32))), (7, .int x144), (6, .int x143), (5, .int x142), (2, .int x76), (0, .ref a_m), (1, .int p1)]) hx hb dX7_waysToCarry_149 hl (k := 4) rfl rfl (by decide) rfl (fun ls hl => ?_)
            refine lv_goto (tgt := 27) hx hb dX7_waysToCarry_152 (by decide) ?_
            exact ih27 (x114 + (0 : Int32)) (x115 + (1 : Int32)) x145 hf ls H locs (lv_sub hl [0, 1, 5, 6, 7] rfl) hw
          · have hf := if_f hf kc
            refine lv_iconst (v := (1 : Int32)) hx hb dX7_waysToCarry_142 rfl ?_
            refine lv_goto (tgt := 147) hx hb dX7_waysToCarry_143 (by decide) ?_
            refine lv_iadd hx hb dX7_waysToCarry_147 ?_
            refine lv_istore_n (lv' := [(3, .int (x114 + (1 : Int32))), (7, .int x144), (6, .int x143), (5, .int x142), (4, .int x115), (2, .int x76), (0, .ref a_m), (1, .int p1)]) hx hb dX7_waysToCarry_148 rfl hl (by decide) rfl (fun ls hl => ?_)
            refine lv_iinc (v := (x115 + (1 : Int32))) (lv' := [(4, .int (x115 + (1 : Int32))), (3, .int (x114 + (1 : Int32))), (7, .int x144), (6, .int x143), (5, .int x142), (2, .int x76), (0, .ref a_m), (1, .int p1)]) hx hb dX7_waysToCarry_149 hl (k := 4) rfl rfl (by decide) rfl (fun ls hl => ?_)
            refine lv_goto (tgt := 27) hx hb dX7_waysToCarry_152 (by decide) ?_
            exact ih27 (x114 + (1 : Int32)) (x115 + (1 : Int32)) x145 hf ls H locs (lv_sub hl [0, 1, 5, 6, 7] rfl) hw
        · have hf := if_f hf kc
          refine lv_iload hx hb dX7_waysToCarry_72 (lv_at hl 2 rfl) ?_
          refine lv_aload_n hx hb dX7_waysToCarry_74 rfl (lv_at hl 6 rfl) ?_
          refine r_get E hw iX7 0 15 rfl rfl (by decide) kf130 rfl rfl dX7_waysToCarry_75 ?_
          obtain ⟨g146, hf⟩ := gd_some hf
          refine lv_irem hx hb dX7_waysToCarry_78 (of_decide_eq_true g146) ?_
          refine lv_istore (lv' := [(8, .int (x142 - x142 / m_people * m_people)), (7, .int x144), (6, .int x143), (5, .int x142), (4, .int x115), (3, .int x114), (2, .int x76), (0, .ref a_m), (1, .int p1)]) hx hb dX7_waysToCarry_79 hl (by decide) rfl (fun ls hl => ?_)
          refine lv_iload hx hb dX7_waysToCarry_81 (lv_at hl 3 rfl) ?_
          refine lv_aload_n hx hb dX7_waysToCarry_83 rfl (lv_at hl 7 rfl) ?_
          refine r_get E hw iX7 0 15 rfl rfl (by decide) kf130 rfl rfl dX7_waysToCarry_84 ?_
          obtain ⟨g147, hf⟩ := gd_some hf
          refine lv_idiv hx hb dX7_waysToCarry_87 (of_decide_eq_true g147) ?_
          refine lv_istore (lv' := [(5, .int (x142 / m_people)), (8, .int (x142 - x142 / m_people * m_people)), (7, .int x144), (6, .int x143), (4, .int x115), (3, .int x114), (2, .int x76), (0, .ref a_m), (1, .int p1)]) hx hb dX7_waysToCarry_88 hl (by decide) rfl (fun ls hl => ?_)
          refine lv_aload_n hx hb dX7_waysToCarry_90 rfl (lv_at hl 7 rfl) ?_
          refine r_get E hw iX7 0 27 rfl rfl (by decide) kf47 rfl rfl dX7_waysToCarry_91 ?_
          refine lv_iload hx hb dX7_waysToCarry_94 (lv_at hl 1 rfl) ?_
          refine lv_dup2_11 hx hb dX7_waysToCarry_96 rfl rfl ?_
          obtain ⟨g148, hf⟩ := gd_some hf
          refine r_iald E hw 2 rfl g148 dX7_waysToCarry_97 ?_
          refine lv_iconst (v := (1 : Int32)) hx hb dX7_waysToCarry_98 rfl ?_
          refine lv_iadd hx hb dX7_waysToCarry_99 ?_
          obtain ⟨g149, hf⟩ := gd_some hf
          refine r_iast E hw 2 rfl g149 [(a_m, .inr (7, [.int m_thrown, .long m_trace, .ref a_m_text, .int m_typed, .int m_next, .int m_token, .int m_place, .int m_value, .int m_fault, .ref a_m_lifts, .ref a_m_price, .ref a_m_stood, .ref a_m_hands, .ref a_m_wanted, .int m_rooms, .int m_people, .int m_things, .int m_draftRooms, .int m_draftPeople, .int m_draftThings, .ref a_m_s, .ref a_m_kept, .ref a_m_isKept, .ref a_m_due, .int m_dueMany, .ref a_m_cost, .ref a_m_then, .ref a_m_by])), (a_m_lifts, .inl (cI, 8, .inl m_lifts)), (a_m_by, .inl (cI, 4, .inl (upd x145 (x142 - x142 / m_people * m_people).toNatClampNeg ((x145 (x142 - x142 / m_people * m_people).toNatClampNeg) + (1 : Int32)))))] rfl dX7_waysToCarry_100 (fun H locs hw => ?_)
          refine lv_iload hx hb dX7_waysToCarry_101 (lv_at hl 3 rfl) ?_
          refine jn_sound (P := fun J => ∀ (ls : Array Slot) (H : Heap) (locs : List Loc), J = some (r, q0) → lv_has ls 9 [(0, .ref a_m), (1, .int p1), (2, .int x76), (3, .int x114), (4, .int x115), (5, .int (x142 / m_people)), (7, .int x144)] → Wd A s.heap (dC, dI) [(a_m, .inr (7, [.int m_thrown, .long m_trace, .ref a_m_text, .int m_typed, .int m_next, .int m_token, .int m_place, .int m_value, .int m_fault, .ref a_m_lifts, .ref a_m_price, .ref a_m_stood, .ref a_m_hands, .ref a_m_wanted, .int m_rooms, .int m_people, .int m_things, .int m_draftRooms, .int m_draftPeople, .int m_draftThings, .ref a_m_s, .ref a_m_kept, .ref a_m_isKept, .ref a_m_due, .int m_dueMany, .ref a_m_cost, .ref a_m_then, .ref a_m_by])), (a_m_lifts, .inl (cI, 8, .inl m_lifts)), (a_m_by, .inl (cI, 4, .inl (upd x145 (x142 - x142 / m_people * m_people).toNatClampNeg ((x145 (x142 - x142 / m_people * m_people).toNatClampNeg) + (1 : Int32)))))] H locs → W p l e ({ frames := 0, cells := 0, slots := 0, locals := 0 } : Jvm.Room) s m args below meth c H locs 0 0 Q (F0 m 127 ls [])) hf ?_ ?_
          · intro ls H locs hf hl hw
            refine lv_iconst (v := (0 : Int32)) hx hb dX7_waysToCarry_127 rfl ?_
            refine lv_istore (lv' := [(6, .int (0 : Int32)), (0, .ref a_m), (1, .int p1), (2, .int x76), (3, .int x114), (4, .int x115), (5, .int (x142 / m_people)), (7, .int x144)]) hx hb dX7_waysToCarry_128 hl (by decide) rfl (fun ls hl => ?_)
            refine lv_iinc (v := (x144 + (1 : Int32))) (lv' := [(7, .int (x144 + (1 : Int32))), (6, .int (0 : Int32)), (0, .ref a_m), (1, .int p1), (2, .int x76), (3, .int x114), (4, .int x115), (5, .int (x142 / m_people))]) hx hb dX7_waysToCarry_130 hl (k := 7) rfl rfl (by decide) rfl (fun ls hl => ?_)
            refine lv_goto (tgt := 66) hx hb dX7_waysToCarry_133 (by decide) ?_
            exact ih66 (x142 / m_people) (0 : Int32) (x144 + (1 : Int32)) (upd x145 (x142 - x142 / m_people * m_people).toNatClampNeg ((x145 (x142 - x142 / m_people * m_people).toNatClampNeg) + (1 : Int32))) hf ls H locs (lv_sub hl [0, 1, 7, 6, 5, 4, 2, 3] rfl) hw
          · intro J127 hJ127 hf
            refine lv_if_eq (tgt := 127) hx hb dX7_waysToCarry_103 (by decide) (fun kc => ?_) (fun kc => ?_)
            · have hf := if_t hf kc
              exact hJ127 ls H locs hf (lv_sub hl [7, 8, 6, 5, 4, 0, 2] rfl) hw
            · have hf := if_f hf kc
              refine lv_aload_n hx hb dX7_waysToCarry_106 rfl (lv_at hl 7 rfl) ?_
              refine r_get E hw iX7 0 27 rfl rfl (by decide) kf47 rfl rfl dX7_waysToCarry_107 ?_
              refine lv_iload hx hb dX7_waysToCarry_110 (lv_at hl 1 rfl) ?_
              obtain ⟨g150, hf⟩ := gd_some hf
              refine r_iald E hw 2 rfl g150 dX7_waysToCarry_112 ?_
              refine lv_aload_n hx hb dX7_waysToCarry_113 rfl (lv_at hl 7 rfl) ?_
              refine r_get E hw iX7 0 9 rfl rfl (by decide) kf13 rfl rfl dX7_waysToCarry_114 ?_
              refine lv_iload hx hb dX7_waysToCarry_117 (lv_at hl 1 rfl) ?_
              obtain ⟨g151, hf⟩ := gd_some hf
              refine r_iald E hw 1 rfl g151 dX7_waysToCarry_119 ?_
              refine lv_icmp_gt (tgt := 127) hx hb dX7_waysToCarry_120 (by decide) (fun kc => ?_) (fun kc => ?_)
              · have hf := if_t hf kc
                exact hJ127 ls H locs hf (lv_sub hl [7, 8, 6, 5, 4, 0, 2] rfl) hw
              · have hf := if_f hf kc
                refine lv_iconst (v := (1 : Int32)) hx hb dX7_waysToCarry_123 rfl ?_
                refine lv_goto (tgt := 128) hx hb dX7_waysToCarry_124 (by decide) ?_
                refine lv_istore (lv' := [(6, .int (1 : Int32)), (5, .int (x142 / m_people)), (8, .int (x142 - x142 / m_people * m_people)), (7, .int x144), (4, .int x115), (3, .int x114), (2, .int x76), (0, .ref a_m), (1, .int p1)]) hx hb dX7_waysToCarry_128 hl (by decide) rfl (fun ls hl => ?_)
                refine lv_iinc (v := (x144 + (1 : Int32))) (lv' := [(7, .int (x144 + (1 : Int32))), (6, .int (1 : Int32)), (5, .int (x142 / m_people)), (8, .int (x142 - x142 / m_people * m_people)), (4, .int x115), (3, .int x114), (2, .int x76), (0, .ref a_m), (1, .int p1)]) hx hb dX7_waysToCarry_130 hl (k := 3) rfl rfl (by decide) rfl (fun ls hl => ?_)
                refine lv_goto (tgt := 66) hx hb dX7_waysToCarry_133 (by decide) ?_
                exact ih66 (x142 / m_people) (1 : Int32) (x144 + (1 : Int32)) (upd x145 (x142 - x142 / m_people * m_people).toNatClampNeg ((x145 (x142 - x142 / m_people * m_people).toNatClampNeg) + (1 : Int32))) hf ls H locs (lv_sub hl [0, 1, 2, 4, 5, 6, 7, 8] rfl) hw
      · have hf := if_f hf kc
        refine lv_aload_n hx hb dX7_waysToCarry_42 rfl (lv_at hl 4 rfl) ?_
        refine r_get E hw iX7 0 27 rfl rfl (by decide) kf47 rfl rfl dX7_waysToCarry_43 ?_
        refine lv_iload hx hb dX7_waysToCarry_46 (lv_at hl 0 rfl) ?_
        refine lv_iconst (v := (0 : Int32)) hx hb dX7_waysToCarry_48 rfl ?_
        obtain ⟨g152, hf⟩ := gd_some hf
        refine r_iast E hw 2 rfl g152 [(a_m, .inr (7, [.int m_thrown, .long m_trace, .ref a_m_text, .int m_typed, .int m_next, .int m_token, .int m_place, .int m_value, .int m_fault, .ref a_m_lifts, .ref a_m_price, .ref a_m_stood, .ref a_m_hands, .ref a_m_wanted, .int m_rooms, .int m_people, .int m_things, .int m_draftRooms, .int m_draftPeople, .int m_draftThings, .ref a_m_s, .ref a_m_kept, .ref a_m_isKept, .ref a_m_due, .int m_dueMany, .ref a_m_cost, .ref a_m_then, .ref a_m_by])), (a_m_lifts, .inl (cI, 8, .inl m_lifts)), (a_m_by, .inl (cI, 4, .inl (upd x135 x134.toNatClampNeg (0 : Int32))))] rfl dX7_waysToCarry_49 (fun H locs hw => ?_)
        refine lv_iinc (v := (x134 + (1 : Int32))) (lv' := [(5, .int (x134 + (1 : Int32))), (4, .int x115), (3, .int x114), (2, .int x76), (0, .ref a_m), (1, .int p1)]) hx hb dX7_waysToCarry_50 hl (k := 0) rfl rfl (by decide) rfl (fun ls hl => ?_)
        refine lv_goto (tgt := 36) hx hb dX7_waysToCarry_53 (by decide) ?_
        exact ih36 (x134 + (1 : Int32)) (upd x135 x134.toNatClampNeg (0 : Int32)) hf ls H locs (lv_sub hl [0, 1, 2, 3, 4, 5] rfl) hw
  · have hf := if_f hf kc
    refine lv_iload_n hx hb dX7_waysToCarry_9 rfl (lv_at hl 1 rfl) ?_
    refine lv_aload_n hx hb dX7_waysToCarry_10 rfl (lv_at hl 2 rfl) ?_
    refine r_get E hw iX7 0 15 rfl rfl (by decide) kf130 rfl rfl dX7_waysToCarry_11 ?_
    refine lv_imul hx hb dX7_waysToCarry_14 ?_
    refine lv_istore_n (lv' := [(2, .int (x76 * m_people)), (3, .int x77), (0, .ref a_m), (1, .int p1)]) hx hb dX7_waysToCarry_15 rfl hl (by decide) rfl (fun ls hl => ?_)
    refine lv_iinc (v := (x77 + (1 : Int32))) (lv' := [(3, .int (x77 + (1 : Int32))), (2, .int (x76 * m_people)), (0, .ref a_m), (1, .int p1)]) hx hb dX7_waysToCarry_16 hl (k := 1) rfl rfl (by decide) rfl (fun ls hl => ?_)
    refine lv_goto (tgt := 4) hx hb dX7_waysToCarry_19 (by decide) ?_
    exact ih4 (x76 * m_people) (x77 + (1 : Int32)) hf ls H locs (lv_sub hl [0, 1, 2, 3] rfl) hw
def f_X7_moved (p1 : Int32) (p2 : Int32) (m_people : Int32) (m_things : Int32) (m_lifts : Nat → Int32) (m_s : Nat → Int32) (m_kept : Nat → Int32) (m_isKept : Nat → Int32) (m_by : Nat → Int32) : Option (Int32 × Int32 × (Nat → Int32)) :=
  bd1 (f_X7_in p1 (0 : Int32) (1 : Int32)) (fun r1 => (if r1 = 0 then some ((-1 : Int32), (0 : Int32), m_by) else bd1 (f_X7_in p2 (0 : Int32) (1 : Int32)) (fun r3 => (if r3 = 0 then some ((-1 : Int32), (0 : Int32), m_by) else gd (inb p1 2) ((if (m_isKept p1.toNatClampNeg) = 0 then some ((-2 : Int32), (0 : Int32), m_by) else loop2 (fun B42 (x13 : Int32) (x14 : Int32) => (if m_things ≤ x14 then (if p2 = 0 then some (x13, (0 : Int32), m_by) else bd1 (f_X7_ones x13) (fun r15 => bd2 (f_X7_waysToCarry r15 m_people m_lifts m_by) (fun r17 u18 => some (r17, (0 : Int32), u18)))) else gd (inb x14 21) (gd (inb (((21 : Int32) * p1) + x14) 42) ((if (m_s x14.toNatClampNeg) = (m_kept (((21 : Int32) * p1) + x14).toNatClampNeg) then B42 (x13 ||| (0 : Int32)) (x14 + (1 : Int32)) else B42 (x13 ||| ((1 : Int32) <<< (x14 &&& 31))) (x14 + (1 : Int32))))))) FU (0 : Int32) (0 : Int32)))))))
theorem hd_X7_moved : yX7_moved.cls = RX7 ∧ yX7_moved.cls ≠ "java/lang/invoke/MethodHandle" ∧ yX7_moved.cls ≠ "java/lang/invoke/VarHandle" ∧ (parseMethodDescriptor yX7_moved.desc).map (fun d => d.parameters.length) = some 2 := by decide +kernel
set_option maxHeartbeats 4000000 in
set_option maxRecDepth 100000 in
theorem c_X7_moved (l : Launch) (dC : Nat → ClassId) (dI : Nat → Nat → Nat) (cI cB cZ : ClassId) (aK aV : Nat → Nat) (a_m a_m_text a_m_lifts a_m_price a_m_stood a_m_hands a_m_wanted a_m_s a_m_kept a_m_isKept a_m_due a_m_cost a_m_then a_m_by : Nat) (sz : Nat) (m_thrown : Int32) (m_trace : Int64) (m_typed : Int32) (m_next : Int32) (m_token : Int32) (m_place : Int32) (m_value : Int32) (m_fault : Int32) (m_rooms : Int32) (m_people : Int32) (m_things : Int32) (m_draftRooms : Int32) (m_draftPeople : Int32) (m_draftThings : Int32) (m_dueMany : Int32) (m_lifts : Nat → Int32) (m_s : Nat → Int32) (m_kept : Nat → Int32) (m_isKept : Nat → Int32) (m_by : Nat → Int32) (p1 : Int32) (p2 : Int32) (r : Int32) (q0 : Int32) (q1 : Nat → Int32) (hf : f_X7_moved p1 p2 m_people m_things m_lifts m_s m_kept m_isKept m_by = some (r, q0, q1)) : Met l yX7_moved wsX7_moved ({ frames := 1, cells := 0, slots := 0, locals := 28 } : Jvm.Room) (va_Pc [.ref a_m, .int p1, .int p2] (preW (dC, dI) (tyL cI cB cZ) aK aV sz [(a_m, .inr (7, [.int m_thrown, .long m_trace, .ref a_m_text, .int m_typed, .int m_next, .int m_token, .int m_place, .int m_value, .int m_fault, .ref a_m_lifts, .ref a_m_price, .ref a_m_stood, .ref a_m_hands, .ref a_m_wanted, .int m_rooms, .int m_people, .int m_things, .int m_draftRooms, .int m_draftPeople, .int m_draftThings, .ref a_m_s, .ref a_m_kept, .ref a_m_isKept, .ref a_m_due, .int m_dueMany, .ref a_m_cost, .ref a_m_then, .ref a_m_by])), (a_m_lifts, .inl (cI, 8, .inl m_lifts)), (a_m_s, .inl (cI, 21, .inl m_s)), (a_m_kept, .inl (cI, 42, .inl m_kept)), (a_m_isKept, .inl (cZ, 2, .inl m_isKept)), (a_m_by, .inl (cI, 4, .inl m_by))])) (va_Qi (fun v (_ : Unit) => v = r) (postW (dC, dI) (tyL cI cB cZ) (va_A [(a_m, .inr (7, [.int m_thrown, .long m_trace, .ref a_m_text, .int m_typed, .int m_next, .int m_token, .int m_place, .int m_value, .int m_fault, .ref a_m_lifts, .ref a_m_price, .ref a_m_stood, .ref a_m_hands, .ref a_m_wanted, .int m_rooms, .int m_people, .int m_things, .int m_draftRooms, .int m_draftPeople, .int m_draftThings, .ref a_m_s, .ref a_m_kept, .ref a_m_isKept, .ref a_m_due, .int m_dueMany, .ref a_m_cost, .ref a_m_then, .ref a_m_by])), (a_m_lifts, .inl (cI, 8, .inl m_lifts)), (a_m_s, .inl (cI, 21, .inl m_s)), (a_m_kept, .inl (cI, 42, .inl m_kept)), (a_m_isKept, .inl (cZ, 2, .inl m_isKept)), (a_m_by, .inl (cI, 4, .inl m_by))] sz) [(a_m, .inr (7, [.int q0, .long m_trace, .ref a_m_text, .int m_typed, .int m_next, .int m_token, .int m_place, .int m_value, .int m_fault, .ref a_m_lifts, .ref a_m_price, .ref a_m_stood, .ref a_m_hands, .ref a_m_wanted, .int m_rooms, .int m_people, .int m_things, .int m_draftRooms, .int m_draftPeople, .int m_draftThings, .ref a_m_s, .ref a_m_kept, .ref a_m_isKept, .ref a_m_due, .int m_dueMany, .ref a_m_cost, .ref a_m_then, .ref a_m_by])), (a_m_lifts, .inl (cI, 8, .inl m_lifts)), (a_m_s, .inl (cI, 21, .inl m_s)), (a_m_kept, .inl (cI, 42, .inl m_kept)), (a_m_isKept, .inl (cZ, 2, .inl m_isKept)), (a_m_by, .inl (cI, 4, .inl q1))]) (va_A [(a_m, .inr (7, [.int m_thrown, .long m_trace, .ref a_m_text, .int m_typed, .int m_next, .int m_token, .int m_place, .int m_value, .int m_fault, .ref a_m_lifts, .ref a_m_price, .ref a_m_stood, .ref a_m_hands, .ref a_m_wanted, .int m_rooms, .int m_people, .int m_things, .int m_draftRooms, .int m_draftPeople, .int m_draftThings, .ref a_m_s, .ref a_m_kept, .ref a_m_isKept, .ref a_m_due, .int m_dueMany, .ref a_m_cost, .ref a_m_then, .ref a_m_by])), (a_m_lifts, .inl (cI, 8, .inl m_lifts)), (a_m_s, .inl (cI, 21, .inl m_s)), (a_m_kept, .inl (cI, 42, .inl m_kept)), (a_m_isKept, .inl (cZ, 2, .inl m_isKept)), (a_m_by, .inl (cI, 4, .inl m_by))] sz)) 0 0 (va_A [(a_m, .inr (7, [.int m_thrown, .long m_trace, .ref a_m_text, .int m_typed, .int m_next, .int m_token, .int m_place, .int m_value, .int m_fault, .ref a_m_lifts, .ref a_m_price, .ref a_m_stood, .ref a_m_hands, .ref a_m_wanted, .int m_rooms, .int m_people, .int m_things, .int m_draftRooms, .int m_draftPeople, .int m_draftThings, .ref a_m_s, .ref a_m_kept, .ref a_m_isKept, .ref a_m_due, .int m_dueMany, .ref a_m_cost, .ref a_m_then, .ref a_m_by])), (a_m_lifts, .inl (cI, 8, .inl m_lifts)), (a_m_s, .inl (cI, 21, .inl m_s)), (a_m_kept, .inl (cI, 42, .inl m_kept)), (a_m_isKept, .inl (cZ, 2, .inl m_isKept)), (a_m_by, .inl (cI, 4, .inl m_by))] sz) := by
  refine met_i (cc := cX7_moved) (maxL := 5) (own := RX7) (by decide) rfl (Nat.le_of_ble_eq_true rfl) rfl (fun p e s m args below meth c Q A E hret ls H locs hl hw => ?_)
  obtain ⟨⟨hx, hb, hml, hown, hts⟩, hK, hN, hA, hX⟩ := id E
  have hl : lv_has ls 5 [(0, .ref a_m), (1, .int p1), (2, .int p2)] := hl
  have iX7 : ∀ w ∈ wsX70, w ∈ wsX7_moved := by decide +kernel
  have kf57 := hts (.fieldLink RX7 57 "FiveThingsModel" "thrown" "I") (by decide +kernel)
  have kf34 := hts (.fieldLink RX7 34 "FiveThingsModel" "isKept" "[Z") (by decide +kernel)
  have kf133 := hts (.fieldLink RX7 133 "FiveThingsModel" "things" "I") (by decide +kernel)
  have kf28 := hts (.fieldLink RX7 28 "FiveThingsModel" "s" "[I") (by decide +kernel)
  have kf31 := hts (.fieldLink RX7 31 "FiveThingsModel" "kept" "[I") (by decide +kernel)
  unfold f_X7_moved at hf
  refine lv_aload_n hx hb dX7_moved_0 rfl (lv_at hl 0 rfl) ?_
  refine lv_iconst (v := (0 : Int32)) hx hb dX7_moved_1 rfl ?_
  refine r_put E hw iX7 tyX7_ok nmX7 0 0 rfl rfl (by decide) kf57 rfl rfl rfl rfl (Nat.le_of_ble_eq_true rfl) [(a_m, .inr (7, [.int (0 : Int32), .long m_trace, .ref a_m_text, .int m_typed, .int m_next, .int m_token, .int m_place, .int m_value, .int m_fault, .ref a_m_lifts, .ref a_m_price, .ref a_m_stood, .ref a_m_hands, .ref a_m_wanted, .int m_rooms, .int m_people, .int m_things, .int m_draftRooms, .int m_draftPeople, .int m_draftThings, .ref a_m_s, .ref a_m_kept, .ref a_m_isKept, .ref a_m_due, .int m_dueMany, .ref a_m_cost, .ref a_m_then, .ref a_m_by])), (a_m_lifts, .inl (cI, 8, .inl m_lifts)), (a_m_s, .inl (cI, 21, .inl m_s)), (a_m_kept, .inl (cI, 42, .inl m_kept)), (a_m_isKept, .inl (cZ, 2, .inl m_isKept)), (a_m_by, .inl (cI, 4, .inl m_by))] rfl dX7_moved_2 (fun H locs hw => ?_)
  refine lv_iload_n hx hb dX7_moved_5 rfl (lv_at hl 1 rfl) ?_
  refine lv_iconst (v := (0 : Int32)) hx hb dX7_moved_6 rfl ?_
  refine lv_iconst (v := (1 : Int32)) hx hb dX7_moved_7 rfl ?_
  obtain ⟨r1, hu2, hf⟩ := bd1_some hf
  refine cl_i (wr := [(a_m, .inr (7, [.int (0 : Int32), .long m_trace, .ref a_m_text, .int m_typed, .int m_next, .int m_token, .int m_place, .int m_value, .int m_fault, .ref a_m_lifts, .ref a_m_price, .ref a_m_stood, .ref a_m_hands, .ref a_m_wanted, .int m_rooms, .int m_people, .int m_things, .int m_draftRooms, .int m_draftPeople, .int m_draftThings, .ref a_m_s, .ref a_m_kept, .ref a_m_isKept, .ref a_m_due, .int m_dueMany, .ref a_m_cost, .ref a_m_then, .ref a_m_by])), (a_m_lifts, .inl (cI, 8, .inl m_lifts)), (a_m_s, .inl (cI, 21, .inl m_s)), (a_m_kept, .inl (cI, 42, .inl m_kept)), (a_m_isKept, .inl (cZ, 2, .inl m_isKept)), (a_m_by, .inl (cI, 4, .inl m_by))]) (w2 := [(a_m, .inr (7, [.int (0 : Int32), .long m_trace, .ref a_m_text, .int m_typed, .int m_next, .int m_token, .int m_place, .int m_value, .int m_fault, .ref a_m_lifts, .ref a_m_price, .ref a_m_stood, .ref a_m_hands, .ref a_m_wanted, .int m_rooms, .int m_people, .int m_things, .int m_draftRooms, .int m_draftPeople, .int m_draftThings, .ref a_m_s, .ref a_m_kept, .ref a_m_isKept, .ref a_m_due, .int m_dueMany, .ref a_m_cost, .ref a_m_then, .ref a_m_by])), (a_m_lifts, .inl (cI, 8, .inl m_lifts)), (a_m_s, .inl (cI, 21, .inl m_s)), (a_m_kept, .inl (cI, 42, .inl m_kept)), (a_m_isKept, .inl (cZ, 2, .inl m_isKept)), (a_m_by, .inl (cI, 4, .inl m_by))]) E hw [] [0, 1, 2, 3, 4, 5] [0, 1, 2, 3, 4, 5] (va_runS (As := [.int p1, .int (0 : Int32), .int (1 : Int32)]) (rest := []) E.1 (c_X7_in l dC dI cI cB cZ aK aV H.size p1 (0 : Int32) (1 : Int32) r1 hu2) (va_cwS 3 hts gX7_moved_X7_in rfl rfl rfl hd_X7_in ⟨Nat.le_of_ble_eq_true rfl, Nat.le_of_ble_eq_true rfl⟩) (pre_S E hw [] rfl rfl) rfl rfl hl.1 rfl (lv_room (Nat.le_of_ble_eq_true rfl)) dX7_moved_8 ⟨Nat.zero_le _, Nat.zero_le _⟩) rfl rfl rfl (by decide) rfl rfl (fun H locs hw => ?_)
  refine lv_if_eq (tgt := 23) hx hb dX7_moved_11 (by decide) (fun kc => ?_) (fun kc => ?_)
  · have hf := if_t hf kc
    refine lv_iconst (v := (-1 : Int32)) hx hb dX7_moved_23 rfl ?_
    obtain ⟨rfl, rfl, rfl⟩ := sm3 hf
    exact hret H locs ls 24 hw dX7_moved_24
  · have hf := if_f hf kc
    refine lv_iload_n hx hb dX7_moved_14 rfl (lv_at hl 2 rfl) ?_
    refine lv_iconst (v := (0 : Int32)) hx hb dX7_moved_15 rfl ?_
    refine lv_iconst (v := (1 : Int32)) hx hb dX7_moved_16 rfl ?_
    obtain ⟨r3, hu4, hf⟩ := bd1_some hf
    refine cl_i (wr := [(a_m, .inr (7, [.int (0 : Int32), .long m_trace, .ref a_m_text, .int m_typed, .int m_next, .int m_token, .int m_place, .int m_value, .int m_fault, .ref a_m_lifts, .ref a_m_price, .ref a_m_stood, .ref a_m_hands, .ref a_m_wanted, .int m_rooms, .int m_people, .int m_things, .int m_draftRooms, .int m_draftPeople, .int m_draftThings, .ref a_m_s, .ref a_m_kept, .ref a_m_isKept, .ref a_m_due, .int m_dueMany, .ref a_m_cost, .ref a_m_then, .ref a_m_by])), (a_m_lifts, .inl (cI, 8, .inl m_lifts)), (a_m_s, .inl (cI, 21, .inl m_s)), (a_m_kept, .inl (cI, 42, .inl m_kept)), (a_m_isKept, .inl (cZ, 2, .inl m_isKept)), (a_m_by, .inl (cI, 4, .inl m_by))]) (w2 := [(a_m, .inr (7, [.int (0 : Int32), .long m_trace, .ref a_m_text, .int m_typed, .int m_next, .int m_token, .int m_place, .int m_value, .int m_fault, .ref a_m_lifts, .ref a_m_price, .ref a_m_stood, .ref a_m_hands, .ref a_m_wanted, .int m_rooms, .int m_people, .int m_things, .int m_draftRooms, .int m_draftPeople, .int m_draftThings, .ref a_m_s, .ref a_m_kept, .ref a_m_isKept, .ref a_m_due, .int m_dueMany, .ref a_m_cost, .ref a_m_then, .ref a_m_by])), (a_m_lifts, .inl (cI, 8, .inl m_lifts)), (a_m_s, .inl (cI, 21, .inl m_s)), (a_m_kept, .inl (cI, 42, .inl m_kept)), (a_m_isKept, .inl (cZ, 2, .inl m_isKept)), (a_m_by, .inl (cI, 4, .inl m_by))]) E hw [] [0, 1, 2, 3, 4, 5] [0, 1, 2, 3, 4, 5] (va_runS (As := [.int p2, .int (0 : Int32), .int (1 : Int32)]) (rest := []) E.1 (c_X7_in l dC dI cI cB cZ aK aV H.size p2 (0 : Int32) (1 : Int32) r3 hu4) (va_cwS 3 hts gX7_moved_X7_in rfl rfl rfl hd_X7_in ⟨Nat.le_of_ble_eq_true rfl, Nat.le_of_ble_eq_true rfl⟩) (pre_S E hw [] rfl rfl) rfl rfl hl.1 rfl (lv_room (Nat.le_of_ble_eq_true rfl)) dX7_moved_17 ⟨Nat.zero_le _, Nat.zero_le _⟩) rfl rfl rfl (by decide) rfl rfl (fun H locs hw => ?_)
    refine lv_if_ne (tgt := 25) hx hb dX7_moved_20 (by decide) (fun kc => ?_) (fun kc => ?_)
    · have hf := if_f hf kc
      refine lv_aload_n hx hb dX7_moved_25 rfl (lv_at hl 0 rfl) ?_
      refine r_get E hw iX7 0 22 rfl rfl (by decide) kf34 rfl rfl dX7_moved_26 ?_
      refine lv_iload_n hx hb dX7_moved_29 rfl (lv_at hl 1 rfl) ?_
      obtain ⟨g5, hf⟩ := gd_some hf
      refine r_zald E hw 4 rfl g5 dX7_moved_30 ?_
      refine lv_if_ne (tgt := 37) hx hb dX7_moved_31 (by decide) (fun kc => ?_) (fun kc => ?_)
      · have hf := if_f hf kc
        refine lv_iconst (v := (0 : Int32)) hx hb dX7_moved_37 rfl ?_
        refine lv_istore_n (lv' := [(3, .int (0 : Int32)), (0, .ref a_m), (1, .int p1), (2, .int p2)]) hx hb dX7_moved_38 rfl hl (by decide) rfl (fun ls hl => ?_)
        refine lv_iconst (v := (0 : Int32)) hx hb dX7_moved_39 rfl ?_
        refine lv_istore (lv' := [(4, .int (0 : Int32)), (3, .int (0 : Int32)), (0, .ref a_m), (1, .int p1), (2, .int p2)]) hx hb dX7_moved_40 hl (by decide) rfl (fun ls hl => ?_)
        refine (loop2_sound (r := (r, q0, q1)) (P := fun (x13 : Int32) (x14 : Int32) => ∀ (ls : Array Slot) (H : Heap) (locs : List Loc), lv_has ls 5 [(4, .int x14), (3, .int x13), (0, .ref a_m), (1, .int p1), (2, .int p2)] → Wd A s.heap (dC, dI) [(a_m, .inr (7, [.int (0 : Int32), .long m_trace, .ref a_m_text, .int m_typed, .int m_next, .int m_token, .int m_place, .int m_value, .int m_fault, .ref a_m_lifts, .ref a_m_price, .ref a_m_stood, .ref a_m_hands, .ref a_m_wanted, .int m_rooms, .int m_people, .int m_things, .int m_draftRooms, .int m_draftPeople, .int m_draftThings, .ref a_m_s, .ref a_m_kept, .ref a_m_isKept, .ref a_m_due, .int m_dueMany, .ref a_m_cost, .ref a_m_then, .ref a_m_by])), (a_m_lifts, .inl (cI, 8, .inl m_lifts)), (a_m_s, .inl (cI, 21, .inl m_s)), (a_m_kept, .inl (cI, 42, .inl m_kept)), (a_m_isKept, .inl (cZ, 2, .inl m_isKept)), (a_m_by, .inl (cI, 4, .inl m_by))] H locs → W p l e ({ frames := 1, cells := 0, slots := 0, locals := 28 } : Jvm.Room) s m args below meth c H locs 0 0 Q (F0 m 42 ls [])) (fun B42 x13 x14 ih42 hf => ?_) _ (0 : Int32) (0 : Int32) hf) ls H locs (lv_sub hl [0, 1, 2, 3, 4] rfl) hw
        intro ls H locs hl hw
        refine lv_iload hx hb dX7_moved_42 (lv_at hl 0 rfl) ?_
        refine lv_aload_n hx hb dX7_moved_44 rfl (lv_at hl 2 rfl) ?_
        refine r_get E hw iX7 0 16 rfl rfl (by decide) kf133 rfl rfl dX7_moved_45 ?_
        refine lv_icmp_ge (tgt := 90) hx hb dX7_moved_48 (by decide) (fun kc => ?_) (fun kc => ?_)
        · have hf := if_t hf kc
          refine lv_iload_n hx hb dX7_moved_90 rfl (lv_at hl 4 rfl) ?_
          refine lv_if_ne (tgt := 98) hx hb dX7_moved_91 (by decide) (fun kc => ?_) (fun kc => ?_)
          · have hf := if_f hf kc
            refine lv_aload_n hx hb dX7_moved_98 rfl (lv_at hl 2 rfl) ?_
            refine lv_iload_n hx hb dX7_moved_99 rfl (lv_at hl 1 rfl) ?_
            obtain ⟨r15, hu16, hf⟩ := bd1_some hf
            refine cl_i (wr := [(a_m, .inr (7, [.int (0 : Int32), .long m_trace, .ref a_m_text, .int m_typed, .int m_next, .int m_token, .int m_place, .int m_value, .int m_fault, .ref a_m_lifts, .ref a_m_price, .ref a_m_stood, .ref a_m_hands, .ref a_m_wanted, .int m_rooms, .int m_people, .int m_things, .int m_draftRooms, .int m_draftPeople, .int m_draftThings, .ref a_m_s, .ref a_m_kept, .ref a_m_isKept, .ref a_m_due, .int m_dueMany, .ref a_m_cost, .ref a_m_then, .ref a_m_by])), (a_m_lifts, .inl (cI, 8, .inl m_lifts)), (a_m_s, .inl (cI, 21, .inl m_s)), (a_m_kept, .inl (cI, 42, .inl m_kept)), (a_m_isKept, .inl (cZ, 2, .inl m_isKept)), (a_m_by, .inl (cI, 4, .inl m_by))]) (w2 := [(a_m, .inr (7, [.int (0 : Int32), .long m_trace, .ref a_m_text, .int m_typed, .int m_next, .int m_token, .int m_place, .int m_value, .int m_fault, .ref a_m_lifts, .ref a_m_price, .ref a_m_stood, .ref a_m_hands, .ref a_m_wanted, .int m_rooms, .int m_people, .int m_things, .int m_draftRooms, .int m_draftPeople, .int m_draftThings, .ref a_m_s, .ref a_m_kept, .ref a_m_isKept, .ref a_m_due, .int m_dueMany, .ref a_m_cost, .ref a_m_then, .ref a_m_by])), (a_m_lifts, .inl (cI, 8, .inl m_lifts)), (a_m_s, .inl (cI, 21, .inl m_s)), (a_m_kept, .inl (cI, 42, .inl m_kept)), (a_m_isKept, .inl (cZ, 2, .inl m_isKept)), (a_m_by, .inl (cI, 4, .inl m_by))]) E hw [] [0, 1, 2, 3, 4, 5] [0, 1, 2, 3, 4, 5] (va_runS (As := [.int x13]) (rest := [.ref a_m]) E.1 (c_X7_ones l dC dI cI cB cZ aK aV H.size x13 r15 hu16) (va_cwS 1 hts gX7_moved_X7_ones rfl rfl rfl hd_X7_ones ⟨Nat.le_of_ble_eq_true rfl, Nat.le_of_ble_eq_true rfl⟩) (pre_S E hw [] rfl rfl) rfl rfl hl.1 rfl (lv_room (Nat.le_of_ble_eq_true rfl)) dX7_moved_100 ⟨Nat.zero_le _, Nat.zero_le _⟩) rfl rfl rfl (by decide) rfl rfl (fun H locs hw => ?_)
            obtain ⟨r17, u18, hu19, hf⟩ := bd2_some hf
            refine cl_i (wr := [(a_m_s, .inl (cI, 21, .inl m_s)), (a_m_kept, .inl (cI, 42, .inl m_kept)), (a_m_isKept, .inl (cZ, 2, .inl m_isKept))]) (w2 := [(a_m, .inr (7, [.int (0 : Int32), .long m_trace, .ref a_m_text, .int m_typed, .int m_next, .int m_token, .int m_place, .int m_value, .int m_fault, .ref a_m_lifts, .ref a_m_price, .ref a_m_stood, .ref a_m_hands, .ref a_m_wanted, .int m_rooms, .int m_people, .int m_things, .int m_draftRooms, .int m_draftPeople, .int m_draftThings, .ref a_m_s, .ref a_m_kept, .ref a_m_isKept, .ref a_m_due, .int m_dueMany, .ref a_m_cost, .ref a_m_then, .ref a_m_by])), (a_m_lifts, .inl (cI, 8, .inl m_lifts)), (a_m_s, .inl (cI, 21, .inl m_s)), (a_m_kept, .inl (cI, 42, .inl m_kept)), (a_m_isKept, .inl (cZ, 2, .inl m_isKept)), (a_m_by, .inl (cI, 4, .inl u18))]) E hw [0, 1, 5] [2, 3, 4] [3, 4, 0, 1, 2, 5] (va_runV (As := [.int r15]) (rest := []) E.1 (c_X7_waysToCarry l dC dI cI cB cZ aK aV a_m a_m_text a_m_lifts a_m_price a_m_stood a_m_hands a_m_wanted a_m_s a_m_kept a_m_isKept a_m_due a_m_cost a_m_then a_m_by H.size (0 : Int32) m_trace m_typed m_next m_token m_place m_value m_fault m_rooms m_people m_things m_draftRooms m_draftPeople m_draftThings m_dueMany m_lifts m_by r15 r17 u18 hu19) (cwV 1 hts gX7_moved_X7_waysToCarry rfl rfl rfl hd_X7_waysToCarry ⟨Nat.le_of_ble_eq_true rfl, Nat.le_of_ble_eq_true rfl⟩) (pre_V E hw [0, 1, 5] rfl rfl rfl rfl) rfl rfl hl.1 rfl (lv_room (Nat.le_of_ble_eq_true rfl)) dX7_moved_103 ⟨Nat.zero_le _, Nat.zero_le _⟩) rfl rfl rfl (by decide) rfl rfl (fun H locs hw => ?_)
            obtain ⟨rfl, rfl, rfl⟩ := sm3 hf
            exact hret H locs ls 106 hw dX7_moved_106
          · have hf := if_t hf kc
            refine lv_iload_n hx hb dX7_moved_94 rfl (lv_at hl 1 rfl) ?_
            refine lv_goto (tgt := 106) hx hb dX7_moved_95 (by decide) ?_
            obtain ⟨rfl, rfl, rfl⟩ := sm3 hf
            exact hret H locs ls 106 hw dX7_moved_106
        · have hf := if_f hf kc
          refine lv_iload_n hx hb dX7_moved_51 rfl (lv_at hl 1 rfl) ?_
          refine lv_aload_n hx hb dX7_moved_52 rfl (lv_at hl 2 rfl) ?_
          refine r_get E hw iX7 0 20 rfl rfl (by decide) kf28 rfl rfl dX7_moved_53 ?_
          refine lv_iload hx hb dX7_moved_56 (lv_at hl 0 rfl) ?_
          obtain ⟨g20, hf⟩ := gd_some hf
          refine r_iald E hw 2 rfl g20 dX7_moved_58 ?_
          refine lv_aload_n hx hb dX7_moved_59 rfl (lv_at hl 2 rfl) ?_
          refine r_get E hw iX7 0 21 rfl rfl (by decide) kf31 rfl rfl dX7_moved_60 ?_
          refine lv_bipush (v := (21 : Int32)) hx hb dX7_moved_63 rfl ?_
          refine lv_iload_n hx hb dX7_moved_65 rfl (lv_at hl 3 rfl) ?_
          refine lv_imul hx hb dX7_moved_66 ?_
          refine lv_iload hx hb dX7_moved_67 (lv_at hl 0 rfl) ?_
          refine lv_iadd hx hb dX7_moved_69 ?_
          obtain ⟨g21, hf⟩ := gd_some hf
          refine r_iald E hw 3 rfl g21 dX7_moved_70 ?_
          refine lv_icmp_eq (tgt := 81) hx hb dX7_moved_71 (by decide) (fun kc => ?_) (fun kc => ?_)
          · have hf := if_t hf kc
            refine lv_iconst (v := (0 : Int32)) hx hb dX7_moved_81 rfl ?_
            refine lv_ior hx hb dX7_moved_82 ?_
            refine lv_istore_n (lv' := [(3, .int (x13 ||| (0 : Int32))), (4, .int x14), (0, .ref a_m), (1, .int p1), (2, .int p2)]) hx hb dX7_moved_83 rfl hl (by decide) rfl (fun ls hl => ?_)
            refine lv_iinc (v := (x14 + (1 : Int32))) (lv' := [(4, .int (x14 + (1 : Int32))), (3, .int (x13 ||| (0 : Int32))), (0, .ref a_m), (1, .int p1), (2, .int p2)]) hx hb dX7_moved_84 hl (k := 1) rfl rfl (by decide) rfl (fun ls hl => ?_)
            refine lv_goto (tgt := 42) hx hb dX7_moved_87 (by decide) ?_
            exact ih42 (x13 ||| (0 : Int32)) (x14 + (1 : Int32)) hf ls H locs (lv_sub hl [0, 1, 2, 3, 4] rfl) hw
          · have hf := if_f hf kc
            refine lv_iconst (v := (1 : Int32)) hx hb dX7_moved_74 rfl ?_
            refine lv_iload hx hb dX7_moved_75 (lv_at hl 0 rfl) ?_
            refine lv_ishl hx hb dX7_moved_77 ?_
            refine lv_goto (tgt := 82) hx hb dX7_moved_78 (by decide) ?_
            refine lv_ior hx hb dX7_moved_82 ?_
            refine lv_istore_n (lv' := [(3, .int (x13 ||| ((1 : Int32) <<< (x14 &&& 31)))), (4, .int x14), (0, .ref a_m), (1, .int p1), (2, .int p2)]) hx hb dX7_moved_83 rfl hl (by decide) rfl (fun ls hl => ?_)
            refine lv_iinc (v := (x14 + (1 : Int32))) (lv' := [(4, .int (x14 + (1 : Int32))), (3, .int (x13 ||| ((1 : Int32) <<< (x14 &&& 31)))), (0, .ref a_m), (1, .int p1), (2, .int p2)]) hx hb dX7_moved_84 hl (k := 1) rfl rfl (by decide) rfl (fun ls hl => ?_)
            refine lv_goto (tgt := 42) hx hb dX7_moved_87 (by decide) ?_
            exact ih42 (x13 ||| ((1 : Int32) <<< (x14 &&& 31))) (x14 + (1 : Int32)) hf ls H locs (lv_sub hl [0, 1, 2, 3, 4] rfl) hw
      · have hf := if_t hf kc
        refine lv_bipush (v := (-2 : Int32)) hx hb dX7_moved_34 rfl ?_
        obtain ⟨rfl, rfl, rfl⟩ := sm3 hf
        exact hret H locs ls 36 hw dX7_moved_36
    · have hf := if_t hf kc
      refine lv_iconst (v := (-1 : Int32)) hx hb dX7_moved_23 rfl ?_
      obtain ⟨rfl, rfl, rfl⟩ := sm3 hf
      exact hret H locs ls 24 hw dX7_moved_24
def f_X7_chain (p1 : Int32) (p2 : Int32) (m_rooms : Int32) (m_people : Int32) (m_things : Int32) (m_lifts : Nat → Int32) (m_hands : Nat → Int32) (m_s : Nat → Int32) : Option (Int32 × Int32) :=
  bd1 (f_X7_isRoom p1 m_rooms) (fun r1 => (if r1 = 0 then some ((-1 : Int32), (0 : Int32)) else bd1 (f_X7_in p2 (1 : Int32) (9 : Int32)) (fun r3 => (if r3 = 0 then some ((-1 : Int32), (0 : Int32)) else loop2 (fun B30 (x16 : Int32) (x17 : Int32) => (if m_people ≤ x17 then (if x16 = 0 then some ((-9 : Int32), (0 : Int32)) else loop2 (fun B70 (x21 : Int32) (x22 : Int32) => (if m_things ≤ x22 then gd (decide (¬ x16 = 0)) (some (((((x21 + x16) - (1 : Int32)) / x16) * p2), (0 : Int32))) else gd (inb x22 21) ((if (m_s x22.toNatClampNeg) = p1 then gd (inb x22 16) (B70 (x21 + (m_hands x22.toNatClampNeg)) (x22 + (1 : Int32))) else B70 (x21 + (0 : Int32)) (x22 + (1 : Int32)))))) FU (0 : Int32) (0 : Int32)) else gd (inb x17 8) (bd1 (f_X7_greater x16 (m_lifts x17.toNatClampNeg)) (fun r27 => B30 r27 (x17 + (1 : Int32)))))) FU (0 : Int32) (0 : Int32)))))
theorem hd_X7_chain : yX7_chain.cls = RX7 ∧ yX7_chain.cls ≠ "java/lang/invoke/MethodHandle" ∧ yX7_chain.cls ≠ "java/lang/invoke/VarHandle" ∧ (parseMethodDescriptor yX7_chain.desc).map (fun d => d.parameters.length) = some 2 := by decide +kernel
set_option maxHeartbeats 4000000 in
set_option maxRecDepth 100000 in
theorem c_X7_chain (l : Launch) (dC : Nat → ClassId) (dI : Nat → Nat → Nat) (cI cB cZ : ClassId) (aK aV : Nat → Nat) (a_m a_m_text a_m_lifts a_m_price a_m_stood a_m_hands a_m_wanted a_m_s a_m_kept a_m_isKept a_m_due a_m_cost a_m_then a_m_by : Nat) (sz : Nat) (m_thrown : Int32) (m_trace : Int64) (m_typed : Int32) (m_next : Int32) (m_token : Int32) (m_place : Int32) (m_value : Int32) (m_fault : Int32) (m_rooms : Int32) (m_people : Int32) (m_things : Int32) (m_draftRooms : Int32) (m_draftPeople : Int32) (m_draftThings : Int32) (m_dueMany : Int32) (m_lifts : Nat → Int32) (m_hands : Nat → Int32) (m_s : Nat → Int32) (p1 : Int32) (p2 : Int32) (r : Int32) (q0 : Int32) (hf : f_X7_chain p1 p2 m_rooms m_people m_things m_lifts m_hands m_s = some (r, q0)) : Met l yX7_chain wsX7_chain ({ frames := 2, cells := 0, slots := 0, locals := 43 } : Jvm.Room) (va_Pc [.ref a_m, .int p1, .int p2] (preW (dC, dI) (tyL cI cB cZ) aK aV sz [(a_m, .inr (7, [.int m_thrown, .long m_trace, .ref a_m_text, .int m_typed, .int m_next, .int m_token, .int m_place, .int m_value, .int m_fault, .ref a_m_lifts, .ref a_m_price, .ref a_m_stood, .ref a_m_hands, .ref a_m_wanted, .int m_rooms, .int m_people, .int m_things, .int m_draftRooms, .int m_draftPeople, .int m_draftThings, .ref a_m_s, .ref a_m_kept, .ref a_m_isKept, .ref a_m_due, .int m_dueMany, .ref a_m_cost, .ref a_m_then, .ref a_m_by])), (a_m_lifts, .inl (cI, 8, .inl m_lifts)), (a_m_hands, .inl (cI, 16, .inl m_hands)), (a_m_s, .inl (cI, 21, .inl m_s))])) (va_Qi (fun v (_ : Unit) => v = r) (postW (dC, dI) (tyL cI cB cZ) (va_A [(a_m, .inr (7, [.int m_thrown, .long m_trace, .ref a_m_text, .int m_typed, .int m_next, .int m_token, .int m_place, .int m_value, .int m_fault, .ref a_m_lifts, .ref a_m_price, .ref a_m_stood, .ref a_m_hands, .ref a_m_wanted, .int m_rooms, .int m_people, .int m_things, .int m_draftRooms, .int m_draftPeople, .int m_draftThings, .ref a_m_s, .ref a_m_kept, .ref a_m_isKept, .ref a_m_due, .int m_dueMany, .ref a_m_cost, .ref a_m_then, .ref a_m_by])), (a_m_lifts, .inl (cI, 8, .inl m_lifts)), (a_m_hands, .inl (cI, 16, .inl m_hands)), (a_m_s, .inl (cI, 21, .inl m_s))] sz) [(a_m, .inr (7, [.int q0, .long m_trace, .ref a_m_text, .int m_typed, .int m_next, .int m_token, .int m_place, .int m_value, .int m_fault, .ref a_m_lifts, .ref a_m_price, .ref a_m_stood, .ref a_m_hands, .ref a_m_wanted, .int m_rooms, .int m_people, .int m_things, .int m_draftRooms, .int m_draftPeople, .int m_draftThings, .ref a_m_s, .ref a_m_kept, .ref a_m_isKept, .ref a_m_due, .int m_dueMany, .ref a_m_cost, .ref a_m_then, .ref a_m_by])), (a_m_lifts, .inl (cI, 8, .inl m_lifts)), (a_m_hands, .inl (cI, 16, .inl m_hands)), (a_m_s, .inl (cI, 21, .inl m_s))]) (va_A [(a_m, .inr (7, [.int m_thrown, .long m_trace, .ref a_m_text, .int m_typed, .int m_next, .int m_token, .int m_place, .int m_value, .int m_fault, .ref a_m_lifts, .ref a_m_price, .ref a_m_stood, .ref a_m_hands, .ref a_m_wanted, .int m_rooms, .int m_people, .int m_things, .int m_draftRooms, .int m_draftPeople, .int m_draftThings, .ref a_m_s, .ref a_m_kept, .ref a_m_isKept, .ref a_m_due, .int m_dueMany, .ref a_m_cost, .ref a_m_then, .ref a_m_by])), (a_m_lifts, .inl (cI, 8, .inl m_lifts)), (a_m_hands, .inl (cI, 16, .inl m_hands)), (a_m_s, .inl (cI, 21, .inl m_s))] sz)) 0 0 (va_A [(a_m, .inr (7, [.int m_thrown, .long m_trace, .ref a_m_text, .int m_typed, .int m_next, .int m_token, .int m_place, .int m_value, .int m_fault, .ref a_m_lifts, .ref a_m_price, .ref a_m_stood, .ref a_m_hands, .ref a_m_wanted, .int m_rooms, .int m_people, .int m_things, .int m_draftRooms, .int m_draftPeople, .int m_draftThings, .ref a_m_s, .ref a_m_kept, .ref a_m_isKept, .ref a_m_due, .int m_dueMany, .ref a_m_cost, .ref a_m_then, .ref a_m_by])), (a_m_lifts, .inl (cI, 8, .inl m_lifts)), (a_m_hands, .inl (cI, 16, .inl m_hands)), (a_m_s, .inl (cI, 21, .inl m_s))] sz) := by
  refine met_i (cc := cX7_chain) (maxL := 6) (own := RX7) (by decide) rfl (Nat.le_of_ble_eq_true rfl) rfl (fun p e s m args below meth c Q A E hret ls H locs hl hw => ?_)
  obtain ⟨⟨hx, hb, hml, hown, hts⟩, hK, hN, hA, hX⟩ := id E
  have hl : lv_has ls 6 [(0, .ref a_m), (1, .int p1), (2, .int p2)] := hl
  have iX7 : ∀ w ∈ wsX70, w ∈ wsX7_chain := by decide +kernel
  have kf57 := hts (.fieldLink RX7 57 "FiveThingsModel" "thrown" "I") (by decide +kernel)
  have kf130 := hts (.fieldLink RX7 130 "FiveThingsModel" "people" "I") (by decide +kernel)
  have kf133 := hts (.fieldLink RX7 133 "FiveThingsModel" "things" "I") (by decide +kernel)
  have kf28 := hts (.fieldLink RX7 28 "FiveThingsModel" "s" "[I") (by decide +kernel)
  have kf22 := hts (.fieldLink RX7 22 "FiveThingsModel" "hands" "[I") (by decide +kernel)
  have kf13 := hts (.fieldLink RX7 13 "FiveThingsModel" "lifts" "[I") (by decide +kernel)
  unfold f_X7_chain at hf
  refine lv_aload_n hx hb dX7_chain_0 rfl (lv_at hl 0 rfl) ?_
  refine lv_iconst (v := (0 : Int32)) hx hb dX7_chain_1 rfl ?_
  refine r_put E hw iX7 tyX7_ok nmX7 0 0 rfl rfl (by decide) kf57 rfl rfl rfl rfl (Nat.le_of_ble_eq_true rfl) [(a_m, .inr (7, [.int (0 : Int32), .long m_trace, .ref a_m_text, .int m_typed, .int m_next, .int m_token, .int m_place, .int m_value, .int m_fault, .ref a_m_lifts, .ref a_m_price, .ref a_m_stood, .ref a_m_hands, .ref a_m_wanted, .int m_rooms, .int m_people, .int m_things, .int m_draftRooms, .int m_draftPeople, .int m_draftThings, .ref a_m_s, .ref a_m_kept, .ref a_m_isKept, .ref a_m_due, .int m_dueMany, .ref a_m_cost, .ref a_m_then, .ref a_m_by])), (a_m_lifts, .inl (cI, 8, .inl m_lifts)), (a_m_hands, .inl (cI, 16, .inl m_hands)), (a_m_s, .inl (cI, 21, .inl m_s))] rfl dX7_chain_2 (fun H locs hw => ?_)
  refine lv_aload_n hx hb dX7_chain_5 rfl (lv_at hl 0 rfl) ?_
  refine lv_iload_n hx hb dX7_chain_6 rfl (lv_at hl 1 rfl) ?_
  obtain ⟨r1, hu2, hf⟩ := bd1_some hf
  refine cl_i (wr := [(a_m_lifts, .inl (cI, 8, .inl m_lifts)), (a_m_hands, .inl (cI, 16, .inl m_hands)), (a_m_s, .inl (cI, 21, .inl m_s))]) (w2 := [(a_m, .inr (7, [.int (0 : Int32), .long m_trace, .ref a_m_text, .int m_typed, .int m_next, .int m_token, .int m_place, .int m_value, .int m_fault, .ref a_m_lifts, .ref a_m_price, .ref a_m_stood, .ref a_m_hands, .ref a_m_wanted, .int m_rooms, .int m_people, .int m_things, .int m_draftRooms, .int m_draftPeople, .int m_draftThings, .ref a_m_s, .ref a_m_kept, .ref a_m_isKept, .ref a_m_due, .int m_dueMany, .ref a_m_cost, .ref a_m_then, .ref a_m_by])), (a_m_lifts, .inl (cI, 8, .inl m_lifts)), (a_m_hands, .inl (cI, 16, .inl m_hands)), (a_m_s, .inl (cI, 21, .inl m_s))]) E hw [0] [1, 2, 3] [3, 0, 1, 2] (va_runV (As := [.int p1]) (rest := []) E.1 (c_X7_isRoom l dC dI cI cB cZ aK aV a_m a_m_text a_m_lifts a_m_price a_m_stood a_m_hands a_m_wanted a_m_s a_m_kept a_m_isKept a_m_due a_m_cost a_m_then a_m_by H.size (0 : Int32) m_trace m_typed m_next m_token m_place m_value m_fault m_rooms m_people m_things m_draftRooms m_draftPeople m_draftThings m_dueMany p1 r1 hu2) (cwV 1 hts gX7_chain_X7_isRoom rfl rfl rfl hd_X7_isRoom ⟨Nat.le_of_ble_eq_true rfl, Nat.le_of_ble_eq_true rfl⟩) (pre_V E hw [0] rfl rfl rfl rfl) rfl rfl hl.1 rfl (lv_room (Nat.le_of_ble_eq_true rfl)) dX7_chain_7 ⟨Nat.zero_le _, Nat.zero_le _⟩) rfl rfl rfl (by decide) rfl rfl (fun H locs hw => ?_)
  refine lv_if_eq (tgt := 23) hx hb dX7_chain_10 (by decide) (fun kc => ?_) (fun kc => ?_)
  · have hf := if_t hf kc
    refine lv_iconst (v := (-1 : Int32)) hx hb dX7_chain_23 rfl ?_
    obtain ⟨rfl, rfl⟩ := sm2 hf
    exact hret H locs ls 24 hw dX7_chain_24
  · have hf := if_f hf kc
    refine lv_iload_n hx hb dX7_chain_13 rfl (lv_at hl 2 rfl) ?_
    refine lv_iconst (v := (1 : Int32)) hx hb dX7_chain_14 rfl ?_
    refine lv_bipush (v := (9 : Int32)) hx hb dX7_chain_15 rfl ?_
    obtain ⟨r3, hu4, hf⟩ := bd1_some hf
    refine cl_i (wr := [(a_m, .inr (7, [.int (0 : Int32), .long m_trace, .ref a_m_text, .int m_typed, .int m_next, .int m_token, .int m_place, .int m_value, .int m_fault, .ref a_m_lifts, .ref a_m_price, .ref a_m_stood, .ref a_m_hands, .ref a_m_wanted, .int m_rooms, .int m_people, .int m_things, .int m_draftRooms, .int m_draftPeople, .int m_draftThings, .ref a_m_s, .ref a_m_kept, .ref a_m_isKept, .ref a_m_due, .int m_dueMany, .ref a_m_cost, .ref a_m_then, .ref a_m_by])), (a_m_lifts, .inl (cI, 8, .inl m_lifts)), (a_m_hands, .inl (cI, 16, .inl m_hands)), (a_m_s, .inl (cI, 21, .inl m_s))]) (w2 := [(a_m, .inr (7, [.int (0 : Int32), .long m_trace, .ref a_m_text, .int m_typed, .int m_next, .int m_token, .int m_place, .int m_value, .int m_fault, .ref a_m_lifts, .ref a_m_price, .ref a_m_stood, .ref a_m_hands, .ref a_m_wanted, .int m_rooms, .int m_people, .int m_things, .int m_draftRooms, .int m_draftPeople, .int m_draftThings, .ref a_m_s, .ref a_m_kept, .ref a_m_isKept, .ref a_m_due, .int m_dueMany, .ref a_m_cost, .ref a_m_then, .ref a_m_by])), (a_m_lifts, .inl (cI, 8, .inl m_lifts)), (a_m_hands, .inl (cI, 16, .inl m_hands)), (a_m_s, .inl (cI, 21, .inl m_s))]) E hw [] [0, 1, 2, 3] [0, 1, 2, 3] (va_runS (As := [.int p2, .int (1 : Int32), .int (9 : Int32)]) (rest := []) E.1 (c_X7_in l dC dI cI cB cZ aK aV H.size p2 (1 : Int32) (9 : Int32) r3 hu4) (va_cwS 3 hts gX7_chain_X7_in rfl rfl rfl hd_X7_in ⟨Nat.le_of_ble_eq_true rfl, Nat.le_of_ble_eq_true rfl⟩) (pre_S E hw [] rfl rfl) rfl rfl hl.1 rfl (lv_room (Nat.le_of_ble_eq_true rfl)) dX7_chain_17 ⟨Nat.zero_le _, Nat.zero_le _⟩) rfl rfl rfl (by decide) rfl rfl (fun H locs hw => ?_)
    refine lv_if_ne (tgt := 25) hx hb dX7_chain_20 (by decide) (fun kc => ?_) (fun kc => ?_)
    · have hf := if_f hf kc
      refine lv_iconst (v := (0 : Int32)) hx hb dX7_chain_25 rfl ?_
      refine lv_istore_n (lv' := [(3, .int (0 : Int32)), (0, .ref a_m), (1, .int p1), (2, .int p2)]) hx hb dX7_chain_26 rfl hl (by decide) rfl (fun ls hl => ?_)
      refine lv_iconst (v := (0 : Int32)) hx hb dX7_chain_27 rfl ?_
      refine lv_istore (lv' := [(4, .int (0 : Int32)), (3, .int (0 : Int32)), (0, .ref a_m), (1, .int p1), (2, .int p2)]) hx hb dX7_chain_28 hl (by decide) rfl (fun ls hl => ?_)
      refine (loop2_sound (r := (r, q0)) (P := fun (x16 : Int32) (x17 : Int32) => ∀ (ls : Array Slot) (H : Heap) (locs : List Loc), lv_has ls 6 [(4, .int x17), (3, .int x16), (0, .ref a_m), (1, .int p1), (2, .int p2)] → Wd A s.heap (dC, dI) [(a_m, .inr (7, [.int (0 : Int32), .long m_trace, .ref a_m_text, .int m_typed, .int m_next, .int m_token, .int m_place, .int m_value, .int m_fault, .ref a_m_lifts, .ref a_m_price, .ref a_m_stood, .ref a_m_hands, .ref a_m_wanted, .int m_rooms, .int m_people, .int m_things, .int m_draftRooms, .int m_draftPeople, .int m_draftThings, .ref a_m_s, .ref a_m_kept, .ref a_m_isKept, .ref a_m_due, .int m_dueMany, .ref a_m_cost, .ref a_m_then, .ref a_m_by])), (a_m_lifts, .inl (cI, 8, .inl m_lifts)), (a_m_hands, .inl (cI, 16, .inl m_hands)), (a_m_s, .inl (cI, 21, .inl m_s))] H locs → W p l e ({ frames := 2, cells := 0, slots := 0, locals := 43 } : Jvm.Room) s m args below meth c H locs 0 0 Q (F0 m 30 ls [])) (fun B30 x16 x17 ih30 hf => ?_) _ (0 : Int32) (0 : Int32) hf) ls H locs (lv_sub hl [0, 1, 2, 3, 4] rfl) hw
      intro ls H locs hl hw
      refine lv_iload hx hb dX7_chain_30 (lv_at hl 0 rfl) ?_
      refine lv_aload_n hx hb dX7_chain_32 rfl (lv_at hl 2 rfl) ?_
      refine r_get E hw iX7 0 15 rfl rfl (by decide) kf130 rfl rfl dX7_chain_33 ?_
      refine lv_icmp_ge (tgt := 57) hx hb dX7_chain_36 (by decide) (fun kc => ?_) (fun kc => ?_)
      · have hf := if_t hf kc
        refine lv_iload_n hx hb dX7_chain_57 rfl (lv_at hl 1 rfl) ?_
        refine lv_if_ne (tgt := 64) hx hb dX7_chain_58 (by decide) (fun kc => ?_) (fun kc => ?_)
        · have hf := if_f hf kc
          refine lv_iconst (v := (0 : Int32)) hx hb dX7_chain_64 rfl ?_
          refine lv_istore (lv' := [(4, .int (0 : Int32)), (3, .int x16), (0, .ref a_m), (1, .int p1), (2, .int p2)]) hx hb dX7_chain_65 hl (by decide) rfl (fun ls hl => ?_)
          refine lv_iconst (v := (0 : Int32)) hx hb dX7_chain_67 rfl ?_
          refine lv_istore (lv' := [(5, .int (0 : Int32)), (4, .int (0 : Int32)), (3, .int x16), (0, .ref a_m), (1, .int p1), (2, .int p2)]) hx hb dX7_chain_68 hl (by decide) rfl (fun ls hl => ?_)
          refine (loop2_sound (r := (r, q0)) (P := fun (x21 : Int32) (x22 : Int32) => ∀ (ls : Array Slot) (H : Heap) (locs : List Loc), lv_has ls 6 [(5, .int x22), (4, .int x21), (3, .int x16), (0, .ref a_m), (1, .int p1), (2, .int p2)] → Wd A s.heap (dC, dI) [(a_m, .inr (7, [.int (0 : Int32), .long m_trace, .ref a_m_text, .int m_typed, .int m_next, .int m_token, .int m_place, .int m_value, .int m_fault, .ref a_m_lifts, .ref a_m_price, .ref a_m_stood, .ref a_m_hands, .ref a_m_wanted, .int m_rooms, .int m_people, .int m_things, .int m_draftRooms, .int m_draftPeople, .int m_draftThings, .ref a_m_s, .ref a_m_kept, .ref a_m_isKept, .ref a_m_due, .int m_dueMany, .ref a_m_cost, .ref a_m_then, .ref a_m_by])), (a_m_lifts, .inl (cI, 8, .inl m_lifts)), (a_m_hands, .inl (cI, 16, .inl m_hands)), (a_m_s, .inl (cI, 21, .inl m_s))] H locs → W p l e ({ frames := 2, cells := 0, slots := 0, locals := 43 } : Jvm.Room) s m args below meth c H locs 0 0 Q (F0 m 70 ls [])) (fun B70 x21 x22 ih70 hf => ?_) _ (0 : Int32) (0 : Int32) hf) ls H locs (lv_sub hl [0, 1, 2, 3, 4, 5] rfl) hw
          intro ls H locs hl hw
          refine lv_iload hx hb dX7_chain_70 (lv_at hl 0 rfl) ?_
          refine lv_aload_n hx hb dX7_chain_72 rfl (lv_at hl 3 rfl) ?_
          refine r_get E hw iX7 0 16 rfl rfl (by decide) kf133 rfl rfl dX7_chain_73 ?_
          refine lv_icmp_ge (tgt := 112) hx hb dX7_chain_76 (by decide) (fun kc => ?_) (fun kc => ?_)
          · have hf := if_t hf kc
            refine lv_iload hx hb dX7_chain_112 (lv_at hl 1 rfl) ?_
            refine lv_iload_n hx hb dX7_chain_114 rfl (lv_at hl 2 rfl) ?_
            refine lv_iadd hx hb dX7_chain_115 ?_
            refine lv_iconst (v := (1 : Int32)) hx hb dX7_chain_116 rfl ?_
            refine lv_isub hx hb dX7_chain_117 ?_
            refine lv_iload_n hx hb dX7_chain_118 rfl (lv_at hl 2 rfl) ?_
            obtain ⟨g23, hf⟩ := gd_some hf
            refine lv_idiv hx hb dX7_chain_119 (of_decide_eq_true g23) ?_
            refine lv_iload_n hx hb dX7_chain_120 rfl (lv_at hl 5 rfl) ?_
            refine lv_imul hx hb dX7_chain_121 ?_
            obtain ⟨rfl, rfl⟩ := sm2 hf
            exact hret H locs ls 122 hw dX7_chain_122
          · have hf := if_f hf kc
            refine lv_iload hx hb dX7_chain_79 (lv_at hl 1 rfl) ?_
            refine lv_aload_n hx hb dX7_chain_81 rfl (lv_at hl 3 rfl) ?_
            refine r_get E hw iX7 0 20 rfl rfl (by decide) kf28 rfl rfl dX7_chain_82 ?_
            refine lv_iload hx hb dX7_chain_85 (lv_at hl 0 rfl) ?_
            obtain ⟨g24, hf⟩ := gd_some hf
            refine r_iald E hw 3 rfl g24 dX7_chain_87 ?_
            refine lv_iload_n hx hb dX7_chain_88 rfl (lv_at hl 4 rfl) ?_
            refine lv_icmp_ne (tgt := 102) hx hb dX7_chain_89 (by decide) (fun kc => ?_) (fun kc => ?_)
            · have hf := if_f hf kc
              refine lv_iconst (v := (0 : Int32)) hx hb dX7_chain_102 rfl ?_
              refine lv_iadd hx hb dX7_chain_103 ?_
              refine lv_istore (lv' := [(4, .int (x21 + (0 : Int32))), (5, .int x22), (3, .int x16), (0, .ref a_m), (1, .int p1), (2, .int p2)]) hx hb dX7_chain_104 hl (by decide) rfl (fun ls hl => ?_)
              refine lv_iinc (v := (x22 + (1 : Int32))) (lv' := [(5, .int (x22 + (1 : Int32))), (4, .int (x21 + (0 : Int32))), (3, .int x16), (0, .ref a_m), (1, .int p1), (2, .int p2)]) hx hb dX7_chain_106 hl (k := 1) rfl rfl (by decide) rfl (fun ls hl => ?_)
              refine lv_goto (tgt := 70) hx hb dX7_chain_109 (by decide) ?_
              exact ih70 (x21 + (0 : Int32)) (x22 + (1 : Int32)) hf ls H locs (lv_sub hl [0, 1, 2, 3, 4, 5] rfl) hw
            · have hf := if_t hf kc
              refine lv_aload_n hx hb dX7_chain_92 rfl (lv_at hl 3 rfl) ?_
              refine r_get E hw iX7 0 12 rfl rfl (by decide) kf22 rfl rfl dX7_chain_93 ?_
              refine lv_iload hx hb dX7_chain_96 (lv_at hl 0 rfl) ?_
              obtain ⟨g25, hf⟩ := gd_some hf
              refine r_iald E hw 2 rfl g25 dX7_chain_98 ?_
              refine lv_goto (tgt := 103) hx hb dX7_chain_99 (by decide) ?_
              refine lv_iadd hx hb dX7_chain_103 ?_
              refine lv_istore (lv' := [(4, .int (x21 + (m_hands x22.toNatClampNeg))), (5, .int x22), (3, .int x16), (0, .ref a_m), (1, .int p1), (2, .int p2)]) hx hb dX7_chain_104 hl (by decide) rfl (fun ls hl => ?_)
              refine lv_iinc (v := (x22 + (1 : Int32))) (lv' := [(5, .int (x22 + (1 : Int32))), (4, .int (x21 + (m_hands x22.toNatClampNeg))), (3, .int x16), (0, .ref a_m), (1, .int p1), (2, .int p2)]) hx hb dX7_chain_106 hl (k := 1) rfl rfl (by decide) rfl (fun ls hl => ?_)
              refine lv_goto (tgt := 70) hx hb dX7_chain_109 (by decide) ?_
              exact ih70 (x21 + (m_hands x22.toNatClampNeg)) (x22 + (1 : Int32)) hf ls H locs (lv_sub hl [0, 1, 2, 3, 4, 5] rfl) hw
        · have hf := if_t hf kc
          refine lv_bipush (v := (-9 : Int32)) hx hb dX7_chain_61 rfl ?_
          obtain ⟨rfl, rfl⟩ := sm2 hf
          exact hret H locs ls 63 hw dX7_chain_63
      · have hf := if_f hf kc
        refine lv_iload_n hx hb dX7_chain_39 rfl (lv_at hl 1 rfl) ?_
        refine lv_aload_n hx hb dX7_chain_40 rfl (lv_at hl 2 rfl) ?_
        refine r_get E hw iX7 0 9 rfl rfl (by decide) kf13 rfl rfl dX7_chain_41 ?_
        refine lv_iload hx hb dX7_chain_44 (lv_at hl 0 rfl) ?_
        obtain ⟨g26, hf⟩ := gd_some hf
        refine r_iald E hw 1 rfl g26 dX7_chain_46 ?_
        obtain ⟨r27, hu28, hf⟩ := bd1_some hf
        refine cl_i (wr := [(a_m, .inr (7, [.int (0 : Int32), .long m_trace, .ref a_m_text, .int m_typed, .int m_next, .int m_token, .int m_place, .int m_value, .int m_fault, .ref a_m_lifts, .ref a_m_price, .ref a_m_stood, .ref a_m_hands, .ref a_m_wanted, .int m_rooms, .int m_people, .int m_things, .int m_draftRooms, .int m_draftPeople, .int m_draftThings, .ref a_m_s, .ref a_m_kept, .ref a_m_isKept, .ref a_m_due, .int m_dueMany, .ref a_m_cost, .ref a_m_then, .ref a_m_by])), (a_m_lifts, .inl (cI, 8, .inl m_lifts)), (a_m_hands, .inl (cI, 16, .inl m_hands)), (a_m_s, .inl (cI, 21, .inl m_s))]) (w2 := [(a_m, .inr (7, [.int (0 : Int32), .long m_trace, .ref a_m_text, .int m_typed, .int m_next, .int m_token, .int m_place, .int m_value, .int m_fault, .ref a_m_lifts, .ref a_m_price, .ref a_m_stood, .ref a_m_hands, .ref a_m_wanted, .int m_rooms, .int m_people, .int m_things, .int m_draftRooms, .int m_draftPeople, .int m_draftThings, .ref a_m_s, .ref a_m_kept, .ref a_m_isKept, .ref a_m_due, .int m_dueMany, .ref a_m_cost, .ref a_m_then, .ref a_m_by])), (a_m_lifts, .inl (cI, 8, .inl m_lifts)), (a_m_hands, .inl (cI, 16, .inl m_hands)), (a_m_s, .inl (cI, 21, .inl m_s))]) E hw [] [0, 1, 2, 3] [0, 1, 2, 3] (va_runS (As := [.int x16, .int (m_lifts x17.toNatClampNeg)]) (rest := []) E.1 (c_X7_greater l dC dI cI cB cZ aK aV H.size x16 (m_lifts x17.toNatClampNeg) r27 hu28) (va_cwS 2 hts gX7_chain_X7_greater rfl rfl rfl hd_X7_greater ⟨Nat.le_of_ble_eq_true rfl, Nat.le_of_ble_eq_true rfl⟩) (pre_S E hw [] rfl rfl) rfl rfl hl.1 rfl (lv_room (Nat.le_of_ble_eq_true rfl)) dX7_chain_47 ⟨Nat.zero_le _, Nat.zero_le _⟩) rfl rfl rfl (by decide) rfl rfl (fun H locs hw => ?_)
        refine lv_istore_n (lv' := [(3, .int r27), (4, .int x17), (0, .ref a_m), (1, .int p1), (2, .int p2)]) hx hb dX7_chain_50 rfl hl (by decide) rfl (fun ls hl => ?_)
        refine lv_iinc (v := (x17 + (1 : Int32))) (lv' := [(4, .int (x17 + (1 : Int32))), (3, .int r27), (0, .ref a_m), (1, .int p1), (2, .int p2)]) hx hb dX7_chain_51 hl (k := 1) rfl rfl (by decide) rfl (fun ls hl => ?_)
        refine lv_goto (tgt := 30) hx hb dX7_chain_54 (by decide) ?_
        exact ih30 r27 (x17 + (1 : Int32)) hf ls H locs (lv_sub hl [0, 1, 2, 3, 4] rfl) hw
    · have hf := if_t hf kc
      refine lv_iconst (v := (-1 : Int32)) hx hb dX7_chain_23 rfl ?_
      obtain ⟨rfl, rfl⟩ := sm2 hf
      exact hret H locs ls 24 hw dX7_chain_24
def f_X7_rate (p1 : Int32) (p2 : Int32) (m_trace : Int64) (m_people : Int32) (m_lifts : Nat → Int32) (m_price : Nat → Int32) (m_s : Nat → Int32) : Option (Int32 × Int32 × Int64) :=
  bd1 (f_X7_in p1 (0 : Int32) (5 : Int32)) (fun r1 => (if r1 = 0 then some ((-1000000 : Int32), (0 : Int32), m_trace) else bd1 (f_X7_isPerson p2 m_people) (fun r3 => (if r3 = 0 then some ((-1000000 : Int32), (0 : Int32), m_trace) else gd (inb ((16 : Int32) + p2) 21) (gd (inb p2 8) (lt (((m_s ((16 : Int32) + p2).toNatClampNeg) + (m_lifts p2.toNatClampNeg))) (fun z7 => gd (inb p2 8) (lt (((m_s ((16 : Int32) + p2).toNatClampNeg) - (m_price p2.toNatClampNeg))) (fun z9 => jn (fun (x10 : Int64) => (if p1 = 0 then some ((m_s ((16 : Int32) + p2).toNatClampNeg), (0 : Int32), (m_trace + x10)) else (if p1 = (1 : Int32) then some (z7, (0 : Int32), (m_trace + x10)) else (if p1 = (2 : Int32) then some (z9, (0 : Int32), (m_trace + x10)) else (if p1 = (3 : Int32) then some (((2 : Int32) * z7), (0 : Int32), (m_trace + x10)) else (if p1 = (4 : Int32) then some ((z9 + p2), (0 : Int32), (m_trace + x10)) else gd (inb (20 : Int32) 21) (some (((m_s ((16 : Int32) + p2).toNatClampNeg) + (m_s (20 : Int32).toNatClampNeg)), (0 : Int32), (m_trace + x10))))))))) (fun J115 => (if p1 = 0 then J115 (1 : Int64) else (if p1 = (1 : Int32) then J115 (11 : Int64) else (if p1 = (2 : Int32) then J115 (101 : Int64) else (if p1 = (3 : Int32) then J115 (1011 : Int64) else (if p1 = (4 : Int32) then J115 (10101 : Int64) else J115 (100001 : Int64))))))))))))))))
theorem hd_X7_rate : yX7_rate.cls = RX7 ∧ yX7_rate.cls ≠ "java/lang/invoke/MethodHandle" ∧ yX7_rate.cls ≠ "java/lang/invoke/VarHandle" ∧ (parseMethodDescriptor yX7_rate.desc).map (fun d => d.parameters.length) = some 2 := by decide +kernel
set_option maxHeartbeats 4000000 in
set_option maxRecDepth 100000 in
theorem c_X7_rate (l : Launch) (dC : Nat → ClassId) (dI : Nat → Nat → Nat) (cI cB cZ : ClassId) (aK aV : Nat → Nat) (a_m a_m_text a_m_lifts a_m_price a_m_stood a_m_hands a_m_wanted a_m_s a_m_kept a_m_isKept a_m_due a_m_cost a_m_then a_m_by : Nat) (sz : Nat) (m_thrown : Int32) (m_trace : Int64) (m_typed : Int32) (m_next : Int32) (m_token : Int32) (m_place : Int32) (m_value : Int32) (m_fault : Int32) (m_rooms : Int32) (m_people : Int32) (m_things : Int32) (m_draftRooms : Int32) (m_draftPeople : Int32) (m_draftThings : Int32) (m_dueMany : Int32) (m_lifts : Nat → Int32) (m_price : Nat → Int32) (m_s : Nat → Int32) (p1 : Int32) (p2 : Int32) (r : Int32) (q0 : Int32) (q1 : Int64) (hf : f_X7_rate p1 p2 m_trace m_people m_lifts m_price m_s = some (r, q0, q1)) : Met l yX7_rate wsX7_rate ({ frames := 2, cells := 0, slots := 0, locals := 43 } : Jvm.Room) (va_Pc [.ref a_m, .int p1, .int p2] (preW (dC, dI) (tyL cI cB cZ) aK aV sz [(a_m, .inr (7, [.int m_thrown, .long m_trace, .ref a_m_text, .int m_typed, .int m_next, .int m_token, .int m_place, .int m_value, .int m_fault, .ref a_m_lifts, .ref a_m_price, .ref a_m_stood, .ref a_m_hands, .ref a_m_wanted, .int m_rooms, .int m_people, .int m_things, .int m_draftRooms, .int m_draftPeople, .int m_draftThings, .ref a_m_s, .ref a_m_kept, .ref a_m_isKept, .ref a_m_due, .int m_dueMany, .ref a_m_cost, .ref a_m_then, .ref a_m_by])), (a_m_lifts, .inl (cI, 8, .inl m_lifts)), (a_m_price, .inl (cI, 8, .inl m_price)), (a_m_s, .inl (cI, 21, .inl m_s))])) (va_Qi (fun v (_ : Unit) => v = r) (postW (dC, dI) (tyL cI cB cZ) (va_A [(a_m, .inr (7, [.int m_thrown, .long m_trace, .ref a_m_text, .int m_typed, .int m_next, .int m_token, .int m_place, .int m_value, .int m_fault, .ref a_m_lifts, .ref a_m_price, .ref a_m_stood, .ref a_m_hands, .ref a_m_wanted, .int m_rooms, .int m_people, .int m_things, .int m_draftRooms, .int m_draftPeople, .int m_draftThings, .ref a_m_s, .ref a_m_kept, .ref a_m_isKept, .ref a_m_due, .int m_dueMany, .ref a_m_cost, .ref a_m_then, .ref a_m_by])), (a_m_lifts, .inl (cI, 8, .inl m_lifts)), (a_m_price, .inl (cI, 8, .inl m_price)), (a_m_s, .inl (cI, 21, .inl m_s))] sz) [(a_m, .inr (7, [.int q0, .long q1, .ref a_m_text, .int m_typed, .int m_next, .int m_token, .int m_place, .int m_value, .int m_fault, .ref a_m_lifts, .ref a_m_price, .ref a_m_stood, .ref a_m_hands, .ref a_m_wanted, .int m_rooms, .int m_people, .int m_things, .int m_draftRooms, .int m_draftPeople, .int m_draftThings, .ref a_m_s, .ref a_m_kept, .ref a_m_isKept, .ref a_m_due, .int m_dueMany, .ref a_m_cost, .ref a_m_then, .ref a_m_by])), (a_m_lifts, .inl (cI, 8, .inl m_lifts)), (a_m_price, .inl (cI, 8, .inl m_price)), (a_m_s, .inl (cI, 21, .inl m_s))]) (va_A [(a_m, .inr (7, [.int m_thrown, .long m_trace, .ref a_m_text, .int m_typed, .int m_next, .int m_token, .int m_place, .int m_value, .int m_fault, .ref a_m_lifts, .ref a_m_price, .ref a_m_stood, .ref a_m_hands, .ref a_m_wanted, .int m_rooms, .int m_people, .int m_things, .int m_draftRooms, .int m_draftPeople, .int m_draftThings, .ref a_m_s, .ref a_m_kept, .ref a_m_isKept, .ref a_m_due, .int m_dueMany, .ref a_m_cost, .ref a_m_then, .ref a_m_by])), (a_m_lifts, .inl (cI, 8, .inl m_lifts)), (a_m_price, .inl (cI, 8, .inl m_price)), (a_m_s, .inl (cI, 21, .inl m_s))] sz)) 0 0 (va_A [(a_m, .inr (7, [.int m_thrown, .long m_trace, .ref a_m_text, .int m_typed, .int m_next, .int m_token, .int m_place, .int m_value, .int m_fault, .ref a_m_lifts, .ref a_m_price, .ref a_m_stood, .ref a_m_hands, .ref a_m_wanted, .int m_rooms, .int m_people, .int m_things, .int m_draftRooms, .int m_draftPeople, .int m_draftThings, .ref a_m_s, .ref a_m_kept, .ref a_m_isKept, .ref a_m_due, .int m_dueMany, .ref a_m_cost, .ref a_m_then, .ref a_m_by])), (a_m_lifts, .inl (cI, 8, .inl m_lifts)), (a_m_price, .inl (cI, 8, .inl m_price)), (a_m_s, .inl (cI, 21, .inl m_s))] sz) := by
  refine met_i (cc := cX7_rate) (maxL := 6) (own := RX7) (by decide) rfl (Nat.le_of_ble_eq_true rfl) rfl (fun p e s m args below meth c Q A E hret ls H locs hl hw => ?_)
  obtain ⟨⟨hx, hb, hml, hown, hts⟩, hK, hN, hA, hX⟩ := id E
  have hl : lv_has ls 6 [(0, .ref a_m), (1, .int p1), (2, .int p2)] := hl
  have iX7 : ∀ w ∈ wsX70, w ∈ wsX7_rate := by decide +kernel
  have kf57 := hts (.fieldLink RX7 57 "FiveThingsModel" "thrown" "I") (by decide +kernel)
  have kc162 := hts (.constant RX7 162 (-1000000)) (by decide +kernel)
  have kf28 := hts (.fieldLink RX7 28 "FiveThingsModel" "s" "[I") (by decide +kernel)
  have kf13 := hts (.fieldLink RX7 13 "FiveThingsModel" "lifts" "[I") (by decide +kernel)
  have kf16 := hts (.fieldLink RX7 16 "FiveThingsModel" "price" "[I") (by decide +kernel)
  have kf206 := hts (.fieldLink RX7 206 "FiveThingsModel" "trace" "J") (by decide +kernel)
  have kc218 := hts (.constantLong RX7 218 (100001)) (by decide +kernel)
  have kc216 := hts (.constantLong RX7 216 (10101)) (by decide +kernel)
  have kc214 := hts (.constantLong RX7 214 (1011)) (by decide +kernel)
  have kc212 := hts (.constantLong RX7 212 (101)) (by decide +kernel)
  have kc210 := hts (.constantLong RX7 210 (11)) (by decide +kernel)
  unfold f_X7_rate at hf
  refine lv_aload_n hx hb dX7_rate_0 rfl (lv_at hl 0 rfl) ?_
  refine lv_iconst (v := (0 : Int32)) hx hb dX7_rate_1 rfl ?_
  refine r_put E hw iX7 tyX7_ok nmX7 0 0 rfl rfl (by decide) kf57 rfl rfl rfl rfl (Nat.le_of_ble_eq_true rfl) [(a_m, .inr (7, [.int (0 : Int32), .long m_trace, .ref a_m_text, .int m_typed, .int m_next, .int m_token, .int m_place, .int m_value, .int m_fault, .ref a_m_lifts, .ref a_m_price, .ref a_m_stood, .ref a_m_hands, .ref a_m_wanted, .int m_rooms, .int m_people, .int m_things, .int m_draftRooms, .int m_draftPeople, .int m_draftThings, .ref a_m_s, .ref a_m_kept, .ref a_m_isKept, .ref a_m_due, .int m_dueMany, .ref a_m_cost, .ref a_m_then, .ref a_m_by])), (a_m_lifts, .inl (cI, 8, .inl m_lifts)), (a_m_price, .inl (cI, 8, .inl m_price)), (a_m_s, .inl (cI, 21, .inl m_s))] rfl dX7_rate_2 (fun H locs hw => ?_)
  refine lv_iload_n hx hb dX7_rate_5 rfl (lv_at hl 1 rfl) ?_
  refine lv_iconst (v := (0 : Int32)) hx hb dX7_rate_6 rfl ?_
  refine lv_iconst (v := (5 : Int32)) hx hb dX7_rate_7 rfl ?_
  obtain ⟨r1, hu2, hf⟩ := bd1_some hf
  refine cl_i (wr := [(a_m, .inr (7, [.int (0 : Int32), .long m_trace, .ref a_m_text, .int m_typed, .int m_next, .int m_token, .int m_place, .int m_value, .int m_fault, .ref a_m_lifts, .ref a_m_price, .ref a_m_stood, .ref a_m_hands, .ref a_m_wanted, .int m_rooms, .int m_people, .int m_things, .int m_draftRooms, .int m_draftPeople, .int m_draftThings, .ref a_m_s, .ref a_m_kept, .ref a_m_isKept, .ref a_m_due, .int m_dueMany, .ref a_m_cost, .ref a_m_then, .ref a_m_by])), (a_m_lifts, .inl (cI, 8, .inl m_lifts)), (a_m_price, .inl (cI, 8, .inl m_price)), (a_m_s, .inl (cI, 21, .inl m_s))]) (w2 := [(a_m, .inr (7, [.int (0 : Int32), .long m_trace, .ref a_m_text, .int m_typed, .int m_next, .int m_token, .int m_place, .int m_value, .int m_fault, .ref a_m_lifts, .ref a_m_price, .ref a_m_stood, .ref a_m_hands, .ref a_m_wanted, .int m_rooms, .int m_people, .int m_things, .int m_draftRooms, .int m_draftPeople, .int m_draftThings, .ref a_m_s, .ref a_m_kept, .ref a_m_isKept, .ref a_m_due, .int m_dueMany, .ref a_m_cost, .ref a_m_then, .ref a_m_by])), (a_m_lifts, .inl (cI, 8, .inl m_lifts)), (a_m_price, .inl (cI, 8, .inl m_price)), (a_m_s, .inl (cI, 21, .inl m_s))]) E hw [] [0, 1, 2, 3] [0, 1, 2, 3] (va_runS (As := [.int p1, .int (0 : Int32), .int (5 : Int32)]) (rest := []) E.1 (c_X7_in l dC dI cI cB cZ aK aV H.size p1 (0 : Int32) (5 : Int32) r1 hu2) (va_cwS 3 hts gX7_rate_X7_in rfl rfl rfl hd_X7_in ⟨Nat.le_of_ble_eq_true rfl, Nat.le_of_ble_eq_true rfl⟩) (pre_S E hw [] rfl rfl) rfl rfl hl.1 rfl (lv_room (Nat.le_of_ble_eq_true rfl)) dX7_rate_8 ⟨Nat.zero_le _, Nat.zero_le _⟩) rfl rfl rfl (by decide) rfl rfl (fun H locs hw => ?_)
  refine lv_if_eq (tgt := 22) hx hb dX7_rate_11 (by decide) (fun kc => ?_) (fun kc => ?_)
  · have hf := if_t hf kc
    refine lv_ldc hx hb hown kc162 dX7_rate_22 ?_
    obtain ⟨rfl, rfl, rfl⟩ := sm3 hf
    exact hret H locs ls 24 hw dX7_rate_24
  · have hf := if_f hf kc
    refine lv_aload_n hx hb dX7_rate_14 rfl (lv_at hl 0 rfl) ?_
    refine lv_iload_n hx hb dX7_rate_15 rfl (lv_at hl 2 rfl) ?_
    obtain ⟨r3, hu4, hf⟩ := bd1_some hf
    refine cl_i (wr := [(a_m_lifts, .inl (cI, 8, .inl m_lifts)), (a_m_price, .inl (cI, 8, .inl m_price)), (a_m_s, .inl (cI, 21, .inl m_s))]) (w2 := [(a_m, .inr (7, [.int (0 : Int32), .long m_trace, .ref a_m_text, .int m_typed, .int m_next, .int m_token, .int m_place, .int m_value, .int m_fault, .ref a_m_lifts, .ref a_m_price, .ref a_m_stood, .ref a_m_hands, .ref a_m_wanted, .int m_rooms, .int m_people, .int m_things, .int m_draftRooms, .int m_draftPeople, .int m_draftThings, .ref a_m_s, .ref a_m_kept, .ref a_m_isKept, .ref a_m_due, .int m_dueMany, .ref a_m_cost, .ref a_m_then, .ref a_m_by])), (a_m_lifts, .inl (cI, 8, .inl m_lifts)), (a_m_price, .inl (cI, 8, .inl m_price)), (a_m_s, .inl (cI, 21, .inl m_s))]) E hw [0] [1, 2, 3] [3, 0, 1, 2] (va_runV (As := [.int p2]) (rest := []) E.1 (c_X7_isPerson l dC dI cI cB cZ aK aV a_m a_m_text a_m_lifts a_m_price a_m_stood a_m_hands a_m_wanted a_m_s a_m_kept a_m_isKept a_m_due a_m_cost a_m_then a_m_by H.size (0 : Int32) m_trace m_typed m_next m_token m_place m_value m_fault m_rooms m_people m_things m_draftRooms m_draftPeople m_draftThings m_dueMany p2 r3 hu4) (cwV 1 hts gX7_rate_X7_isPerson rfl rfl rfl hd_X7_isPerson ⟨Nat.le_of_ble_eq_true rfl, Nat.le_of_ble_eq_true rfl⟩) (pre_V E hw [0] rfl rfl rfl rfl) rfl rfl hl.1 rfl (lv_room (Nat.le_of_ble_eq_true rfl)) dX7_rate_16 ⟨Nat.zero_le _, Nat.zero_le _⟩) rfl rfl rfl (by decide) rfl rfl (fun H locs hw => ?_)
    refine lv_if_ne (tgt := 25) hx hb dX7_rate_19 (by decide) (fun kc => ?_) (fun kc => ?_)
    · have hf := if_f hf kc
      refine lv_aload_n hx hb dX7_rate_25 rfl (lv_at hl 0 rfl) ?_
      refine r_get E hw iX7 0 20 rfl rfl (by decide) kf28 rfl rfl dX7_rate_26 ?_
      refine lv_bipush (v := (16 : Int32)) hx hb dX7_rate_29 rfl ?_
      refine lv_iload_n hx hb dX7_rate_31 rfl (lv_at hl 2 rfl) ?_
      refine lv_iadd hx hb dX7_rate_32 ?_
      obtain ⟨g5, hf⟩ := gd_some hf
      refine r_iald E hw 3 rfl g5 dX7_rate_33 ?_
      refine lv_istore_n (lv' := [(3, .int (m_s ((16 : Int32) + p2).toNatClampNeg)), (0, .ref a_m), (1, .int p1), (2, .int p2)]) hx hb dX7_rate_34 rfl hl (by decide) rfl (fun ls hl => ?_)
      refine lv_iload_n hx hb dX7_rate_35 rfl (lv_at hl 0 rfl) ?_
      refine lv_aload_n hx hb dX7_rate_36 rfl (lv_at hl 1 rfl) ?_
      refine r_get E hw iX7 0 9 rfl rfl (by decide) kf13 rfl rfl dX7_rate_37 ?_
      refine lv_iload_n hx hb dX7_rate_40 rfl (lv_at hl 3 rfl) ?_
      obtain ⟨g6, hf⟩ := gd_some hf
      refine r_iald E hw 1 rfl g6 dX7_rate_41 ?_
      refine lv_iadd hx hb dX7_rate_42 ?_
      refine lv_topi (fun z7 ez7 => ?_)
      have hf := lt_at hf ez7
      refine lv_istore (lv' := [(4, .int z7), (3, .int (m_s ((16 : Int32) + p2).toNatClampNeg)), (0, .ref a_m), (1, .int p1), (2, .int p2)]) hx hb dX7_rate_43 hl (by decide) rfl (fun ls hl => ?_)
      refine lv_iload_n hx hb dX7_rate_45 rfl (lv_at hl 1 rfl) ?_
      refine lv_aload_n hx hb dX7_rate_46 rfl (lv_at hl 2 rfl) ?_
      refine r_get E hw iX7 0 10 rfl rfl (by decide) kf16 rfl rfl dX7_rate_47 ?_
      refine lv_iload_n hx hb dX7_rate_50 rfl (lv_at hl 4 rfl) ?_
      obtain ⟨g8, hf⟩ := gd_some hf
      refine r_iald E hw 2 rfl g8 dX7_rate_51 ?_
      refine lv_isub hx hb dX7_rate_52 ?_
      refine lv_topi (fun z9 ez9 => ?_)
      have hf := lt_at hf ez9
      refine lv_istore (lv' := [(5, .int z9), (4, .int z7), (3, .int (m_s ((16 : Int32) + p2).toNatClampNeg)), (0, .ref a_m), (1, .int p1), (2, .int p2)]) hx hb dX7_rate_53 hl (by decide) rfl (fun ls hl => ?_)
      refine lv_aload_n hx hb dX7_rate_55 rfl (lv_at hl 3 rfl) ?_
      refine lv_dup hx hb dX7_rate_56 rfl ?_
      refine r_get E hw iX7 0 1 rfl rfl (by decide) kf206 rfl rfl dX7_rate_57 ?_
      refine lv_iload_n hx hb dX7_rate_60 rfl (lv_at hl 4 rfl) ?_
      refine jn_sound (P := fun J => ∀ (x10 : Int64) (ls : Array Slot) (H : Heap) (locs : List Loc), J x10 = some (r, q0, q1) → lv_has ls 6 [(0, .ref a_m), (1, .int p1), (2, .int p2), (3, .int (m_s ((16 : Int32) + p2).toNatClampNeg)), (4, .int z7), (5, .int z9)] → Wd A s.heap (dC, dI) [(a_m, .inr (7, [.int (0 : Int32), .long m_trace, .ref a_m_text, .int m_typed, .int m_next, .int m_token, .int m_place, .int m_value, .int m_fault, .ref a_m_lifts, .ref a_m_price, .ref a_m_stood, .ref a_m_hands, .ref a_m_wanted, .int m_rooms, .int m_people, .int m_things, .int m_draftRooms, .int m_draftPeople, .int m_draftThings, .ref a_m_s, .ref a_m_kept, .ref a_m_isKept, .ref a_m_due, .int m_dueMany, .ref a_m_cost, .ref a_m_then, .ref a_m_by])), (a_m_lifts, .inl (cI, 8, .inl m_lifts)), (a_m_price, .inl (cI, 8, .inl m_price)), (a_m_s, .inl (cI, 21, .inl m_s))] H locs → W p l e ({ frames := 2, cells := 0, slots := 0, locals := 43 } : Jvm.Room) s m args below meth c H locs 0 0 Q (F0 m 115 ls [.long x10, .long m_trace, .ref a_m])) hf ?_ ?_
      · intro x10 ls H locs hf hl hw
        refine lv_ladd hx hb dX7_rate_115 ?_
        refine r_put E hw iX7 tyX7_ok nmX7 0 1 rfl rfl (by decide) kf206 rfl rfl rfl rfl (Nat.le_of_ble_eq_true rfl) [(a_m, .inr (7, [.int (0 : Int32), .long (m_trace + x10), .ref a_m_text, .int m_typed, .int m_next, .int m_token, .int m_place, .int m_value, .int m_fault, .ref a_m_lifts, .ref a_m_price, .ref a_m_stood, .ref a_m_hands, .ref a_m_wanted, .int m_rooms, .int m_people, .int m_things, .int m_draftRooms, .int m_draftPeople, .int m_draftThings, .ref a_m_s, .ref a_m_kept, .ref a_m_isKept, .ref a_m_due, .int m_dueMany, .ref a_m_cost, .ref a_m_then, .ref a_m_by])), (a_m_lifts, .inl (cI, 8, .inl m_lifts)), (a_m_price, .inl (cI, 8, .inl m_price)), (a_m_s, .inl (cI, 21, .inl m_s))] rfl dX7_rate_116 (fun H locs hw => ?_)
        refine lv_iload_n hx hb dX7_rate_119 rfl (lv_at hl 1 rfl) ?_
        refine lv_if_ne (tgt := 127) hx hb dX7_rate_120 (by decide) (fun kc => ?_) (fun kc => ?_)
        · have hf := if_f hf kc
          refine lv_iload_n hx hb dX7_rate_127 rfl (lv_at hl 1 rfl) ?_
          refine lv_iconst (v := (1 : Int32)) hx hb dX7_rate_128 rfl ?_
          refine lv_icmp_ne (tgt := 137) hx hb dX7_rate_129 (by decide) (fun kc => ?_) (fun kc => ?_)
          · have hf := if_f hf kc
            refine lv_iload_n hx hb dX7_rate_137 rfl (lv_at hl 1 rfl) ?_
            refine lv_iconst (v := (2 : Int32)) hx hb dX7_rate_138 rfl ?_
            refine lv_icmp_ne (tgt := 147) hx hb dX7_rate_139 (by decide) (fun kc => ?_) (fun kc => ?_)
            · have hf := if_f hf kc
              refine lv_iload_n hx hb dX7_rate_147 rfl (lv_at hl 1 rfl) ?_
              refine lv_iconst (v := (3 : Int32)) hx hb dX7_rate_148 rfl ?_
              refine lv_icmp_ne (tgt := 159) hx hb dX7_rate_149 (by decide) (fun kc => ?_) (fun kc => ?_)
              · have hf := if_f hf kc
                refine lv_iload_n hx hb dX7_rate_159 rfl (lv_at hl 1 rfl) ?_
                refine lv_iconst (v := (4 : Int32)) hx hb dX7_rate_160 rfl ?_
                refine lv_icmp_ne (tgt := 171) hx hb dX7_rate_161 (by decide) (fun kc => ?_) (fun kc => ?_)
                · have hf := if_f hf kc
                  refine lv_iload_n hx hb dX7_rate_171 rfl (lv_at hl 3 rfl) ?_
                  refine lv_aload_n hx hb dX7_rate_172 rfl (lv_at hl 0 rfl) ?_
                  refine r_get E hw iX7 0 20 rfl rfl (by decide) kf28 rfl rfl dX7_rate_173 ?_
                  refine lv_bipush (v := (20 : Int32)) hx hb dX7_rate_176 rfl ?_
                  obtain ⟨g11, hf⟩ := gd_some hf
                  refine r_iald E hw 3 rfl g11 dX7_rate_178 ?_
                  refine lv_iadd hx hb dX7_rate_179 ?_
                  obtain ⟨rfl, rfl, rfl⟩ := sm3 hf
                  exact hret H locs ls 180 hw dX7_rate_180
                · have hf := if_t hf kc
                  refine lv_iload hx hb dX7_rate_164 (lv_at hl 5 rfl) ?_
                  refine lv_iload_n hx hb dX7_rate_166 rfl (lv_at hl 2 rfl) ?_
                  refine lv_iadd hx hb dX7_rate_167 ?_
                  refine lv_goto (tgt := 180) hx hb dX7_rate_168 (by decide) ?_
                  obtain ⟨rfl, rfl, rfl⟩ := sm3 hf
                  exact hret H locs ls 180 hw dX7_rate_180
              · have hf := if_t hf kc
                refine lv_iconst (v := (2 : Int32)) hx hb dX7_rate_152 rfl ?_
                refine lv_iload hx hb dX7_rate_153 (lv_at hl 4 rfl) ?_
                refine lv_imul hx hb dX7_rate_155 ?_
                refine lv_goto (tgt := 180) hx hb dX7_rate_156 (by decide) ?_
                obtain ⟨rfl, rfl, rfl⟩ := sm3 hf
                exact hret H locs ls 180 hw dX7_rate_180
            · have hf := if_t hf kc
              refine lv_iload hx hb dX7_rate_142 (lv_at hl 5 rfl) ?_
              refine lv_goto (tgt := 180) hx hb dX7_rate_144 (by decide) ?_
              obtain ⟨rfl, rfl, rfl⟩ := sm3 hf
              exact hret H locs ls 180 hw dX7_rate_180
          · have hf := if_t hf kc
            refine lv_iload hx hb dX7_rate_132 (lv_at hl 4 rfl) ?_
            refine lv_goto (tgt := 180) hx hb dX7_rate_134 (by decide) ?_
            obtain ⟨rfl, rfl, rfl⟩ := sm3 hf
            exact hret H locs ls 180 hw dX7_rate_180
        · have hf := if_t hf kc
          refine lv_iload_n hx hb dX7_rate_123 rfl (lv_at hl 3 rfl) ?_
          refine lv_goto (tgt := 180) hx hb dX7_rate_124 (by decide) ?_
          obtain ⟨rfl, rfl, rfl⟩ := sm3 hf
          exact hret H locs ls 180 hw dX7_rate_180
      · intro J115 hJ115 hf
        refine lv_if_ne (tgt := 68) hx hb dX7_rate_61 (by decide) (fun kc => ?_) (fun kc => ?_)
        · have hf := if_f hf kc
          refine lv_iload_n hx hb dX7_rate_68 rfl (lv_at hl 4 rfl) ?_
          refine lv_iconst (v := (1 : Int32)) hx hb dX7_rate_69 rfl ?_
          refine lv_icmp_ne (tgt := 79) hx hb dX7_rate_70 (by decide) (fun kc => ?_) (fun kc => ?_)
          · have hf := if_f hf kc
            refine lv_iload_n hx hb dX7_rate_79 rfl (lv_at hl 4 rfl) ?_
            refine lv_iconst (v := (2 : Int32)) hx hb dX7_rate_80 rfl ?_
            refine lv_icmp_ne (tgt := 90) hx hb dX7_rate_81 (by decide) (fun kc => ?_) (fun kc => ?_)
            · have hf := if_f hf kc
              refine lv_iload_n hx hb dX7_rate_90 rfl (lv_at hl 4 rfl) ?_
              refine lv_iconst (v := (3 : Int32)) hx hb dX7_rate_91 rfl ?_
              refine lv_icmp_ne (tgt := 101) hx hb dX7_rate_92 (by decide) (fun kc => ?_) (fun kc => ?_)
              · have hf := if_f hf kc
                refine lv_iload_n hx hb dX7_rate_101 rfl (lv_at hl 4 rfl) ?_
                refine lv_iconst (v := (4 : Int32)) hx hb dX7_rate_102 rfl ?_
                refine lv_icmp_ne (tgt := 112) hx hb dX7_rate_103 (by decide) (fun kc => ?_) (fun kc => ?_)
                · have hf := if_f hf kc
                  refine lv_ldc2 hx hb hown kc218 dX7_rate_112 ?_
                  exact hJ115 (100001 : Int64) ls H locs hf (lv_sub hl [3, 4, 5, 2, 1, 0] rfl) hw
                · have hf := if_t hf kc
                  refine lv_ldc2 hx hb hown kc216 dX7_rate_106 ?_
                  refine lv_goto (tgt := 115) hx hb dX7_rate_109 (by decide) ?_
                  exact hJ115 (10101 : Int64) ls H locs hf (lv_sub hl [3, 4, 5, 2, 1, 0] rfl) hw
              · have hf := if_t hf kc
                refine lv_ldc2 hx hb hown kc214 dX7_rate_95 ?_
                refine lv_goto (tgt := 115) hx hb dX7_rate_98 (by decide) ?_
                exact hJ115 (1011 : Int64) ls H locs hf (lv_sub hl [3, 4, 5, 2, 1, 0] rfl) hw
            · have hf := if_t hf kc
              refine lv_ldc2 hx hb hown kc212 dX7_rate_84 ?_
              refine lv_goto (tgt := 115) hx hb dX7_rate_87 (by decide) ?_
              exact hJ115 (101 : Int64) ls H locs hf (lv_sub hl [3, 4, 5, 2, 1, 0] rfl) hw
          · have hf := if_t hf kc
            refine lv_ldc2 hx hb hown kc210 dX7_rate_73 ?_
            refine lv_goto (tgt := 115) hx hb dX7_rate_76 (by decide) ?_
            exact hJ115 (11 : Int64) ls H locs hf (lv_sub hl [3, 4, 5, 2, 1, 0] rfl) hw
        · have hf := if_t hf kc
          refine lv_lconst (v := (1 : Int64)) hx hb dX7_rate_64 rfl ?_
          refine lv_goto (tgt := 115) hx hb dX7_rate_65 (by decide) ?_
          exact hJ115 (1 : Int64) ls H locs hf (lv_sub hl [3, 4, 5, 2, 1, 0] rfl) hw
    · have hf := if_t hf kc
      refine lv_ldc hx hb hown kc162 dX7_rate_22 ?_
      obtain ⟨rfl, rfl, rfl⟩ := sm3 hf
      exact hret H locs ls 24 hw dX7_rate_24
def f_X7_keep (p1 : Int32) (m_s : Nat → Int32) (m_kept : Nat → Int32) (m_isKept : Nat → Int32) : Option (Int32 × Int32 × (Nat → Int32) × (Nat → Int32)) :=
  bd1 (f_X7_in p1 (0 : Int32) (1 : Int32)) (fun r1 => (if r1 = 0 then some ((-1 : Int32), (0 : Int32), m_isKept, m_kept) else loop2 (fun B18 (x7 : Int32) (x8 : Nat → Int32) => (if (21 : Int32) ≤ x7 then gd (inb p1 2) (gd (inb (20 : Int32) 21) (some ((m_s (20 : Int32).toNatClampNeg), (0 : Int32), (upd m_isKept p1.toNatClampNeg (vp_nar .boolean (1 : Int32))), x8))) else gd (inb x7 21) (gd (inb (((21 : Int32) * p1) + x7) 42) (B18 (x7 + (1 : Int32)) (upd x8 (((21 : Int32) * p1) + x7).toNatClampNeg (m_s x7.toNatClampNeg)))))) FU (0 : Int32) m_kept))
theorem hd_X7_keep : yX7_keep.cls = RX7 ∧ yX7_keep.cls ≠ "java/lang/invoke/MethodHandle" ∧ yX7_keep.cls ≠ "java/lang/invoke/VarHandle" ∧ (parseMethodDescriptor yX7_keep.desc).map (fun d => d.parameters.length) = some 1 := by decide +kernel
set_option maxHeartbeats 4000000 in
set_option maxRecDepth 100000 in
theorem c_X7_keep (l : Launch) (dC : Nat → ClassId) (dI : Nat → Nat → Nat) (cI cB cZ : ClassId) (aK aV : Nat → Nat) (a_m a_m_text a_m_lifts a_m_price a_m_stood a_m_hands a_m_wanted a_m_s a_m_kept a_m_isKept a_m_due a_m_cost a_m_then a_m_by : Nat) (sz : Nat) (m_thrown : Int32) (m_trace : Int64) (m_typed : Int32) (m_next : Int32) (m_token : Int32) (m_place : Int32) (m_value : Int32) (m_fault : Int32) (m_rooms : Int32) (m_people : Int32) (m_things : Int32) (m_draftRooms : Int32) (m_draftPeople : Int32) (m_draftThings : Int32) (m_dueMany : Int32) (m_s : Nat → Int32) (m_kept : Nat → Int32) (m_isKept : Nat → Int32) (p1 : Int32) (r : Int32) (q0 : Int32) (q1 : Nat → Int32) (q2 : Nat → Int32) (hf : f_X7_keep p1 m_s m_kept m_isKept = some (r, q0, q1, q2)) : Met l yX7_keep wsX7_keep ({ frames := 1, cells := 0, slots := 0, locals := 22 } : Jvm.Room) (va_Pc [.ref a_m, .int p1] (preW (dC, dI) (tyL cI cB cZ) aK aV sz [(a_m, .inr (7, [.int m_thrown, .long m_trace, .ref a_m_text, .int m_typed, .int m_next, .int m_token, .int m_place, .int m_value, .int m_fault, .ref a_m_lifts, .ref a_m_price, .ref a_m_stood, .ref a_m_hands, .ref a_m_wanted, .int m_rooms, .int m_people, .int m_things, .int m_draftRooms, .int m_draftPeople, .int m_draftThings, .ref a_m_s, .ref a_m_kept, .ref a_m_isKept, .ref a_m_due, .int m_dueMany, .ref a_m_cost, .ref a_m_then, .ref a_m_by])), (a_m_s, .inl (cI, 21, .inl m_s)), (a_m_kept, .inl (cI, 42, .inl m_kept)), (a_m_isKept, .inl (cZ, 2, .inl m_isKept))])) (va_Qi (fun v (_ : Unit) => v = r) (postW (dC, dI) (tyL cI cB cZ) (va_A [(a_m, .inr (7, [.int m_thrown, .long m_trace, .ref a_m_text, .int m_typed, .int m_next, .int m_token, .int m_place, .int m_value, .int m_fault, .ref a_m_lifts, .ref a_m_price, .ref a_m_stood, .ref a_m_hands, .ref a_m_wanted, .int m_rooms, .int m_people, .int m_things, .int m_draftRooms, .int m_draftPeople, .int m_draftThings, .ref a_m_s, .ref a_m_kept, .ref a_m_isKept, .ref a_m_due, .int m_dueMany, .ref a_m_cost, .ref a_m_then, .ref a_m_by])), (a_m_s, .inl (cI, 21, .inl m_s)), (a_m_kept, .inl (cI, 42, .inl m_kept)), (a_m_isKept, .inl (cZ, 2, .inl m_isKept))] sz) [(a_m, .inr (7, [.int q0, .long m_trace, .ref a_m_text, .int m_typed, .int m_next, .int m_token, .int m_place, .int m_value, .int m_fault, .ref a_m_lifts, .ref a_m_price, .ref a_m_stood, .ref a_m_hands, .ref a_m_wanted, .int m_rooms, .int m_people, .int m_things, .int m_draftRooms, .int m_draftPeople, .int m_draftThings, .ref a_m_s, .ref a_m_kept, .ref a_m_isKept, .ref a_m_due, .int m_dueMany, .ref a_m_cost, .ref a_m_then, .ref a_m_by])), (a_m_s, .inl (cI, 21, .inl m_s)), (a_m_kept, .inl (cI, 42, .inl q2)), (a_m_isKept, .inl (cZ, 2, .inl q1))]) (va_A [(a_m, .inr (7, [.int m_thrown, .long m_trace, .ref a_m_text, .int m_typed, .int m_next, .int m_token, .int m_place, .int m_value, .int m_fault, .ref a_m_lifts, .ref a_m_price, .ref a_m_stood, .ref a_m_hands, .ref a_m_wanted, .int m_rooms, .int m_people, .int m_things, .int m_draftRooms, .int m_draftPeople, .int m_draftThings, .ref a_m_s, .ref a_m_kept, .ref a_m_isKept, .ref a_m_due, .int m_dueMany, .ref a_m_cost, .ref a_m_then, .ref a_m_by])), (a_m_s, .inl (cI, 21, .inl m_s)), (a_m_kept, .inl (cI, 42, .inl m_kept)), (a_m_isKept, .inl (cZ, 2, .inl m_isKept))] sz)) 0 0 (va_A [(a_m, .inr (7, [.int m_thrown, .long m_trace, .ref a_m_text, .int m_typed, .int m_next, .int m_token, .int m_place, .int m_value, .int m_fault, .ref a_m_lifts, .ref a_m_price, .ref a_m_stood, .ref a_m_hands, .ref a_m_wanted, .int m_rooms, .int m_people, .int m_things, .int m_draftRooms, .int m_draftPeople, .int m_draftThings, .ref a_m_s, .ref a_m_kept, .ref a_m_isKept, .ref a_m_due, .int m_dueMany, .ref a_m_cost, .ref a_m_then, .ref a_m_by])), (a_m_s, .inl (cI, 21, .inl m_s)), (a_m_kept, .inl (cI, 42, .inl m_kept)), (a_m_isKept, .inl (cZ, 2, .inl m_isKept))] sz) := by
  refine met_i (cc := cX7_keep) (maxL := 3) (own := RX7) (by decide) rfl (Nat.le_of_ble_eq_true rfl) rfl (fun p e s m args below meth c Q A E hret ls H locs hl hw => ?_)
  obtain ⟨⟨hx, hb, hml, hown, hts⟩, hK, hN, hA, hX⟩ := id E
  have hl : lv_has ls 3 [(0, .ref a_m), (1, .int p1)] := hl
  have iX7 : ∀ w ∈ wsX70, w ∈ wsX7_keep := by decide +kernel
  have kf57 := hts (.fieldLink RX7 57 "FiveThingsModel" "thrown" "I") (by decide +kernel)
  have kf34 := hts (.fieldLink RX7 34 "FiveThingsModel" "isKept" "[Z") (by decide +kernel)
  have kf28 := hts (.fieldLink RX7 28 "FiveThingsModel" "s" "[I") (by decide +kernel)
  have kf31 := hts (.fieldLink RX7 31 "FiveThingsModel" "kept" "[I") (by decide +kernel)
  unfold f_X7_keep at hf
  refine lv_aload_n hx hb dX7_keep_0 rfl (lv_at hl 0 rfl) ?_
  refine lv_iconst (v := (0 : Int32)) hx hb dX7_keep_1 rfl ?_
  refine r_put E hw iX7 tyX7_ok nmX7 0 0 rfl rfl (by decide) kf57 rfl rfl rfl rfl (Nat.le_of_ble_eq_true rfl) [(a_m, .inr (7, [.int (0 : Int32), .long m_trace, .ref a_m_text, .int m_typed, .int m_next, .int m_token, .int m_place, .int m_value, .int m_fault, .ref a_m_lifts, .ref a_m_price, .ref a_m_stood, .ref a_m_hands, .ref a_m_wanted, .int m_rooms, .int m_people, .int m_things, .int m_draftRooms, .int m_draftPeople, .int m_draftThings, .ref a_m_s, .ref a_m_kept, .ref a_m_isKept, .ref a_m_due, .int m_dueMany, .ref a_m_cost, .ref a_m_then, .ref a_m_by])), (a_m_s, .inl (cI, 21, .inl m_s)), (a_m_kept, .inl (cI, 42, .inl m_kept)), (a_m_isKept, .inl (cZ, 2, .inl m_isKept))] rfl dX7_keep_2 (fun H locs hw => ?_)
  refine lv_iload_n hx hb dX7_keep_5 rfl (lv_at hl 1 rfl) ?_
  refine lv_iconst (v := (0 : Int32)) hx hb dX7_keep_6 rfl ?_
  refine lv_iconst (v := (1 : Int32)) hx hb dX7_keep_7 rfl ?_
  obtain ⟨r1, hu2, hf⟩ := bd1_some hf
  refine cl_i (wr := [(a_m, .inr (7, [.int (0 : Int32), .long m_trace, .ref a_m_text, .int m_typed, .int m_next, .int m_token, .int m_place, .int m_value, .int m_fault, .ref a_m_lifts, .ref a_m_price, .ref a_m_stood, .ref a_m_hands, .ref a_m_wanted, .int m_rooms, .int m_people, .int m_things, .int m_draftRooms, .int m_draftPeople, .int m_draftThings, .ref a_m_s, .ref a_m_kept, .ref a_m_isKept, .ref a_m_due, .int m_dueMany, .ref a_m_cost, .ref a_m_then, .ref a_m_by])), (a_m_s, .inl (cI, 21, .inl m_s)), (a_m_kept, .inl (cI, 42, .inl m_kept)), (a_m_isKept, .inl (cZ, 2, .inl m_isKept))]) (w2 := [(a_m, .inr (7, [.int (0 : Int32), .long m_trace, .ref a_m_text, .int m_typed, .int m_next, .int m_token, .int m_place, .int m_value, .int m_fault, .ref a_m_lifts, .ref a_m_price, .ref a_m_stood, .ref a_m_hands, .ref a_m_wanted, .int m_rooms, .int m_people, .int m_things, .int m_draftRooms, .int m_draftPeople, .int m_draftThings, .ref a_m_s, .ref a_m_kept, .ref a_m_isKept, .ref a_m_due, .int m_dueMany, .ref a_m_cost, .ref a_m_then, .ref a_m_by])), (a_m_s, .inl (cI, 21, .inl m_s)), (a_m_kept, .inl (cI, 42, .inl m_kept)), (a_m_isKept, .inl (cZ, 2, .inl m_isKept))]) E hw [] [0, 1, 2, 3] [0, 1, 2, 3] (va_runS (As := [.int p1, .int (0 : Int32), .int (1 : Int32)]) (rest := []) E.1 (c_X7_in l dC dI cI cB cZ aK aV H.size p1 (0 : Int32) (1 : Int32) r1 hu2) (va_cwS 3 hts gX7_keep_X7_in rfl rfl rfl hd_X7_in ⟨Nat.le_of_ble_eq_true rfl, Nat.le_of_ble_eq_true rfl⟩) (pre_S E hw [] rfl rfl) rfl rfl hl.1 rfl (lv_room (Nat.le_of_ble_eq_true rfl)) dX7_keep_8 ⟨Nat.zero_le _, Nat.zero_le _⟩) rfl rfl rfl (by decide) rfl rfl (fun H locs hw => ?_)
  refine lv_if_ne (tgt := 16) hx hb dX7_keep_11 (by decide) (fun kc => ?_) (fun kc => ?_)
  · have hf := if_f hf kc
    refine lv_iconst (v := (0 : Int32)) hx hb dX7_keep_16 rfl ?_
    refine lv_istore_n (lv' := [(2, .int (0 : Int32)), (0, .ref a_m), (1, .int p1)]) hx hb dX7_keep_17 rfl hl (by decide) rfl (fun ls hl => ?_)
    refine (loop2_sound (r := (r, q0, q1, q2)) (P := fun (x7 : Int32) (x8 : Nat → Int32) => ∀ (ls : Array Slot) (H : Heap) (locs : List Loc), lv_has ls 3 [(2, .int x7), (0, .ref a_m), (1, .int p1)] → Wd A s.heap (dC, dI) [(a_m, .inr (7, [.int (0 : Int32), .long m_trace, .ref a_m_text, .int m_typed, .int m_next, .int m_token, .int m_place, .int m_value, .int m_fault, .ref a_m_lifts, .ref a_m_price, .ref a_m_stood, .ref a_m_hands, .ref a_m_wanted, .int m_rooms, .int m_people, .int m_things, .int m_draftRooms, .int m_draftPeople, .int m_draftThings, .ref a_m_s, .ref a_m_kept, .ref a_m_isKept, .ref a_m_due, .int m_dueMany, .ref a_m_cost, .ref a_m_then, .ref a_m_by])), (a_m_s, .inl (cI, 21, .inl m_s)), (a_m_kept, .inl (cI, 42, .inl x8)), (a_m_isKept, .inl (cZ, 2, .inl m_isKept))] H locs → W p l e ({ frames := 1, cells := 0, slots := 0, locals := 22 } : Jvm.Room) s m args below meth c H locs 0 0 Q (F0 m 18 ls [])) (fun B18 x7 x8 ih18 hf => ?_) _ (0 : Int32) m_kept hf) ls H locs (lv_sub hl [0, 1, 2] rfl) hw
    intro ls H locs hl hw
    refine lv_iload_n hx hb dX7_keep_18 rfl (lv_at hl 0 rfl) ?_
    refine lv_bipush (v := (21 : Int32)) hx hb dX7_keep_19 rfl ?_
    refine lv_icmp_ge (tgt := 47) hx hb dX7_keep_21 (by decide) (fun kc => ?_) (fun kc => ?_)
    · have hf := if_t hf kc
      refine lv_aload_n hx hb dX7_keep_47 rfl (lv_at hl 1 rfl) ?_
      refine r_get E hw iX7 0 22 rfl rfl (by decide) kf34 rfl rfl dX7_keep_48 ?_
      refine lv_iload_n hx hb dX7_keep_51 rfl (lv_at hl 2 rfl) ?_
      refine lv_iconst (v := (1 : Int32)) hx hb dX7_keep_52 rfl ?_
      obtain ⟨g9, hf⟩ := gd_some hf
      refine r_zast E hw 3 rfl g9 [(a_m, .inr (7, [.int (0 : Int32), .long m_trace, .ref a_m_text, .int m_typed, .int m_next, .int m_token, .int m_place, .int m_value, .int m_fault, .ref a_m_lifts, .ref a_m_price, .ref a_m_stood, .ref a_m_hands, .ref a_m_wanted, .int m_rooms, .int m_people, .int m_things, .int m_draftRooms, .int m_draftPeople, .int m_draftThings, .ref a_m_s, .ref a_m_kept, .ref a_m_isKept, .ref a_m_due, .int m_dueMany, .ref a_m_cost, .ref a_m_then, .ref a_m_by])), (a_m_s, .inl (cI, 21, .inl m_s)), (a_m_kept, .inl (cI, 42, .inl x8)), (a_m_isKept, .inl (cZ, 2, .inl (upd m_isKept p1.toNatClampNeg (vp_nar .boolean (1 : Int32)))))] rfl dX7_keep_53 (fun H locs hw => ?_)
      refine lv_aload_n hx hb dX7_keep_54 rfl (lv_at hl 1 rfl) ?_
      refine r_get E hw iX7 0 20 rfl rfl (by decide) kf28 rfl rfl dX7_keep_55 ?_
      refine lv_bipush (v := (20 : Int32)) hx hb dX7_keep_58 rfl ?_
      obtain ⟨g10, hf⟩ := gd_some hf
      refine r_iald E hw 1 rfl g10 dX7_keep_60 ?_
      obtain ⟨rfl, rfl, rfl, rfl⟩ := sm4 hf
      exact hret H locs ls 61 hw dX7_keep_61
    · have hf := if_f hf kc
      refine lv_aload_n hx hb dX7_keep_24 rfl (lv_at hl 1 rfl) ?_
      refine r_get E hw iX7 0 21 rfl rfl (by decide) kf31 rfl rfl dX7_keep_25 ?_
      refine lv_bipush (v := (21 : Int32)) hx hb dX7_keep_28 rfl ?_
      refine lv_iload_n hx hb dX7_keep_30 rfl (lv_at hl 2 rfl) ?_
      refine lv_imul hx hb dX7_keep_31 ?_
      refine lv_iload_n hx hb dX7_keep_32 rfl (lv_at hl 0 rfl) ?_
      refine lv_iadd hx hb dX7_keep_33 ?_
      refine lv_aload_n hx hb dX7_keep_34 rfl (lv_at hl 1 rfl) ?_
      refine r_get E hw iX7 0 20 rfl rfl (by decide) kf28 rfl rfl dX7_keep_35 ?_
      refine lv_iload_n hx hb dX7_keep_38 rfl (lv_at hl 0 rfl) ?_
      obtain ⟨g11, hf⟩ := gd_some hf
      refine r_iald E hw 1 rfl g11 dX7_keep_39 ?_
      obtain ⟨g12, hf⟩ := gd_some hf
      refine r_iast E hw 2 rfl g12 [(a_m, .inr (7, [.int (0 : Int32), .long m_trace, .ref a_m_text, .int m_typed, .int m_next, .int m_token, .int m_place, .int m_value, .int m_fault, .ref a_m_lifts, .ref a_m_price, .ref a_m_stood, .ref a_m_hands, .ref a_m_wanted, .int m_rooms, .int m_people, .int m_things, .int m_draftRooms, .int m_draftPeople, .int m_draftThings, .ref a_m_s, .ref a_m_kept, .ref a_m_isKept, .ref a_m_due, .int m_dueMany, .ref a_m_cost, .ref a_m_then, .ref a_m_by])), (a_m_s, .inl (cI, 21, .inl m_s)), (a_m_kept, .inl (cI, 42, .inl (upd x8 (((21 : Int32) * p1) + x7).toNatClampNeg (m_s x7.toNatClampNeg)))), (a_m_isKept, .inl (cZ, 2, .inl m_isKept))] rfl dX7_keep_40 (fun H locs hw => ?_)
      refine lv_iinc (v := (x7 + (1 : Int32))) (lv' := [(2, .int (x7 + (1 : Int32))), (0, .ref a_m), (1, .int p1)]) hx hb dX7_keep_41 hl (k := 0) rfl rfl (by decide) rfl (fun ls hl => ?_)
      refine lv_goto (tgt := 18) hx hb dX7_keep_44 (by decide) ?_
      exact ih18 (x7 + (1 : Int32)) (upd x8 (((21 : Int32) * p1) + x7).toNatClampNeg (m_s x7.toNatClampNeg)) hf ls H locs (lv_sub hl [0, 1, 2] rfl) hw
  · have hf := if_t hf kc
    refine lv_iconst (v := (-1 : Int32)) hx hb dX7_keep_14 rfl ?_
    obtain ⟨rfl, rfl, rfl, rfl⟩ := sm4 hf
    exact hret H locs ls 15 hw dX7_keep_15
def f_X7_back (p1 : Int32) (m_s : Nat → Int32) (m_kept : Nat → Int32) (m_isKept : Nat → Int32) : Option (Int32 × Int32 × (Nat → Int32)) :=
  bd1 (f_X7_in p1 (0 : Int32) (1 : Int32)) (fun r1 => (if r1 = 0 then some ((-1 : Int32), (0 : Int32), m_s) else gd (inb p1 2) ((if (m_isKept p1.toNatClampNeg) = 0 then some ((-2 : Int32), (0 : Int32), m_s) else loop2 (fun B30 (x7 : Int32) (x8 : Nat → Int32) => (if (21 : Int32) ≤ x7 then gd (inb (20 : Int32) 21) (some ((x8 (20 : Int32).toNatClampNeg), (0 : Int32), x8)) else gd (inb (((21 : Int32) * p1) + x7) 42) (gd (inb x7 21) (B30 (x7 + (1 : Int32)) (upd x8 x7.toNatClampNeg (m_kept (((21 : Int32) * p1) + x7).toNatClampNeg)))))) FU (0 : Int32) m_s))))
theorem hd_X7_back : yX7_back.cls = RX7 ∧ yX7_back.cls ≠ "java/lang/invoke/MethodHandle" ∧ yX7_back.cls ≠ "java/lang/invoke/VarHandle" ∧ (parseMethodDescriptor yX7_back.desc).map (fun d => d.parameters.length) = some 1 := by decide +kernel
set_option maxHeartbeats 4000000 in
set_option maxRecDepth 100000 in
theorem c_X7_back (l : Launch) (dC : Nat → ClassId) (dI : Nat → Nat → Nat) (cI cB cZ : ClassId) (aK aV : Nat → Nat) (a_m a_m_text a_m_lifts a_m_price a_m_stood a_m_hands a_m_wanted a_m_s a_m_kept a_m_isKept a_m_due a_m_cost a_m_then a_m_by : Nat) (sz : Nat) (m_thrown : Int32) (m_trace : Int64) (m_typed : Int32) (m_next : Int32) (m_token : Int32) (m_place : Int32) (m_value : Int32) (m_fault : Int32) (m_rooms : Int32) (m_people : Int32) (m_things : Int32) (m_draftRooms : Int32) (m_draftPeople : Int32) (m_draftThings : Int32) (m_dueMany : Int32) (m_s : Nat → Int32) (m_kept : Nat → Int32) (m_isKept : Nat → Int32) (p1 : Int32) (r : Int32) (q0 : Int32) (q1 : Nat → Int32) (hf : f_X7_back p1 m_s m_kept m_isKept = some (r, q0, q1)) : Met l yX7_back wsX7_back ({ frames := 1, cells := 0, slots := 0, locals := 22 } : Jvm.Room) (va_Pc [.ref a_m, .int p1] (preW (dC, dI) (tyL cI cB cZ) aK aV sz [(a_m, .inr (7, [.int m_thrown, .long m_trace, .ref a_m_text, .int m_typed, .int m_next, .int m_token, .int m_place, .int m_value, .int m_fault, .ref a_m_lifts, .ref a_m_price, .ref a_m_stood, .ref a_m_hands, .ref a_m_wanted, .int m_rooms, .int m_people, .int m_things, .int m_draftRooms, .int m_draftPeople, .int m_draftThings, .ref a_m_s, .ref a_m_kept, .ref a_m_isKept, .ref a_m_due, .int m_dueMany, .ref a_m_cost, .ref a_m_then, .ref a_m_by])), (a_m_s, .inl (cI, 21, .inl m_s)), (a_m_kept, .inl (cI, 42, .inl m_kept)), (a_m_isKept, .inl (cZ, 2, .inl m_isKept))])) (va_Qi (fun v (_ : Unit) => v = r) (postW (dC, dI) (tyL cI cB cZ) (va_A [(a_m, .inr (7, [.int m_thrown, .long m_trace, .ref a_m_text, .int m_typed, .int m_next, .int m_token, .int m_place, .int m_value, .int m_fault, .ref a_m_lifts, .ref a_m_price, .ref a_m_stood, .ref a_m_hands, .ref a_m_wanted, .int m_rooms, .int m_people, .int m_things, .int m_draftRooms, .int m_draftPeople, .int m_draftThings, .ref a_m_s, .ref a_m_kept, .ref a_m_isKept, .ref a_m_due, .int m_dueMany, .ref a_m_cost, .ref a_m_then, .ref a_m_by])), (a_m_s, .inl (cI, 21, .inl m_s)), (a_m_kept, .inl (cI, 42, .inl m_kept)), (a_m_isKept, .inl (cZ, 2, .inl m_isKept))] sz) [(a_m, .inr (7, [.int q0, .long m_trace, .ref a_m_text, .int m_typed, .int m_next, .int m_token, .int m_place, .int m_value, .int m_fault, .ref a_m_lifts, .ref a_m_price, .ref a_m_stood, .ref a_m_hands, .ref a_m_wanted, .int m_rooms, .int m_people, .int m_things, .int m_draftRooms, .int m_draftPeople, .int m_draftThings, .ref a_m_s, .ref a_m_kept, .ref a_m_isKept, .ref a_m_due, .int m_dueMany, .ref a_m_cost, .ref a_m_then, .ref a_m_by])), (a_m_s, .inl (cI, 21, .inl q1)), (a_m_kept, .inl (cI, 42, .inl m_kept)), (a_m_isKept, .inl (cZ, 2, .inl m_isKept))]) (va_A [(a_m, .inr (7, [.int m_thrown, .long m_trace, .ref a_m_text, .int m_typed, .int m_next, .int m_token, .int m_place, .int m_value, .int m_fault, .ref a_m_lifts, .ref a_m_price, .ref a_m_stood, .ref a_m_hands, .ref a_m_wanted, .int m_rooms, .int m_people, .int m_things, .int m_draftRooms, .int m_draftPeople, .int m_draftThings, .ref a_m_s, .ref a_m_kept, .ref a_m_isKept, .ref a_m_due, .int m_dueMany, .ref a_m_cost, .ref a_m_then, .ref a_m_by])), (a_m_s, .inl (cI, 21, .inl m_s)), (a_m_kept, .inl (cI, 42, .inl m_kept)), (a_m_isKept, .inl (cZ, 2, .inl m_isKept))] sz)) 0 0 (va_A [(a_m, .inr (7, [.int m_thrown, .long m_trace, .ref a_m_text, .int m_typed, .int m_next, .int m_token, .int m_place, .int m_value, .int m_fault, .ref a_m_lifts, .ref a_m_price, .ref a_m_stood, .ref a_m_hands, .ref a_m_wanted, .int m_rooms, .int m_people, .int m_things, .int m_draftRooms, .int m_draftPeople, .int m_draftThings, .ref a_m_s, .ref a_m_kept, .ref a_m_isKept, .ref a_m_due, .int m_dueMany, .ref a_m_cost, .ref a_m_then, .ref a_m_by])), (a_m_s, .inl (cI, 21, .inl m_s)), (a_m_kept, .inl (cI, 42, .inl m_kept)), (a_m_isKept, .inl (cZ, 2, .inl m_isKept))] sz) := by
  refine met_i (cc := cX7_back) (maxL := 3) (own := RX7) (by decide) rfl (Nat.le_of_ble_eq_true rfl) rfl (fun p e s m args below meth c Q A E hret ls H locs hl hw => ?_)
  obtain ⟨⟨hx, hb, hml, hown, hts⟩, hK, hN, hA, hX⟩ := id E
  have hl : lv_has ls 3 [(0, .ref a_m), (1, .int p1)] := hl
  have iX7 : ∀ w ∈ wsX70, w ∈ wsX7_back := by decide +kernel
  have kf57 := hts (.fieldLink RX7 57 "FiveThingsModel" "thrown" "I") (by decide +kernel)
  have kf34 := hts (.fieldLink RX7 34 "FiveThingsModel" "isKept" "[Z") (by decide +kernel)
  have kf28 := hts (.fieldLink RX7 28 "FiveThingsModel" "s" "[I") (by decide +kernel)
  have kf31 := hts (.fieldLink RX7 31 "FiveThingsModel" "kept" "[I") (by decide +kernel)
  unfold f_X7_back at hf
  refine lv_aload_n hx hb dX7_back_0 rfl (lv_at hl 0 rfl) ?_
  refine lv_iconst (v := (0 : Int32)) hx hb dX7_back_1 rfl ?_
  refine r_put E hw iX7 tyX7_ok nmX7 0 0 rfl rfl (by decide) kf57 rfl rfl rfl rfl (Nat.le_of_ble_eq_true rfl) [(a_m, .inr (7, [.int (0 : Int32), .long m_trace, .ref a_m_text, .int m_typed, .int m_next, .int m_token, .int m_place, .int m_value, .int m_fault, .ref a_m_lifts, .ref a_m_price, .ref a_m_stood, .ref a_m_hands, .ref a_m_wanted, .int m_rooms, .int m_people, .int m_things, .int m_draftRooms, .int m_draftPeople, .int m_draftThings, .ref a_m_s, .ref a_m_kept, .ref a_m_isKept, .ref a_m_due, .int m_dueMany, .ref a_m_cost, .ref a_m_then, .ref a_m_by])), (a_m_s, .inl (cI, 21, .inl m_s)), (a_m_kept, .inl (cI, 42, .inl m_kept)), (a_m_isKept, .inl (cZ, 2, .inl m_isKept))] rfl dX7_back_2 (fun H locs hw => ?_)
  refine lv_iload_n hx hb dX7_back_5 rfl (lv_at hl 1 rfl) ?_
  refine lv_iconst (v := (0 : Int32)) hx hb dX7_back_6 rfl ?_
  refine lv_iconst (v := (1 : Int32)) hx hb dX7_back_7 rfl ?_
  obtain ⟨r1, hu2, hf⟩ := bd1_some hf
  refine cl_i (wr := [(a_m, .inr (7, [.int (0 : Int32), .long m_trace, .ref a_m_text, .int m_typed, .int m_next, .int m_token, .int m_place, .int m_value, .int m_fault, .ref a_m_lifts, .ref a_m_price, .ref a_m_stood, .ref a_m_hands, .ref a_m_wanted, .int m_rooms, .int m_people, .int m_things, .int m_draftRooms, .int m_draftPeople, .int m_draftThings, .ref a_m_s, .ref a_m_kept, .ref a_m_isKept, .ref a_m_due, .int m_dueMany, .ref a_m_cost, .ref a_m_then, .ref a_m_by])), (a_m_s, .inl (cI, 21, .inl m_s)), (a_m_kept, .inl (cI, 42, .inl m_kept)), (a_m_isKept, .inl (cZ, 2, .inl m_isKept))]) (w2 := [(a_m, .inr (7, [.int (0 : Int32), .long m_trace, .ref a_m_text, .int m_typed, .int m_next, .int m_token, .int m_place, .int m_value, .int m_fault, .ref a_m_lifts, .ref a_m_price, .ref a_m_stood, .ref a_m_hands, .ref a_m_wanted, .int m_rooms, .int m_people, .int m_things, .int m_draftRooms, .int m_draftPeople, .int m_draftThings, .ref a_m_s, .ref a_m_kept, .ref a_m_isKept, .ref a_m_due, .int m_dueMany, .ref a_m_cost, .ref a_m_then, .ref a_m_by])), (a_m_s, .inl (cI, 21, .inl m_s)), (a_m_kept, .inl (cI, 42, .inl m_kept)), (a_m_isKept, .inl (cZ, 2, .inl m_isKept))]) E hw [] [0, 1, 2, 3] [0, 1, 2, 3] (va_runS (As := [.int p1, .int (0 : Int32), .int (1 : Int32)]) (rest := []) E.1 (c_X7_in l dC dI cI cB cZ aK aV H.size p1 (0 : Int32) (1 : Int32) r1 hu2) (va_cwS 3 hts gX7_back_X7_in rfl rfl rfl hd_X7_in ⟨Nat.le_of_ble_eq_true rfl, Nat.le_of_ble_eq_true rfl⟩) (pre_S E hw [] rfl rfl) rfl rfl hl.1 rfl (lv_room (Nat.le_of_ble_eq_true rfl)) dX7_back_8 ⟨Nat.zero_le _, Nat.zero_le _⟩) rfl rfl rfl (by decide) rfl rfl (fun H locs hw => ?_)
  refine lv_if_ne (tgt := 16) hx hb dX7_back_11 (by decide) (fun kc => ?_) (fun kc => ?_)
  · have hf := if_f hf kc
    refine lv_aload_n hx hb dX7_back_16 rfl (lv_at hl 0 rfl) ?_
    refine r_get E hw iX7 0 22 rfl rfl (by decide) kf34 rfl rfl dX7_back_17 ?_
    refine lv_iload_n hx hb dX7_back_20 rfl (lv_at hl 1 rfl) ?_
    obtain ⟨g3, hf⟩ := gd_some hf
    refine r_zald E hw 3 rfl g3 dX7_back_21 ?_
    refine lv_if_ne (tgt := 28) hx hb dX7_back_22 (by decide) (fun kc => ?_) (fun kc => ?_)
    · have hf := if_f hf kc
      refine lv_iconst (v := (0 : Int32)) hx hb dX7_back_28 rfl ?_
      refine lv_istore_n (lv' := [(2, .int (0 : Int32)), (0, .ref a_m), (1, .int p1)]) hx hb dX7_back_29 rfl hl (by decide) rfl (fun ls hl => ?_)
      refine (loop2_sound (r := (r, q0, q1)) (P := fun (x7 : Int32) (x8 : Nat → Int32) => ∀ (ls : Array Slot) (H : Heap) (locs : List Loc), lv_has ls 3 [(2, .int x7), (0, .ref a_m), (1, .int p1)] → Wd A s.heap (dC, dI) [(a_m, .inr (7, [.int (0 : Int32), .long m_trace, .ref a_m_text, .int m_typed, .int m_next, .int m_token, .int m_place, .int m_value, .int m_fault, .ref a_m_lifts, .ref a_m_price, .ref a_m_stood, .ref a_m_hands, .ref a_m_wanted, .int m_rooms, .int m_people, .int m_things, .int m_draftRooms, .int m_draftPeople, .int m_draftThings, .ref a_m_s, .ref a_m_kept, .ref a_m_isKept, .ref a_m_due, .int m_dueMany, .ref a_m_cost, .ref a_m_then, .ref a_m_by])), (a_m_s, .inl (cI, 21, .inl x8)), (a_m_kept, .inl (cI, 42, .inl m_kept)), (a_m_isKept, .inl (cZ, 2, .inl m_isKept))] H locs → W p l e ({ frames := 1, cells := 0, slots := 0, locals := 22 } : Jvm.Room) s m args below meth c H locs 0 0 Q (F0 m 30 ls [])) (fun B30 x7 x8 ih30 hf => ?_) _ (0 : Int32) m_s hf) ls H locs (lv_sub hl [0, 1, 2] rfl) hw
      intro ls H locs hl hw
      refine lv_iload_n hx hb dX7_back_30 rfl (lv_at hl 0 rfl) ?_
      refine lv_bipush (v := (21 : Int32)) hx hb dX7_back_31 rfl ?_
      refine lv_icmp_ge (tgt := 59) hx hb dX7_back_33 (by decide) (fun kc => ?_) (fun kc => ?_)
      · have hf := if_t hf kc
        refine lv_aload_n hx hb dX7_back_59 rfl (lv_at hl 1 rfl) ?_
        refine r_get E hw iX7 0 20 rfl rfl (by decide) kf28 rfl rfl dX7_back_60 ?_
        refine lv_bipush (v := (20 : Int32)) hx hb dX7_back_63 rfl ?_
        obtain ⟨g9, hf⟩ := gd_some hf
        refine r_iald E hw 1 rfl g9 dX7_back_65 ?_
        obtain ⟨rfl, rfl, rfl⟩ := sm3 hf
        exact hret H locs ls 66 hw dX7_back_66
      · have hf := if_f hf kc
        refine lv_aload_n hx hb dX7_back_36 rfl (lv_at hl 1 rfl) ?_
        refine r_get E hw iX7 0 20 rfl rfl (by decide) kf28 rfl rfl dX7_back_37 ?_
        refine lv_iload_n hx hb dX7_back_40 rfl (lv_at hl 0 rfl) ?_
        refine lv_aload_n hx hb dX7_back_41 rfl (lv_at hl 1 rfl) ?_
        refine r_get E hw iX7 0 21 rfl rfl (by decide) kf31 rfl rfl dX7_back_42 ?_
        refine lv_bipush (v := (21 : Int32)) hx hb dX7_back_45 rfl ?_
        refine lv_iload_n hx hb dX7_back_47 rfl (lv_at hl 2 rfl) ?_
        refine lv_imul hx hb dX7_back_48 ?_
        refine lv_iload_n hx hb dX7_back_49 rfl (lv_at hl 0 rfl) ?_
        refine lv_iadd hx hb dX7_back_50 ?_
        obtain ⟨g10, hf⟩ := gd_some hf
        refine r_iald E hw 2 rfl g10 dX7_back_51 ?_
        obtain ⟨g11, hf⟩ := gd_some hf
        refine r_iast E hw 1 rfl g11 [(a_m, .inr (7, [.int (0 : Int32), .long m_trace, .ref a_m_text, .int m_typed, .int m_next, .int m_token, .int m_place, .int m_value, .int m_fault, .ref a_m_lifts, .ref a_m_price, .ref a_m_stood, .ref a_m_hands, .ref a_m_wanted, .int m_rooms, .int m_people, .int m_things, .int m_draftRooms, .int m_draftPeople, .int m_draftThings, .ref a_m_s, .ref a_m_kept, .ref a_m_isKept, .ref a_m_due, .int m_dueMany, .ref a_m_cost, .ref a_m_then, .ref a_m_by])), (a_m_s, .inl (cI, 21, .inl (upd x8 x7.toNatClampNeg (m_kept (((21 : Int32) * p1) + x7).toNatClampNeg)))), (a_m_kept, .inl (cI, 42, .inl m_kept)), (a_m_isKept, .inl (cZ, 2, .inl m_isKept))] rfl dX7_back_52 (fun H locs hw => ?_)
        refine lv_iinc (v := (x7 + (1 : Int32))) (lv' := [(2, .int (x7 + (1 : Int32))), (0, .ref a_m), (1, .int p1)]) hx hb dX7_back_53 hl (k := 0) rfl rfl (by decide) rfl (fun ls hl => ?_)
        refine lv_goto (tgt := 30) hx hb dX7_back_56 (by decide) ?_
        exact ih30 (x7 + (1 : Int32)) (upd x8 x7.toNatClampNeg (m_kept (((21 : Int32) * p1) + x7).toNatClampNeg)) hf ls H locs (lv_sub hl [0, 1, 2] rfl) hw
    · have hf := if_t hf kc
      refine lv_bipush (v := (-2 : Int32)) hx hb dX7_back_25 rfl ?_
      obtain ⟨rfl, rfl, rfl⟩ := sm3 hf
      exact hret H locs ls 27 hw dX7_back_27
  · have hf := if_t hf kc
    refine lv_iconst (v := (-1 : Int32)) hx hb dX7_back_14 rfl ?_
    obtain ⟨rfl, rfl, rfl⟩ := sm3 hf
    exact hret H locs ls 15 hw dX7_back_15
def f_X7_count (p1 : Int32) (m_typed : Int32) (m_rooms : Int32) (m_people : Int32) (m_things : Int32) (m_wanted : Nat → Int32) (m_s : Nat → Int32) : Option (Int32 × Int32) :=
  loop3 (fun B12 (x5 : Int32) (x6 : Int32) (x7 : Int32) => (if m_things ≤ x7 then (if p1 = 0 then some (m_rooms, (0 : Int32)) else (if p1 = (1 : Int32) then some (m_people, (0 : Int32)) else (if p1 = (2 : Int32) then some (m_things, (0 : Int32)) else (if p1 = (3 : Int32) then some (x5, (0 : Int32)) else (if p1 = (4 : Int32) then some (x6, (0 : Int32)) else (if p1 = (5 : Int32) then gd (inb (20 : Int32) 21) (some ((m_s (20 : Int32).toNatClampNeg), (0 : Int32))) else (if p1 = (6 : Int32) then some (m_typed, (0 : Int32)) else some ((-1 : Int32), (0 : Int32))))))))) else gd (inb x7 16) (jn (fun (x10 : Int32) => gd (inb ((8 : Int32) + x7) 21) ((if (m_s ((8 : Int32) + x7).toNatClampNeg) = x7 then B12 (x5 + x10) (x6 + (1 : Int32)) (x7 + (1 : Int32)) else B12 (x5 + x10) (x6 + (0 : Int32)) (x7 + (1 : Int32))))) (fun J39 => (if (m_wanted x7.toNatClampNeg) = (-9 : Int32) then J39 (0 : Int32) else J39 (1 : Int32)))))) FU (0 : Int32) (0 : Int32) (0 : Int32)
theorem hd_X7_count : yX7_count.cls = RX7 ∧ yX7_count.cls ≠ "java/lang/invoke/MethodHandle" ∧ yX7_count.cls ≠ "java/lang/invoke/VarHandle" ∧ (parseMethodDescriptor yX7_count.desc).map (fun d => d.parameters.length) = some 1 := by decide +kernel
set_option maxHeartbeats 4000000 in
set_option maxRecDepth 100000 in
theorem c_X7_count (l : Launch) (dC : Nat → ClassId) (dI : Nat → Nat → Nat) (cI cB cZ : ClassId) (aK aV : Nat → Nat) (a_m a_m_text a_m_lifts a_m_price a_m_stood a_m_hands a_m_wanted a_m_s a_m_kept a_m_isKept a_m_due a_m_cost a_m_then a_m_by : Nat) (sz : Nat) (m_thrown : Int32) (m_trace : Int64) (m_typed : Int32) (m_next : Int32) (m_token : Int32) (m_place : Int32) (m_value : Int32) (m_fault : Int32) (m_rooms : Int32) (m_people : Int32) (m_things : Int32) (m_draftRooms : Int32) (m_draftPeople : Int32) (m_draftThings : Int32) (m_dueMany : Int32) (m_wanted : Nat → Int32) (m_s : Nat → Int32) (p1 : Int32) (r : Int32) (q0 : Int32) (hf : f_X7_count p1 m_typed m_rooms m_people m_things m_wanted m_s = some (r, q0)) : Met l yX7_count wsX7_count ({ frames := 0, cells := 0, slots := 0, locals := 0 } : Jvm.Room) (va_Pc [.ref a_m, .int p1] (preW (dC, dI) (tyL cI cB cZ) aK aV sz [(a_m, .inr (7, [.int m_thrown, .long m_trace, .ref a_m_text, .int m_typed, .int m_next, .int m_token, .int m_place, .int m_value, .int m_fault, .ref a_m_lifts, .ref a_m_price, .ref a_m_stood, .ref a_m_hands, .ref a_m_wanted, .int m_rooms, .int m_people, .int m_things, .int m_draftRooms, .int m_draftPeople, .int m_draftThings, .ref a_m_s, .ref a_m_kept, .ref a_m_isKept, .ref a_m_due, .int m_dueMany, .ref a_m_cost, .ref a_m_then, .ref a_m_by])), (a_m_wanted, .inl (cI, 16, .inl m_wanted)), (a_m_s, .inl (cI, 21, .inl m_s))])) (va_Qi (fun v (_ : Unit) => v = r) (postW (dC, dI) (tyL cI cB cZ) (va_A [(a_m, .inr (7, [.int m_thrown, .long m_trace, .ref a_m_text, .int m_typed, .int m_next, .int m_token, .int m_place, .int m_value, .int m_fault, .ref a_m_lifts, .ref a_m_price, .ref a_m_stood, .ref a_m_hands, .ref a_m_wanted, .int m_rooms, .int m_people, .int m_things, .int m_draftRooms, .int m_draftPeople, .int m_draftThings, .ref a_m_s, .ref a_m_kept, .ref a_m_isKept, .ref a_m_due, .int m_dueMany, .ref a_m_cost, .ref a_m_then, .ref a_m_by])), (a_m_wanted, .inl (cI, 16, .inl m_wanted)), (a_m_s, .inl (cI, 21, .inl m_s))] sz) [(a_m, .inr (7, [.int q0, .long m_trace, .ref a_m_text, .int m_typed, .int m_next, .int m_token, .int m_place, .int m_value, .int m_fault, .ref a_m_lifts, .ref a_m_price, .ref a_m_stood, .ref a_m_hands, .ref a_m_wanted, .int m_rooms, .int m_people, .int m_things, .int m_draftRooms, .int m_draftPeople, .int m_draftThings, .ref a_m_s, .ref a_m_kept, .ref a_m_isKept, .ref a_m_due, .int m_dueMany, .ref a_m_cost, .ref a_m_then, .ref a_m_by])), (a_m_wanted, .inl (cI, 16, .inl m_wanted)), (a_m_s, .inl (cI, 21, .inl m_s))]) (va_A [(a_m, .inr (7, [.int m_thrown, .long m_trace, .ref a_m_text, .int m_typed, .int m_next, .int m_token, .int m_place, .int m_value, .int m_fault, .ref a_m_lifts, .ref a_m_price, .ref a_m_stood, .ref a_m_hands, .ref a_m_wanted, .int m_rooms, .int m_people, .int m_things, .int m_draftRooms, .int m_draftPeople, .int m_draftThings, .ref a_m_s, .ref a_m_kept, .ref a_m_isKept, .ref a_m_due, .int m_dueMany, .ref a_m_cost, .ref a_m_then, .ref a_m_by])), (a_m_wanted, .inl (cI, 16, .inl m_wanted)), (a_m_s, .inl (cI, 21, .inl m_s))] sz)) 0 0 (va_A [(a_m, .inr (7, [.int m_thrown, .long m_trace, .ref a_m_text, .int m_typed, .int m_next, .int m_token, .int m_place, .int m_value, .int m_fault, .ref a_m_lifts, .ref a_m_price, .ref a_m_stood, .ref a_m_hands, .ref a_m_wanted, .int m_rooms, .int m_people, .int m_things, .int m_draftRooms, .int m_draftPeople, .int m_draftThings, .ref a_m_s, .ref a_m_kept, .ref a_m_isKept, .ref a_m_due, .int m_dueMany, .ref a_m_cost, .ref a_m_then, .ref a_m_by])), (a_m_wanted, .inl (cI, 16, .inl m_wanted)), (a_m_s, .inl (cI, 21, .inl m_s))] sz) := by
  refine met_i (cc := cX7_count) (maxL := 5) (own := RX7) (by decide) rfl (Nat.le_of_ble_eq_true rfl) rfl (fun p e s m args below meth c Q A E hret ls H locs hl hw => ?_)
  obtain ⟨⟨hx, hb, hml, hown, hts⟩, hK, hN, hA, hX⟩ := id E
  have hl : lv_has ls 5 [(0, .ref a_m), (1, .int p1)] := hl
  have iX7 : ∀ w ∈ wsX70, w ∈ wsX7_count := by decide +kernel
  have kf57 := hts (.fieldLink RX7 57 "FiveThingsModel" "thrown" "I") (by decide +kernel)
  have kf133 := hts (.fieldLink RX7 133 "FiveThingsModel" "things" "I") (by decide +kernel)
  have kf64 := hts (.fieldLink RX7 64 "FiveThingsModel" "typed" "I") (by decide +kernel)
  have kf28 := hts (.fieldLink RX7 28 "FiveThingsModel" "s" "[I") (by decide +kernel)
  have kf130 := hts (.fieldLink RX7 130 "FiveThingsModel" "people" "I") (by decide +kernel)
  have kf50 := hts (.fieldLink RX7 50 "FiveThingsModel" "rooms" "I") (by decide +kernel)
  have kf25 := hts (.fieldLink RX7 25 "FiveThingsModel" "wanted" "[I") (by decide +kernel)
  unfold f_X7_count at hf
  refine lv_aload_n hx hb dX7_count_0 rfl (lv_at hl 0 rfl) ?_
  refine lv_iconst (v := (0 : Int32)) hx hb dX7_count_1 rfl ?_
  refine r_put E hw iX7 tyX7_ok nmX7 0 0 rfl rfl (by decide) kf57 rfl rfl rfl rfl (Nat.le_of_ble_eq_true rfl) [(a_m, .inr (7, [.int (0 : Int32), .long m_trace, .ref a_m_text, .int m_typed, .int m_next, .int m_token, .int m_place, .int m_value, .int m_fault, .ref a_m_lifts, .ref a_m_price, .ref a_m_stood, .ref a_m_hands, .ref a_m_wanted, .int m_rooms, .int m_people, .int m_things, .int m_draftRooms, .int m_draftPeople, .int m_draftThings, .ref a_m_s, .ref a_m_kept, .ref a_m_isKept, .ref a_m_due, .int m_dueMany, .ref a_m_cost, .ref a_m_then, .ref a_m_by])), (a_m_wanted, .inl (cI, 16, .inl m_wanted)), (a_m_s, .inl (cI, 21, .inl m_s))] rfl dX7_count_2 (fun H locs hw => ?_)
  refine lv_iconst (v := (0 : Int32)) hx hb dX7_count_5 rfl ?_
  refine lv_istore_n (lv' := [(2, .int (0 : Int32)), (0, .ref a_m), (1, .int p1)]) hx hb dX7_count_6 rfl hl (by decide) rfl (fun ls hl => ?_)
  refine lv_iconst (v := (0 : Int32)) hx hb dX7_count_7 rfl ?_
  refine lv_istore_n (lv' := [(3, .int (0 : Int32)), (2, .int (0 : Int32)), (0, .ref a_m), (1, .int p1)]) hx hb dX7_count_8 rfl hl (by decide) rfl (fun ls hl => ?_)
  refine lv_iconst (v := (0 : Int32)) hx hb dX7_count_9 rfl ?_
  refine lv_istore (lv' := [(4, .int (0 : Int32)), (3, .int (0 : Int32)), (2, .int (0 : Int32)), (0, .ref a_m), (1, .int p1)]) hx hb dX7_count_10 hl (by decide) rfl (fun ls hl => ?_)
  refine (loop3_sound (r := (r, q0)) (P := fun (x5 : Int32) (x6 : Int32) (x7 : Int32) => ∀ (ls : Array Slot) (H : Heap) (locs : List Loc), lv_has ls 5 [(4, .int x7), (3, .int x6), (2, .int x5), (0, .ref a_m), (1, .int p1)] → Wd A s.heap (dC, dI) [(a_m, .inr (7, [.int (0 : Int32), .long m_trace, .ref a_m_text, .int m_typed, .int m_next, .int m_token, .int m_place, .int m_value, .int m_fault, .ref a_m_lifts, .ref a_m_price, .ref a_m_stood, .ref a_m_hands, .ref a_m_wanted, .int m_rooms, .int m_people, .int m_things, .int m_draftRooms, .int m_draftPeople, .int m_draftThings, .ref a_m_s, .ref a_m_kept, .ref a_m_isKept, .ref a_m_due, .int m_dueMany, .ref a_m_cost, .ref a_m_then, .ref a_m_by])), (a_m_wanted, .inl (cI, 16, .inl m_wanted)), (a_m_s, .inl (cI, 21, .inl m_s))] H locs → W p l e ({ frames := 0, cells := 0, slots := 0, locals := 0 } : Jvm.Room) s m args below meth c H locs 0 0 Q (F0 m 12 ls [])) (fun B12 x5 x6 x7 ih12 hf => ?_) _ (0 : Int32) (0 : Int32) (0 : Int32) hf) ls H locs (lv_sub hl [0, 1, 2, 3, 4] rfl) hw
  intro ls H locs hl hw
  refine lv_iload hx hb dX7_count_12 (lv_at hl 0 rfl) ?_
  refine lv_aload_n hx hb dX7_count_14 rfl (lv_at hl 3 rfl) ?_
  refine r_get E hw iX7 0 16 rfl rfl (by decide) kf133 rfl rfl dX7_count_15 ?_
  refine lv_icmp_ge (tgt := 70) hx hb dX7_count_18 (by decide) (fun kc => ?_) (fun kc => ?_)
  · have hf := if_t hf kc
    refine lv_iload_n hx hb dX7_count_70 rfl (lv_at hl 4 rfl) ?_
    refine lv_if_ne (tgt := 81) hx hb dX7_count_71 (by decide) (fun kc => ?_) (fun kc => ?_)
    · have hf := if_f hf kc
      refine lv_iload_n hx hb dX7_count_81 rfl (lv_at hl 4 rfl) ?_
      refine lv_iconst (v := (1 : Int32)) hx hb dX7_count_82 rfl ?_
      refine lv_icmp_ne (tgt := 93) hx hb dX7_count_83 (by decide) (fun kc => ?_) (fun kc => ?_)
      · have hf := if_f hf kc
        refine lv_iload_n hx hb dX7_count_93 rfl (lv_at hl 4 rfl) ?_
        refine lv_iconst (v := (2 : Int32)) hx hb dX7_count_94 rfl ?_
        refine lv_icmp_ne (tgt := 105) hx hb dX7_count_95 (by decide) (fun kc => ?_) (fun kc => ?_)
        · have hf := if_f hf kc
          refine lv_iload_n hx hb dX7_count_105 rfl (lv_at hl 4 rfl) ?_
          refine lv_iconst (v := (3 : Int32)) hx hb dX7_count_106 rfl ?_
          refine lv_icmp_ne (tgt := 114) hx hb dX7_count_107 (by decide) (fun kc => ?_) (fun kc => ?_)
          · have hf := if_f hf kc
            refine lv_iload_n hx hb dX7_count_114 rfl (lv_at hl 4 rfl) ?_
            refine lv_iconst (v := (4 : Int32)) hx hb dX7_count_115 rfl ?_
            refine lv_icmp_ne (tgt := 123) hx hb dX7_count_116 (by decide) (fun kc => ?_) (fun kc => ?_)
            · have hf := if_f hf kc
              refine lv_iload_n hx hb dX7_count_123 rfl (lv_at hl 4 rfl) ?_
              refine lv_iconst (v := (5 : Int32)) hx hb dX7_count_124 rfl ?_
              refine lv_icmp_ne (tgt := 138) hx hb dX7_count_125 (by decide) (fun kc => ?_) (fun kc => ?_)
              · have hf := if_f hf kc
                refine lv_iload_n hx hb dX7_count_138 rfl (lv_at hl 4 rfl) ?_
                refine lv_bipush (v := (6 : Int32)) hx hb dX7_count_139 rfl ?_
                refine lv_icmp_ne (tgt := 151) hx hb dX7_count_141 (by decide) (fun kc => ?_) (fun kc => ?_)
                · have hf := if_f hf kc
                  refine lv_iconst (v := (-1 : Int32)) hx hb dX7_count_151 rfl ?_
                  obtain ⟨rfl, rfl⟩ := sm2 hf
                  exact hret H locs ls 152 hw dX7_count_152
                · have hf := if_t hf kc
                  refine lv_aload_n hx hb dX7_count_144 rfl (lv_at hl 3 rfl) ?_
                  refine r_get E hw iX7 0 3 rfl rfl (by decide) kf64 rfl rfl dX7_count_145 ?_
                  refine lv_goto (tgt := 152) hx hb dX7_count_148 (by decide) ?_
                  obtain ⟨rfl, rfl⟩ := sm2 hf
                  exact hret H locs ls 152 hw dX7_count_152
              · have hf := if_t hf kc
                refine lv_aload_n hx hb dX7_count_128 rfl (lv_at hl 3 rfl) ?_
                refine r_get E hw iX7 0 20 rfl rfl (by decide) kf28 rfl rfl dX7_count_129 ?_
                refine lv_bipush (v := (20 : Int32)) hx hb dX7_count_132 rfl ?_
                obtain ⟨g8, hf⟩ := gd_some hf
                refine r_iald E hw 2 rfl g8 dX7_count_134 ?_
                refine lv_goto (tgt := 152) hx hb dX7_count_135 (by decide) ?_
                obtain ⟨rfl, rfl⟩ := sm2 hf
                exact hret H locs ls 152 hw dX7_count_152
            · have hf := if_t hf kc
              refine lv_iload_n hx hb dX7_count_119 rfl (lv_at hl 1 rfl) ?_
              refine lv_goto (tgt := 152) hx hb dX7_count_120 (by decide) ?_
              obtain ⟨rfl, rfl⟩ := sm2 hf
              exact hret H locs ls 152 hw dX7_count_152
          · have hf := if_t hf kc
            refine lv_iload_n hx hb dX7_count_110 rfl (lv_at hl 2 rfl) ?_
            refine lv_goto (tgt := 152) hx hb dX7_count_111 (by decide) ?_
            obtain ⟨rfl, rfl⟩ := sm2 hf
            exact hret H locs ls 152 hw dX7_count_152
        · have hf := if_t hf kc
          refine lv_aload_n hx hb dX7_count_98 rfl (lv_at hl 3 rfl) ?_
          refine r_get E hw iX7 0 16 rfl rfl (by decide) kf133 rfl rfl dX7_count_99 ?_
          refine lv_goto (tgt := 152) hx hb dX7_count_102 (by decide) ?_
          obtain ⟨rfl, rfl⟩ := sm2 hf
          exact hret H locs ls 152 hw dX7_count_152
      · have hf := if_t hf kc
        refine lv_aload_n hx hb dX7_count_86 rfl (lv_at hl 3 rfl) ?_
        refine r_get E hw iX7 0 15 rfl rfl (by decide) kf130 rfl rfl dX7_count_87 ?_
        refine lv_goto (tgt := 152) hx hb dX7_count_90 (by decide) ?_
        obtain ⟨rfl, rfl⟩ := sm2 hf
        exact hret H locs ls 152 hw dX7_count_152
    · have hf := if_t hf kc
      refine lv_aload_n hx hb dX7_count_74 rfl (lv_at hl 3 rfl) ?_
      refine r_get E hw iX7 0 14 rfl rfl (by decide) kf50 rfl rfl dX7_count_75 ?_
      refine lv_goto (tgt := 152) hx hb dX7_count_78 (by decide) ?_
      obtain ⟨rfl, rfl⟩ := sm2 hf
      exact hret H locs ls 152 hw dX7_count_152
  · have hf := if_f hf kc
    refine lv_iload_n hx hb dX7_count_21 rfl (lv_at hl 2 rfl) ?_
    refine lv_aload_n hx hb dX7_count_22 rfl (lv_at hl 3 rfl) ?_
    refine r_get E hw iX7 0 13 rfl rfl (by decide) kf25 rfl rfl dX7_count_23 ?_
    refine lv_iload hx hb dX7_count_26 (lv_at hl 0 rfl) ?_
    obtain ⟨g9, hf⟩ := gd_some hf
    refine r_iald E hw 1 rfl g9 dX7_count_28 ?_
    refine lv_bipush (v := (-9 : Int32)) hx hb dX7_count_29 rfl ?_
    refine jn_sound (P := fun J => ∀ (x10 : Int32) (ls : Array Slot) (H : Heap) (locs : List Loc), J x10 = some (r, q0) → lv_has ls 5 [(0, .ref a_m), (1, .int p1), (3, .int x6), (4, .int x7)] → Wd A s.heap (dC, dI) [(a_m, .inr (7, [.int (0 : Int32), .long m_trace, .ref a_m_text, .int m_typed, .int m_next, .int m_token, .int m_place, .int m_value, .int m_fault, .ref a_m_lifts, .ref a_m_price, .ref a_m_stood, .ref a_m_hands, .ref a_m_wanted, .int m_rooms, .int m_people, .int m_things, .int m_draftRooms, .int m_draftPeople, .int m_draftThings, .ref a_m_s, .ref a_m_kept, .ref a_m_isKept, .ref a_m_due, .int m_dueMany, .ref a_m_cost, .ref a_m_then, .ref a_m_by])), (a_m_wanted, .inl (cI, 16, .inl m_wanted)), (a_m_s, .inl (cI, 21, .inl m_s))] H locs → W p l e ({ frames := 0, cells := 0, slots := 0, locals := 0 } : Jvm.Room) s m args below meth c H locs 0 0 Q (F0 m 39 ls [.int x10, .int x5])) hf ?_ ?_
    · intro x10 ls H locs hf hl hw
      refine lv_iadd hx hb dX7_count_39 ?_
      refine lv_istore_n (lv' := [(2, .int (x5 + x10)), (0, .ref a_m), (1, .int p1), (3, .int x6), (4, .int x7)]) hx hb dX7_count_40 rfl hl (by decide) rfl (fun ls hl => ?_)
      refine lv_iload_n hx hb dX7_count_41 rfl (lv_at hl 3 rfl) ?_
      refine lv_aload_n hx hb dX7_count_42 rfl (lv_at hl 1 rfl) ?_
      refine r_get E hw iX7 0 20 rfl rfl (by decide) kf28 rfl rfl dX7_count_43 ?_
      refine lv_bipush (v := (8 : Int32)) hx hb dX7_count_46 rfl ?_
      refine lv_iload hx hb dX7_count_48 (lv_at hl 4 rfl) ?_
      refine lv_iadd hx hb dX7_count_50 ?_
      obtain ⟨g11, hf⟩ := gd_some hf
      refine r_iald E hw 2 rfl g11 dX7_count_51 ?_
      refine lv_iload hx hb dX7_count_52 (lv_at hl 4 rfl) ?_
      refine lv_icmp_ne (tgt := 61) hx hb dX7_count_54 (by decide) (fun kc => ?_) (fun kc => ?_)
      · have hf := if_f hf kc
        refine lv_iconst (v := (0 : Int32)) hx hb dX7_count_61 rfl ?_
        refine lv_iadd hx hb dX7_count_62 ?_
        refine lv_istore_n (lv' := [(3, .int (x6 + (0 : Int32))), (2, .int (x5 + x10)), (0, .ref a_m), (1, .int p1), (4, .int x7)]) hx hb dX7_count_63 rfl hl (by decide) rfl (fun ls hl => ?_)
        refine lv_iinc (v := (x7 + (1 : Int32))) (lv' := [(4, .int (x7 + (1 : Int32))), (3, .int (x6 + (0 : Int32))), (2, .int (x5 + x10)), (0, .ref a_m), (1, .int p1)]) hx hb dX7_count_64 hl (k := 4) rfl rfl (by decide) rfl (fun ls hl => ?_)
        refine lv_goto (tgt := 12) hx hb dX7_count_67 (by decide) ?_
        exact ih12 (x5 + x10) (x6 + (0 : Int32)) (x7 + (1 : Int32)) hf ls H locs (lv_sub hl [0, 1, 2, 3, 4] rfl) hw
      · have hf := if_t hf kc
        refine lv_iconst (v := (1 : Int32)) hx hb dX7_count_57 rfl ?_
        refine lv_goto (tgt := 62) hx hb dX7_count_58 (by decide) ?_
        refine lv_iadd hx hb dX7_count_62 ?_
        refine lv_istore_n (lv' := [(3, .int (x6 + (1 : Int32))), (2, .int (x5 + x10)), (0, .ref a_m), (1, .int p1), (4, .int x7)]) hx hb dX7_count_63 rfl hl (by decide) rfl (fun ls hl => ?_)
        refine lv_iinc (v := (x7 + (1 : Int32))) (lv' := [(4, .int (x7 + (1 : Int32))), (3, .int (x6 + (1 : Int32))), (2, .int (x5 + x10)), (0, .ref a_m), (1, .int p1)]) hx hb dX7_count_64 hl (k := 4) rfl rfl (by decide) rfl (fun ls hl => ?_)
        refine lv_goto (tgt := 12) hx hb dX7_count_67 (by decide) ?_
        exact ih12 (x5 + x10) (x6 + (1 : Int32)) (x7 + (1 : Int32)) hf ls H locs (lv_sub hl [0, 1, 2, 3, 4] rfl) hw
    · intro J39 hJ39 hf
      refine lv_icmp_eq (tgt := 38) hx hb dX7_count_31 (by decide) (fun kc => ?_) (fun kc => ?_)
      · have hf := if_t hf kc
        refine lv_iconst (v := (0 : Int32)) hx hb dX7_count_38 rfl ?_
        exact hJ39 (0 : Int32) ls H locs hf (lv_sub hl [3, 4, 1, 0] rfl) hw
      · have hf := if_f hf kc
        refine lv_iconst (v := (1 : Int32)) hx hb dX7_count_34 rfl ?_
        refine lv_goto (tgt := 39) hx hb dX7_count_35 (by decide) ?_
        exact hJ39 (1 : Int32) ls H locs hf (lv_sub hl [3, 4, 1, 0] rfl) hw
def f_X7_trace  (m_trace : Int64) : Option (Int64 × Int32) :=
  some (m_trace, (0 : Int32))
theorem hd_X7_trace : yX7_trace.cls = RX7 ∧ yX7_trace.cls ≠ "java/lang/invoke/MethodHandle" ∧ yX7_trace.cls ≠ "java/lang/invoke/VarHandle" ∧ (parseMethodDescriptor yX7_trace.desc).map (fun d => d.parameters.length) = some 0 := by decide +kernel
set_option maxHeartbeats 4000000 in
set_option maxRecDepth 100000 in
theorem c_X7_trace (l : Launch) (dC : Nat → ClassId) (dI : Nat → Nat → Nat) (cI cB cZ : ClassId) (aK aV : Nat → Nat) (a_m a_m_text a_m_lifts a_m_price a_m_stood a_m_hands a_m_wanted a_m_s a_m_kept a_m_isKept a_m_due a_m_cost a_m_then a_m_by : Nat) (sz : Nat) (m_thrown : Int32) (m_trace : Int64) (m_typed : Int32) (m_next : Int32) (m_token : Int32) (m_place : Int32) (m_value : Int32) (m_fault : Int32) (m_rooms : Int32) (m_people : Int32) (m_things : Int32) (m_draftRooms : Int32) (m_draftPeople : Int32) (m_draftThings : Int32) (m_dueMany : Int32) (r : Int64) (q0 : Int32) (hf : f_X7_trace m_trace = some (r, q0)) : Met l yX7_trace wsX7_trace ({ frames := 0, cells := 0, slots := 0, locals := 0 } : Jvm.Room) (va_Pc [.ref a_m] (preW (dC, dI) (tyL cI cB cZ) aK aV sz [(a_m, .inr (7, [.int m_thrown, .long m_trace, .ref a_m_text, .int m_typed, .int m_next, .int m_token, .int m_place, .int m_value, .int m_fault, .ref a_m_lifts, .ref a_m_price, .ref a_m_stood, .ref a_m_hands, .ref a_m_wanted, .int m_rooms, .int m_people, .int m_things, .int m_draftRooms, .int m_draftPeople, .int m_draftThings, .ref a_m_s, .ref a_m_kept, .ref a_m_isKept, .ref a_m_due, .int m_dueMany, .ref a_m_cost, .ref a_m_then, .ref a_m_by]))])) (va_Ql (fun v (_ : Unit) => v = r) (postW (dC, dI) (tyL cI cB cZ) (va_A [(a_m, .inr (7, [.int m_thrown, .long m_trace, .ref a_m_text, .int m_typed, .int m_next, .int m_token, .int m_place, .int m_value, .int m_fault, .ref a_m_lifts, .ref a_m_price, .ref a_m_stood, .ref a_m_hands, .ref a_m_wanted, .int m_rooms, .int m_people, .int m_things, .int m_draftRooms, .int m_draftPeople, .int m_draftThings, .ref a_m_s, .ref a_m_kept, .ref a_m_isKept, .ref a_m_due, .int m_dueMany, .ref a_m_cost, .ref a_m_then, .ref a_m_by]))] sz) [(a_m, .inr (7, [.int q0, .long m_trace, .ref a_m_text, .int m_typed, .int m_next, .int m_token, .int m_place, .int m_value, .int m_fault, .ref a_m_lifts, .ref a_m_price, .ref a_m_stood, .ref a_m_hands, .ref a_m_wanted, .int m_rooms, .int m_people, .int m_things, .int m_draftRooms, .int m_draftPeople, .int m_draftThings, .ref a_m_s, .ref a_m_kept, .ref a_m_isKept, .ref a_m_due, .int m_dueMany, .ref a_m_cost, .ref a_m_then, .ref a_m_by]))]) (va_A [(a_m, .inr (7, [.int m_thrown, .long m_trace, .ref a_m_text, .int m_typed, .int m_next, .int m_token, .int m_place, .int m_value, .int m_fault, .ref a_m_lifts, .ref a_m_price, .ref a_m_stood, .ref a_m_hands, .ref a_m_wanted, .int m_rooms, .int m_people, .int m_things, .int m_draftRooms, .int m_draftPeople, .int m_draftThings, .ref a_m_s, .ref a_m_kept, .ref a_m_isKept, .ref a_m_due, .int m_dueMany, .ref a_m_cost, .ref a_m_then, .ref a_m_by]))] sz)) 0 0 (va_A [(a_m, .inr (7, [.int m_thrown, .long m_trace, .ref a_m_text, .int m_typed, .int m_next, .int m_token, .int m_place, .int m_value, .int m_fault, .ref a_m_lifts, .ref a_m_price, .ref a_m_stood, .ref a_m_hands, .ref a_m_wanted, .int m_rooms, .int m_people, .int m_things, .int m_draftRooms, .int m_draftPeople, .int m_draftThings, .ref a_m_s, .ref a_m_kept, .ref a_m_isKept, .ref a_m_due, .int m_dueMany, .ref a_m_cost, .ref a_m_then, .ref a_m_by]))] sz) := by
  refine met_l (cc := cX7_trace) (maxL := 1) (own := RX7) (by decide) rfl (Nat.le_of_ble_eq_true rfl) rfl (fun p e s m args below meth c Q A E hret ls H locs hl hw => ?_)
  obtain ⟨⟨hx, hb, hml, hown, hts⟩, hK, hN, hA, hX⟩ := id E
  have hl : lv_has ls 1 [(0, .ref a_m)] := hl
  have iX7 : ∀ w ∈ wsX70, w ∈ wsX7_trace := by decide +kernel
  have kf57 := hts (.fieldLink RX7 57 "FiveThingsModel" "thrown" "I") (by decide +kernel)
  have kf206 := hts (.fieldLink RX7 206 "FiveThingsModel" "trace" "J") (by decide +kernel)
  unfold f_X7_trace at hf
  refine lv_aload_n hx hb dX7_trace_0 rfl (lv_at hl 0 rfl) ?_
  refine lv_iconst (v := (0 : Int32)) hx hb dX7_trace_1 rfl ?_
  refine r_put E hw iX7 tyX7_ok nmX7 0 0 rfl rfl (by decide) kf57 rfl rfl rfl rfl (Nat.le_of_ble_eq_true rfl) [(a_m, .inr (7, [.int (0 : Int32), .long m_trace, .ref a_m_text, .int m_typed, .int m_next, .int m_token, .int m_place, .int m_value, .int m_fault, .ref a_m_lifts, .ref a_m_price, .ref a_m_stood, .ref a_m_hands, .ref a_m_wanted, .int m_rooms, .int m_people, .int m_things, .int m_draftRooms, .int m_draftPeople, .int m_draftThings, .ref a_m_s, .ref a_m_kept, .ref a_m_isKept, .ref a_m_due, .int m_dueMany, .ref a_m_cost, .ref a_m_then, .ref a_m_by]))] rfl dX7_trace_2 (fun H locs hw => ?_)
  refine lv_aload_n hx hb dX7_trace_5 rfl (lv_at hl 0 rfl) ?_
  refine r_get E hw iX7 0 1 rfl rfl (by decide) kf206 rfl rfl dX7_trace_6 ?_
  obtain ⟨rfl, rfl⟩ := sm2 hf
  exact hret H locs ls 9 hw dX7_trace_9
