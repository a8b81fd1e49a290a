theorem sumS_tail {p : Nat → Bool} {h : Nat → Nat} {T : Nat} : ∀ {n : Nat}, T ≤ n → (∀ i, T ≤ i → i < n → p i = false) → sumS p h n = sumS p h T
  | 0, h1, _ => by have : T = 0 := by omega
                   subst this; rfl
  | n + 1, h1, h2 => by
    by_cases q : T = n + 1
    · subst q; rfl
    · rw [sumS, sumS_tail (by omega) (fun i h3 h4 => h2 i h3 (by omega)), h2 n (by omega) (by omega)]
      simp
theorem e_countM {T : Nat} (hT : T ≤ 8) (v typed rooms people : Int32) {wanted s : Nat → Int32} {Wt B : Nat → Option Nat} (hw : ∀ t, t < T → wanted t = oI (Wt t)) (hb : ∀ t, t < T → ∀ n, Wt t = some n → n < 2 ^ 31) (hw2 : ∀ t, t < 8 → s (8 + t) = oI (B t)) (hb2 : ∀ t, t < 8 → ∀ n, B t = some n → n < 2 ^ 31) : f_X7_count v typed rooms people (nI T) wanted s = some ((if v = nI 0 then rooms else if v = nI 1 then people else if v = nI 2 then nI T else if v = nI 3 then nI (sumS (fun t => (Wt t).isSome) (fun _ => 1) T) else if v = nI 4 then nI (sumS (fun t => decide (B t = some t)) (fun _ => 1) T) else if v = nI 5 then s 20 else if v = nI 6 then typed else -1), 0) := by
  unfold f_X7_count
  refine loop3_run (fun i => nI (sumS (fun t => (Wt t).isSome) (fun _ => 1) i)) (fun i => nI (sumS (fun t => decide (B t = some t)) (fun _ => 1) i)) (fun i => nI i) T (fun i hi BB => ?_) (fun BB => ?_) (FU_lt (by omega)) rfl rfl rfl
  · have hc : ¬ T ≤ i := by omega
    by_cases q2 : B i = some i
    · cases q : Wt i
      · simp (maxSteps := 4000000) (disch := omega) only [hc, hw i hi, q, oI, hw2 i (show i < 8 by omega), q2, sumS, Option.isSome_none, decide_true, Bool.false_eq_true, Nat.add_zero, bd1_eq, bd2_eq, bd3_eq, bd4_eq, bd5_eq, bd6_eq, lt_eq, jn_eq, gd_in, nI_clamp, nI_eq, nI_leI, nI_ltI, nI_add, L0, L1, L2, L3, L4, L5, L6, L8, L16, L20, L21, Nat.reduceEqDiff, Nat.reduceLeDiff, Nat.reduceLT, Nat.reduceAdd, Nat.reduceMul, reduceIte]
      · rename_i z
        have hz : ¬ nI z = -9 := nI_ne9 (hb i hi z q)
        simp (maxSteps := 4000000) (disch := omega) only [hc, hw i hi, q, oI, hz, hw2 i (show i < 8 by omega), q2, sumS, Option.isSome_some, decide_true, bd1_eq, bd2_eq, bd3_eq, bd4_eq, bd5_eq, bd6_eq, lt_eq, jn_eq, gd_in, nI_clamp, nI_eq, nI_leI, nI_ltI, nI_add, L0, L1, L2, L3, L4, L5, L6, L8, L16, L20, L21, Nat.reduceEqDiff, Nat.reduceLeDiff, Nat.reduceLT, Nat.reduceAdd, Nat.reduceMul, reduceIte]
    · cases q : Wt i
      · simp (maxSteps := 4000000) (disch := omega) only [hc, hw i hi, q, oI_9 none (fun n h => by cases h), hw2 i (show i < 8 by omega), oI_nI (hb2 i (show i < 8 by omega)) (show i < 2 ^ 31 by omega), q2, sumS, Option.isSome_none, decide_false, Bool.false_eq_true, Nat.add_zero, bd1_eq, bd2_eq, bd3_eq, bd4_eq, bd5_eq, bd6_eq, lt_eq, jn_eq, gd_in, nI_clamp, nI_eq, nI_leI, nI_ltI, nI_add, L0, L1, L2, L3, L4, L5, L6, L8, L16, L20, L21, Nat.reduceEqDiff, Nat.reduceLeDiff, Nat.reduceLT, Nat.reduceAdd, Nat.reduceMul, reduceIte]
      · rename_i z
        have hz : ¬ nI z = -9 := nI_ne9 (hb i hi z q)
        simp (maxSteps := 4000000) (disch := omega) only [hc, hw i hi, q, oI_9 (some z) (fun n h => by cases h; exact hb i hi z q), reduceCtorEq, hw2 i (show i < 8 by omega), oI_nI (hb2 i (show i < 8 by omega)) (show i < 2 ^ 31 by omega), q2, sumS, Option.isSome_some, decide_false, Bool.false_eq_true, Nat.add_zero, bd1_eq, bd2_eq, bd3_eq, bd4_eq, bd5_eq, bd6_eq, lt_eq, jn_eq, gd_in, nI_clamp, nI_eq, nI_leI, nI_ltI, nI_add, L0, L1, L2, L3, L4, L5, L6, L8, L16, L20, L21, Nat.reduceEqDiff, Nat.reduceLeDiff, Nat.reduceLT, Nat.reduceAdd, Nat.reduceMul, reduceIte]
  · simp (maxSteps := 4000000) (disch := omega) only [Nat.le_refl, bd1_eq, bd2_eq, bd3_eq, bd4_eq, bd5_eq, bd6_eq, lt_eq, jn_eq, gd_in, nI_clamp, nI_eq, nI_leI, nI_ltI, nI_add, L0, L1, L2, L3, L4, L5, L6, L8, L16, L20, L21, Nat.reduceEqDiff, Nat.reduceLeDiff, Nat.reduceLT, Nat.reduceAdd, Nat.reduceMul, reduceIte]
    by_cases q0 : v = nI 0
    · simp only [q0, if_true]
    · by_cases q1 : v = nI 1
      · subst q1; simp only [q0, if_true, if_false]
      · by_cases q2 : v = nI 2
        · subst q2; simp only [q0, q1, if_true, if_false]
        · by_cases q3 : v = nI 3
          · subst q3; simp only [q0, q1, q2, if_true, if_false]
          · by_cases q4 : v = nI 4
            · subst q4; simp only [q0, q1, q2, q3, if_true, if_false]
            · by_cases q5 : v = nI 5
              · subst q5; simp only [q0, q1, q2, q3, q4, if_true, if_false]
              · by_cases q6 : v = nI 6
                · subst q6; simp only [q0, q1, q2, q3, q4, q5, if_true, if_false]
                · simp only [q0, q1, q2, q3, q4, q5, q6, if_false]
theorem e_become (a b c : Nat → Int32) (d : Int32) (x y z : Nat → Int32) : f_X1_become a b c d x y z = some (d, va_cpy x a 0 0 8, va_cpy y b 0 0 8, va_cpy z c 0 0 4) := rfl
theorem NowC_cpy {T : Nat} {rm : Nat → Nat} {B : Nat → Option Nat} {lf : Nat → Nat} {day : Nat} {room bundle left a b c : Nat → Int32} {dy : Int32} (h : NowC T rm B lf day room bundle left dy) : NowC T rm B lf day (va_cpy room a 0 0 8) (va_cpy bundle b 0 0 8) (va_cpy left c 0 0 4) dy := by
  refine ⟨fun t ht => ?_, fun t ht => ?_, fun p hp => ?_, h.2.2.2⟩
  · rw [sb_cpy0 ht]; exact h.1 t ht
  · rw [sb_cpy0 ht]; exact h.2.1 t ht
  · rw [sb_cpy0 hp]; exact h.2.2.1 p hp
theorem e_keepM {k : Nat} (hk : k < 2) (s kept isKept : Nat → Int32) : f_X7_keep (nI k) s kept isKept = some (s 20, 0, upd isKept k 1, fun j => if 21 * k ≤ j ∧ j < 21 * k + 21 then s (j - 21 * k) else kept j) := by
  unfold f_X7_keep
  have hin : f_X7_in (nI k) 0 1 = some 1 := by
    rw [e_in, if_neg (nI_pos (by omega)), if_neg]
    exact nI_nlt (a := 1) (by omega) (by decide)
  rw [hin, bd1_eq, if_neg n01]
  refine loop2_run (fun i => nI i) (fun i => fun j => if 21 * k ≤ j ∧ j < 21 * k + i then s (j - 21 * k) else kept j) 21 (fun i hi BB => ?_) (fun BB => ?_) (FU_lt (by decide)) rfl (by funext j; rw [if_neg (by omega)])
  · have hc : ¬ 21 ≤ i := by omega
    have e : upd (fun j => if 21 * k ≤ j ∧ j < 21 * k + i then s (j - 21 * k) else kept j) (21 * k + i) (s i) = (fun j => if 21 * k ≤ j ∧ j < 21 * k + (i + 1) then s (j - 21 * k) else kept j) := by
      funext j
      rw [upd_at]
      by_cases h : j = 21 * k + i
      · subst h
        rw [if_pos rfl, if_pos (⟨by omega, by omega⟩ : 21 * k ≤ 21 * k + i ∧ 21 * k + i < 21 * k + (i + 1)), show 21 * k + i - 21 * k = i by omega]
      · rw [if_neg h]
        exact ifc (by omega)
    simp (maxSteps := 4000000) (disch := omega) only [hc, pk_mul, bd1_eq, bd2_eq, bd3_eq, bd4_eq, bd5_eq, bd6_eq, lt_eq, jn_eq, gd_in, nI_clamp, nI_eq, nI_leI, nI_ltI, nI_add, L0, L1, L2, L3, L4, L5, L6, L8, L16, L20, L21, Nat.reduceEqDiff, Nat.reduceLeDiff, Nat.reduceLT, Nat.reduceAdd, Nat.reduceMul, reduceIte]
    rw [e]
  · simp (maxSteps := 4000000) (disch := omega) only [Nat.le_refl, bd1_eq, bd2_eq, bd3_eq, bd4_eq, bd5_eq, bd6_eq, lt_eq, jn_eq, gd_in, nI_clamp, nI_eq, nI_leI, nI_ltI, nI_add, L0, L1, L2, L3, L4, L5, L6, L8, L16, L20, L21, Nat.reduceEqDiff, Nat.reduceLeDiff, Nat.reduceLT, Nat.reduceAdd, Nat.reduceMul, reduceIte]
    rfl
theorem e_backM {k : Nat} (hk : k < 2) (s kept isKept : Nat → Int32) (h1 : ¬ isKept k = 0) : f_X7_back (nI k) s kept isKept = some (kept (21 * k + 20), 0, fun j => if j < 21 then kept (21 * k + j) else s j) := by
  unfold f_X7_back
  have hin : f_X7_in (nI k) 0 1 = some 1 := by
    rw [e_in, if_neg (nI_pos (by omega)), if_neg]
    exact nI_nlt (a := 1) (by omega) (by decide)
  rw [hin, bd1_eq, if_neg n01, gd_in hk (by decide), nI_clamp (by omega), if_neg h1]
  refine loop2_run (fun i => nI i) (fun i => fun j => if j < i then kept (21 * k + j) else s j) 21 (fun i hi BB => ?_) (fun BB => ?_) (FU_lt (by decide)) rfl (by funext j; rw [if_neg (by omega)])
  · have hc : ¬ 21 ≤ i := by omega
    have e : upd (fun j => if j < i then kept (21 * k + j) else s j) i (kept (21 * k + i)) = (fun j => if j < i + 1 then kept (21 * k + j) else s j) := by
      funext j
      rw [upd_at]
      by_cases h : j = i
      · subst h; simp
      · rw [if_neg h]
        exact ifc (by omega)
    simp (maxSteps := 4000000) (disch := omega) only [hc, pk_mul, bd1_eq, bd2_eq, bd3_eq, bd4_eq, bd5_eq, bd6_eq, lt_eq, jn_eq, gd_in, nI_clamp, nI_eq, nI_leI, nI_ltI, nI_add, L0, L1, L2, L3, L4, L5, L6, L8, L16, L20, L21, Nat.reduceEqDiff, Nat.reduceLeDiff, Nat.reduceLT, Nat.reduceAdd, Nat.reduceMul, reduceIte]
    rw [e]
  · simp (maxSteps := 4000000) (disch := omega) only [Nat.le_refl, show (20 < 21) = True by simp, bd1_eq, bd2_eq, bd3_eq, bd4_eq, bd5_eq, bd6_eq, lt_eq, jn_eq, gd_in, nI_clamp, nI_eq, nI_leI, nI_ltI, nI_add, L0, L1, L2, L3, L4, L5, L6, L8, L16, L20, L21, Nat.reduceEqDiff, Nat.reduceLeDiff, Nat.reduceLT, Nat.reduceAdd, Nat.reduceMul, reduceIte]
theorem p_count {t_length : Int32} {t_bytes : Nat → Int32} {h_rooms : Int32} {h_people : Int32} {h_things : Int32} {h_lifts : Nat → Int32} {h_prices : Nat → Int32} {h_hands : Nat → Int32} {h_wanted : Nat → Int32} {n_room : Nat → Int32} {n_bundle : Nat → Int32} {n_left : Nat → Int32} {n_day : Int32} {i_room : Nat → Int32} {i_bundle : Nat → Int32} {i_left : Nat → Int32} {i_day : Int32} {i_kept : Int32} {j_room : Nat → Int32} {j_bundle : Nat → Int32} {j_left : Nat → Int32} {j_day : Int32} {j_kept : Int32} {f_traced : Int64} {m_typed : Int32} {m_text : Nat → Int32} {m_rooms : Int32} {m_people : Int32} {m_things : Int32} {m_lifts : Nat → Int32} {m_price : Nat → Int32} {m_hands : Nat → Int32} {m_wanted : Nat → Int32} {m_s : Nat → Int32} {m_kept : Nat → Int32} {m_isKept : Nat → Int32} {m_trace : Int64} (v0 : Int32) (hR : Rel t_length t_bytes h_rooms h_people h_things h_lifts h_prices h_hands h_wanted n_room n_bundle n_left n_day i_room i_bundle i_left i_day i_kept j_room j_bundle j_left j_day j_kept f_traced m_typed m_text m_rooms m_people m_things m_lifts m_price m_hands m_wanted m_s m_kept m_isKept m_trace) : ∃ (r : Int32) (k0 : Int32), f_X6_count v0 t_length h_rooms h_people h_things h_wanted n_day n_bundle = some r ∧ f_X7_count v0 m_typed m_rooms m_people m_things m_wanted m_s = some (r, k0) ∧ Rel t_length t_bytes h_rooms h_people h_things h_lifts h_prices h_hands h_wanted n_room n_bundle n_left n_day i_room i_bundle i_left i_day i_kept j_room j_bundle j_left j_day j_kept f_traced m_typed m_text m_rooms m_people m_things m_lifts m_price m_hands m_wanted m_s m_kept m_isKept m_trace := by
  obtain ⟨hT, htr, R, P, T, L, Pr, Hd, Wt, rm, B, lf, day, hOK, hC, hM, hN, hnC, hnM, hI, hJ⟩ := id hR
  obtain ⟨r2, r6, p4, t8, oL, oP, oH, oW⟩ := id hOK
  obtain ⟨cR, cP, cT, cL, cPr, cH, cW⟩ := id hC
  obtain ⟨mR, mP, mT, mL, mPr, mH, mW⟩ := id hM
  obtain ⟨nR, nB, nB2, nL, nL0, nD⟩ := id hN
  obtain ⟨xR, xB, xL, xD⟩ := id hnC
  obtain ⟨yR, yB, yL, yD⟩ := id hnM
  simp only [Nat.zero_add] at yR yB yL yD
  subst cR; subst cP; subst cT; subst mR; subst mP; subst mT; subst xD
  have hb : ∀ t, t < T → ∀ n, Wt t = some n → n < 2 ^ 31 := fun t ht n h => by have := oW t ht n h; omega
  have hb2 : ∀ t, t < 8 → ∀ n, B t = some n → n < 2 ^ 31 := fun t ht n h => by have := nB2 t n h; omega
  have e1 : sumS (fun t => decide (B t = some t)) (fun _ => 1) 8 = sumS (fun t => decide (B t = some t)) (fun _ => 1) T := sumS_tail t8 (fun i h1 h2 => by rw [nB i h1]; simp)
  obtain ⟨n, bt, ⟨n3, hl, hbt⟩, ht, hm⟩ := id hT
  subst hl; subst ht
  refine ⟨_, 0, ?_, e_countM t8 v0 (nI n) (nI R) (nI P) mW hb yB hb2, hR⟩
  unfold f_X6_count
  by_cases q0 : v0 = nI 0
  · subst q0; simp (maxSteps := 4000000) (disch := omega) only [e_tasks t8 cW hb, e_bundles xB hb2, e1, yD, bd1_eq, bd2_eq, bd3_eq, bd4_eq, bd5_eq, bd6_eq, lt_eq, jn_eq, gd_in, nI_clamp, nI_eq, nI_leI, nI_ltI, nI_add, L0, L1, L2, L3, L4, L5, L6, L8, L16, L20, L21, Nat.reduceEqDiff, Nat.reduceLeDiff, Nat.reduceLT, Nat.reduceAdd, Nat.reduceMul, reduceIte]
  · by_cases q1 : v0 = nI 1
    · subst q1; simp (maxSteps := 4000000) (disch := omega) only [e_tasks t8 cW hb, e_bundles xB hb2, e1, yD, bd1_eq, bd2_eq, bd3_eq, bd4_eq, bd5_eq, bd6_eq, lt_eq, jn_eq, gd_in, nI_clamp, nI_eq, nI_leI, nI_ltI, nI_add, L0, L1, L2, L3, L4, L5, L6, L8, L16, L20, L21, Nat.reduceEqDiff, Nat.reduceLeDiff, Nat.reduceLT, Nat.reduceAdd, Nat.reduceMul, reduceIte]
    · by_cases q2 : v0 = nI 2
      · subst q2; simp (maxSteps := 4000000) (disch := omega) only [e_tasks t8 cW hb, e_bundles xB hb2, e1, yD, bd1_eq, bd2_eq, bd3_eq, bd4_eq, bd5_eq, bd6_eq, lt_eq, jn_eq, gd_in, nI_clamp, nI_eq, nI_leI, nI_ltI, nI_add, L0, L1, L2, L3, L4, L5, L6, L8, L16, L20, L21, Nat.reduceEqDiff, Nat.reduceLeDiff, Nat.reduceLT, Nat.reduceAdd, Nat.reduceMul, reduceIte]
      · by_cases q3 : v0 = nI 3
        · subst q3; simp (maxSteps := 4000000) (disch := omega) only [e_tasks t8 cW hb, e_bundles xB hb2, e1, yD, bd1_eq, bd2_eq, bd3_eq, bd4_eq, bd5_eq, bd6_eq, lt_eq, jn_eq, gd_in, nI_clamp, nI_eq, nI_leI, nI_ltI, nI_add, L0, L1, L2, L3, L4, L5, L6, L8, L16, L20, L21, Nat.reduceEqDiff, Nat.reduceLeDiff, Nat.reduceLT, Nat.reduceAdd, Nat.reduceMul, reduceIte]
        · by_cases q4 : v0 = nI 4
          · subst q4; simp (maxSteps := 4000000) (disch := omega) only [e_tasks t8 cW hb, e_bundles xB hb2, e1, yD, bd1_eq, bd2_eq, bd3_eq, bd4_eq, bd5_eq, bd6_eq, lt_eq, jn_eq, gd_in, nI_clamp, nI_eq, nI_leI, nI_ltI, nI_add, L0, L1, L2, L3, L4, L5, L6, L8, L16, L20, L21, Nat.reduceEqDiff, Nat.reduceLeDiff, Nat.reduceLT, Nat.reduceAdd, Nat.reduceMul, reduceIte]
          · by_cases q5 : v0 = nI 5
            · subst q5; simp (maxSteps := 4000000) (disch := omega) only [e_tasks t8 cW hb, e_bundles xB hb2, e1, yD, bd1_eq, bd2_eq, bd3_eq, bd4_eq, bd5_eq, bd6_eq, lt_eq, jn_eq, gd_in, nI_clamp, nI_eq, nI_leI, nI_ltI, nI_add, L0, L1, L2, L3, L4, L5, L6, L8, L16, L20, L21, Nat.reduceEqDiff, Nat.reduceLeDiff, Nat.reduceLT, Nat.reduceAdd, Nat.reduceMul, reduceIte]
            · by_cases q6 : v0 = nI 6
              · subst q6; simp (maxSteps := 4000000) (disch := omega) only [e_tasks t8 cW hb, e_bundles xB hb2, e1, yD, bd1_eq, bd2_eq, bd3_eq, bd4_eq, bd5_eq, bd6_eq, lt_eq, jn_eq, gd_in, nI_clamp, nI_eq, nI_leI, nI_ltI, nI_add, L0, L1, L2, L3, L4, L5, L6, L8, L16, L20, L21, Nat.reduceEqDiff, Nat.reduceLeDiff, Nat.reduceLT, Nat.reduceAdd, Nat.reduceMul, reduceIte]
              · simp (maxSteps := 4000000) (disch := omega) only [q0, q1, q2, q3, q4, q5, q6, bd1_eq, bd2_eq, bd3_eq, bd4_eq, bd5_eq, bd6_eq, lt_eq, jn_eq, gd_in, nI_clamp, nI_eq, nI_leI, nI_ltI, nI_add, L0, L1, L2, L3, L4, L5, L6, L8, L16, L20, L21, Nat.reduceEqDiff, Nat.reduceLeDiff, Nat.reduceLT, Nat.reduceAdd, Nat.reduceMul, reduceIte]
theorem p_keep {t_length : Int32} {t_bytes : Nat → Int32} {h_rooms : Int32} {h_people : Int32} {h_things : Int32} {h_lifts : Nat → Int32} {h_prices : Nat → Int32} {h_hands : Nat → Int32} {h_wanted : Nat → Int32} {n_room : Nat → Int32} {n_bundle : Nat → Int32} {n_left : Nat → Int32} {n_day : Int32} {i_room : Nat → Int32} {i_bundle : Nat → Int32} {i_left : Nat → Int32} {i_day : Int32} {i_kept : Int32} {j_room : Nat → Int32} {j_bundle : Nat → Int32} {j_left : Nat → Int32} {j_day : Int32} {j_kept : Int32} {f_traced : Int64} {m_typed : Int32} {m_text : Nat → Int32} {m_rooms : Int32} {m_people : Int32} {m_things : Int32} {m_lifts : Nat → Int32} {m_price : Nat → Int32} {m_hands : Nat → Int32} {m_wanted : Nat → Int32} {m_s : Nat → Int32} {m_kept : Nat → Int32} {m_isKept : Nat → Int32} {m_trace : Int64} (v0 : Int32) (hR : Rel t_length t_bytes h_rooms h_people h_things h_lifts h_prices h_hands h_wanted n_room n_bundle n_left n_day i_room i_bundle i_left i_day i_kept j_room j_bundle j_left j_day j_kept f_traced m_typed m_text m_rooms m_people m_things m_lifts m_price m_hands m_wanted m_s m_kept m_isKept m_trace) : ∃ (r : Int32) (c0 : Int32) (c1 : Int32) (c2 : Nat → Int32) (c3 : Nat → Int32) (c4 : Nat → Int32) (c5 : Int32) (c6 : Int32) (c7 : Nat → Int32) (c8 : Nat → Int32) (c9 : Nat → Int32) (k0 : Int32) (k1 : Nat → Int32) (k2 : Nat → Int32), f_X6_keep v0 n_day n_room n_bundle n_left i_day i_kept i_room i_bundle i_left j_day j_kept j_room j_bundle j_left = some (r, c0, c1, c2, c3, c4, c5, c6, c7, c8, c9) ∧ f_X7_keep v0 m_s m_kept m_isKept = some (r, k0, k1, k2) ∧ Rel t_length t_bytes h_rooms h_people h_things h_lifts h_prices h_hands h_wanted n_room n_bundle n_left n_day c7 c8 c9 c5 c6 c2 c3 c4 c0 c1 f_traced m_typed m_text m_rooms m_people m_things m_lifts m_price m_hands m_wanted m_s k2 k1 m_trace := by
  obtain ⟨hT, htr, R, P, T, L, Pr, Hd, Wt, rm, B, lf, day, hOK, hC, hM, hN, hnC, hnM, hI, hJ⟩ := id hR
  obtain ⟨r2, r6, p4, t8, oL, oP, oH, oW⟩ := id hOK
  obtain ⟨cR, cP, cT, cL, cPr, cH, cW⟩ := id hC
  obtain ⟨mR, mP, mT, mL, mPr, mH, mW⟩ := id hM
  obtain ⟨nR, nB, nB2, nL, nL0, nD⟩ := id hN
  obtain ⟨xR, xB, xL, xD⟩ := id hnC
  obtain ⟨yR, yB, yL, yD⟩ := id hnM
  simp only [Nat.zero_add] at yR yB yL yD
  subst cR; subst cP; subst cT; subst mR; subst mP; subst mT; subst xD
  rcases in_cases v0 (n := 1) (by decide) with ⟨j, hj, rfl, h2⟩ | ⟨h2, h3⟩
  · obtain rfl | rfl : j = 0 ∨ j = 1 := by omega
    · refine ⟨nI day, j_day, j_kept, j_room, j_bundle, j_left, nI day, 1, va_cpy n_room i_room 0 0 8, va_cpy n_bundle i_bundle 0 0 8, va_cpy n_left i_left 0 0 4, 0, upd m_isKept 0 1, (fun j => if 21 * 0 ≤ j ∧ j < 21 * 0 + 21 then m_s (j - 21 * 0) else m_kept j), by simp (maxSteps := 4000000) (disch := omega) only [f_X6_keep, f_X6_isImage, f_X6_imageOf, e_become, bd4_eq, bd1_eq, bd2_eq, bd3_eq, bd4_eq, bd5_eq, bd6_eq, lt_eq, jn_eq, gd_in, nI_clamp, nI_eq, nI_leI, nI_ltI, nI_add, L0, L1, L2, L3, L4, L5, L6, L8, L16, L20, L21, Nat.reduceEqDiff, Nat.reduceLeDiff, Nat.reduceLT, Nat.reduceAdd, Nat.reduceMul, reduceIte] <;> exact rfl, by rw [e_keepM (k := 0) (by decide), yD], ?_⟩
      refine ⟨hT, htr, R, P, T, L, Pr, Hd, Wt, rm, B, lf, day, hOK, hC, hM, hN, hnC, hnM, Or.inr ⟨rfl, rfl, rm, B, lf, day, hN, NowC_cpy hnC, ?_⟩, ?_⟩
      · refine ⟨fun t ht => ?_, fun t ht => ?_, fun k hk => ?_, ?_⟩
        · dsimp only; rw [if_pos (by omega)]; simpa using yR t ht
        · dsimp only; rw [if_pos (by omega)]; simpa using yB t ht
        · dsimp only; rw [if_pos (by omega)]; simpa using yL k hk
        · dsimp only; rw [if_pos (by omega)]; simpa using yD
      · rcases hJ with ⟨h4, h5⟩ | ⟨h4, h5, rm', B', lf', day', h6, h7, h8, h9, h10, h11⟩
        · exact Or.inl ⟨h4, by rw [upd_at, if_neg (by decide)]; exact h5⟩
        · refine Or.inr ⟨h4, by rw [upd_at, if_neg (by decide)]; exact h5, rm', B', lf', day', h6, h7, fun t ht => ?_, fun t ht => ?_, fun k hk => ?_, ?_⟩
          · dsimp only; rw [if_neg (by omega)]; exact h8 t ht
          · dsimp only; rw [if_neg (by omega)]; exact h9 t ht
          · dsimp only; rw [if_neg (by omega)]; exact h10 k hk
          · dsimp only; rw [if_neg (by omega)]; exact h11
    · refine ⟨nI day, nI day, 1, va_cpy n_room j_room 0 0 8, va_cpy n_bundle j_bundle 0 0 8, va_cpy n_left j_left 0 0 4, i_day, i_kept, i_room, i_bundle, i_left, 0, upd m_isKept 1 1, (fun j => if 21 * 1 ≤ j ∧ j < 21 * 1 + 21 then m_s (j - 21 * 1) else m_kept j), by simp (maxSteps := 4000000) (disch := omega) only [f_X6_keep, f_X6_isImage, f_X6_imageOf, e_become, bd4_eq, bd1_eq, bd2_eq, bd3_eq, bd4_eq, bd5_eq, bd6_eq, lt_eq, jn_eq, gd_in, nI_clamp, nI_eq, nI_leI, nI_ltI, nI_add, L0, L1, L2, L3, L4, L5, L6, L8, L16, L20, L21, Nat.reduceEqDiff, Nat.reduceLeDiff, Nat.reduceLT, Nat.reduceAdd, Nat.reduceMul, reduceIte] <;> exact rfl, by rw [e_keepM (k := 1) (by decide), yD], ?_⟩
      refine ⟨hT, htr, R, P, T, L, Pr, Hd, Wt, rm, B, lf, day, hOK, hC, hM, hN, hnC, hnM, ?_, Or.inr ⟨rfl, rfl, rm, B, lf, day, hN, NowC_cpy hnC, ?_⟩⟩
      · rcases hI with ⟨h4, h5⟩ | ⟨h4, h5, rm', B', lf', day', h6, h7, h8, h9, h10, h11⟩
        · exact Or.inl ⟨h4, by rw [upd_at, if_neg (by decide)]; exact h5⟩
        · refine Or.inr ⟨h4, by rw [upd_at, if_neg (by decide)]; exact h5, rm', B', lf', day', h6, h7, fun t ht => ?_, fun t ht => ?_, fun k hk => ?_, ?_⟩
          · dsimp only; rw [if_neg (by omega)]; exact h8 t ht
          · dsimp only; rw [if_neg (by omega)]; exact h9 t ht
          · dsimp only; rw [if_neg (by omega)]; exact h10 k hk
          · dsimp only; rw [if_neg (by omega)]; exact h11
      · refine ⟨fun t ht => ?_, fun t ht => ?_, fun k hk => ?_, ?_⟩
        · dsimp only; rw [if_pos (by omega), show 21 * 1 + t - 21 * 1 = t by omega]; exact yR t ht
        · dsimp only; rw [if_pos (by omega), show 21 * 1 + (8 + t) - 21 * 1 = 8 + t by omega]; exact yB t ht
        · dsimp only; rw [if_pos (by omega), show 21 * 1 + (16 + k) - 21 * 1 = 16 + k by omega]; exact yL k hk
        · dsimp only; rw [if_pos (by omega), show 21 * 1 + 20 - 21 * 1 = 20 by omega]; exact yD
  · have q0 := h3 0 (by decide)
    have q1 := h3 1 (by decide)
    exact ⟨-1, j_day, j_kept, j_room, j_bundle, j_left, i_day, i_kept, i_room, i_bundle, i_left, 0, m_isKept, m_kept, by simp (maxSteps := 4000000) (disch := omega) only [f_X6_keep, f_X6_isImage, q0, q1, bd1_eq, bd2_eq, bd3_eq, bd4_eq, bd5_eq, bd6_eq, lt_eq, jn_eq, gd_in, nI_clamp, nI_eq, nI_leI, nI_ltI, nI_add, L0, L1, L2, L3, L4, L5, L6, L8, L16, L20, L21, Nat.reduceEqDiff, Nat.reduceLeDiff, Nat.reduceLT, Nat.reduceAdd, Nat.reduceMul, reduceIte], by simp (maxSteps := 4000000) (disch := omega) only [f_X7_keep, h2, bd1_eq, bd2_eq, bd3_eq, bd4_eq, bd5_eq, bd6_eq, lt_eq, jn_eq, gd_in, nI_clamp, nI_eq, nI_leI, nI_ltI, nI_add, L0, L1, L2, L3, L4, L5, L6, L8, L16, L20, L21, Nat.reduceEqDiff, Nat.reduceLeDiff, Nat.reduceLT, Nat.reduceAdd, Nat.reduceMul, reduceIte], hR⟩
theorem p_back {t_length : Int32} {t_bytes : Nat → Int32} {h_rooms : Int32} {h_people : Int32} {h_things : Int32} {h_lifts : Nat → Int32} {h_prices : Nat → Int32} {h_hands : Nat → Int32} {h_wanted : Nat → Int32} {n_room : Nat → Int32} {n_bundle : Nat → Int32} {n_left : Nat → Int32} {n_day : Int32} {i_room : Nat → Int32} {i_bundle : Nat → Int32} {i_left : Nat → Int32} {i_day : Int32} {i_kept : Int32} {j_room : Nat → Int32} {j_bundle : Nat → Int32} {j_left : Nat → Int32} {j_day : Int32} {j_kept : Int32} {f_traced : Int64} {m_typed : Int32} {m_text : Nat → Int32} {m_rooms : Int32} {m_people : Int32} {m_things : Int32} {m_lifts : Nat → Int32} {m_price : Nat → Int32} {m_hands : Nat → Int32} {m_wanted : Nat → Int32} {m_s : Nat → Int32} {m_kept : Nat → Int32} {m_isKept : Nat → Int32} {m_trace : Int64} (v0 : Int32) (hR : Rel t_length t_bytes h_rooms h_people h_things h_lifts h_prices h_hands h_wanted n_room n_bundle n_left n_day i_room i_bundle i_left i_day i_kept j_room j_bundle j_left j_day j_kept f_traced m_typed m_text m_rooms m_people m_things m_lifts m_price m_hands m_wanted m_s m_kept m_isKept m_trace) : ∃ (r : Int32) (c0 : Int32) (c1 : Nat → Int32) (c2 : Nat → Int32) (c3 : Nat → Int32) (k0 : Int32) (k1 : Nat → Int32), f_X6_back v0 n_day n_room n_bundle n_left i_day i_kept i_room i_bundle i_left j_day j_kept j_room j_bundle j_left = some (r, c0, c1, c2, c3) ∧ f_X7_back v0 m_s m_kept m_isKept = some (r, k0, k1) ∧ Rel t_length t_bytes h_rooms h_people h_things h_lifts h_prices h_hands h_wanted c1 c2 c3 c0 i_room i_bundle i_left i_day i_kept j_room j_bundle j_left j_day j_kept f_traced m_typed m_text m_rooms m_people m_things m_lifts m_price m_hands m_wanted k1 m_kept m_isKept m_trace := by
  obtain ⟨hT, htr, R, P, T, L, Pr, Hd, Wt, rm, B, lf, day, hOK, hC, hM, hN, hnC, hnM, hI, hJ⟩ := id hR
  obtain ⟨r2, r6, p4, t8, oL, oP, oH, oW⟩ := id hOK
  obtain ⟨cR, cP, cT, cL, cPr, cH, cW⟩ := id hC
  obtain ⟨mR, mP, mT, mL, mPr, mH, mW⟩ := id hM
  obtain ⟨nR, nB, nB2, nL, nL0, nD⟩ := id hN
  obtain ⟨xR, xB, xL, xD⟩ := id hnC
  obtain ⟨yR, yB, yL, yD⟩ := id hnM
  simp only [Nat.zero_add] at yR yB yL yD
  subst cR; subst cP; subst cT; subst mR; subst mP; subst mT; subst xD
  rcases in_cases v0 (n := 1) (by decide) with ⟨j, hj, rfl, h2⟩ | ⟨h2, h3⟩
  · obtain rfl | rfl : j = 0 ∨ j = 1 := by omega
    · rcases id hI with ⟨h4, h5⟩ | ⟨h4, h5, rm', B', lf', day', h6, h7, h8, h9, h10, h11⟩
      · subst h4
        exact ⟨-2, nI day, n_room, n_bundle, n_left, 0, m_s, by simp (maxSteps := 4000000) (disch := omega) only [f_X6_back, f_X6_isImage, f_X6_imageOf, bd1_eq, bd2_eq, bd3_eq, bd4_eq, bd5_eq, bd6_eq, lt_eq, jn_eq, gd_in, nI_clamp, nI_eq, nI_leI, nI_ltI, nI_add, L0, L1, L2, L3, L4, L5, L6, L8, L16, L20, L21, Nat.reduceEqDiff, Nat.reduceLeDiff, Nat.reduceLT, Nat.reduceAdd, Nat.reduceMul, reduceIte], by simp (maxSteps := 4000000) (disch := omega) only [f_X7_back, h2, h5, bd1_eq, bd2_eq, bd3_eq, bd4_eq, bd5_eq, bd6_eq, lt_eq, jn_eq, gd_in, nI_clamp, nI_eq, nI_leI, nI_ltI, nI_add, L0, L1, L2, L3, L4, L5, L6, L8, L16, L20, L21, Nat.reduceEqDiff, Nat.reduceLeDiff, Nat.reduceLT, Nat.reduceAdd, Nat.reduceMul, reduceIte], hR⟩
      · subst h4
        have h12 := h7.2.2.2
        subst h12
        refine ⟨nI day', nI day', va_cpy i_room n_room 0 0 8, va_cpy i_bundle n_bundle 0 0 8, va_cpy i_left n_left 0 0 4, 0, (fun j => if j < 21 then m_kept (21 * 0 + j) else m_s j), by simp (maxSteps := 4000000) (disch := omega) only [f_X6_back, f_X6_isImage, f_X6_imageOf, e_become, bd4_eq, bd1_eq, bd2_eq, bd3_eq, bd4_eq, bd5_eq, bd6_eq, lt_eq, jn_eq, gd_in, nI_clamp, nI_eq, nI_leI, nI_ltI, nI_add, L0, L1, L2, L3, L4, L5, L6, L8, L16, L20, L21, Nat.reduceEqDiff, Nat.reduceLeDiff, Nat.reduceLT, Nat.reduceAdd, Nat.reduceMul, reduceIte] <;> exact rfl, by rw [e_backM (k := 0) (by decide) _ _ _ (by rw [h5]; decide), h11], ?_⟩
        refine ⟨hT, htr, R, P, T, L, Pr, Hd, Wt, rm', B', lf', day', hOK, hC, hM, h6, NowC_cpy h7, ?_, hI, hJ⟩
        refine ⟨fun t ht => ?_, fun t ht => ?_, fun k hk => ?_, ?_⟩
        · dsimp only; rw [if_pos (by omega)]; simpa using h8 t ht
        · dsimp only; rw [if_pos (by omega)]; simpa using h9 t ht
        · dsimp only; rw [if_pos (by omega)]; simpa using h10 k hk
        · dsimp only; rw [if_pos (by omega)]; simpa using h11
    · rcases id hJ with ⟨h4, h5⟩ | ⟨h4, h5, rm', B', lf', day', h6, h7, h8, h9, h10, h11⟩
      · subst h4
        exact ⟨-2, nI day, n_room, n_bundle, n_left, 0, m_s, by simp (maxSteps := 4000000) (disch := omega) only [f_X6_back, f_X6_isImage, f_X6_imageOf, bd1_eq, bd2_eq, bd3_eq, bd4_eq, bd5_eq, bd6_eq, lt_eq, jn_eq, gd_in, nI_clamp, nI_eq, nI_leI, nI_ltI, nI_add, L0, L1, L2, L3, L4, L5, L6, L8, L16, L20, L21, Nat.reduceEqDiff, Nat.reduceLeDiff, Nat.reduceLT, Nat.reduceAdd, Nat.reduceMul, reduceIte], by simp (maxSteps := 4000000) (disch := omega) only [f_X7_back, h2, h5, bd1_eq, bd2_eq, bd3_eq, bd4_eq, bd5_eq, bd6_eq, lt_eq, jn_eq, gd_in, nI_clamp, nI_eq, nI_leI, nI_ltI, nI_add, L0, L1, L2, L3, L4, L5, L6, L8, L16, L20, L21, Nat.reduceEqDiff, Nat.reduceLeDiff, Nat.reduceLT, Nat.reduceAdd, Nat.reduceMul, reduceIte], hR⟩
      · subst h4
        have h12 := h7.2.2.2
        subst h12
        refine ⟨nI day', nI day', va_cpy j_room n_room 0 0 8, va_cpy j_bundle n_bundle 0 0 8, va_cpy j_left n_left 0 0 4, 0, (fun j => if j < 21 then m_kept (21 * 1 + j) else m_s j), by simp (maxSteps := 4000000) (disch := omega) only [f_X6_back, f_X6_isImage, f_X6_imageOf, e_become, bd4_eq, bd1_eq, bd2_eq, bd3_eq, bd4_eq, bd5_eq, bd6_eq, lt_eq, jn_eq, gd_in, nI_clamp, nI_eq, nI_leI, nI_ltI, nI_add, L0, L1, L2, L3, L4, L5, L6, L8, L16, L20, L21, Nat.reduceEqDiff, Nat.reduceLeDiff, Nat.reduceLT, Nat.reduceAdd, Nat.reduceMul, reduceIte] <;> exact rfl, by rw [e_backM (k := 1) (by decide) _ _ _ (by rw [h5]; decide), h11], ?_⟩
        refine ⟨hT, htr, R, P, T, L, Pr, Hd, Wt, rm', B', lf', day', hOK, hC, hM, h6, NowC_cpy h7, ?_, hI, hJ⟩
        refine ⟨fun t ht => ?_, fun t ht => ?_, fun k hk => ?_, ?_⟩
        · dsimp only; rw [if_pos (by omega), Nat.zero_add]; exact h8 t ht
        · dsimp only; rw [if_pos (by omega), Nat.zero_add]; exact h9 t ht
        · dsimp only; rw [if_pos (by omega), Nat.zero_add]; exact h10 k hk
        · dsimp only; rw [if_pos (by omega), Nat.zero_add]; exact h11
  · have q0 := h3 0 (by decide)
    have q1 := h3 1 (by decide)
    exact ⟨-1, nI day, n_room, n_bundle, n_left, 0, m_s, by simp (maxSteps := 4000000) (disch := omega) only [f_X6_back, f_X6_isImage, q0, q1, bd1_eq, bd2_eq, bd3_eq, bd4_eq, bd5_eq, bd6_eq, lt_eq, jn_eq, gd_in, nI_clamp, nI_eq, nI_leI, nI_ltI, nI_add, L0, L1, L2, L3, L4, L5, L6, L8, L16, L20, L21, Nat.reduceEqDiff, Nat.reduceLeDiff, Nat.reduceLT, Nat.reduceAdd, Nat.reduceMul, reduceIte], by simp (maxSteps := 4000000) (disch := omega) only [f_X7_back, h2, bd1_eq, bd2_eq, bd3_eq, bd4_eq, bd5_eq, bd6_eq, lt_eq, jn_eq, gd_in, nI_clamp, nI_eq, nI_leI, nI_ltI, nI_add, L0, L1, L2, L3, L4, L5, L6, L8, L16, L20, L21, Nat.reduceEqDiff, Nat.reduceLeDiff, Nat.reduceLT, Nat.reduceAdd, Nat.reduceMul, reduceIte], hR⟩
