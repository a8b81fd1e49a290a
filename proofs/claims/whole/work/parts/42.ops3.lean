section LOST
variable {T : Nat} {wanted room bundle hands left s : Nat → Int32} {Wt B : Nat → Option Nat} {rm Hd lf : Nat → Nat}
theorem able_eq {P : Nat} (hP : P ≤ 4) (h0 : ∀ p, P ≤ p → lf p = 0) : cnt8 (bitsOf (fun p => decide (0 < lf p)) 4) = sumS (fun p => decide (0 < lf p)) (fun _ => 1) P := by
  unfold cnt8
  rw [sumS_congr (q := fun p => decide (p < 4) && decide (0 < lf p)) (g := fun _ => 1) (fun i _ => bitsOf_bit _ 4 i) (fun _ _ => rfl)]
  rw [sumS_tail (T := P) (by omega) (fun i h1 h2 => by rw [h0 i h1]; simp)]
  exact sumS_congr (fun i hi => by simp; omega) (fun _ _ => rfl)
theorem e_lost {P : Nat} (hP : P ≤ 4) (h0 : ∀ p, P ≤ p → lf p = 0) (hT : T ≤ 8) (hb : ∀ o, o < 8 → bundle o = oI (B o)) (hB : ∀ o b, B o = some b → b < 8) (hN : ∀ t, T ≤ t → B t = none) (hw : ∀ t, t < T → wanted t = oI (Wt t)) (hW : ∀ t, t < T → ∀ r, Wt t = some r → r < 6) (hr : ∀ t, t < T → room t = nI (rm t)) (hr6 : ∀ t, t < T → rm t < 6) (hh : ∀ t, t < T → hands t = nI (Hd t)) (hH : ∀ t, t < T → Hd t ≤ 3) (hl : ∀ p, p < 4 → left p = nI (lf p)) (h9 : ∀ p, p < 4 → lf p ≤ 9) : f_X5_lostThings (nI T) hands wanted room bundle left = some (nI (bitsOf (fun t => dj Wt B rm T t && decide (sumS (fun p => decide (0 < lf p)) (fun _ => 1) P < mh B Hd T t)) T)) := by
  have hin : ∀ t k, one B t k = true → (fun t => dj Wt B rm T t && decide (sumS (fun p => decide (0 < lf p)) (fun _ => 1) P < mh B Hd T t)) k = (fun t => dj Wt B rm T t && decide (sumS (fun p => decide (0 < lf p)) (fun _ => 1) P < mh B Hd T t)) t := fun t k h => by
    dsimp only
    rw [dj_same t k h, mh_same t k h]
  have hs4 : sumS (fun p => decide (0 < lf p)) (fun _ => 1) P ≤ 4 := by
    have := sumS_le (p := fun p => decide (0 < lf p)) (h := fun _ => 1) (c := 1) (n := P) (fun _ _ => Nat.le_refl 1)
    omega
  rw [← acc_jobs hin hN hT]
  unfold f_X5_lostThings
  rw [e_peopleWithLeft hl h9, bd1_eq, e_bitCount _ (Nat.lt_trans (bitsOf_lt _ 4) (by decide)), bd1_eq, able_eq hP h0]
  refine loop2_run (fun i => nI (bitsOf (fun k => exB (fun t => (fun t => dj Wt B rm T t && decide (sumS (fun p => decide (0 < lf p)) (fun _ => 1) P < mh B Hd T t)) t && one B t k) i) 8)) (fun i => nI i) T (fun i hi BB => ?_) (fun BB => ?_) (FU_lt (by omega)) (by simp [bitsOf, exB]; rfl) rfl
  · have hc : ¬ T ≤ i := by omega
    have hm3 : mh B Hd T i ≤ 3 := maxS_le hH
    cases q : dj Wt B rm T i
    · rw [no_job (by simp [q])]
      simp (maxSteps := 4000000) (disch := omega) only [hc, e_jobOf (show i < 8 by omega) hb hB, e_isDueJ (B := B) (show i < 8 by omega) hT hw hW hr hr6, q, Bool.false_eq_true, bd1_eq, bd2_eq, bd3_eq, bd4_eq, bd5_eq, bd6_eq, lt_eq, jn_eq, gd_in, nI_clamp, nI_eq, nI_leI, nI_ltI, nI_add, L0, L1, L2, L3, L4, L5, L6, L8, L16, L20, L21, Nat.reduceEqDiff, Nat.reduceLeDiff, Nat.reduceLT, Nat.reduceAdd, Nat.reduceMul, reduceIte]
    · by_cases q2 : sumS (fun p => decide (0 < lf p)) (fun _ => 1) P < mh B Hd T i
      · have q3 : ¬ mh B Hd T i ≤ sumS (fun p => decide (0 < lf p)) (fun _ => 1) P := by omega
        rw [← or_job (by simp [q, q2])]
        simp (maxSteps := 4000000) (disch := omega) only [hc, e_jobOf (show i < 8 by omega) hb hB, e_isDueJ (B := B) (show i < 8 by omega) hT hw hW hr hr6, q, e_handsJ (B := B) (t := i) hT hh hH, q3, bd1_eq, bd2_eq, bd3_eq, bd4_eq, bd5_eq, bd6_eq, lt_eq, jn_eq, gd_in, nI_clamp, nI_eq, nI_leI, nI_ltI, nI_add, L0, L1, L2, L3, L4, L5, L6, L8, L16, L20, L21, Nat.reduceEqDiff, Nat.reduceLeDiff, Nat.reduceLT, Nat.reduceAdd, Nat.reduceMul, reduceIte]
      · have q3 : mh B Hd T i ≤ sumS (fun p => decide (0 < lf p)) (fun _ => 1) P := by omega
        rw [no_job (by simp [q, q2])]
        simp (maxSteps := 4000000) (disch := omega) only [hc, e_jobOf (show i < 8 by omega) hb hB, e_isDueJ (B := B) (show i < 8 by omega) hT hw hW hr hr6, q, e_handsJ (B := B) (t := i) hT hh hH, q3, bd1_eq, bd2_eq, bd3_eq, bd4_eq, bd5_eq, bd6_eq, lt_eq, jn_eq, gd_in, nI_clamp, nI_eq, nI_leI, nI_ltI, nI_add, L0, L1, L2, L3, L4, L5, L6, L8, L16, L20, L21, Nat.reduceEqDiff, Nat.reduceLeDiff, Nat.reduceLT, Nat.reduceAdd, Nat.reduceMul, reduceIte]
  · simp (maxSteps := 4000000) (disch := omega) only [Nat.le_refl, bd1_eq, bd2_eq, bd3_eq, bd4_eq, bd5_eq, bd6_eq, lt_eq, jn_eq, gd_in, nI_clamp, nI_eq, nI_leI, nI_ltI, nI_add, L0, L1, L2, L3, L4, L5, L6, L8, L16, L20, L21, Nat.reduceEqDiff, Nat.reduceLeDiff, Nat.reduceLT, Nat.reduceAdd, Nat.reduceMul, reduceIte]
theorem e_lostM {P : Nat} (hP : P ≤ 4) (hT : T ≤ 8) (hs : ∀ o, o < 8 → s (8 + o) = oI (B o)) (hB : ∀ o b, B o = some b → b < 8) (hw : ∀ t, t < T → wanted t = oI (Wt t)) (hW : ∀ t, t < T → ∀ r, Wt t = some r → r < 6) (hr : ∀ t, t < T → s t = nI (rm t)) (hr6 : ∀ t, t < T → rm t < 6) (hh : ∀ t, t < T → hands t = nI (Hd t)) (hH : ∀ t, t < T → Hd t ≤ 3) (hl : ∀ p, p < 4 → s (16 + p) = nI (lf p)) (h9 : ∀ p, p < 4 → lf p ≤ 9) (hz : bitsOf (bar B Wt T) T = 0) : f_X7_lost (nI P) (nI T) hands wanted s = some (nI (bitsOf (fun t => dj Wt B rm T t && decide (sumS (fun p => decide (0 < lf p)) (fun _ => 1) P < mh B Hd T t)) T), 0) := by
  unfold f_X7_lost
  rw [e_barredM hT hs hB hw hW, bd1_eq, hz, if_pos (show nI 0 = 0 from rfl)]
  refine loop2_run (fun i => nI (sumS (fun p => decide (0 < lf p)) (fun _ => 1) i)) (fun i => nI i) P (fun i hi BB => ?_) (fun BB => ?_) (FU_lt (by omega)) rfl rfl
  · have hc : ¬ P ≤ i := by omega
    have h1 := h9 i (by omega)
    by_cases q : 0 < lf i
    · have q2 : ¬ lf i ≤ 0 := by omega
      simp (maxSteps := 4000000) (disch := omega) only [hc, hl i (show i < 4 by omega), q2, q, sumS, decide_true, bd1_eq, bd2_eq, bd3_eq, bd4_eq, bd5_eq, bd6_eq, lt_eq, jn_eq, gd_in, nI_clamp, nI_eq, nI_leI, nI_ltI, nI_add, L0, L1, L2, L3, L4, L5, L6, L8, L16, L20, L21, Nat.reduceEqDiff, Nat.reduceLeDiff, Nat.reduceLT, Nat.reduceAdd, Nat.reduceMul, reduceIte]
    · have q2 : lf i ≤ 0 := by omega
      simp (maxSteps := 4000000) (disch := omega) only [hc, hl i (show i < 4 by omega), q2, q, sumS, decide_false, Bool.false_eq_true, Nat.add_zero, bd1_eq, bd2_eq, bd3_eq, bd4_eq, bd5_eq, bd6_eq, lt_eq, jn_eq, gd_in, nI_clamp, nI_eq, nI_leI, nI_ltI, nI_add, L0, L1, L2, L3, L4, L5, L6, L8, L16, L20, L21, Nat.reduceEqDiff, Nat.reduceLeDiff, Nat.reduceLT, Nat.reduceAdd, Nat.reduceMul, reduceIte]
  · have hs4 : sumS (fun p => decide (0 < lf p)) (fun _ => 1) P ≤ 4 := by
      have := sumS_le (p := fun p => decide (0 < lf p)) (h := fun _ => 1) (c := 1) (n := P) (fun _ _ => Nat.le_refl 1)
      omega
    rw [if_pos (nI_le (Nat.le_refl P) (by omega))]
    refine loop2_run (fun i => nI (bitsOf (fun t => dj Wt B rm T t && decide (sumS (fun p => decide (0 < lf p)) (fun _ => 1) P < mh B Hd T t)) i)) (fun i => nI i) T (fun i hi BB => ?_) (fun BB => ?_) (FU_lt (by omega)) rfl rfl
    · have hc : ¬ T ≤ i := by omega
      have hm3 : mh B Hd T i ≤ 3 := maxS_le hH
      have hdue : f_X7_isDue (nI i) (nI T) wanted s = some (nI (if dj Wt B rm T i then 1 else 0)) := e_isDueM (t := i) (by omega) hT hs hB hw hW hr hr6
      have hha : f_X7_handsOf (nI i) (nI T) hands s = some (nI (mh B Hd T i)) := e_handsOfM (t := i) (by omega) hT hs hB hh hH
      have h0 : nI (bitsOf (fun t => dj Wt B rm T t && decide (sumS (fun p => decide (0 < lf p)) (fun _ => 1) P < mh B Hd T t)) i) ||| nI 0 = nI (bitsOf (fun t => dj Wt B rm T t && decide (sumS (fun p => decide (0 < lf p)) (fun _ => 1) P < mh B Hd T t)) i) := by rw [fa_or, Nat.or_zero]
      cases q : dj Wt B rm T i
      · simp (maxSteps := 4000000) (disch := omega) only [hc, hdue, q, h0, bitsOf, Bool.false_and, Bool.false_eq_true, Nat.add_zero, bd1_eq, bd2_eq, bd3_eq, bd4_eq, bd5_eq, bd6_eq, lt_eq, jn_eq, gd_in, nI_clamp, nI_eq, nI_leI, nI_ltI, nI_add, L0, L1, L2, L3, L4, L5, L6, L8, L16, L20, L21, Nat.reduceEqDiff, Nat.reduceLeDiff, Nat.reduceLT, Nat.reduceAdd, Nat.reduceMul, reduceIte]
      · by_cases q2 : sumS (fun p => decide (0 < lf p)) (fun _ => 1) P < mh B Hd T i
        · have q3 : ¬ mh B Hd T i ≤ sumS (fun p => decide (0 < lf p)) (fun _ => 1) P := by omega
          simp (maxSteps := 4000000) (disch := omega) only [hc, hdue, q, hha, q3, bitsOf, q2, decide_true, Bool.and_self, shl_N (show i < 31 by omega), or_top, bd1_eq, bd2_eq, bd3_eq, bd4_eq, bd5_eq, bd6_eq, lt_eq, jn_eq, gd_in, nI_clamp, nI_eq, nI_leI, nI_ltI, nI_add, L0, L1, L2, L3, L4, L5, L6, L8, L16, L20, L21, Nat.reduceEqDiff, Nat.reduceLeDiff, Nat.reduceLT, Nat.reduceAdd, Nat.reduceMul, reduceIte]
        · have q3 : mh B Hd T i ≤ sumS (fun p => decide (0 < lf p)) (fun _ => 1) P := by omega
          simp (maxSteps := 4000000) (disch := omega) only [hc, hdue, q, hha, q3, h0, bitsOf, q2, decide_false, Bool.and_false, Bool.false_eq_true, Nat.add_zero, bd1_eq, bd2_eq, bd3_eq, bd4_eq, bd5_eq, bd6_eq, lt_eq, jn_eq, gd_in, nI_clamp, nI_eq, nI_leI, nI_ltI, nI_add, L0, L1, L2, L3, L4, L5, L6, L8, L16, L20, L21, Nat.reduceEqDiff, Nat.reduceLeDiff, Nat.reduceLT, Nat.reduceAdd, Nat.reduceMul, reduceIte]
    · simp (maxSteps := 4000000) (disch := omega) only [Nat.le_refl, bd1_eq, bd2_eq, bd3_eq, bd4_eq, bd5_eq, bd6_eq, lt_eq, jn_eq, gd_in, nI_clamp, nI_eq, nI_leI, nI_ltI, nI_add, L0, L1, L2, L3, L4, L5, L6, L8, L16, L20, L21, Nat.reduceEqDiff, Nat.reduceLeDiff, Nat.reduceLT, Nat.reduceAdd, Nat.reduceMul, reduceIte]
end LOST
theorem p_due {t_length : Int32} {t_bytes : Nat → Int32} {h_rooms : Int32} {h_people : Int32} {h_things : Int32} {h_lifts : Nat → Int32} {h_prices : Nat → Int32} {h_hands : Nat → Int32} {h_wanted : Nat → Int32} {n_room : Nat → Int32} {n_bundle : Nat → Int32} {n_left : Nat → Int32} {n_day : Int32} {i_room : Nat → Int32} {i_bundle : Nat → Int32} {i_left : Nat → Int32} {i_day : Int32} {i_kept : Int32} {j_room : Nat → Int32} {j_bundle : Nat → Int32} {j_left : Nat → Int32} {j_day : Int32} {j_kept : Int32} {f_traced : Int64} {m_typed : Int32} {m_text : Nat → Int32} {m_rooms : Int32} {m_people : Int32} {m_things : Int32} {m_lifts : Nat → Int32} {m_price : Nat → Int32} {m_hands : Nat → Int32} {m_wanted : Nat → Int32} {m_s : Nat → Int32} {m_kept : Nat → Int32} {m_isKept : Nat → Int32} {m_trace : Int64} (m_dueMany : Int32) (m_due : Nat → Int32) (v0 : Int32) (hR : Rel t_length t_bytes h_rooms h_people h_things h_lifts h_prices h_hands h_wanted n_room n_bundle n_left n_day i_room i_bundle i_left i_day i_kept j_room j_bundle j_left j_day j_kept f_traced m_typed m_text m_rooms m_people m_things m_lifts m_price m_hands m_wanted m_s m_kept m_isKept m_trace) : ∃ (r : Int32) (k0 : Int32) (k1 : Int32) (k2 : Nat → Int32), f_X6_due v0 h_things h_wanted n_room n_bundle = some r ∧ f_X7_due v0 m_things m_dueMany m_hands m_wanted m_s m_due = some (r, k0, k1, k2) ∧ Rel t_length t_bytes h_rooms h_people h_things h_lifts h_prices h_hands h_wanted n_room n_bundle n_left n_day i_room i_bundle i_left i_day i_kept j_room j_bundle j_left j_day j_kept f_traced m_typed m_text m_rooms m_people m_things m_lifts m_price m_hands m_wanted m_s m_kept m_isKept m_trace := by
  obtain ⟨hT, htr, R, P, T, L, Pr, Hd, Wt, rm, B, lf, day, hOK, hC, hM, hN, hnC, hnM, hI, hJ⟩ := id hR
  obtain ⟨r2, r6, p4, t8, oL, oP, oH, oW⟩ := id hOK
  obtain ⟨cR, cP, cT, cL, cPr, cH, cW⟩ := id hC
  obtain ⟨mR, mP, mT, mL, mPr, mH, mW⟩ := id hM
  obtain ⟨nR, nB, nB2, nL, nL0, nD⟩ := id hN
  obtain ⟨xR, xB, xL, xD⟩ := id hnC
  obtain ⟨yR, yB, yL, yD⟩ := id hnM
  simp only [Nat.zero_add] at yR yB yL yD
  subst cR; subst cP; subst cT; subst mR; subst mP; subst mT; subst xD
  have W6 : ∀ t, t < T → ∀ r, Wt t = some r → r < 6 := fun t ht r h => by have := oW t ht r h; omega
  have B8 : ∀ o b, B o = some b → b < 8 := fun o b h => by have := nB2 o b h; omega
  have xr : ∀ t, t < T → n_room t = nI (rm t) := fun t ht => by rw [xR t (by omega), if_pos ht]
  have r6' : ∀ t, t < T → rm t < 6 := fun t ht => by have := nR t ht; omega
  have H3 : ∀ t, t < T → Hd t ≤ 3 := fun t ht => (oH t ht).2
  have l9 : ∀ p, p < 4 → lf p ≤ 9 := fun p hp => by
    by_cases h : p < P
    · have := nL p h; have := (oL p h).2; omega
    · rw [nL0 p (by omega)]; omega
  have hbar := e_barred t8 xB B8 nB cW W6
  have hbarM := e_barredM t8 yB B8 mW W6
  have hbar31 : bitsOf (bar B Wt T) T < 2 ^ 31 := by
    have h1 := bitsOf_lt (bar B Wt T) T
    have h2 : 2 ^ T ≤ 2 ^ 8 := Nat.pow_le_pow_right (by decide) t8
    omega
  by_cases q0 : v0 = nI 0
  · subst q0
    exact ⟨nI (sumS (fun t => leads B t && dj Wt B rm T t) (fun _ => 1) T), 0, _, _, by simp (maxSteps := 4000000) (disch := omega) only [f_X6_due, e_dueJobs t8 xB B8 cW W6 xr r6', bd1_eq, bd2_eq, bd3_eq, bd4_eq, bd5_eq, bd6_eq, lt_eq, jn_eq, gd_in, nI_clamp, nI_eq, nI_leI, nI_ltI, nI_add, L0, L1, L2, L3, L4, L5, L6, L8, L16, L20, L21, Nat.reduceEqDiff, Nat.reduceLeDiff, Nat.reduceLT, Nat.reduceAdd, Nat.reduceMul, reduceIte], by simp (maxSteps := 4000000) (disch := omega) only [f_X7_due, e_gathersDue t8 yB B8 mW W6 yR r6' mH H3 m_due, dl_len, bd1_eq, bd2_eq, bd3_eq, bd4_eq, bd5_eq, bd6_eq, lt_eq, jn_eq, gd_in, nI_clamp, nI_eq, nI_leI, nI_ltI, nI_add, L0, L1, L2, L3, L4, L5, L6, L8, L16, L20, L21, Nat.reduceEqDiff, Nat.reduceLeDiff, Nat.reduceLT, Nat.reduceAdd, Nat.reduceMul, reduceIte]; exact rfl, hR⟩
  · by_cases q1 : v0 = nI 1
    · subst q1
      exact ⟨nI (bitsOf (bar B Wt T) T), 0, m_dueMany, m_due, by simp (maxSteps := 4000000) (disch := omega) only [f_X6_due, hbar, bd1_eq, bd2_eq, bd3_eq, bd4_eq, bd5_eq, bd6_eq, lt_eq, jn_eq, gd_in, nI_clamp, nI_eq, nI_leI, nI_ltI, nI_add, L0, L1, L2, L3, L4, L5, L6, L8, L16, L20, L21, Nat.reduceEqDiff, Nat.reduceLeDiff, Nat.reduceLT, Nat.reduceAdd, Nat.reduceMul, reduceIte], by simp (maxSteps := 4000000) (disch := omega) only [f_X7_due, hbarM, bd1_eq, bd2_eq, bd3_eq, bd4_eq, bd5_eq, bd6_eq, lt_eq, jn_eq, gd_in, nI_clamp, nI_eq, nI_leI, nI_ltI, nI_add, L0, L1, L2, L3, L4, L5, L6, L8, L16, L20, L21, Nat.reduceEqDiff, Nat.reduceLeDiff, Nat.reduceLT, Nat.reduceAdd, Nat.reduceMul, reduceIte], hR⟩
    · exact ⟨-1, 0, m_dueMany, m_due, by simp (maxSteps := 4000000) (disch := omega) only [f_X6_due, q0, q1, bd1_eq, bd2_eq, bd3_eq, bd4_eq, bd5_eq, bd6_eq, lt_eq, jn_eq, gd_in, nI_clamp, nI_eq, nI_leI, nI_ltI, nI_add, L0, L1, L2, L3, L4, L5, L6, L8, L16, L20, L21, Nat.reduceEqDiff, Nat.reduceLeDiff, Nat.reduceLT, Nat.reduceAdd, Nat.reduceMul, reduceIte], by simp (maxSteps := 4000000) (disch := omega) only [f_X7_due, q0, q1, bd1_eq, bd2_eq, bd3_eq, bd4_eq, bd5_eq, bd6_eq, lt_eq, jn_eq, gd_in, nI_clamp, nI_eq, nI_leI, nI_ltI, nI_add, L0, L1, L2, L3, L4, L5, L6, L8, L16, L20, L21, Nat.reduceEqDiff, Nat.reduceLeDiff, Nat.reduceLT, Nat.reduceAdd, Nat.reduceMul, reduceIte], hR⟩
theorem p_lost {t_length : Int32} {t_bytes : Nat → Int32} {h_rooms : Int32} {h_people : Int32} {h_things : Int32} {h_lifts : Nat → Int32} {h_prices : Nat → Int32} {h_hands : Nat → Int32} {h_wanted : Nat → Int32} {n_room : Nat → Int32} {n_bundle : Nat → Int32} {n_left : Nat → Int32} {n_day : Int32} {i_room : Nat → Int32} {i_bundle : Nat → Int32} {i_left : Nat → Int32} {i_day : Int32} {i_kept : Int32} {j_room : Nat → Int32} {j_bundle : Nat → Int32} {j_left : Nat → Int32} {j_day : Int32} {j_kept : Int32} {f_traced : Int64} {m_typed : Int32} {m_text : Nat → Int32} {m_rooms : Int32} {m_people : Int32} {m_things : Int32} {m_lifts : Nat → Int32} {m_price : Nat → Int32} {m_hands : Nat → Int32} {m_wanted : Nat → Int32} {m_s : Nat → Int32} {m_kept : Nat → Int32} {m_isKept : Nat → Int32} {m_trace : Int64} (hR : Rel t_length t_bytes h_rooms h_people h_things h_lifts h_prices h_hands h_wanted n_room n_bundle n_left n_day i_room i_bundle i_left i_day i_kept j_room j_bundle j_left j_day j_kept f_traced m_typed m_text m_rooms m_people m_things m_lifts m_price m_hands m_wanted m_s m_kept m_isKept m_trace) : ∃ (r : Int32) (k0 : Int32), f_X6_lost h_things h_hands h_wanted n_room n_bundle n_left = some r ∧ f_X7_lost m_people m_things m_hands m_wanted m_s = some (r, k0) ∧ Rel t_length t_bytes h_rooms h_people h_things h_lifts h_prices h_hands h_wanted n_room n_bundle n_left n_day i_room i_bundle i_left i_day i_kept j_room j_bundle j_left j_day j_kept f_traced m_typed m_text m_rooms m_people m_things m_lifts m_price m_hands m_wanted m_s m_kept m_isKept m_trace := by
  obtain ⟨hT, htr, R, P, T, L, Pr, Hd, Wt, rm, B, lf, day, hOK, hC, hM, hN, hnC, hnM, hI, hJ⟩ := id hR
  obtain ⟨r2, r6, p4, t8, oL, oP, oH, oW⟩ := id hOK
  obtain ⟨cR, cP, cT, cL, cPr, cH, cW⟩ := id hC
  obtain ⟨mR, mP, mT, mL, mPr, mH, mW⟩ := id hM
  obtain ⟨nR, nB, nB2, nL, nL0, nD⟩ := id hN
  obtain ⟨xR, xB, xL, xD⟩ := id hnC
  obtain ⟨yR, yB, yL, yD⟩ := id hnM
  simp only [Nat.zero_add] at yR yB yL yD
  subst cR; subst cP; subst cT; subst mR; subst mP; subst mT; subst xD
  have W6 : ∀ t, t < T → ∀ r, Wt t = some r → r < 6 := fun t ht r h => by have := oW t ht r h; omega
  have B8 : ∀ o b, B o = some b → b < 8 := fun o b h => by have := nB2 o b h; omega
  have xr : ∀ t, t < T → n_room t = nI (rm t) := fun t ht => by rw [xR t (by omega), if_pos ht]
  have r6' : ∀ t, t < T → rm t < 6 := fun t ht => by have := nR t ht; omega
  have H3 : ∀ t, t < T → Hd t ≤ 3 := fun t ht => (oH t ht).2
  have l9 : ∀ p, p < 4 → lf p ≤ 9 := fun p hp => by
    by_cases h : p < P
    · have := nL p h; have := (oL p h).2; omega
    · rw [nL0 p (by omega)]; omega
  have hbar := e_barred t8 xB B8 nB cW W6
  have hbarM := e_barredM t8 yB B8 mW W6
  have hbar31 : bitsOf (bar B Wt T) T < 2 ^ 31 := by
    have h1 := bitsOf_lt (bar B Wt T) T
    have h2 : 2 ^ T ≤ 2 ^ 8 := Nat.pow_le_pow_right (by decide) t8
    omega
  by_cases hz : bitsOf (bar B Wt T) T = 0
  · exact ⟨_, 0, by simp (maxSteps := 4000000) (disch := omega) only [f_X6_lost, f_X5_isBarred, hbar, hz, e_lost p4 nL0 t8 xB B8 nB cW W6 xr r6' cH H3 xL l9, bd1_eq, bd2_eq, bd3_eq, bd4_eq, bd5_eq, bd6_eq, lt_eq, jn_eq, gd_in, nI_clamp, nI_eq, nI_leI, nI_ltI, nI_add, L0, L1, L2, L3, L4, L5, L6, L8, L16, L20, L21, Nat.reduceEqDiff, Nat.reduceLeDiff, Nat.reduceLT, Nat.reduceAdd, Nat.reduceMul, reduceIte], e_lostM p4 t8 yB B8 mW W6 yR r6' mH H3 yL l9 hz, hR⟩
  · exact ⟨-9, 0, by simp (maxSteps := 4000000) (disch := omega) only [f_X6_lost, f_X5_isBarred, hbar, hz, bd1_eq, bd2_eq, bd3_eq, bd4_eq, bd5_eq, bd6_eq, lt_eq, jn_eq, gd_in, nI_clamp, nI_eq, nI_leI, nI_ltI, nI_add, L0, L1, L2, L3, L4, L5, L6, L8, L16, L20, L21, Nat.reduceEqDiff, Nat.reduceLeDiff, Nat.reduceLT, Nat.reduceAdd, Nat.reduceMul, reduceIte], by simp (maxSteps := 4000000) (disch := omega) only [f_X7_lost, hbarM, hz, bd1_eq, bd2_eq, bd3_eq, bd4_eq, bd5_eq, bd6_eq, lt_eq, jn_eq, gd_in, nI_clamp, nI_eq, nI_leI, nI_ltI, nI_add, L0, L1, L2, L3, L4, L5, L6, L8, L16, L20, L21, Nat.reduceEqDiff, Nat.reduceLeDiff, Nat.reduceLT, Nat.reduceAdd, Nat.reduceMul, reduceIte], hR⟩
