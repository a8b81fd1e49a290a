section CHAIN
variable {P T : Nat} {lifts hands s : Nat → Int32} {L Hd rm : Nat → Nat}
theorem e_chainM (hP : P ≤ 4) (hT : T ≤ 8) (hl : ∀ p, p < P → lifts p = nI (L p)) (h9 : ∀ p, p < P → L p ≤ 9) (hh : ∀ t, t < T → hands t = nI (Hd t)) (hr : ∀ t, t < T → s t = nI (rm t)) (hr6 : ∀ t, t < T → rm t < 6) {R r : Nat} (hR : R ≤ 6) (hrR : r < R) (k : Int32) (hk : f_X7_in k (nI 1) (nI 9) = some (nI 1)) : f_X7_chain (nI r) k (nI R) (nI P) (nI T) lifts hands s = some (if maxS (fun _ => true) L P = 0 then -9 else ((nI (sumS (fun t => decide (rm t = r)) Hd T) + nI (maxS (fun _ => true) L P) - nI 1) / nI (maxS (fun _ => true) L P)) * k, 0) := by
  unfold f_X7_chain
  have hk2 : f_X7_in k 1 9 = some 1 := hk
  rw [e_isRoom _ (by omega), rng_in hrR (by omega), bd1_eq, if_neg n01, hk2, bd1_eq, if_neg n01]
  refine loop2_run (fun i => nI (maxS (fun _ => true) L i)) (fun i => nI i) P (fun i hi BB => ?_) (fun BB => ?_) (FU_lt (by omega)) rfl rfl
  · have hc : ¬ P ≤ i := by omega
    have h1 : maxS (fun _ => true) L i ≤ 9 := maxS_le (fun j hj => h9 j (by omega))
    have h2 := h9 i hi
    by_cases q2 : maxS (fun _ => true) L i < L i
    · have q3 : maxS (fun _ => true) L i ≤ L i := by omega
      simp (maxSteps := 4000000) (disch := omega) only [hc, hl i hi, f_X7_greater, q3, maxS, q2, bd1_eq, bd2_eq, bd3_eq, bd4_eq, bd5_eq, bd6_eq, lt_eq, jn_eq, gd_in, nI_clamp, nI_eq, nI_leI, nI_ltI, nI_add, L0, L1, L2, L3, L4, L5, L6, L8, L16, L20, L21, Nat.reduceEqDiff, Nat.reduceLeDiff, Nat.reduceLT, Nat.reduceAdd, Nat.reduceMul, reduceIte]
    · by_cases q3 : maxS (fun _ => true) L i ≤ L i
      · have q4 : maxS (fun _ => true) L i = L i := by omega
        simp (maxSteps := 4000000) (disch := omega) only [hc, hl i hi, f_X7_greater, q3, maxS, q2, q4, Nat.lt_irrefl, Nat.le_refl, bd1_eq, bd2_eq, bd3_eq, bd4_eq, bd5_eq, bd6_eq, lt_eq, jn_eq, gd_in, nI_clamp, nI_eq, nI_leI, nI_ltI, nI_add, L0, L1, L2, L3, L4, L5, L6, L8, L16, L20, L21, Nat.reduceEqDiff, Nat.reduceLeDiff, Nat.reduceLT, Nat.reduceAdd, Nat.reduceMul, reduceIte]
      · simp (maxSteps := 4000000) (disch := omega) only [hc, hl i hi, f_X7_greater, q3, maxS, q2, bd1_eq, bd2_eq, bd3_eq, bd4_eq, bd5_eq, bd6_eq, lt_eq, jn_eq, gd_in, nI_clamp, nI_eq, nI_leI, nI_ltI, nI_add, L0, L1, L2, L3, L4, L5, L6, L8, L16, L20, L21, Nat.reduceEqDiff, Nat.reduceLeDiff, Nat.reduceLT, Nat.reduceAdd, Nat.reduceMul, reduceIte]
  · have h1 : maxS (fun _ => true) L P ≤ 9 := maxS_le (fun j hj => h9 j (by omega))
    rw [if_pos (nI_le (Nat.le_refl P) (by omega))]
    by_cases q : maxS (fun _ => true) L P = 0
    · rw [if_pos (by rw [q]; rfl), if_pos q]
    · have q' : ¬ nI (maxS (fun _ => true) L P) = 0 := nI_ne0 (by omega) (by omega)
      rw [if_neg q', if_neg q]
      refine loop2_run (fun i => nI (sumS (fun t => decide (rm t = r)) Hd i)) (fun i => nI i) T (fun i hi BB => ?_) (fun BB => ?_) (FU_lt (by omega)) rfl rfl
      · have hc : ¬ T ≤ i := by omega
        have h6 := hr6 i hi
        by_cases z : rm i = r
        · simp (maxSteps := 4000000) (disch := omega) only [hc, hr i hi, hh i hi, z, sumS, decide_true, bd1_eq, bd2_eq, bd3_eq, bd4_eq, bd5_eq, bd6_eq, lt_eq, jn_eq, gd_in, nI_clamp, nI_eq, nI_leI, nI_ltI, nI_add, L0, L1, L2, L3, L4, L5, L6, L8, L16, L20, L21, Nat.reduceEqDiff, Nat.reduceLeDiff, Nat.reduceLT, Nat.reduceAdd, Nat.reduceMul, reduceIte]
        · simp (maxSteps := 4000000) (disch := omega) only [hc, hr i hi, z, sumS, decide_false, Bool.false_eq_true, Nat.add_zero, bd1_eq, bd2_eq, bd3_eq, bd4_eq, bd5_eq, bd6_eq, lt_eq, jn_eq, gd_in, nI_clamp, nI_eq, nI_leI, nI_ltI, nI_add, L0, L1, L2, L3, L4, L5, L6, L8, L16, L20, L21, Nat.reduceEqDiff, Nat.reduceLeDiff, Nat.reduceLT, Nat.reduceAdd, Nat.reduceMul, reduceIte]
      · rw [if_pos (nI_le (Nat.le_refl T) (by omega)), gd_d q']
        rfl
end CHAIN
theorem one_some {B : Nat → Option Nat} {t z : Nat} (h : B t = some z) (k : Nat) : one B t k = decide (B k = some z) := by
  unfold one
  by_cases q : k = t
  · subst q; simp [h]
  · simp [q, h]
theorem cnt_job {B : Nat → Option Nat} {T t : Nat} (hT : T ≤ 8) (ht : t < T) (hN : ∀ t, T ≤ t → B t = none) : cnt8 (bitsOf (one B t) 8) = sumS (one B t) (fun _ => 1) T := by
  unfold cnt8
  rw [sumS_congr (q := one B t) (g := fun _ => 1) (fun i hi => job_bit hi) (fun _ _ => rfl)]
  refine sumS_tail hT (fun i h1 h2 => ?_)
  cases q : one B t i
  · rfl
  · have := one_lt hN ht q; omega
theorem e_untiedM {T t z : Nat} (hT : T ≤ 8) (ht : t < T) {s : Nat → Int32} {B : Nat → Option Nat} (hs : ∀ o, o < 8 → s (8 + o) = oI (B o)) (hB : ∀ o b, B o = some b → b < 8) (hz : B t = some z) : f_X7_untied (nI t) (nI T) s = some (nI (sumS (one B t) (fun _ => 1) T), 0, fun j => if 8 ≤ j ∧ j < 8 + T ∧ one B t (j - 8) = true then -9 else s j) := by
  have hb : ∀ o n, B o = some n → n < 2 ^ 31 := fun o n h => by have := hB o n h; omega
  have hz9 : ¬ nI z = -9 := nI_ne9 (hb t z hz)
  have hst : s (8 + t) = nI z := by rw [hs t (by omega), hz]; rfl
  unfold f_X7_untied
  rw [e_isThing _ (by omega), rng_in ht (by omega), bd1_eq, if_neg n01]
  have e8 : (8 : Int32) + nI t = nI (8 + t) := nI_add 8 t
  rw [e8, gd_in (by omega) (by decide), nI_clamp (by omega), hst, if_neg hz9]
  refine loop3_run (fun i => nI (sumS (one B t) (fun _ => 1) i)) (fun i => nI i) (fun i => fun j => if 8 ≤ j ∧ j < 8 + i ∧ one B t (j - 8) = true then -9 else s j) T (fun i hi BB => ?_) (fun BB => ?_) (FU_lt (by omega)) rfl rfl (by funext j; rw [if_neg (by omega)])
  · have hc : ¬ T ≤ i := by omega
    have hsi : (fun j => if 8 ≤ j ∧ j < 8 + i ∧ one B t (j - 8) = true then (-9 : Int32) else s j) (8 + i) = oI (B i) := by
      dsimp only
      rw [if_neg (by omega)]
      exact hs i (by omega)
    by_cases q : B i = some z
    · have q1 : one B t i = true := by rw [one_some hz]; simp [q]
      have e : upd (fun j => if 8 ≤ j ∧ j < 8 + i ∧ one B t (j - 8) = true then (-9 : Int32) else s j) (8 + i) (-9) = (fun j => if 8 ≤ j ∧ j < 8 + (i + 1) ∧ one B t (j - 8) = true then (-9 : Int32) else s j) := by
        funext j
        rw [upd_at]
        by_cases h : j = 8 + i
        · subst h
          rw [if_pos rfl, if_pos ⟨by omega, by omega, by rw [show 8 + i - 8 = i by omega]; exact q1⟩]
        · rw [if_neg h]
          exact ifc ⟨fun w => ⟨w.1, by omega, w.2.2⟩, fun w => ⟨w.1, by omega, w.2.2⟩⟩
      have hsi2 := hsi
      rw [q] at hsi2
      rw [← e]
      generalize (fun j => if 8 ≤ j ∧ j < 8 + i ∧ one B t (j - 8) = true then (-9 : Int32) else s j) = F at *
      simp (maxSteps := 4000000) (disch := omega) only [hc, hsi2, oI, sumS, q1, bd1_eq, bd2_eq, bd3_eq, bd4_eq, bd5_eq, bd6_eq, lt_eq, jn_eq, gd_in, nI_clamp, nI_eq, nI_leI, nI_ltI, nI_add, L0, L1, L2, L3, L4, L5, L6, L8, L16, L20, L21, Nat.reduceEqDiff, Nat.reduceLeDiff, Nat.reduceLT, Nat.reduceAdd, Nat.reduceMul, reduceIte]
    · have q1 : one B t i = false := by rw [one_some hz]; simp [q]
      have e : (fun j => if 8 ≤ j ∧ j < 8 + i ∧ one B t (j - 8) = true then (-9 : Int32) else s j) = (fun j => if 8 ≤ j ∧ j < 8 + (i + 1) ∧ one B t (j - 8) = true then (-9 : Int32) else s j) := by
        funext j
        refine ifc ⟨fun w => ⟨w.1, by omega, w.2.2⟩, fun w => ⟨w.1, ?_, w.2.2⟩⟩
        by_cases h : j = 8 + i
        · subst h
          have := w.2.2
          rw [show 8 + i - 8 = i by omega, q1] at this
          cases this
        · omega
      have q2 : ¬ oI (B i) = nI z := fun w => q ((oI_nI (hb i) (hb t z hz)).mp w)
      rw [← e]
      generalize (fun j => if 8 ≤ j ∧ j < 8 + i ∧ one B t (j - 8) = true then (-9 : Int32) else s j) = F at *
      simp (maxSteps := 4000000) (disch := omega) only [hc, hsi, q2, sumS, q1, Bool.false_eq_true, Nat.add_zero, bd1_eq, bd2_eq, bd3_eq, bd4_eq, bd5_eq, bd6_eq, lt_eq, jn_eq, gd_in, nI_clamp, nI_eq, nI_leI, nI_ltI, nI_add, L0, L1, L2, L3, L4, L5, L6, L8, L16, L20, L21, Nat.reduceEqDiff, Nat.reduceLeDiff, Nat.reduceLT, Nat.reduceAdd, Nat.reduceMul, reduceIte]
  · simp (maxSteps := 4000000) (disch := omega) only [Nat.le_refl, bd1_eq, bd2_eq, bd3_eq, bd4_eq, bd5_eq, bd6_eq, lt_eq, jn_eq, gd_in, nI_clamp, nI_eq, nI_leI, nI_ltI, nI_add, L0, L1, L2, L3, L4, L5, L6, L8, L16, L20, L21, Nat.reduceEqDiff, Nat.reduceLeDiff, Nat.reduceLT, Nat.reduceAdd, Nat.reduceMul, reduceIte]
theorem p_chain {t_length : Int32} {t_bytes : Nat → Int32} {h_rooms : Int32} {h_people : Int32} {h_things : Int32} {h_lifts : Nat → Int32} {h_prices : Nat → Int32} {h_hands : Nat → Int32} {h_wanted : Nat → Int32} {n_room : Nat → Int32} {n_bundle : Nat → Int32} {n_left : Nat → Int32} {n_day : Int32} {i_room : Nat → Int32} {i_bundle : Nat → Int32} {i_left : Nat → Int32} {i_day : Int32} {i_kept : Int32} {j_room : Nat → Int32} {j_bundle : Nat → Int32} {j_left : Nat → Int32} {j_day : Int32} {j_kept : Int32} {f_traced : Int64} {m_typed : Int32} {m_text : Nat → Int32} {m_rooms : Int32} {m_people : Int32} {m_things : Int32} {m_lifts : Nat → Int32} {m_price : Nat → Int32} {m_hands : Nat → Int32} {m_wanted : Nat → Int32} {m_s : Nat → Int32} {m_kept : Nat → Int32} {m_isKept : Nat → Int32} {m_trace : Int64} (v0 : Int32) (v1 : Int32) (hR : Rel t_length t_bytes h_rooms h_people h_things h_lifts h_prices h_hands h_wanted n_room n_bundle n_left n_day i_room i_bundle i_left i_day i_kept j_room j_bundle j_left j_day j_kept f_traced m_typed m_text m_rooms m_people m_things m_lifts m_price m_hands m_wanted m_s m_kept m_isKept m_trace) : ∃ (r : Int32) (k0 : Int32), f_X6_chain v0 v1 h_rooms h_people h_things h_lifts h_hands n_room = some r ∧ f_X7_chain v0 v1 m_rooms m_people m_things m_lifts m_hands m_s = some (r, k0) ∧ Rel t_length t_bytes h_rooms h_people h_things h_lifts h_prices h_hands h_wanted n_room n_bundle n_left n_day i_room i_bundle i_left i_day i_kept j_room j_bundle j_left j_day j_kept f_traced m_typed m_text m_rooms m_people m_things m_lifts m_price m_hands m_wanted m_s m_kept m_isKept m_trace := by
  obtain ⟨hT, htr, R, P, T, L, Pr, Hd, Wt, rm, B, lf, day, hOK, hC, hM, hN, hnC, hnM, hI, hJ⟩ := id hR
  obtain ⟨r2, r6, p4, t8, oL, oP, oH, oW⟩ := id hOK
  obtain ⟨cR, cP, cT, cL, cPr, cH, cW⟩ := id hC
  obtain ⟨mR, mP, mT, mL, mPr, mH, mW⟩ := id hM
  obtain ⟨nR, nB, nB2, nL, nL0, nD⟩ := id hN
  obtain ⟨xR, xB, xL, xD⟩ := id hnC
  obtain ⟨yR, yB, yL, yD⟩ := id hnM
  simp only [Nat.zero_add] at yR yB yL yD
  subst cR; subst cP; subst cT; subst mR; subst mP; subst mT; subst xD
  have W6 : ∀ t, t < T → ∀ r, Wt t = some r → r < 6 := fun t ht r h => by have := oW t ht r h; omega
  have B8 : ∀ o b, B o = some b → b < 8 := fun o b h => by have := nB2 o b h; omega
  have xr : ∀ t, t < T → n_room t = nI (rm t) := fun t ht => by rw [xR t (by omega), if_pos ht]
  have r6' : ∀ t, t < T → rm t < 6 := fun t ht => by have := nR t ht; omega
  have H3 : ∀ t, t < T → Hd t ≤ 3 := fun t ht => (oH t ht).2
  have l9 : ∀ p, p < 4 → lf p ≤ 9 := fun p hp => by
    by_cases h : p < P
    · have := nL p h; have := (oL p h).2; omega
    · rw [nL0 p (by omega)]; omega
  have hbar := e_barred t8 xB B8 nB cW W6
  have hbarM := e_barredM t8 yB B8 mW W6
  have hbar31 : bitsOf (bar B Wt T) T < 2 ^ 31 := by
    have h1 := bitsOf_lt (bar B Wt T) T
    have h2 : 2 ^ T ≤ 2 ^ 8 := Nat.pow_le_pow_right (by decide) t8
    omega
  have L9' : ∀ p, p < P → L p ≤ 9 := fun p hp => (oL p hp).2
  have hm9 : maxS (fun _ => true) L P ≤ 9 := maxS_le L9'
  rcases rng_cases v0 (n := R) (by omega) with h | ⟨j, hj, rfl, h⟩
  · exact ⟨-1, 0, by simp (maxSteps := 4000000) (disch := omega) only [f_X6_chain, e_hasRoom, h, bd1_eq, bd2_eq, bd3_eq, bd4_eq, bd5_eq, bd6_eq, lt_eq, jn_eq, gd_in, nI_clamp, nI_eq, nI_leI, nI_ltI, nI_add, L0, L1, L2, L3, L4, L5, L6, L8, L16, L20, L21, Nat.reduceEqDiff, Nat.reduceLeDiff, Nat.reduceLT, Nat.reduceAdd, Nat.reduceMul, reduceIte], by simp (maxSteps := 4000000) (disch := omega) only [f_X7_chain, e_isRoom, h, bd1_eq, bd2_eq, bd3_eq, bd4_eq, bd5_eq, bd6_eq, lt_eq, jn_eq, gd_in, nI_clamp, nI_eq, nI_leI, nI_ltI, nI_add, L0, L1, L2, L3, L4, L5, L6, L8, L16, L20, L21, Nat.reduceEqDiff, Nat.reduceLeDiff, Nat.reduceLT, Nat.reduceAdd, Nat.reduceMul, reduceIte], hR⟩
  · have e9 : (9 : Int32) = nI 9 := rfl
    by_cases q1 : v1 < nI 1
    · exact ⟨-1, 0, by simp (maxSteps := 4000000) (disch := omega) only [f_X6_chain, e_hasRoom, h, q1, bd1_eq, bd2_eq, bd3_eq, bd4_eq, bd5_eq, bd6_eq, lt_eq, jn_eq, gd_in, nI_clamp, nI_eq, nI_leI, nI_ltI, nI_add, L0, L1, L2, L3, L4, L5, L6, L8, L16, L20, L21, Nat.reduceEqDiff, Nat.reduceLeDiff, Nat.reduceLT, Nat.reduceAdd, Nat.reduceMul, reduceIte], by simp (maxSteps := 4000000) (disch := omega) only [f_X7_chain, e_isRoom, h, e_in, q1, bd1_eq, bd2_eq, bd3_eq, bd4_eq, bd5_eq, bd6_eq, lt_eq, jn_eq, gd_in, nI_clamp, nI_eq, nI_leI, nI_ltI, nI_add, L0, L1, L2, L3, L4, L5, L6, L8, L16, L20, L21, Nat.reduceEqDiff, Nat.reduceLeDiff, Nat.reduceLT, Nat.reduceAdd, Nat.reduceMul, reduceIte], hR⟩
    · by_cases q2 : v1 ≤ nI 9
      · have q3 : ¬ nI 9 < v1 := fun z => by
          have h1 := Int32.lt_iff_toInt_lt.mp z
          have h2 := Int32.le_iff_toInt_le.mp q2
          omega
        have hk : f_X7_in v1 (nI 1) (nI 9) = some (nI 1) := by rw [e_in, if_neg q1, if_neg q3]; rfl
        refine ⟨_, 0, ?_, e_chainM p4 t8 mL L9' mH yR r6' r6 hj v1 hk, hR⟩
        have eb : sumS (fun t => (bitsOf (fun t => decide (n_room t = nI j)) 8).testBit t) Hd T = sumS (fun t => decide (rm t = j)) Hd T := sumS_congr (fun i hi => by
          rw [bitsOf_bit, xr i hi]
          have h6 := r6' i hi
          by_cases z : rm i = j
          · simp [z]; omega
          · have z2 : ¬ nI (rm i) = nI j := fun w => z ((nI_eq (by omega) (by omega)).mp w)
            simp [z, z2]) (fun _ _ => rfl)
        by_cases q : maxS (fun _ => true) L P = 0
        · simp (maxSteps := 4000000) (disch := omega) only [f_X6_chain, e_hasRoom, h, e9, q1, q2, e_mostLifts p4 cL L9', q, bd1_eq, L0, L1, nI_leI, Nat.reduceLeDiff, nI_eq, Nat.reduceEqDiff, reduceIte]
        · have q4 : 1 ≤ maxS (fun _ => true) L P := by omega
          have q5 : ¬ nI (maxS (fun _ => true) L P) = nI 0 := nI_ne0 (by omega) (by omega)
          simp (maxSteps := 4000000) (disch := omega) only [f_X6_chain, e_hasRoom, h, e9, q1, q2, e_mostLifts p4 cL L9', q, q4, e_thingsIn, e_handsTogether (Nat.lt_trans (bitsOf_lt _ 8) (by decide)) t8 cH, eb, bd1_eq, L0, L1, nI_leI, Nat.reduceLeDiff, nI_eq, Nat.reduceEqDiff, reduceIte]
          rfl
      · have q3 : nI 9 < v1 := by
          have h2 := mt Int32.le_iff_toInt_le.mpr q2
          exact Int32.lt_iff_toInt_lt.mpr (by omega)
        exact ⟨-1, 0, by simp (maxSteps := 4000000) (disch := omega) only [f_X6_chain, e_hasRoom, h, q1, e9, q2, bd1_eq, bd2_eq, bd3_eq, bd4_eq, bd5_eq, bd6_eq, lt_eq, jn_eq, gd_in, nI_clamp, nI_eq, nI_leI, nI_ltI, nI_add, L0, L1, L2, L3, L4, L5, L6, L8, L16, L20, L21, Nat.reduceEqDiff, Nat.reduceLeDiff, Nat.reduceLT, Nat.reduceAdd, Nat.reduceMul, reduceIte], by simp (maxSteps := 4000000) (disch := omega) only [f_X7_chain, e_isRoom, h, e_in, e9, q1, q3, bd1_eq, bd2_eq, bd3_eq, bd4_eq, bd5_eq, bd6_eq, lt_eq, jn_eq, gd_in, nI_clamp, nI_eq, nI_leI, nI_ltI, nI_add, L0, L1, L2, L3, L4, L5, L6, L8, L16, L20, L21, Nat.reduceEqDiff, Nat.reduceLeDiff, Nat.reduceLT, Nat.reduceAdd, Nat.reduceMul, reduceIte], hR⟩
theorem p_untied {t_length : Int32} {t_bytes : Nat → Int32} {h_rooms : Int32} {h_people : Int32} {h_things : Int32} {h_lifts : Nat → Int32} {h_prices : Nat → Int32} {h_hands : Nat → Int32} {h_wanted : Nat → Int32} {n_room : Nat → Int32} {n_bundle : Nat → Int32} {n_left : Nat → Int32} {n_day : Int32} {i_room : Nat → Int32} {i_bundle : Nat → Int32} {i_left : Nat → Int32} {i_day : Int32} {i_kept : Int32} {j_room : Nat → Int32} {j_bundle : Nat → Int32} {j_left : Nat → Int32} {j_day : Int32} {j_kept : Int32} {f_traced : Int64} {m_typed : Int32} {m_text : Nat → Int32} {m_rooms : Int32} {m_people : Int32} {m_things : Int32} {m_lifts : Nat → Int32} {m_price : Nat → Int32} {m_hands : Nat → Int32} {m_wanted : Nat → Int32} {m_s : Nat → Int32} {m_kept : Nat → Int32} {m_isKept : Nat → Int32} {m_trace : Int64} (v0 : Int32) (hR : Rel t_length t_bytes h_rooms h_people h_things h_lifts h_prices h_hands h_wanted n_room n_bundle n_left n_day i_room i_bundle i_left i_day i_kept j_room j_bundle j_left j_day j_kept f_traced m_typed m_text m_rooms m_people m_things m_lifts m_price m_hands m_wanted m_s m_kept m_isKept m_trace) : ∃ (r : Int32) (c0 : Nat → Int32) (k0 : Int32) (k1 : Nat → Int32), f_X6_untied v0 h_things n_bundle = some (r, c0) ∧ f_X7_untied v0 m_things m_s = some (r, k0, k1) ∧ Rel t_length t_bytes h_rooms h_people h_things h_lifts h_prices h_hands h_wanted n_room c0 n_left n_day i_room i_bundle i_left i_day i_kept j_room j_bundle j_left j_day j_kept f_traced m_typed m_text m_rooms m_people m_things m_lifts m_price m_hands m_wanted k1 m_kept m_isKept m_trace := by
  obtain ⟨hT, htr, R, P, T, L, Pr, Hd, Wt, rm, B, lf, day, hOK, hC, hM, hN, hnC, hnM, hI, hJ⟩ := id hR
  obtain ⟨r2, r6, p4, t8, oL, oP, oH, oW⟩ := id hOK
  obtain ⟨cR, cP, cT, cL, cPr, cH, cW⟩ := id hC
  obtain ⟨mR, mP, mT, mL, mPr, mH, mW⟩ := id hM
  obtain ⟨nR, nB, nB2, nL, nL0, nD⟩ := id hN
  obtain ⟨xR, xB, xL, xD⟩ := id hnC
  obtain ⟨yR, yB, yL, yD⟩ := id hnM
  simp only [Nat.zero_add] at yR yB yL yD
  subst cR; subst cP; subst cT; subst mR; subst mP; subst mT; subst xD
  have W6 : ∀ t, t < T → ∀ r, Wt t = some r → r < 6 := fun t ht r h => by have := oW t ht r h; omega
  have B8 : ∀ o b, B o = some b → b < 8 := fun o b h => by have := nB2 o b h; omega
  have xr : ∀ t, t < T → n_room t = nI (rm t) := fun t ht => by rw [xR t (by omega), if_pos ht]
  have r6' : ∀ t, t < T → rm t < 6 := fun t ht => by have := nR t ht; omega
  have H3 : ∀ t, t < T → Hd t ≤ 3 := fun t ht => (oH t ht).2
  have l9 : ∀ p, p < 4 → lf p ≤ 9 := fun p hp => by
    by_cases h : p < P
    · have := nL p h; have := (oL p h).2; omega
    · rw [nL0 p (by omega)]; omega
  have hbar := e_barred t8 xB B8 nB cW W6
  have hbarM := e_barredM t8 yB B8 mW W6
  have hbar31 : bitsOf (bar B Wt T) T < 2 ^ 31 := by
    have h1 := bitsOf_lt (bar B Wt T) T
    have h2 : 2 ^ T ≤ 2 ^ 8 := Nat.pow_le_pow_right (by decide) t8
    omega
  rcases rng_cases v0 (n := T) (by omega) with h | ⟨t, ht, rfl, h⟩
  · exact ⟨-1, n_bundle, 0, m_s, by simp (maxSteps := 4000000) (disch := omega) only [f_X6_untied, e_hasThing, h, bd1_eq, bd2_eq, bd3_eq, bd4_eq, bd5_eq, bd6_eq, lt_eq, jn_eq, gd_in, nI_clamp, nI_eq, nI_leI, nI_ltI, nI_add, L0, L1, L2, L3, L4, L5, L6, L8, L16, L20, L21, Nat.reduceEqDiff, Nat.reduceLeDiff, Nat.reduceLT, Nat.reduceAdd, Nat.reduceMul, reduceIte], by simp (maxSteps := 4000000) (disch := omega) only [f_X7_untied, e_isThing, h, bd1_eq, bd2_eq, bd3_eq, bd4_eq, bd5_eq, bd6_eq, lt_eq, jn_eq, gd_in, nI_clamp, nI_eq, nI_leI, nI_ltI, nI_add, L0, L1, L2, L3, L4, L5, L6, L8, L16, L20, L21, Nat.reduceEqDiff, Nat.reduceLeDiff, Nat.reduceLT, Nat.reduceAdd, Nat.reduceMul, reduceIte], hR⟩
  · cases hz : B t with
    | none => exact ⟨-2, n_bundle, 0, m_s, by simp (maxSteps := 4000000) (disch := omega) only [f_X6_untied, e_hasThing, h, xB t (by omega), hz, oI, bd1_eq, bd2_eq, bd3_eq, bd4_eq, bd5_eq, bd6_eq, lt_eq, jn_eq, gd_in, nI_clamp, nI_eq, nI_leI, nI_ltI, nI_add, L0, L1, L2, L3, L4, L5, L6, L8, L16, L20, L21, Nat.reduceEqDiff, Nat.reduceLeDiff, Nat.reduceLT, Nat.reduceAdd, Nat.reduceMul, reduceIte], by simp (maxSteps := 4000000) (disch := omega) only [f_X7_untied, e_isThing, h, yB t (by omega), hz, oI, bd1_eq, bd2_eq, bd3_eq, bd4_eq, bd5_eq, bd6_eq, lt_eq, jn_eq, gd_in, nI_clamp, nI_eq, nI_leI, nI_ltI, nI_add, L0, L1, L2, L3, L4, L5, L6, L8, L16, L20, L21, Nat.reduceEqDiff, Nat.reduceLeDiff, Nat.reduceLT, Nat.reduceAdd, Nat.reduceMul, reduceIte], hR⟩
    | some z =>
      have hz9 : ¬ nI z = -9 := nI_ne9 (by have := B8 t z hz; omega)
      have xb : n_bundle t = nI z := by rw [xB t (by omega), hz]; rfl
      refine ⟨_, fun k => if k < 8 ∧ (bitsOf (one B t) 8).testBit k = true then -9 else n_bundle k, 0, _, ?_, e_untiedM t8 ht yB B8 hz, ?_⟩
      · simp (maxSteps := 4000000) (disch := omega) only [f_X6_untied, e_hasThing, h, xb, hz9, e_jobOf (show t < 8 by omega) xB B8, e_setBundle (job_lt B t), e_bitCount _ (bitsOf_lt (one B t) 8), cnt_job t8 ht nB, bd1_eq, bd2_eq, bd3_eq, bd4_eq, bd5_eq, bd6_eq, lt_eq, jn_eq, gd_in, nI_clamp, nI_eq, nI_leI, nI_ltI, nI_add, L0, L1, L2, L3, L4, L5, L6, L8, L16, L20, L21, Nat.reduceEqDiff, Nat.reduceLeDiff, Nat.reduceLT, Nat.reduceAdd, Nat.reduceMul, reduceIte]
      · refine ⟨hT, htr, R, P, T, L, Pr, Hd, Wt, rm, fun k => if one B t k = true then none else B k, lf, day, hOK, hC, hM, ?_, ?_, ?_, hI, hJ⟩
        · refine ⟨nR, fun k hk => ?_, fun k b hk => ?_, nL, nL0, nD⟩
          · dsimp only
            rw [nB k hk]; split <;> rfl
          · dsimp only at hk
            split at hk
            · cases hk
            · exact nB2 k b hk
        · refine ⟨xR, fun k hk => ?_, xL, rfl⟩
          dsimp only
          rw [job_bit hk]
          cases q : one B t k
          · simp; exact xB k hk
          · simp [hk, oI]
        · refine ⟨fun k hk => ?_, fun k hk => ?_, fun k hk => ?_, ?_⟩
          · rw [Nat.zero_add]; dsimp only; rw [if_neg (by omega)]; exact yR k hk
          · rw [Nat.zero_add]; dsimp only; rw [show 8 + k - 8 = k by omega]
            cases q : one B t k
            · simp; exact yB k hk
            · have hkT := one_lt nB ht q
              rw [if_pos ⟨by omega, by omega, rfl⟩]
              rfl
          · rw [Nat.zero_add]; dsimp only; rw [if_neg (by omega)]; exact yL k hk
          · rw [Nat.zero_add]; dsimp only; rw [if_neg (by omega)]; exact yD
