
/-! PURE PART: house -/
theorem e_begin {P T : Nat} (hP : P ≤ 4) (hT : T ≤ 8) (room bundle left lifts starts : Nat → Int32) : f_X1_begin room bundle left (nI P) (nI T) lifts starts = some (0, (fun k => if k < 4 then (if k < P then lifts k else nI 0) else left k), (fun k => if k < 8 then (if k < T then starts k else -9) else room k), (fun k => if k < 8 then -9 else bundle k)) := by
  unfold f_X1_begin
  refine loop3_run (fun i => nI i) (fun i => fun k => if k < i then (if k < T then starts k else -9) else room k) (fun i => fun k => if k < i then -9 else bundle k) 8 (fun i hi BB => ?_) (fun BB => ?_) (FU_lt (by decide)) rfl (by funext k; simp) (by funext k; simp)
  · have hc : ¬ 8 ≤ i := by omega
    have e : upd (fun k => if k < i then (if k < T then starts k else -9) else room k) i (if i < T then starts i else -9) = (fun k => if k < i + 1 then (if k < T then starts k else -9) else room k) := by
      funext k
      rw [upd_at]
      by_cases h : k = i
      · subst h; simp
      · simp [h, lt_succ_ne h]
    have e2 : upd (fun k => if k < i then (-9 : Int32) else bundle k) i (-9) = (fun k => if k < i + 1 then -9 else bundle k) := by
      funext k
      rw [upd_at]
      by_cases h : k = i
      · subst h; simp
      · simp [h, lt_succ_ne h]
    by_cases q : i < T
    · rw [if_pos q] at e
      simp (maxSteps := 4000000) (disch := omega) only [e_hasThing, rng_in q (show T < 2 ^ 31 by omega), hc, bd1_eq, bd2_eq, bd3_eq, bd4_eq, bd5_eq, bd6_eq, lt_eq, jn_eq, gd_in, nI_clamp, nI_eq, nI_leI, nI_ltI, nI_add, L0, L1, L2, L3, L4, L5, L6, L8, L16, L20, L21, Nat.reduceEqDiff, Nat.reduceLeDiff, Nat.reduceLT, Nat.reduceAdd, Nat.reduceMul, reduceIte]
      rw [e, e2]
    · rw [if_neg q] at e
      simp (maxSteps := 4000000) (disch := omega) only [e_hasThing, rng_out (Or.inr (nI_le (show T ≤ i by omega) (show i < 2 ^ 31 by omega))), hc, bd1_eq, bd2_eq, bd3_eq, bd4_eq, bd5_eq, bd6_eq, lt_eq, jn_eq, gd_in, nI_clamp, nI_eq, nI_leI, nI_ltI, nI_add, L0, L1, L2, L3, L4, L5, L6, L8, L16, L20, L21, Nat.reduceEqDiff, Nat.reduceLeDiff, Nat.reduceLT, Nat.reduceAdd, Nat.reduceMul, reduceIte]
      rw [e, e2]
  · simp (maxSteps := 4000000) (disch := omega) only [Nat.le_refl, e_rest hP, bd1_eq, bd2_eq, bd3_eq, bd4_eq, bd5_eq, bd6_eq, lt_eq, jn_eq, gd_in, nI_clamp, nI_eq, nI_leI, nI_ltI, nI_add, L0, L1, L2, L3, L4, L5, L6, L8, L16, L20, L21, Nat.reduceEqDiff, Nat.reduceLeDiff, Nat.reduceLT, Nat.reduceAdd, Nat.reduceMul, reduceIte]
theorem e_begins {P T : Nat} (hP : P ≤ 4) (hT : T ≤ 8) (lifts stood s : Nat → Int32) : f_X7_begins (nI P) (nI T) lifts stood s = some (fun k => if 16 ≤ k ∧ k < 20 then (if k - 16 < P then lifts (k - 16) else nI 0) else upd (fun k => if k < 8 then (if k < T then stood k else nI 0) else if 8 ≤ k ∧ k < 8 + 8 then -9 else s k) 20 (nI 0) k) := by
  unfold f_X7_begins
  refine loop2_run (fun i => nI i) (fun i => fun k => if k < i then (if k < T then stood k else nI 0) else if 8 ≤ k ∧ k < 8 + i then -9 else s k) 8 (fun i hi BB => ?_) (fun BB => ?_) (FU_lt (by decide)) rfl (by funext k; rw [if_neg (by omega), if_neg (by omega)])
  · have hc : ¬ 8 ≤ i := by omega
    have e : upd (upd (fun k => if k < i then (if k < T then stood k else nI 0) else if 8 ≤ k ∧ k < 8 + i then -9 else s k) i (if i < T then stood i else nI 0)) (8 + i) (-9) = (fun k => if k < i + 1 then (if k < T then stood k else nI 0) else if 8 ≤ k ∧ k < 8 + (i + 1) then -9 else s k) := by
      funext k
      rw [upd_at]
      by_cases h : k = 8 + i
      · rw [if_pos h, if_neg (by omega), if_pos (by omega)]
      · rw [if_neg h, upd_at]
        by_cases h2 : k = i
        · subst h2; rw [if_pos rfl, if_pos (show k < k + 1 by omega)]
        · rw [if_neg h2]
          by_cases h3 : k < i
          · rw [if_pos h3, if_pos (show k < i + 1 by omega)]
          · rw [if_neg h3, if_neg (show ¬ k < i + 1 by omega)]
            exact ifc (by omega)
    by_cases q : i < T
    · rw [if_pos q] at e
      have q2 : ¬ T ≤ i := by omega
      simp (maxSteps := 4000000) (disch := omega) only [hc, q2, bd1_eq, bd2_eq, bd3_eq, bd4_eq, bd5_eq, bd6_eq, lt_eq, jn_eq, gd_in, nI_clamp, nI_eq, nI_leI, nI_ltI, nI_add, L0, L1, L2, L3, L4, L5, L6, L8, L16, L20, L21, Nat.reduceEqDiff, Nat.reduceLeDiff, Nat.reduceLT, Nat.reduceAdd, Nat.reduceMul, reduceIte]
      rw [e]
    · rw [if_neg q] at e
      have q2 : T ≤ i := by omega
      simp (maxSteps := 4000000) (disch := omega) only [hc, q2, bd1_eq, bd2_eq, bd3_eq, bd4_eq, bd5_eq, bd6_eq, lt_eq, jn_eq, gd_in, nI_clamp, nI_eq, nI_leI, nI_ltI, nI_add, L0, L1, L2, L3, L4, L5, L6, L8, L16, L20, L21, Nat.reduceEqDiff, Nat.reduceLeDiff, Nat.reduceLT, Nat.reduceAdd, Nat.reduceMul, reduceIte]
      rw [e]
  · simp (maxSteps := 4000000) (disch := omega) only [Nat.le_refl, e_rested hP, bd1_eq, bd2_eq, bd3_eq, bd4_eq, bd5_eq, bd6_eq, lt_eq, jn_eq, gd_in, nI_clamp, nI_eq, nI_leI, nI_ltI, nI_add, L0, L1, L2, L3, L4, L5, L6, L8, L16, L20, L21, Nat.reduceEqDiff, Nat.reduceLeDiff, Nat.reduceLT, Nat.reduceAdd, Nat.reduceMul, reduceIte]
def cpU (o n : Nat) (f : Nat → Int32) : Nat → Int32 := fun k => if k < n then f (o + k) else f k
theorem cpU_0 (o : Nat) (f : Nat → Int32) : f = cpU o 0 f := by funext k; unfold cpU; rw [if_neg (by omega)]
theorem cpU_at {o n : Nat} (h : n ≤ o) (f : Nat → Int32) : cpU o n f (o + n) = f (o + n) := by unfold cpU; rw [if_neg (by omega)]
theorem cpU_s (o i : Nat) (f : Nat → Int32) : upd (cpU o i f) i (f (o + i)) = cpU o (i + 1) f := by
  funext k
  rw [upd_at]
  unfold cpU
  by_cases h : k = i
  · subst h; rw [if_pos rfl, if_pos (by omega)]
  · rw [if_neg h]; exact ifc (by omega)
theorem cpU_in {o n k : Nat} (h : k < n) (f : Nat → Int32) : cpU o n f k = f (o + k) := if_pos h
def bgn (P T : Nat) (lifts stood s : Nat → Int32) : Nat → Int32 := fun k => if 16 ≤ k ∧ k < 20 then (if k - 16 < P then lifts (k - 16) else nI 0) else upd (fun k => if k < 8 then (if k < T then stood k else nI 0) else if 8 ≤ k ∧ k < 8 + 8 then -9 else s k) 20 (nI 0) k
theorem gd_20 {R : Type} (t : Option R) : gd (inb (0 : Int32) 2) t = t := gd_in (i := 0) (by decide) (by decide)
theorem gd_21 {R : Type} (t : Option R) : gd (inb (1 : Int32) 2) t = t := gd_in (i := 1) (by decide) (by decide)
theorem hEx_ok {R P T : Nat} (hP : P ≤ 4) (hT : T ≤ 8) (ty mr mp0 mt0 : Int32) (s ik : Nat → Int32) (it mn mt mp mv : Int32) (l pr st h w : Nat → Int32) : hEx ty mr mp0 mt0 s ik it mn mt mp mv (-1) (nI R) (nI P) (nI T) l pr st h w = some (it, 0, 0, mn, mt, mp, mv, -1, nI R, nI P, nI T, nI R, nI P, nI T, bgn P T (cpU 4 4 l) (cpU 8 8 st) s, upd (upd ik 0 0) 1 0, cpU 8 8 st, cpU 8 8 h, cpU 8 8 w, cpU 4 4 l, cpU 4 4 pr) := by
  unfold hEx
  rw [iw_m1, bd1_eq, if_neg n01]
  refine loop3_run (fun i => nI i) (fun i => cpU 4 i l) (fun i => cpU 4 i pr) 4 (fun i hi BB => ?_) (fun BB => ?_) (FU_lt (by decide)) rfl (cpU_0 4 l) (cpU_0 4 pr)
  · have hc : ¬ 4 ≤ i := by omega
    simp (maxSteps := 4000000) (disch := omega) only [hc, cpU_at (show i ≤ 4 by omega), cpU_s, bd1_eq, bd2_eq, bd3_eq, bd4_eq, bd5_eq, bd6_eq, lt_eq, jn_eq, gd_in, nI_clamp, nI_eq, nI_leI, nI_ltI, nI_add, L0, L1, L2, L3, L4, L5, L6, L8, L16, L20, L21, Nat.reduceEqDiff, Nat.reduceLeDiff, Nat.reduceLT, Nat.reduceAdd, Nat.reduceMul, reduceIte]
  · rw [if_pos (show (4 : Int32) ≤ nI 4 by decide)]
    refine loop4_run (fun i => nI i) (fun i => cpU 8 i st) (fun i => cpU 8 i h) (fun i => cpU 8 i w) 8 (fun i hi BB => ?_) (fun BB => ?_) (FU_lt (by decide)) rfl (cpU_0 8 st) (cpU_0 8 h) (cpU_0 8 w)
    · have hc : ¬ 8 ≤ i := by omega
      simp (maxSteps := 4000000) (disch := omega) only [hc, cpU_at (show i ≤ 8 by omega), cpU_s, bd1_eq, bd2_eq, bd3_eq, bd4_eq, bd5_eq, bd6_eq, lt_eq, jn_eq, gd_in, nI_clamp, nI_eq, nI_leI, nI_ltI, nI_add, L0, L1, L2, L3, L4, L5, L6, L8, L16, L20, L21, Nat.reduceEqDiff, Nat.reduceLeDiff, Nat.reduceLT, Nat.reduceAdd, Nat.reduceMul, reduceIte]
    · rw [if_pos (show (8 : Int32) ≤ nI 8 by decide), gd_20, gd_21, e_begins hP hT, bd1_eq]
      rfl
theorem hEx_bad {q : Nat} (hq : q < 2 ^ 31) (ty mr mp0 mt0 : Int32) (s ik : Nat → Int32) (it mn mt mp mv er ep et : Int32) (l pr st h w : Nat → Int32) : hEx ty mr mp0 mt0 s ik it mn mt mp mv (nI q) er ep et l pr st h w = some (-10 - nI q, 0, ty, mn, mt, mp, mv, nI q, mr, mp0, mt0, er, ep, et, s, ik, st, h, w, l, pr) := by
  unfold hEx
  rw [iw_q hq, bd1_eq, if_pos rfl]
theorem neg_10 : ∀ q, q < 301 → ¬ (0 : Int32) ≤ -10 - nI q := by decide +kernel
theorem p_house {t_length : Int32} {t_bytes : Nat → Int32} {h_rooms : Int32} {h_people : Int32} {h_things : Int32} {h_lifts : Nat → Int32} {h_prices : Nat → Int32} {h_hands : Nat → Int32} {h_wanted : Nat → Int32} {n_room : Nat → Int32} {n_bundle : Nat → Int32} {n_left : Nat → Int32} {n_day : Int32} {i_room : Nat → Int32} {i_bundle : Nat → Int32} {i_left : Nat → Int32} {i_day : Int32} {i_kept : Int32} {j_room : Nat → Int32} {j_bundle : Nat → Int32} {j_left : Nat → Int32} {j_day : Int32} {j_kept : Int32} {f_traced : Int64} {m_typed : Int32} {m_text : Nat → Int32} {m_rooms : Int32} {m_people : Int32} {m_things : Int32} {m_lifts : Nat → Int32} {m_price : Nat → Int32} {m_hands : Nat → Int32} {m_wanted : Nat → Int32} {m_s : Nat → Int32} {m_kept : Nat → Int32} {m_isKept : Nat → Int32} {m_trace : Int64} (t_value : Int32) (h_starts : Nat → Int32) (d_lifts : Nat → Int32) (d_prices : Nat → Int32) (d_starts : Nat → Int32) (d_hands : Nat → Int32) (d_wanted : Nat → Int32) (m_value : Int32) (m_stood : Nat → Int32) (hR : Rel t_length t_bytes h_rooms h_people h_things h_lifts h_prices h_hands h_wanted n_room n_bundle n_left n_day i_room i_bundle i_left i_day i_kept j_room j_bundle j_left j_day j_kept f_traced m_typed m_text m_rooms m_people m_things m_lifts m_price m_hands m_wanted m_s m_kept m_isKept m_trace) : ∃ (r : Int32) (c0 : Int32) (c1 : Int32) (c2 : Int32) (c3 : Int32) (c4 : Int32) (c5 : Int32) (c6 : Int32) (c7 : Int32) (c8 : Nat → Int32) (c9 : Nat → Int32) (c10 : Nat → Int32) (c11 : Nat → Int32) (c12 : Nat → Int32) (c13 : Int32) (c14 : Int32) (c15 : Int32) (c16 : Nat → Int32) (c17 : Nat → Int32) (c18 : Nat → Int32) (c19 : Nat → Int32) (c20 : Nat → Int32) (c21 : Int32) (c22 : Nat → Int32) (c23 : Nat → Int32) (c24 : Nat → Int32) (c25 : Int32) (c26 : Int32) (k0 : Int32) (k1 : Int32) (k2 : Int32) (k3 : Int32) (k4 : Int32) (k5 : Int32) (k6 : Int32) (k7 : Int32) (k8 : Int32) (k9 : Int32) (k10 : Int32) (k11 : Int32) (k12 : Int32) (k13 : Nat → Int32) (k14 : Nat → Int32) (k15 : Nat → Int32) (k16 : Nat → Int32) (k17 : Nat → Int32) (k18 : Nat → Int32) (k19 : Nat → Int32), f_X6_house t_length t_value t_bytes h_rooms h_people h_things h_lifts h_prices h_starts h_hands h_wanted d_lifts d_prices d_starts d_hands d_wanted n_day n_room n_bundle n_left i_kept j_kept = some (r, c0, c1, c2, c3, c4, c5, c6, c7, c8, c9, c10, c11, c12, c13, c14, c15, c16, c17, c18, c19, c20, c21, c22, c23, c24, c25, c26) ∧ f_X7_house m_typed m_value m_rooms m_people m_things m_text m_lifts m_price m_stood m_hands m_wanted m_s m_isKept = some (r, k0, k1, k2, k3, k4, k5, k6, k7, k8, k9, k10, k11, k12, k13, k14, k15, k16, k17, k18, k19) ∧ Rel c0 t_bytes c5 c6 c7 c8 c9 c11 c12 c22 c23 c24 c21 i_room i_bundle i_left i_day c25 j_room j_bundle j_left j_day c26 f_traced k1 m_text k7 k8 k9 k18 k19 k16 k17 k13 m_kept k14 m_trace := by
  obtain ⟨hTx, htr, R, P, T, L, Pr, Hd, Wt, rm, B, lf, day, hOK, hC, hM, hN, hnC, hnM, hI, hJ⟩ := id hR
  obtain ⟨n, bt, ⟨n3, hl, hbt⟩, ht, hm⟩ := id hTx
  subst hl; subst ht
  have hX : TX n bt t_bytes m_text := ⟨n3, hbt, hm⟩
  obtain ⟨k, v, x, ct, ca, cv, mn, mt, mv, hA, h1, h2⟩ := AT_at hX (Nat.zero_le n) t_value m_value
  have hf1 : f_X3_toFirst (nI n) t_value t_bytes = some (ct, nI (pT n bt 0), ca, cv) := by
    unfold f_X3_toFirst
    rw [show (0 : Int32) = nI 0 from rfl, h1, bd4_eq]
  have hD : DD 4 0 0 (fun _ => 0) (fun _ => 0) (fun _ => 0) (fun _ => 0) (fun _ => none) 4 0 0 d_lifts d_prices d_starts d_hands d_wanted m_lifts m_price m_stood m_hands m_wanted := ⟨⟨by decide, by decide, by decide, by decide⟩, ⟨rfl, rfl, rfl⟩, fun p hp => absurd hp (Nat.not_lt_zero p), fun t ht => absurd ht (Nat.not_lt_zero t)⟩
  have hL : Low m_lifts m_price m_hands m_wanted m_lifts m_price m_hands m_wanted := ⟨fun _ _ => ⟨rfl, rfl⟩, fun _ _ => ⟨rfl, rfl⟩⟩
  have hs := read_sim (m_rooms := m_rooms) (m_people := m_people) (m_things := m_things) (m_s := m_s) (m_isKept := m_isKept) hX n 0 (Nat.sub_le n 0) FU FU (FU_lt (by omega)) (FU_lt (by omega)) (items := 0) hA (Nat.le_refl 0) (fun _ => rfl) hD hL
  have eM := sa_house (nI n) m_value m_rooms m_people m_things m_text m_lifts m_price m_stood m_hands m_wanted m_s m_isKept
  rw [show f_X7_advances (nI n) (0 : Int32) m_value m_text = some (mn, mt, nI (pT n bt 0), mv) from h2, bd4_eq] at eM
  have eC := sa_read (nI n) t_value t_bytes d_lifts d_prices d_starts d_hands d_wanted
  rw [hf1, bd4_eq] at eC
  rcases hs with ⟨it', ct', cp', ca', cv', mn', mt', mp', mv', R', P', T', L', Pr', St', Hd', Wt', dr', dp', dt', dl', dpr', ds', dh', dw', l', pr', s', h', w', y1, y2, y3, y4⟩ | ⟨q, ct', ca', cv', it', mn', mt', mp', mv', dr', dp', dt', er, ep, et, dl', dpr', ds', dh', dw', l', pr', s', h', w', y1, y2, y3, y4⟩
  · obtain ⟨⟨r2, r6, p4, t8⟩, ⟨er, ep, et⟩, dP, dT⟩ := id y2
    subst er; subst ep; subst et
    have gC := eC.trans y3
    have gM := (eM.trans y4).trans (hEx_ok p4 t8 _ _ _ _ _ _ _ _ _ _ _ _ _ _ _ _)
    have gH : f_X6_house (nI n) t_value t_bytes h_rooms h_people h_things h_lifts h_prices h_starts h_hands h_wanted d_lifts d_prices d_starts d_hands d_wanted n_day n_room n_bundle n_left i_kept j_kept = some (nI it', 0, ct', cp', ca', cv', nI R', nI P', nI T', va_cpy dl' h_lifts 0 0 4, va_cpy dpr' h_prices 0 0 4, va_cpy ds' h_starts 0 0 8, va_cpy dh' h_hands 0 0 8, va_cpy dw' h_wanted 0 0 8, nI R', nI P', nI T', dl', dpr', ds', dh', dw', 0, (fun k => if k < 8 then (if k < T' then va_cpy ds' h_starts 0 0 8 k else -9) else n_room k), (fun k => if k < 8 then -9 else n_bundle k), (fun k => if k < 4 then (if k < P' then va_cpy dl' h_lifts 0 0 4 k else nI 0) else n_left k), 0, 0) := by
      unfold f_X6_house
      rw [gC, bd13_eq, if_pos (show (0 : Int32) ≤ nI it' from nI_le (a := 0) (Nat.zero_le _) (by omega))]
      unfold f_X0_become
      rw [bd8_eq, e_begin p4 t8, bd4_eq]
      rfl
    refine ⟨_, _, _, _, _, _, _, _, _, _, _, _, _, _, _, _, _, _, _, _, _, _, _, _, _, _, _, _, _, _, _, _, _, _, _, _, _, _, _, _, _, _, _, _, _, _, _, _, gH, gM, ⟨0, bt, ⟨by decide, rfl, fun k hk => absurd hk (Nat.not_lt_zero k)⟩, rfl, fun k hk => absurd hk (Nat.not_lt_zero k)⟩, htr, R', P', T', L', Pr', Hd', Wt', St', fun _ => none, fun p => if p < P' then L' p else 0, 0, ?_, ?_, ?_, ?_, ?_, ?_, ?_, ?_⟩
    · exact ⟨r2, r6, p4, t8, fun p hp => ⟨(dP p hp).1.1, (dP p hp).1.2.1⟩, fun p hp => (dP p hp).1.2.2, fun t ht => ⟨(dT t ht).1.2.1, (dT t ht).1.2.2.1⟩, fun t ht => (dT t ht).1.2.2.2⟩
    · refine ⟨rfl, rfl, rfl, fun p hp => ?_, fun p hp => ?_, fun t ht => ?_, fun t ht => ?_⟩
      · rw [sb_cpy0 (show p < 4 by omega)]; exact (dP p hp).2.1.1
      · rw [sb_cpy0 (show p < 4 by omega)]; exact (dP p hp).2.1.2
      · rw [sb_cpy0 (show t < 8 by omega)]; exact (dT t ht).2.1.2.1
      · rw [sb_cpy0 (show t < 8 by omega)]; exact (dT t ht).2.1.2.2
    · refine ⟨rfl, rfl, rfl, fun p hp => ?_, fun p hp => ?_, fun t ht => ?_, fun t ht => ?_⟩
      · rw [cpU_in (show p < 4 by omega)]; exact (dP p hp).2.2.1
      · rw [cpU_in (show p < 4 by omega)]; exact (dP p hp).2.2.2
      · rw [cpU_in (show t < 8 by omega)]; exact (dT t ht).2.2.2.1
      · rw [cpU_in (show t < 8 by omega)]; exact (dT t ht).2.2.2.2
    · exact ⟨fun t ht => (dT t ht).1.1, fun _ _ => rfl, fun t b hb => (by cases hb), fun p hp => Nat.le_of_eq (if_pos hp), fun p hp => if_neg (by omega), by decide⟩
    · refine ⟨fun t ht => ?_, fun t ht => if_pos ht, fun p hp => ?_, rfl⟩
      · simp only [if_pos ht]
        by_cases z : t < T'
        · rw [if_pos z, if_pos z, sb_cpy0 ht]; exact (dT t z).2.1.1
        · rw [if_neg z, if_neg z]
      · simp only [if_pos hp]
        by_cases z : p < P'
        · rw [if_pos z, if_pos z, sb_cpy0 hp]; exact (dP p z).2.1.1
        · rw [if_neg z, if_neg z]
    · refine ⟨fun t ht => ?_, fun t ht => ?_, fun p hp => ?_, ?_⟩
      · unfold bgn
        rw [Nat.zero_add, if_neg (by omega), upd_at, if_neg (by omega), if_pos (show t < 8 by omega), if_pos ht, cpU_in (show t < 8 by omega)]
        exact (dT t ht).2.2.1
      · unfold bgn
        rw [Nat.zero_add, if_neg (by omega), upd_at, if_neg (by omega), if_neg (by omega), if_pos (by omega)]
        rfl
      · unfold bgn
        rw [Nat.zero_add, if_pos (by omega), show 16 + p - 16 = p by omega]
        dsimp only
        by_cases z : p < P'
        · rw [if_pos z, if_pos z, cpU_in hp]; exact (dP p z).2.2.1
        · rw [if_neg z, if_neg z]
      · rfl
    · exact Or.inl ⟨rfl, rfl⟩
    · exact Or.inl ⟨rfl, rfl⟩
  · have gC := eC.trans y3
    have gM := (eM.trans y4).trans (hEx_bad (show q < 2 ^ 31 by omega) _ _ _ _ _ _ _ _ _ _ _ _ _ _ _ _ _ _ _)
    have gH : f_X6_house (nI n) t_value t_bytes h_rooms h_people h_things h_lifts h_prices h_starts h_hands h_wanted d_lifts d_prices d_starts d_hands d_wanted n_day n_room n_bundle n_left i_kept j_kept = some (-10 - nI q, nI n, ct', nI q, ca', cv', h_rooms, h_people, h_things, h_lifts, h_prices, h_starts, h_hands, h_wanted, dr', dp', dt', dl', dpr', ds', dh', dw', n_day, n_room, n_bundle, n_left, i_kept, j_kept) := by
      unfold f_X6_house
      rw [gC, bd13_eq, if_neg (neg_10 q (by omega))]
    obtain ⟨r2, r6, p4, t8, oL, oP, oH, oW⟩ := id hOK
    obtain ⟨mR, mP, mT, mL, mPr, mH, mW⟩ := id hM
    refine ⟨_, _, _, _, _, _, _, _, _, _, _, _, _, _, _, _, _, _, _, _, _, _, _, _, _, _, _, _, _, _, _, _, _, _, _, _, _, _, _, _, _, _, _, _, _, _, _, _, gH, gM, hTx, htr, R, P, T, L, Pr, Hd, Wt, rm, B, lf, day, hOK, hC, ⟨mR, mP, mT, fun p hp => ?_, fun p hp => ?_, fun t ht => ?_, fun t ht => ?_⟩, hN, hnC, hnM, hI, hJ⟩
    · rw [(y2.1 p (by omega)).1]; exact mL p hp
    · rw [(y2.1 p (by omega)).2]; exact mPr p hp
    · rw [(y2.2 t (by omega)).1]; exact mH t ht
    · rw [(y2.2 t (by omega)).2]; exact mW t ht
