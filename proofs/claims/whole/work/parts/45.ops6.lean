theorem cnt_le (b : Nat) : cnt8 b ≤ 8 := by
  have := sumS_le (p := fun k => b.testBit k) (h := fun _ => 1) (c := 1) (n := 8) (fun _ _ => Nat.le_refl 1)
  unfold cnt8; omega
theorem e_liftedM {b t r R P T : Nat} (hT : T ≤ 8) (hP : P ≤ 4) (hR6 : R ≤ 6) (hb : b < 2 ^ P) (ht : t < T) (hrR : r < R) {hands s : Nat → Int32} {B : Nat → Option Nat} {rm lf Hd : Nat → Nat} (hs : ∀ o, o < 8 → s (8 + o) = oI (B o)) (hB : ∀ o b, B o = some b → b < 8) (hr : ∀ t, t < T → s t = nI (rm t)) (hr6 : ∀ t, t < T → rm t < 6) (hl : ∀ p, p < 4 → s (16 + p) = nI (lf p)) (h9 : ∀ p, p < 4 → lf p ≤ 9) (hh : ∀ t, t < T → hands t = nI (Hd t)) (hH : ∀ t, t < T → Hd t ≤ 3) : f_X7_lifted (nI b) (nI t) (nI r) (nI R) (nI P) (nI T) hands s = some (if (rm t = r ∨ ¬ cnt8 b = mh B Hd T t) ∨ exB (fun k => b.testBit k && decide (lf k = 0)) P = true then (-2, 0, s) else (nI (sumS (one B t) (fun _ => 1) T), 0, fun j => if j < T ∧ one B t j = true then nI r else if 16 ≤ j ∧ j < 16 + P then s j - nI (if b.testBit (j - 16) then 1 else 0) else s j)) := by
  have hpP : 2 ^ P ≤ 2 ^ 4 := Nat.pow_le_pow_right (by decide) hP
  have hb31 : b < 2 ^ 31 := by omega
  have hcnt := cnt_le b
  have hm3 : mh B Hd T t ≤ 3 := maxS_le hH
  unfold f_X7_lifted
  have hin : f_X7_in (nI b) 0 ((1 : Int32) <<< (nI P &&& 31) - 1) = some 1 := by
    have := e_hasAllM (nI b) (P := P) (by omega)
    rw [rng_in hb (by omega)] at this
    exact this
  rw [hin, bd1_eq, if_neg n01, e_isThing _ (by omega), rng_in ht (by omega), bd1_eq, if_neg n01, e_isRoom _ (by omega), rng_in hrR (by omega), bd1_eq, if_neg n01, gd_in (by omega) (by decide), nI_clamp (by omega), hr t ht]
  refine jn_use (P := fun J => ∀ m0 : Nat, m0 ≤ 1 → J (nI m0) = some (if m0 = 0 ∨ exB (fun k => b.testBit k && decide (lf k = 0)) P = true then (-2, 0, s) else (nI (sumS (one B t) (fun _ => 1) T), 0, fun j => if j < T ∧ one B t j = true then nI r else if 16 ≤ j ∧ j < 16 + P then s j - nI (if b.testBit (j - 16) then 1 else 0) else s j))) ?_ ?_
  · intro m0 hm0
    refine loop2_run (fun i => nI (if m0 = 0 ∨ exB (fun k => b.testBit k && decide (lf k = 0)) i = true then 0 else 1)) (fun i => nI i) P (fun i hi BB => ?_) (fun BB => ?_) (FU_lt (by omega)) (by
      rcases (show m0 = 0 ∨ m0 = 1 by omega) with z | z <;> subst z <;> rfl) rfl
    · have hc : ¬ P ≤ i := by omega
      have hl9 := h9 i (by omega)
      by_cases hm : m0 = 0 ∨ exB (fun k => b.testBit k && decide (lf k = 0)) i = true
      · have hm2 : m0 = 0 ∨ exB (fun k => b.testBit k && decide (lf k = 0)) (i + 1) = true := by
          rcases hm with z | z
          · exact Or.inl z
          · exact Or.inr (by rw [exB, z]; rfl)
        simp (maxSteps := 4000000) (disch := omega) only [hc, hm, hm2, bd1_eq, bd2_eq, bd3_eq, bd4_eq, bd5_eq, bd6_eq, lt_eq, jn_eq, gd_in, nI_clamp, nI_eq, nI_leI, nI_ltI, nI_add, L0, L1, L2, L3, L4, L5, L6, L8, L16, L20, L21, Nat.reduceEqDiff, Nat.reduceLeDiff, Nat.reduceLT, Nat.reduceAdd, Nat.reduceMul, reduceIte]
      · have hm3 : (m0 = 0 ∨ exB (fun k => b.testBit k && decide (lf k = 0)) (i + 1) = true) ↔ (b.testBit i && decide (lf i = 0)) = true := by
          rw [exB]
          constructor
          · rintro (z | z)
            · exact absurd (Or.inl z) hm
            · rcases Bool.or_eq_true _ _ ▸ z with z | z
              · exact absurd (Or.inr z) hm
              · exact z
          · intro z; exact Or.inr (by rw [z, Bool.or_true])
        cases q : b.testBit i
        · simp (maxSteps := 4000000) (disch := omega) only [hc, hm, hm3, q, bit_N hb31 (show i < 31 by omega), Bool.false_and, Bool.false_eq_true, bd1_eq, bd2_eq, bd3_eq, bd4_eq, bd5_eq, bd6_eq, lt_eq, jn_eq, gd_in, nI_clamp, nI_eq, nI_leI, nI_ltI, nI_add, L0, L1, L2, L3, L4, L5, L6, L8, L16, L20, L21, Nat.reduceEqDiff, Nat.reduceLeDiff, Nat.reduceLT, Nat.reduceAdd, Nat.reduceMul, reduceIte]
        · by_cases q2 : lf i = 0
          · simp (maxSteps := 4000000) (disch := omega) only [hc, hm, hm3, q, bit_N hb31 (show i < 31 by omega), hl i (show i < 4 by omega), q2, decide_true, Bool.and_self, Nat.le_refl, bd1_eq, bd2_eq, bd3_eq, bd4_eq, bd5_eq, bd6_eq, lt_eq, jn_eq, gd_in, nI_clamp, nI_eq, nI_leI, nI_ltI, nI_add, L0, L1, L2, L3, L4, L5, L6, L8, L16, L20, L21, Nat.reduceEqDiff, Nat.reduceLeDiff, Nat.reduceLT, Nat.reduceAdd, Nat.reduceMul, reduceIte]
          · have q3 : ¬ lf i ≤ 0 := by omega
            simp (maxSteps := 4000000) (disch := omega) only [hc, hm, hm3, q, bit_N hb31 (show i < 31 by omega), hl i (show i < 4 by omega), q3, q2, decide_false, Bool.and_false, Bool.false_eq_true, bd1_eq, bd2_eq, bd3_eq, bd4_eq, bd5_eq, bd6_eq, lt_eq, jn_eq, gd_in, nI_clamp, nI_eq, nI_leI, nI_ltI, nI_add, L0, L1, L2, L3, L4, L5, L6, L8, L16, L20, L21, Nat.reduceEqDiff, Nat.reduceLeDiff, Nat.reduceLT, Nat.reduceAdd, Nat.reduceMul, reduceIte]
    · rw [if_pos (nI_le (Nat.le_refl P) (by omega))]
      by_cases z : m0 = 0 ∨ exB (fun k => b.testBit k && decide (lf k = 0)) P = true
      · rw [if_pos z, if_pos z]; rfl
      · rw [if_neg z, if_neg z, if_neg (show ¬ nI 1 = 0 by decide)]
        refine loop2_run (fun i => nI i) (fun i => fun j => if 16 ≤ j ∧ j < 16 + i then s j - nI (if b.testBit (j - 16) then 1 else 0) else s j) P (fun i hi BB => ?_) (fun BB => ?_) (FU_lt (by omega)) rfl (by funext j; rw [if_neg (by omega)])
        · have hc : ¬ P ≤ i := by omega
          have e : upd (fun j => if 16 ≤ j ∧ j < 16 + i then s j - nI (if b.testBit (j - 16) then 1 else 0) else s j) (16 + i) (s (16 + i) - nI (if b.testBit i then 1 else 0)) = (fun j => if 16 ≤ j ∧ j < 16 + (i + 1) then s j - nI (if b.testBit (j - 16) then 1 else 0) else s j) := by
            funext j
            rw [upd_at]
            by_cases h : j = 16 + i
            · subst h
              rw [if_pos rfl, if_pos (⟨by omega, by omega⟩ : 16 ≤ 16 + i ∧ 16 + i < 16 + (i + 1)), show 16 + i - 16 = i by omega]
            · rw [if_neg h]
              exact ifc (by omega)
          have hat : (fun j => if 16 ≤ j ∧ j < 16 + i then s j - nI (if b.testBit (j - 16) then 1 else 0) else s j) (16 + i) = s (16 + i) := by
            dsimp only
            rw [if_neg (by omega)]
          rw [← e]
          generalize (fun j => if 16 ≤ j ∧ j < 16 + i then s j - nI (if b.testBit (j - 16) then 1 else 0) else s j) = F at *
          simp (maxSteps := 4000000) (disch := omega) only [hc, hat, bit_N hb31 (show i < 31 by omega), bd1_eq, bd2_eq, bd3_eq, bd4_eq, bd5_eq, bd6_eq, lt_eq, jn_eq, gd_in, nI_clamp, nI_eq, nI_leI, nI_ltI, nI_add, L0, L1, L2, L3, L4, L5, L6, L8, L16, L20, L21, Nat.reduceEqDiff, Nat.reduceLeDiff, Nat.reduceLT, Nat.reduceAdd, Nat.reduceMul, reduceIte]
        · rw [if_pos (nI_le (Nat.le_refl P) (by omega))]
          refine loop3_run (fun i => nI (sumS (one B t) (fun _ => 1) i)) (fun i => nI i) (fun i => fun j => if j < i ∧ one B t j = true then nI r else if 16 ≤ j ∧ j < 16 + P then s j - nI (if b.testBit (j - 16) then 1 else 0) else s j) T (fun i hi BB => ?_) (fun BB => ?_) (FU_lt (by omega)) rfl rfl (by funext j; simp)
          · have hc : ¬ T ≤ i := by omega
            have hF : ∀ o, o < 8 → (fun j => if j < i ∧ one B t j = true then nI r else if 16 ≤ j ∧ j < 16 + P then s j - nI (if b.testBit (j - 16) then 1 else 0) else s j) (8 + o) = oI (B o) := fun o ho => by
              dsimp only
              rw [if_neg (by omega), if_neg (by omega)]
              exact hs o ho
            cases q : one B t i
            · have e : (fun j => if j < i ∧ one B t j = true then nI r else if 16 ≤ j ∧ j < 16 + P then s j - nI (if b.testBit (j - 16) then 1 else 0) else s j) = (fun j => if j < i + 1 ∧ one B t j = true then nI r else if 16 ≤ j ∧ j < 16 + P then s j - nI (if b.testBit (j - 16) then 1 else 0) else s j) := by
                funext j
                by_cases h : j = i
                · subst h; simp [q]
                · simp [lt_succ_ne h]
              rw [← e]
              generalize (fun j => if j < i ∧ one B t j = true then nI r else if 16 ≤ j ∧ j < 16 + P then s j - nI (if b.testBit (j - 16) then 1 else 0) else s j) = F at *
              have ha := e_areOne (t := t) (o := i) (by omega) (by omega) hF hB
              simp (maxSteps := 4000000) (disch := omega) only [hc, ha, q, sumS, Bool.false_eq_true, Nat.add_zero, bd1_eq, bd2_eq, bd3_eq, bd4_eq, bd5_eq, bd6_eq, lt_eq, jn_eq, gd_in, nI_clamp, nI_eq, nI_leI, nI_ltI, nI_add, L0, L1, L2, L3, L4, L5, L6, L8, L16, L20, L21, Nat.reduceEqDiff, Nat.reduceLeDiff, Nat.reduceLT, Nat.reduceAdd, Nat.reduceMul, reduceIte]
            · have e : upd (fun j => if j < i ∧ one B t j = true then nI r else if 16 ≤ j ∧ j < 16 + P then s j - nI (if b.testBit (j - 16) then 1 else 0) else s j) i (nI r) = (fun j => if j < i + 1 ∧ one B t j = true then nI r else if 16 ≤ j ∧ j < 16 + P then s j - nI (if b.testBit (j - 16) then 1 else 0) else s j) := by
                funext j
                rw [upd_at]
                by_cases h : j = i
                · subst h; simp [q]
                · simp [h, lt_succ_ne h]
              rw [← e]
              generalize (fun j => if j < i ∧ one B t j = true then nI r else if 16 ≤ j ∧ j < 16 + P then s j - nI (if b.testBit (j - 16) then 1 else 0) else s j) = F at *
              have ha := e_areOne (t := t) (o := i) (by omega) (by omega) hF hB
              simp (maxSteps := 4000000) (disch := omega) only [hc, ha, q, sumS, Bool.false_eq_true, Nat.add_zero, bd1_eq, bd2_eq, bd3_eq, bd4_eq, bd5_eq, bd6_eq, lt_eq, jn_eq, gd_in, nI_clamp, nI_eq, nI_leI, nI_ltI, nI_add, L0, L1, L2, L3, L4, L5, L6, L8, L16, L20, L21, Nat.reduceEqDiff, Nat.reduceLeDiff, Nat.reduceLT, Nat.reduceAdd, Nat.reduceMul, reduceIte]
          · simp (maxSteps := 4000000) (disch := omega) only [Nat.le_refl, bd1_eq, bd2_eq, bd3_eq, bd4_eq, bd5_eq, bd6_eq, lt_eq, jn_eq, gd_in, nI_clamp, nI_eq, nI_leI, nI_ltI, nI_add, L0, L1, L2, L3, L4, L5, L6, L8, L16, L20, L21, Nat.reduceEqDiff, Nat.reduceLeDiff, Nat.reduceLT, Nat.reduceAdd, Nat.reduceMul, reduceIte]
  · intro J hJ
    rw [jn_eq]
    have h0 : J 0 = some (-2, 0, s) := by
      have := hJ 0 (by decide)
      rw [if_pos (Or.inl rfl)] at this
      exact this
    have h6 := hr6 t ht
    by_cases z : rm t = r
    · rw [if_pos (by rw [z]), if_pos (Or.inl (Or.inl z))]
      exact h0
    · have z2 : ¬ nI (rm t) = nI r := fun w => z ((nI_eq (by omega) (by omega)).mp w)
      have hha : f_X7_handsOf (nI t) (nI T) hands s = some (nI (mh B Hd T t)) := e_handsOfM (t := t) (by omega) hT hs hB hh hH
      rw [if_neg z2, e_ones hb31, bd1_eq, hha, bd1_eq]
      by_cases y : cnt8 b = mh B Hd T t
      · rw [if_pos (by rw [y])]
        have := hJ 1 (by decide)
        simp only [z, y, not_true_eq_false, or_self, false_or, show ¬ (1 : Nat) = 0 by decide] at this ⊢
        exact this
      · have y2 : ¬ nI (cnt8 b) = nI (mh B Hd T t) := fun w => y ((nI_eq (by omega) (by omega)).mp w)
        rw [if_neg y2, if_pos (Or.inl (Or.inr y))]
        exact h0
theorem p_lifted {t_length : Int32} {t_bytes : Nat → Int32} {h_rooms : Int32} {h_people : Int32} {h_things : Int32} {h_lifts : Nat → Int32} {h_prices : Nat → Int32} {h_hands : Nat → Int32} {h_wanted : Nat → Int32} {n_room : Nat → Int32} {n_bundle : Nat → Int32} {n_left : Nat → Int32} {n_day : Int32} {i_room : Nat → Int32} {i_bundle : Nat → Int32} {i_left : Nat → Int32} {i_day : Int32} {i_kept : Int32} {j_room : Nat → Int32} {j_bundle : Nat → Int32} {j_left : Nat → Int32} {j_day : Int32} {j_kept : Int32} {f_traced : Int64} {m_typed : Int32} {m_text : Nat → Int32} {m_rooms : Int32} {m_people : Int32} {m_things : Int32} {m_lifts : Nat → Int32} {m_price : Nat → Int32} {m_hands : Nat → Int32} {m_wanted : Nat → Int32} {m_s : Nat → Int32} {m_kept : Nat → Int32} {m_isKept : Nat → Int32} {m_trace : Int64} (v0 : Int32) (v1 : Int32) (v2 : Int32) (hR : Rel t_length t_bytes h_rooms h_people h_things h_lifts h_prices h_hands h_wanted n_room n_bundle n_left n_day i_room i_bundle i_left i_day i_kept j_room j_bundle j_left j_day j_kept f_traced m_typed m_text m_rooms m_people m_things m_lifts m_price m_hands m_wanted m_s m_kept m_isKept m_trace) : ∃ (r : Int32) (c0 : Nat → Int32) (c1 : Nat → Int32) (k0 : Int32) (k1 : Nat → Int32), f_X6_lifted v0 v1 v2 h_rooms h_people h_things h_hands n_room n_bundle n_left = some (r, c0, c1) ∧ f_X7_lifted v0 v1 v2 m_rooms m_people m_things m_hands m_s = some (r, k0, k1) ∧ Rel t_length t_bytes h_rooms h_people h_things h_lifts h_prices h_hands h_wanted c0 n_bundle c1 n_day i_room i_bundle i_left i_day i_kept j_room j_bundle j_left j_day j_kept f_traced m_typed m_text m_rooms m_people m_things m_lifts m_price m_hands m_wanted k1 m_kept m_isKept m_trace := by
  obtain ⟨hT, htr, R, P, T, L, Pr, Hd, Wt, rm, B, lf, day, hOK, hC, hM, hN, hnC, hnM, hI, hJ⟩ := id hR
  obtain ⟨r2, r6, p4, t8, oL, oP, oH, oW⟩ := id hOK
  obtain ⟨cR, cP, cT, cL, cPr, cH, cW⟩ := id hC
  obtain ⟨mR, mP, mT, mL, mPr, mH, mW⟩ := id hM
  obtain ⟨nR, nB, nB2, nL, nL0, nD⟩ := id hN
  obtain ⟨xR, xB, xL, xD⟩ := id hnC
  obtain ⟨yR, yB, yL, yD⟩ := id hnM
  simp only [Nat.zero_add] at yR yB yL yD
  subst cR; subst cP; subst cT; subst mR; subst mP; subst mT; subst xD
  have W6 : ∀ t, t < T → ∀ r, Wt t = some r → r < 6 := fun t ht r h => by have := oW t ht r h; omega
  have B8 : ∀ o b, B o = some b → b < 8 := fun o b h => by have := nB2 o b h; omega
  have xr : ∀ t, t < T → n_room t = nI (rm t) := fun t ht => by rw [xR t (by omega), if_pos ht]
  have r6' : ∀ t, t < T → rm t < 6 := fun t ht => by have := nR t ht; omega
  have H3 : ∀ t, t < T → Hd t ≤ 3 := fun t ht => (oH t ht).2
  have l9 : ∀ p, p < 4 → lf p ≤ 9 := fun p hp => by
    by_cases h : p < P
    · have := nL p h; have := (oL p h).2; omega
    · rw [nL0 p (by omega)]; omega
  have hbar := e_barred t8 xB B8 nB cW W6
  have hbarM := e_barredM t8 yB B8 mW W6
  have hbar31 : bitsOf (bar B Wt T) T < 2 ^ 31 := by
    have h1 := bitsOf_lt (bar B Wt T) T
    have h2 : 2 ^ T ≤ 2 ^ 8 := Nat.pow_le_pow_right (by decide) t8
    omega
  rcases rng_cases v0 (n := 2 ^ P) (by have : 2 ^ P ≤ 2 ^ 4 := Nat.pow_le_pow_right (by decide) p4
                                       omega) with h | ⟨b, hb, rfl, h⟩
  · exact ⟨-1, n_room, n_left, 0, m_s, by simp (maxSteps := 4000000) (disch := omega) only [f_X6_lifted, e_hasAll _ (show P ≤ 8 by omega), h, bd1_eq, bd2_eq, bd3_eq, bd4_eq, bd5_eq, bd6_eq, lt_eq, jn_eq, gd_in, nI_clamp, nI_eq, nI_leI, nI_ltI, nI_add, L0, L1, L2, L3, L4, L5, L6, L8, L16, L20, L21, Nat.reduceEqDiff, Nat.reduceLeDiff, Nat.reduceLT, Nat.reduceAdd, Nat.reduceMul, reduceIte], by simp (maxSteps := 4000000) (disch := omega) only [f_X7_lifted, e_hasAllM _ (show P ≤ 8 by omega), h, bd1_eq, bd2_eq, bd3_eq, bd4_eq, bd5_eq, bd6_eq, lt_eq, jn_eq, gd_in, nI_clamp, nI_eq, nI_leI, nI_ltI, nI_add, L0, L1, L2, L3, L4, L5, L6, L8, L16, L20, L21, Nat.reduceEqDiff, Nat.reduceLeDiff, Nat.reduceLT, Nat.reduceAdd, Nat.reduceMul, reduceIte], hR⟩
  · have hpP : 2 ^ P ≤ 2 ^ 4 := Nat.pow_le_pow_right (by decide) p4
    have hb31 : b < 2 ^ 31 := by omega
    rcases rng_cases v1 (n := T) (by omega) with h1 | ⟨t, ht, rfl, h1⟩
    · exact ⟨-1, n_room, n_left, 0, m_s, by simp (maxSteps := 4000000) (disch := omega) only [f_X6_lifted, e_hasAll _ (show P ≤ 8 by omega), h, e_hasThing, h1, bd1_eq, bd2_eq, bd3_eq, bd4_eq, bd5_eq, bd6_eq, lt_eq, jn_eq, gd_in, nI_clamp, nI_eq, nI_leI, nI_ltI, nI_add, L0, L1, L2, L3, L4, L5, L6, L8, L16, L20, L21, Nat.reduceEqDiff, Nat.reduceLeDiff, Nat.reduceLT, Nat.reduceAdd, Nat.reduceMul, reduceIte], by simp (maxSteps := 4000000) (disch := omega) only [f_X7_lifted, e_hasAllM _ (show P ≤ 8 by omega), h, e_isThing, h1, bd1_eq, bd2_eq, bd3_eq, bd4_eq, bd5_eq, bd6_eq, lt_eq, jn_eq, gd_in, nI_clamp, nI_eq, nI_leI, nI_ltI, nI_add, L0, L1, L2, L3, L4, L5, L6, L8, L16, L20, L21, Nat.reduceEqDiff, Nat.reduceLeDiff, Nat.reduceLT, Nat.reduceAdd, Nat.reduceMul, reduceIte], hR⟩
    · rcases rng_cases v2 (n := R) (by omega) with h2 | ⟨r, hr, rfl, h2⟩
      · exact ⟨-1, n_room, n_left, 0, m_s, by simp (maxSteps := 4000000) (disch := omega) only [f_X6_lifted, e_hasAll _ (show P ≤ 8 by omega), h, e_hasThing, h1, e_hasRoom, h2, bd1_eq, bd2_eq, bd3_eq, bd4_eq, bd5_eq, bd6_eq, lt_eq, jn_eq, gd_in, nI_clamp, nI_eq, nI_leI, nI_ltI, nI_add, L0, L1, L2, L3, L4, L5, L6, L8, L16, L20, L21, Nat.reduceEqDiff, Nat.reduceLeDiff, Nat.reduceLT, Nat.reduceAdd, Nat.reduceMul, reduceIte], by simp (maxSteps := 4000000) (disch := omega) only [f_X7_lifted, e_hasAllM _ (show P ≤ 8 by omega), h, e_isThing, h1, e_isRoom, h2, bd1_eq, bd2_eq, bd3_eq, bd4_eq, bd5_eq, bd6_eq, lt_eq, jn_eq, gd_in, nI_clamp, nI_eq, nI_leI, nI_ltI, nI_add, L0, L1, L2, L3, L4, L5, L6, L8, L16, L20, L21, Nat.reduceEqDiff, Nat.reduceLeDiff, Nat.reduceLT, Nat.reduceAdd, Nat.reduceMul, reduceIte], hR⟩
      · have hM' := e_liftedM t8 p4 r6 hb ht hr yB B8 yR r6' yL l9 mH H3
        have hcnt := cnt_le b
        have hm3 : mh B Hd T t ≤ 3 := maxS_le H3
        have h6 := r6' t ht
        have hbe : exB (fun k => b.testBit k && decide (lf k = 0)) 4 = exB (fun k => b.testBit k && decide (lf k = 0)) P := exB_tail p4 (fun i h1 h2 => by rw [bit_out hb h1]; rfl)
        by_cases z : (rm t = r ∨ ¬ cnt8 b = mh B Hd T t) ∨ exB (fun k => b.testBit k && decide (lf k = 0)) P = true
        · rw [if_pos z] at hM'
          refine ⟨-2, n_room, n_left, 0, m_s, ?_, hM', hR⟩
          by_cases z1 : rm t = r
          · simp (maxSteps := 4000000) (disch := omega) only [f_X6_lifted, e_hasAll _ (show P ≤ 8 by omega), h, e_hasThing, h1, e_hasRoom, h2, e_jobOf (show t < 8 by omega) xB B8, xr t ht, z1, bd1_eq, bd2_eq, bd3_eq, bd4_eq, bd5_eq, bd6_eq, lt_eq, jn_eq, gd_in, nI_clamp, nI_eq, nI_leI, nI_ltI, nI_add, L0, L1, L2, L3, L4, L5, L6, L8, L16, L20, L21, Nat.reduceEqDiff, Nat.reduceLeDiff, Nat.reduceLT, Nat.reduceAdd, Nat.reduceMul, reduceIte]
          · by_cases z2 : cnt8 b = mh B Hd T t
            · have z3 : exB (fun k => b.testBit k && decide (lf k = 0)) P = true := by
                rcases z with (z | z) | z
                · exact absurd z z1
                · exact absurd z2 z
                · exact z
              simp (maxSteps := 4000000) (disch := omega) only [f_X6_lifted, e_hasAll _ (show P ≤ 8 by omega), h, e_hasThing, h1, e_hasRoom, h2, e_jobOf (show t < 8 by omega) xB B8, xr t ht, z1, e_bitCount b (show b < 256 by omega), e_handsJ (B := B) (t := t) t8 cH H3, z2, e_allHaveLeft (show b < 16 by omega) xL l9, hbe, z3, bd1_eq, bd2_eq, bd3_eq, bd4_eq, bd5_eq, bd6_eq, lt_eq, jn_eq, gd_in, nI_clamp, nI_eq, nI_leI, nI_ltI, nI_add, L0, L1, L2, L3, L4, L5, L6, L8, L16, L20, L21, Nat.reduceEqDiff, Nat.reduceLeDiff, Nat.reduceLT, Nat.reduceAdd, Nat.reduceMul, reduceIte]
            · simp (maxSteps := 4000000) (disch := omega) only [f_X6_lifted, e_hasAll _ (show P ≤ 8 by omega), h, e_hasThing, h1, e_hasRoom, h2, e_jobOf (show t < 8 by omega) xB B8, xr t ht, z1, e_bitCount b (show b < 256 by omega), e_handsJ (B := B) (t := t) t8 cH H3, z2, bd1_eq, bd2_eq, bd3_eq, bd4_eq, bd5_eq, bd6_eq, lt_eq, jn_eq, gd_in, nI_clamp, nI_eq, nI_leI, nI_ltI, nI_add, L0, L1, L2, L3, L4, L5, L6, L8, L16, L20, L21, Nat.reduceEqDiff, Nat.reduceLeDiff, Nat.reduceLT, Nat.reduceAdd, Nat.reduceMul, reduceIte]
        · have z1 : ¬ rm t = r := fun w => z (Or.inl (Or.inl w))
          have z2 : cnt8 b = mh B Hd T t := Classical.byContradiction (fun w => z (Or.inl (Or.inr w)))
          have z3 : exB (fun k => b.testBit k && decide (lf k = 0)) P = false := by
            cases q : exB (fun k => b.testBit k && decide (lf k = 0)) P
            · rfl
            · exact absurd (Or.inr q) z
          rw [if_neg z] at hM'
          refine ⟨_, fun k => if k < 8 ∧ (bitsOf (one B t) 8).testBit k = true then nI r else n_room k, fun k => if k < 4 ∧ b.testBit k = true then n_left k - nI 1 else n_left k, 0, _, ?_, hM', ?_⟩
          · simp (maxSteps := 4000000) (disch := omega) only [f_X6_lifted, e_hasAll _ (show P ≤ 8 by omega), h, e_hasThing, h1, e_hasRoom, h2, e_jobOf (show t < 8 by omega) xB B8, xr t ht, z1, e_bitCount b (show b < 256 by omega), e_handsJ (B := B) (t := t) t8 cH H3, z2, e_allHaveLeft (show b < 16 by omega) xL l9, hbe, z3, Bool.false_eq_true, e_spend hb31, e_carry (job_lt B t), e_bitCount _ (bitsOf_lt (one B t) 8), cnt_job t8 ht nB, bd1_eq, bd2_eq, bd3_eq, bd4_eq, bd5_eq, bd6_eq, lt_eq, jn_eq, gd_in, nI_clamp, nI_eq, nI_leI, nI_ltI, nI_add, L0, L1, L2, L3, L4, L5, L6, L8, L16, L20, L21, Nat.reduceEqDiff, Nat.reduceLeDiff, Nat.reduceLT, Nat.reduceAdd, Nat.reduceMul, reduceIte]
          · have hlf : ∀ k, b.testBit k = true → k < P → 1 ≤ lf k := fun k h1 h2 => by
              rcases Nat.eq_zero_or_pos (lf k) with q | q
              · have : exB (fun k => b.testBit k && decide (lf k = 0)) P = true := exB_iff.mpr ⟨k, h2, by simp [h1, q]⟩
                rw [z3] at this; cases this
              · exact q
            refine ⟨hT, htr, R, P, T, L, Pr, Hd, Wt, fun k => if one B t k = true then r else rm k, B, fun k => if b.testBit k then lf k - 1 else lf k, day, hOK, hC, hM, ?_, ?_, ?_, hI, hJ⟩
            · refine ⟨fun k hk => ?_, nB, nB2, fun k hk => ?_, fun k hk => ?_, nD⟩
              · dsimp only
                split
                · exact hr
                · exact nR k hk
              · dsimp only
                have := nL k hk
                split <;> omega
              · dsimp only
                rw [nL0 k hk]
                split <;> rfl
            · refine ⟨fun k hk => ?_, xB, fun k hk => ?_, rfl⟩
              · dsimp only
                rw [job_bit hk]
                cases q : one B t k
                · simp; exact xR k hk
                · have := one_lt nB ht q
                  simp [hk, this]
              · dsimp only
                cases q : b.testBit k
                · simp; exact xL k hk
                · have hkP : k < P := by
                    rcases Nat.lt_or_ge k P with w | w
                    · exact w
                    · rw [bit_out hb w] at q; cases q
                  have h1 := hlf k q hkP
                  rw [if_pos ⟨hk, rfl⟩, xL k hk, if_pos rfl]
                  exact pk_sub h1
            · refine ⟨fun k hk => ?_, fun k hk => ?_, fun k hk => ?_, ?_⟩
              · rw [Nat.zero_add]; dsimp only
                cases q : one B t k
                · rw [if_neg (by simp), if_neg (by omega), if_neg (by simp)]; exact yR k hk
                · rw [if_pos ⟨hk, rfl⟩, if_pos rfl]
              · rw [Nat.zero_add]; dsimp only; rw [if_neg (by omega), if_neg (by omega)]; exact yB k hk
              · rw [Nat.zero_add]; dsimp only; rw [if_neg (by omega), show 16 + k - 16 = k by omega, yL k hk]
                by_cases hkP : k < P
                · rw [if_pos (by omega)]
                  cases q : b.testBit k
                  · simp; exact Int32.sub_zero _
                  · have h1 := hlf k q hkP
                    rw [if_pos rfl, if_pos rfl]
                    exact pk_sub h1
                · rw [if_neg (by omega), bit_out hb (by omega)]
                  rfl
              · rw [Nat.zero_add]; dsimp only; rw [if_neg (by omega), if_neg (by omega)]; exact yD
theorem p_tied {t_length : Int32} {t_bytes : Nat → Int32} {h_rooms : Int32} {h_people : Int32} {h_things : Int32} {h_lifts : Nat → Int32} {h_prices : Nat → Int32} {h_hands : Nat → Int32} {h_wanted : Nat → Int32} {n_room : Nat → Int32} {n_bundle : Nat → Int32} {n_left : Nat → Int32} {n_day : Int32} {i_room : Nat → Int32} {i_bundle : Nat → Int32} {i_left : Nat → Int32} {i_day : Int32} {i_kept : Int32} {j_room : Nat → Int32} {j_bundle : Nat → Int32} {j_left : Nat → Int32} {j_day : Int32} {j_kept : Int32} {f_traced : Int64} {m_typed : Int32} {m_text : Nat → Int32} {m_rooms : Int32} {m_people : Int32} {m_things : Int32} {m_lifts : Nat → Int32} {m_price : Nat → Int32} {m_hands : Nat → Int32} {m_wanted : Nat → Int32} {m_s : Nat → Int32} {m_kept : Nat → Int32} {m_isKept : Nat → Int32} {m_trace : Int64} (v0 : Int32) (v1 : Int32) (hR : Rel t_length t_bytes h_rooms h_people h_things h_lifts h_prices h_hands h_wanted n_room n_bundle n_left n_day i_room i_bundle i_left i_day i_kept j_room j_bundle j_left j_day j_kept f_traced m_typed m_text m_rooms m_people m_things m_lifts m_price m_hands m_wanted m_s m_kept m_isKept m_trace) : ∃ (r : Int32) (c0 : Nat → Int32) (c1 : Nat → Int32) (k0 : Int32) (k1 : Nat → Int32), f_X6_tied v0 v1 h_people h_things n_room n_bundle n_left = some (r, c0, c1) ∧ f_X7_tied v0 v1 m_people m_things m_s = some (r, k0, k1) ∧ Rel t_length t_bytes h_rooms h_people h_things h_lifts h_prices h_hands h_wanted n_room c0 c1 n_day i_room i_bundle i_left i_day i_kept j_room j_bundle j_left j_day j_kept f_traced m_typed m_text m_rooms m_people m_things m_lifts m_price m_hands m_wanted k1 m_kept m_isKept m_trace := by
  obtain ⟨hT, htr, R, P, T, L, Pr, Hd, Wt, rm, B, lf, day, hOK, hC, hM, hN, hnC, hnM, hI, hJ⟩ := id hR
  obtain ⟨r2, r6, p4, t8, oL, oP, oH, oW⟩ := id hOK
  obtain ⟨cR, cP, cT, cL, cPr, cH, cW⟩ := id hC
  obtain ⟨mR, mP, mT, mL, mPr, mH, mW⟩ := id hM
  obtain ⟨nR, nB, nB2, nL, nL0, nD⟩ := id hN
  obtain ⟨xR, xB, xL, xD⟩ := id hnC
  obtain ⟨yR, yB, yL, yD⟩ := id hnM
  simp only [Nat.zero_add] at yR yB yL yD
  subst cR; subst cP; subst cT; subst mR; subst mP; subst mT; subst xD
  have W6 : ∀ t, t < T → ∀ r, Wt t = some r → r < 6 := fun t ht r h => by have := oW t ht r h; omega
  have B8 : ∀ o b, B o = some b → b < 8 := fun o b h => by have := nB2 o b h; omega
  have xr : ∀ t, t < T → n_room t = nI (rm t) := fun t ht => by rw [xR t (by omega), if_pos ht]
  have r6' : ∀ t, t < T → rm t < 6 := fun t ht => by have := nR t ht; omega
  have H3 : ∀ t, t < T → Hd t ≤ 3 := fun t ht => (oH t ht).2
  have l9 : ∀ p, p < 4 → lf p ≤ 9 := fun p hp => by
    by_cases h : p < P
    · have := nL p h; have := (oL p h).2; omega
    · rw [nL0 p (by omega)]; omega
  have hbar := e_barred t8 xB B8 nB cW W6
  have hbarM := e_barredM t8 yB B8 mW W6
  have hbar31 : bitsOf (bar B Wt T) T < 2 ^ 31 := by
    have h1 := bitsOf_lt (bar B Wt T) T
    have h2 : 2 ^ T ≤ 2 ^ 8 := Nat.pow_le_pow_right (by decide) t8
    omega
  have hpT : 2 ^ T ≤ 2 ^ 8 := Nat.pow_le_pow_right (by decide) t8
  rcases rng_cases v0 (n := P) (by omega) with h | ⟨p, hp, rfl, h⟩
  · exact ⟨-1, n_bundle, n_left, 0, m_s, by simp (maxSteps := 4000000) (disch := omega) only [f_X6_tied, e_hasPerson, h, bd1_eq, bd2_eq, bd3_eq, bd4_eq, bd5_eq, bd6_eq, lt_eq, jn_eq, gd_in, nI_clamp, nI_eq, nI_leI, nI_ltI, nI_add, L0, L1, L2, L3, L4, L5, L6, L8, L16, L20, L21, Nat.reduceEqDiff, Nat.reduceLeDiff, Nat.reduceLT, Nat.reduceAdd, Nat.reduceMul, reduceIte], by simp (maxSteps := 4000000) (disch := omega) only [f_X7_tied, e_isPerson, h, bd1_eq, bd2_eq, bd3_eq, bd4_eq, bd5_eq, bd6_eq, lt_eq, jn_eq, gd_in, nI_clamp, nI_eq, nI_leI, nI_ltI, nI_add, L0, L1, L2, L3, L4, L5, L6, L8, L16, L20, L21, Nat.reduceEqDiff, Nat.reduceLeDiff, Nat.reduceLT, Nat.reduceAdd, Nat.reduceMul, reduceIte], hR⟩
  · rcases rng_cases v1 (n := 2 ^ T) (by omega) with h1 | ⟨b, hb, rfl, h1⟩
    · exact ⟨-1, n_bundle, n_left, 0, m_s, by simp (maxSteps := 4000000) (disch := omega) only [f_X6_tied, e_hasPerson, h, e_hasAllT _ t8, h1, bd1_eq, bd2_eq, bd3_eq, bd4_eq, bd5_eq, bd6_eq, lt_eq, jn_eq, gd_in, nI_clamp, nI_eq, nI_leI, nI_ltI, nI_add, L0, L1, L2, L3, L4, L5, L6, L8, L16, L20, L21, Nat.reduceEqDiff, Nat.reduceLeDiff, Nat.reduceLT, Nat.reduceAdd, Nat.reduceMul, reduceIte], by simp (maxSteps := 4000000) (disch := omega) only [f_X7_tied, e_isPerson, h, e_hasAllM _ t8, h1, bd1_eq, bd2_eq, bd3_eq, bd4_eq, bd5_eq, bd6_eq, lt_eq, jn_eq, gd_in, nI_clamp, nI_eq, nI_leI, nI_ltI, nI_add, L0, L1, L2, L3, L4, L5, L6, L8, L16, L20, L21, Nat.reduceEqDiff, Nat.reduceLeDiff, Nat.reduceLT, Nat.reduceAdd, Nat.reduceMul, reduceIte], hR⟩
    · have hb31 : b < 2 ^ 31 := by omega
      have hcnt := cnt_le b
      by_cases h2 : 2 ≤ cnt8 b
      · have hM' := e_tiedM t8 p4 hp hb h2 yB B8 yR r6' yL l9
        have hlp := l9 p (by omega)
        have hf8 := two_bits b (by omega) h2
        have hfy : b.testBit (fstI (fun j => b.testBit j) 8) = true := fst_yes (fun j => b.testBit j) 8 hf8
        have hfT : fstI (fun j => b.testBit j) 8 < T := by
          rcases Nat.lt_or_ge (fstI (fun j => b.testBit j) 8) T with z | z
          · exact z
          · rw [bit_out hb z] at hfy; cases hfy
        have hbe : exB (badT b B rm) 8 = exB (badT b B rm) T := exB_tail t8 (fun i h1 h2 => by unfold badT; rw [bit_out hb h1]; rfl)
        by_cases z : lf p = 0 ∨ exB (badT b B rm) T = true
        · rw [if_pos z] at hM'
          refine ⟨-2, n_bundle, n_left, 0, m_s, ?_, hM', hR⟩
          by_cases z1 : lf p = 0
          · have z2 : lf p < 1 := by omega
            simp (maxSteps := 4000000) (disch := omega) only [f_X6_tied, e_hasPerson, h, e_hasAllT _ t8, h1, e_bitCount b (show b < 256 by omega), h2, xL p (by omega), z2, bd1_eq, bd2_eq, bd3_eq, bd4_eq, bd5_eq, bd6_eq, lt_eq, jn_eq, gd_in, nI_clamp, nI_eq, nI_leI, nI_ltI, nI_add, L0, L1, L2, L3, L4, L5, L6, L8, L16, L20, L21, Nat.reduceEqDiff, Nat.reduceLeDiff, Nat.reduceLT, Nat.reduceAdd, Nat.reduceMul, reduceIte]
          · have z2 : ¬ lf p < 1 := by omega
            have z3 : exB (badT b B rm) T = true := z.resolve_left z1
            simp (maxSteps := 4000000) (disch := omega) only [f_X6_tied, e_hasPerson, h, e_hasAllT _ t8, h1, e_bitCount b (show b < 256 by omega), h2, xL p (by omega), z2, e_canBeTied t8 hb xB B8 xr r6', hbe, z3, bd1_eq, bd2_eq, bd3_eq, bd4_eq, bd5_eq, bd6_eq, lt_eq, jn_eq, gd_in, nI_clamp, nI_eq, nI_leI, nI_ltI, nI_add, L0, L1, L2, L3, L4, L5, L6, L8, L16, L20, L21, Nat.reduceEqDiff, Nat.reduceLeDiff, Nat.reduceLT, Nat.reduceAdd, Nat.reduceMul, reduceIte]
        · have z1 : ¬ lf p = 0 := fun w => z (Or.inl w)
          have z2 : ¬ lf p < 1 := by omega
          have z3 : exB (badT b B rm) T = false := by
            cases q : exB (badT b B rm) T
            · rfl
            · exact absurd (Or.inr q) z
          rw [if_neg z] at hM'
          have e1 : (nI (lf p) - nI 1) = nI (lf p - 1) := pk_sub (by omega)
          refine ⟨_, fun k => if k < 8 ∧ b.testBit k = true then nI (fstI (fun j => b.testBit j) 8) else n_bundle k, fun k => if k < 4 ∧ (2 ^ p).testBit k = true then n_left k - nI 1 else n_left k, 0, _, ?_, hM', ?_⟩
          · simp (maxSteps := 4000000) (disch := omega) only [f_X6_tied, e_hasPerson, h, e_hasAllT _ t8, h1, e_bitCount b (show b < 256 by omega), h2, xL p (by omega), z2, e_canBeTied t8 hb xB B8 xr r6', hbe, z3, Bool.false_eq_true, shl_N (show p < 31 by omega), e_spend (show 2 ^ p < 2 ^ 31 from Nat.pow_lt_pow_right (by decide) (by omega)), e_least hb31 hf8, e_setBundle hb31, bd1_eq, bd2_eq, bd3_eq, bd4_eq, bd5_eq, bd6_eq, lt_eq, jn_eq, gd_in, nI_clamp, nI_eq, nI_leI, nI_ltI, nI_add, L0, L1, L2, L3, L4, L5, L6, L8, L16, L20, L21, Nat.reduceEqDiff, Nat.reduceLeDiff, Nat.reduceLT, Nat.reduceAdd, Nat.reduceMul, reduceIte]
          · refine ⟨hT, htr, R, P, T, L, Pr, Hd, Wt, rm, fun k => if b.testBit k = true then some (fstI (fun j => b.testBit j) 8) else B k, fun k => if k = p then lf p - 1 else lf k, day, hOK, hC, hM, ?_, ?_, ?_, hI, hJ⟩
            · refine ⟨nR, fun k hk => ?_, fun k y hk => ?_, fun k hk => ?_, fun k hk => ?_, nD⟩
              · dsimp only
                rw [bit_out hb hk]; exact nB k hk
              · dsimp only at hk
                split at hk
                · cases hk; exact hfT
                · exact nB2 k y hk
              · dsimp only
                have := nL k hk
                split
                · rename_i w; subst w; omega
                · exact this
              · dsimp only
                rw [if_neg (by omega)]; exact nL0 k hk
            · refine ⟨xR, fun k hk => ?_, fun k hk => ?_, rfl⟩
              · dsimp only
                cases q : b.testBit k
                · simp; exact xB k hk
                · simp [hk, oI]
              · dsimp only
                rw [Nat.testBit_two_pow, xL k hk]
                by_cases w : k = p
                · subst w; simp [hk, e1]
                · rw [if_neg w, if_neg (by simp; omega)]
            · refine ⟨fun k hk => ?_, fun k hk => ?_, fun k hk => ?_, ?_⟩
              · rw [Nat.zero_add]; dsimp only; rw [if_neg (by omega), if_neg (by omega)]; exact yR k hk
              · rw [Nat.zero_add]; dsimp only; rw [show 8 + k - 8 = k by omega]
                by_cases hkT : k < T
                · rw [if_pos (by omega)]
                  cases q : b.testBit k
                  · simp; exact yB k hk
                  · simp [oI]
                · rw [if_neg (by omega), if_neg (by omega), bit_out hb (by omega)]
                  simp; exact yB k hk
              · rw [Nat.zero_add]; dsimp only; rw [if_neg (by omega)]
                by_cases w : k = p
                · subst w; rw [if_pos rfl, if_pos rfl]; exact e1
                · rw [if_neg (by omega), if_neg w]; exact yL k hk
              · rw [Nat.zero_add]; dsimp only; rw [if_neg (by omega), if_neg (by omega)]; exact yD
      · exact ⟨-1, n_bundle, n_left, 0, m_s, by simp (maxSteps := 4000000) (disch := omega) only [f_X6_tied, e_hasPerson, h, e_hasAllT _ t8, h1, e_bitCount b (show b < 256 by omega), h2, bd1_eq, bd2_eq, bd3_eq, bd4_eq, bd5_eq, bd6_eq, lt_eq, jn_eq, gd_in, nI_clamp, nI_eq, nI_leI, nI_ltI, nI_add, L0, L1, L2, L3, L4, L5, L6, L8, L16, L20, L21, Nat.reduceEqDiff, Nat.reduceLeDiff, Nat.reduceLT, Nat.reduceAdd, Nat.reduceMul, reduceIte], by simp (maxSteps := 4000000) (disch := omega) only [f_X7_tied, e_isPerson, h, e_hasAllM _ t8, h1, e_ones hb31, h2, bd1_eq, bd2_eq, bd3_eq, bd4_eq, bd5_eq, bd6_eq, lt_eq, jn_eq, gd_in, nI_clamp, nI_eq, nI_leI, nI_ltI, nI_add, L0, L1, L2, L3, L4, L5, L6, L8, L16, L20, L21, Nat.reduceEqDiff, Nat.reduceLeDiff, Nat.reduceLT, Nat.reduceAdd, Nat.reduceMul, reduceIte], hR⟩
