
/-! PURE PART: the class asks the cheapest first -/
theorem e_greedy {P : Nat} (hP : P ≤ 4) {D : List Nat} (h3 : ∀ h ∈ D, h ≤ 3) (hlen : D.length ≤ 8) {shared left prices : Nat → Int32} {lf Pr : Nat → Nat} (hl : ∀ p, p < 4 → left p = nI (lf p)) (h9 : ∀ p, p < 4 → lf p ≤ 9) (hs : ∀ k, k < 5 → shared k = nI (gs D k)) (hpr : ∀ p, p < P → prices p = nI (Pr p)) (hp9 : ∀ p, p < P → Pr p ≤ 9) : loop4 (fun B27 (x17 : Int32) (x18 : Int32) (x19 : Int32) (x20 : Int32) => (if (9 : Int32) < x20 then some (x19, shared) else loop4 (fun B37 (x24 : Int32) (x25 : Int32) (x26 : Int32) (x27 : Int32) => (if nI P ≤ x27 then B27 x24 x25 x26 (x20 + (1 : Int32)) else gd (inb x27 4) ((if (prices x27.toNatClampNeg) = x20 then bd1 (f_X5_mostLiftings (x24 ||| ((1 : Int32) <<< (x27 &&& 31))) shared left) (fun r29 => B37 (x24 ||| ((1 : Int32) <<< (x27 &&& 31))) r29 (x26 + (x20 * (r29 - x25))) (x27 + (1 : Int32))) else B37 x24 x25 x26 (x27 + (1 : Int32)))))) FU x17 x18 x19 (0 : Int32))) FU (0 : Int32) (0 : Int32) (0 : Int32) (0 : Int32) = some (nI (kO D lf Pr P 10), shared) := by
  refine loop4_run (fun c => nI (aC Pr P c 0)) (fun c => nI (mlv D lf (aC Pr P c 0))) (fun c => nI (kO D lf Pr P c)) (fun c => nI c) 10 (fun c hc BB => ?_) (fun BB => ?_) (FU_lt (by decide)) (by rw [aC_0]; rfl) (by rw [aC_0, mlv_0]; rfl) rfl rfl
  · rw [if_neg (show ¬ (9 : Int32) < nI c from nI_nlt (a := 9) (b := c) (by omega) (by decide))]
    refine loop4_run (fun i => nI (aC Pr P c i)) (fun i => nI (mlv D lf (aC Pr P c i))) (fun i => nI (kI D lf Pr P c (kO D lf Pr P c) i)) (fun i => nI i) P (fun i hi BC => ?_) (fun BC => ?_) (FU_lt (by omega)) rfl rfl rfl rfl
    · have hp := hp9 i hi
      rw [if_neg (nI_ge hi (by omega)), gd_in (by omega) (by decide), nI_clamp (by omega), hpr i hi, nI_1]
      by_cases q : Pr i = c
      · have ha := aC_lt (Pr := Pr) hP c i
        have ha2 := aC_lt (Pr := Pr) hP c (i + 1)
        have ea : nI (aC Pr P c i) ||| ((1 : Int32) <<< (nI i &&& 31)) = nI (aC Pr P c (i + 1)) := by rw [shl_1 (by omega), fa_or, aC_yes hi q]
        have hm : mlv D lf (aC Pr P c i) ≤ mlv D lf (aC Pr P c (i + 1)) := mlv_mono ha ha2 (bit_sub (fun p z => by rw [aC_yes hi q, Nat.testBit_or, z]; rfl))
        rw [if_pos (by rw [q]), ea, e_mostLiftings ha2 h3 hlen hl h9 hs, bd1_eq, nI_sub hm, nI_mul, nI_add, kI, if_pos q]
      · rw [if_neg (fun z => q ((nI_eq (by omega) (by omega)).mp z)), aC_no q, kI, if_neg q]
        rfl
    · rw [if_pos (nI_le (Nat.le_refl P) (by omega)), aC_end, nI_1]
      rfl
  · rw [if_pos (show (9 : Int32) < nI 10 by decide)]
theorem p_cheap {t_length : Int32} {t_bytes : Nat → Int32} {h_rooms : Int32} {h_people : Int32} {h_things : Int32} {h_lifts : Nat → Int32} {h_prices : Nat → Int32} {h_hands : Nat → Int32} {h_wanted : Nat → Int32} {n_room : Nat → Int32} {n_bundle : Nat → Int32} {n_left : Nat → Int32} {n_day : Int32} {i_room : Nat → Int32} {i_bundle : Nat → Int32} {i_left : Nat → Int32} {i_day : Int32} {i_kept : Int32} {j_room : Nat → Int32} {j_bundle : Nat → Int32} {j_left : Nat → Int32} {j_day : Int32} {j_kept : Int32} {f_traced : Int64} {m_typed : Int32} {m_text : Nat → Int32} {m_rooms : Int32} {m_people : Int32} {m_things : Int32} {m_lifts : Nat → Int32} {m_price : Nat → Int32} {m_hands : Nat → Int32} {m_wanted : Nat → Int32} {m_s : Nat → Int32} {m_kept : Nat → Int32} {m_isKept : Nat → Int32} {m_trace : Int64} (w_shared : Nat → Int32) (m_dueMany : Int32) (m_due : Nat → Int32) (m_cost : Nat → Int32) (m_then : Nat → Int32) (hR : Rel t_length t_bytes h_rooms h_people h_things h_lifts h_prices h_hands h_wanted n_room n_bundle n_left n_day i_room i_bundle i_left i_day i_kept j_room j_bundle j_left j_day j_kept f_traced m_typed m_text m_rooms m_people m_things m_lifts m_price m_hands m_wanted m_s m_kept m_isKept m_trace) : ∃ (r : Int32) (c0 : Nat → Int32) (k0 : Int32) (k1 : Int32) (k2 : Nat → Int32) (k3 : Nat → Int32) (k4 : Nat → Int32), f_X6_cheap h_people h_things h_prices h_hands h_wanted n_room n_bundle n_left w_shared = some (r, c0) ∧ f_X7_cheap m_people m_things m_dueMany m_price m_hands m_wanted m_s m_due m_cost m_then = some (r, k0, k1, k2, k3, k4) ∧ Rel t_length t_bytes h_rooms h_people h_things h_lifts h_prices h_hands h_wanted n_room n_bundle n_left n_day i_room i_bundle i_left i_day i_kept j_room j_bundle j_left j_day j_kept f_traced m_typed m_text m_rooms m_people m_things m_lifts m_price m_hands m_wanted m_s m_kept m_isKept m_trace := by
  obtain ⟨hT, htr, R, P, T, L, Pr, Hd, Wt, rm, B, lf, day, hOK, hC, hM, hN, hnC, hnM, hI, hJ⟩ := id hR
  obtain ⟨r2, r6, p4, t8, oL, oP, oH, oW⟩ := id hOK
  obtain ⟨cR, cP, cT, cL, cPr, cH, cW⟩ := id hC
  obtain ⟨mR, mP, mT, mL, mPr, mH, mW⟩ := id hM
  obtain ⟨nR, nB, nB2, nL, nL0, nD⟩ := id hN
  obtain ⟨xR, xB, xL, xD⟩ := id hnC
  obtain ⟨yR, yB, yL, yD⟩ := id hnM
  simp only [Nat.zero_add] at yR yB yL yD
  subst cR; subst cP; subst cT; subst mR; subst mP; subst mT; subst xD
  have W6 : ∀ t, t < T → ∀ r, Wt t = some r → r < 6 := fun t ht r h => by have := oW t ht r h; omega
  have B8 : ∀ o b, B o = some b → b < 8 := fun o b h => by have := nB2 o b h; omega
  have xr : ∀ t, t < T → n_room t = nI (rm t) := fun t ht => by rw [xR t (by omega), if_pos ht]
  have r6' : ∀ t, t < T → rm t < 6 := fun t ht => by have := nR t ht; omega
  have H3 : ∀ t, t < T → Hd t ≤ 3 := fun t ht => (oH t ht).2
  have l9 : ∀ p, p < 4 → lf p ≤ 9 := fun p hp => by
    by_cases h : p < P
    · have := nL p h; have := (oL p h).2; omega
    · rw [nL0 p (by omega)]; omega
  have hbar := e_barred t8 xB B8 nB cW W6
  have hbarM := e_barredM t8 yB B8 mW W6
  have hbar31 : bitsOf (bar B Wt T) T < 2 ^ 31 := by
    have h1 := bitsOf_lt (bar B Wt T) T
    have h2 : 2 ^ T ≤ 2 ^ 8 := Nat.pow_le_pow_right (by decide) t8
    omega
  by_cases hz : bitsOf (bar B Wt T) T = 0
  · have hpP : 2 ^ P ≤ 2 ^ 4 := Nat.pow_le_pow_right (by decide) p4
    have hp1 : 0 < 2 ^ P := Nat.pow_pos (by decide)
    have hev := every_C P (by omega)
    have hevM := every_M P (by omega)
    have hf := e_fillShared t8 xB B8 cW W6 xr r6' cH H3 w_shared
    have hD3 := dueL_3 (Wt := Wt) (B := B) (rm := rm) H3
    have hD8 := Nat.le_trans (dueL_len (Wt := Wt) (B := B) (rm := rm) (Hd := Hd) (T := T)) t8
    have hg := e_gathersDue t8 yB B8 mW W6 yR r6' mH H3 m_due
    have hcd := e_canDoAll (b := 2 ^ P - 1) (by omega) hD3 hD8 xL l9 (shared := fun k => if k < 5 then nI (gs (dueL Wt B rm Hd T) k) else w_shared k) (fun k hk => if_pos hk)
    have hgr := e_greedy p4 hD3 hD8 xL l9 (shared := fun k => if k < 5 then nI (gs (dueL Wt B rm Hd T) k) else w_shared k) (fun k hk => if_pos hk) cPr oP
    have hch := e_cheapestBy (D := dueL Wt B rm Hd T) (lf := lf) (Pr := Pr) p4 hg (fun k hk => if_pos hk) hD8 hD3 mPr oP yL l9 m_cost m_then
    have hmin := cheap_min (D := dueL Wt B rm Hd T) (Pr := Pr) p4 l9 nL0 hD3 oP
    rw [hmin] at hch
    have hB : f_X7_cheap (nI P) (nI T) m_dueMany m_price m_hands m_wanted m_s m_due m_cost m_then = some (oI (if mlv (dueL Wt B rm Hd T) lf (2 ^ P - 1) = (dueL Wt B rm Hd T).sum then some (kO (dueL Wt B rm Hd T) lf Pr P 10) else none), 0, nI (dueL Wt B rm Hd T).length, (fun k => if k < (dueL Wt B rm Hd T).length then nI ((dueL Wt B rm Hd T).getD k 0) else m_due k), cA (RK (dueL Wt B rm Hd T) lf P (dueL Wt B rm Hd T).length) Pr P m_cost, thn (dueL Wt B rm Hd T) lf Pr P m_then (dueL Wt B rm Hd T).length) := by
      unfold f_X7_cheap
      rw [hbarM, bd1_eq, hz, if_pos (show nI 0 = 0 from rfl), hevM, bd1_eq, hch, bd5_eq]
      rfl
    have hA : f_X6_cheap (nI P) (nI T) h_prices h_hands h_wanted n_room n_bundle n_left w_shared = some (oI (if mlv (dueL Wt B rm Hd T) lf (2 ^ P - 1) = (dueL Wt B rm Hd T).sum then some (kO (dueL Wt B rm Hd T) lf Pr P 10) else none), fun k => if k < 5 then nI (gs (dueL Wt B rm Hd T) k) else w_shared k) := by
      unfold f_X6_cheap f_X5_isBarred f_X5_leastCost
      rw [hbar, bd1_eq, hz, if_pos (show nI 0 = 0 from rfl), bd1_eq, if_pos (show (0 : Int32) = 0 from rfl), hf, bd1_eq, hev, bd1_eq, hcd, bd1_eq]
      by_cases q : mlv (dueL Wt B rm Hd T) lf (2 ^ P - 1) = (dueL Wt B rm Hd T).sum
      · rw [if_pos q, if_pos q, if_neg (show ¬ nI 1 = 0 by decide), hgr]
        rfl
      · rw [if_neg q, if_neg q, if_pos (show nI 0 = 0 from rfl)]
        rfl
    exact ⟨_, _, 0, _, _, _, _, hA, hB, hR⟩
  · have hz2 : ¬ nI (bitsOf (bar B Wt T) T) = 0 := fun z => hz ((nI_eq (a := bitsOf (bar B Wt T) T) (b := 0) hbar31 (by decide)).mp z)
    refine ⟨-9, w_shared, 0, m_dueMany, m_due, m_cost, m_then, ?_, ?_, hR⟩
    · unfold f_X6_cheap f_X5_isBarred
      rw [hbar, bd1_eq, if_neg hz2, bd1_eq, if_neg n01]
    · unfold f_X7_cheap
      rw [hbarM, bd1_eq, if_neg hz2]
