theorem lo_M (w : Int64) : (w &&& 255).toInt32 = nI (w.toBitVec.toNat % 256) := by
  apply Int32.toBitVec_inj.1
  show (w.toBitVec &&& 255#64).signExtend 32 = BitVec.ofNat 32 (w.toBitVec.toNat % 256)
  apply BitVec.eq_of_getLsbD_eq
  intro i hi
  rw [BitVec.getLsbD_signExtend, BitVec.getLsbD_ofNat, show (256 : Nat) = 2 ^ 8 from rfl, Nat.testBit_mod_two_pow, BitVec.getLsbD_and]
  have h2 : i < 64 := by omega
  have h255 : (255#64 : BitVec 64).getLsbD i = decide (i < 8) := by
    rw [BitVec.getLsbD_ofNat, show 255 = 2 ^ 8 - 1 from rfl, Nat.testBit_two_pow_sub_one]
    simp [h2]
  rw [h255]
  simp [hi, h2, BitVec.getLsbD, Bool.and_comm]
theorem lo_8 (w : Int64) : w.toInt32.toInt8 = (nI (w.toBitVec.toNat % 256)).toInt8 := by
  apply Int8.toBitVec_inj.1
  show ((w.toBitVec).signExtend 32).signExtend 8 = (BitVec.ofNat 32 (w.toBitVec.toNat % 256)).signExtend 8
  apply BitVec.eq_of_getLsbD_eq
  intro i hi
  have h2 : i < 64 := by omega
  have h3 : i < 32 := by omega
  rw [BitVec.getLsbD_signExtend, BitVec.getLsbD_signExtend, BitVec.getLsbD_signExtend, BitVec.getLsbD_ofNat, show (256 : Nat) = 2 ^ 8 from rfl, Nat.testBit_mod_two_pow]
  simp [hi, h2, h3, BitVec.getLsbD]
theorem nar_b (y : Int8) : vp_nar .byte y.toInt32 = y.toInt32 := by
  show (match narrow .byte (.int y.toInt32) with
    | .int y => y
    | _ => 0) = _
  simp [narrow]
def bvF (v : Int64) (j : Nat) : Nat := (v >>> ((nI 8 * nI j).toInt64 &&& 63)).toBitVec.toNat % 256
theorem lo_C (v : Int64) (j : Nat) : vp_nar .byte ((v >>> ((nI 8 * nI j).toInt64 &&& 63)).toInt32.toInt8.toInt32) = (nI (bvF v j)).toInt8.toInt32 := by
  rw [nar_b, lo_8]; rfl
theorem lo_MM (v : Int64) (j : Nat) : ((v >>> ((nI 8 * nI j).toInt64 &&& 63)) &&& 255).toInt32 = nI (bvF v j) := lo_M _
theorem dec_1 : ∀ k, k < 8 → nI (k + 1) + (-1 : Int32) = nI k := by decide
theorem dec_N (k : Nat) (h : k < 8) : nI (k + 1) + (-nI 1) = nI k := dec_1 k h
def tyX (m i : Nat) : Int32 := if i < m then nI (m - 1 - i) else -nI 1
theorem tyX_in {m i : Nat} (h : i < m) : tyX m i = nI (m - 1 - i) := if_pos h
theorem tyX_step {m i : Nat} (h : i < m) (hm : m ≤ 8) : nI (m - 1 - i) + (-nI 1) = tyX m (i + 1) := by
  unfold tyX
  by_cases q : i + 1 < m
  · rw [if_pos q, show m - 1 - i = m - 1 - (i + 1) + 1 by omega, dec_N _ (by omega)]
  · rw [if_neg q, show m - 1 - i = 0 by omega]; rfl
theorem tyX_0 : ∀ m, m < 9 → 1 ≤ m → nI m - (1 : Int32) = tyX m 0 := by decide
theorem add_run {F : Nat → Int32} {n m : Nat} (T0 : Nat → Int32) (i : Nat) (hi : i < m) : upd (fun k => if n ≤ k ∧ k < n + i then F (m - 1 - (k - n)) else T0 k) (n + i) (F (m - 1 - i)) = (fun k => if n ≤ k ∧ k < n + (i + 1) then F (m - 1 - (k - n)) else T0 k) := by
  funext k
  rw [upd_at]
  by_cases h : k = n + i
  · subst h
    rw [if_pos rfl, if_pos (⟨by omega, by omega⟩ : n ≤ n + i ∧ n + i < n + (i + 1)), show n + i - n = i by omega]
  · rw [if_neg h]
    exact ifc (by omega)
theorem e_add {n m : Nat} (h1 : 1 ≤ m) (hm : m ≤ 8) (hn : n + m ≤ 300) (v : Int64) (T0 : Nat → Int32) : f_X3_add v (nI m) (nI n) T0 = some (nI (n + m), fun k => if n ≤ k ∧ k < n + m then (nI (bvF v (m - 1 - (k - n)))).toInt8.toInt32 else T0 k) := by
  unfold f_X3_add
  refine loop3_run (fun i => tyX m i) (fun i => nI (n + i)) (fun i => fun k => if n ≤ k ∧ k < n + i then (nI (bvF v (m - 1 - (k - n)))).toInt8.toInt32 else T0 k) m (fun i hi BB => ?_) (fun BB => ?_) (FU_lt (by omega)) (tyX_0 m (by omega) h1) rfl (by funext k; rw [if_neg (by omega)])
  · have hc : ¬ 300 ≤ n + i := by omega
    have hp : ¬ nI (m - 1 - i) < 0 := nI_pos (by omega)
    rw [← add_run (F := fun j => (nI (bvF v j)).toInt8.toInt32) T0 i hi]
    rw [tyX_in hi, if_neg hp, if_neg (show ¬ (300 : Int32) ≤ nI (n + i) from nI_ge (a := n + i) (b := 300) (by omega) (by decide)), gd_in (by omega) (by decide), nI_clamp (by omega), ← tyX_step hi hm]
    rw [← lo_C, nI_1]
    rfl
  · rw [if_pos (show tyX m m < 0 by unfold tyX; rw [if_neg (Nat.lt_irrefl m)]; decide)]
theorem e_typeM {n m : Nat} (h1 : 1 ≤ m) (hm : m ≤ 8) (hn : n + m ≤ 300) (v : Int64) (T0 : Nat → Int32) : f_X7_type v (nI m) (nI n) T0 = some (nI (n + m), 0, nI (n + m), fun k => if n ≤ k ∧ k < n + m then nI (bvF v (m - 1 - (k - n))) else T0 k) := by
  unfold f_X7_type
  rw [e_in, if_neg (show ¬ nI m < 1 from nI_nlt (a := m) (b := 1) h1 (by omega)), if_neg (show ¬ (8 : Int32) < nI m from nI_nlt (a := 8) (b := m) hm (by decide)), bd1_eq, if_neg n01, nI_add, if_pos (show nI (n + m) ≤ (300 : Int32) from nI_le (a := n + m) (b := 300) hn (by decide))]
  refine loop3_run (fun i => tyX m i) (fun i => nI (n + i)) (fun i => fun k => if n ≤ k ∧ k < n + i then nI (bvF v (m - 1 - (k - n))) else T0 k) m (fun i hi BB => ?_) (fun BB => ?_) (FU_lt (by omega)) (tyX_0 m (by omega) h1) rfl (by funext k; rw [if_neg (by omega)])
  · have hp : ¬ nI (m - 1 - i) < 0 := nI_pos (by omega)
    rw [← add_run (F := fun j => nI (bvF v j)) T0 i hi]
    rw [tyX_in hi, if_neg hp, gd_in (by omega) (by decide), nI_clamp (by omega), ← tyX_step hi hm]
    rw [← lo_MM, nI_1]
    rfl
  · rw [if_pos (show tyX m m < 0 by unfold tyX; rw [if_neg (Nat.lt_irrefl m)]; decide)]
theorem p_type {t_length : Int32} {t_bytes : Nat → Int32} {h_rooms : Int32} {h_people : Int32} {h_things : Int32} {h_lifts : Nat → Int32} {h_prices : Nat → Int32} {h_hands : Nat → Int32} {h_wanted : Nat → Int32} {n_room : Nat → Int32} {n_bundle : Nat → Int32} {n_left : Nat → Int32} {n_day : Int32} {i_room : Nat → Int32} {i_bundle : Nat → Int32} {i_left : Nat → Int32} {i_day : Int32} {i_kept : Int32} {j_room : Nat → Int32} {j_bundle : Nat → Int32} {j_left : Nat → Int32} {j_day : Int32} {j_kept : Int32} {f_traced : Int64} {m_typed : Int32} {m_text : Nat → Int32} {m_rooms : Int32} {m_people : Int32} {m_things : Int32} {m_lifts : Nat → Int32} {m_price : Nat → Int32} {m_hands : Nat → Int32} {m_wanted : Nat → Int32} {m_s : Nat → Int32} {m_kept : Nat → Int32} {m_isKept : Nat → Int32} {m_trace : Int64} (v0 : Int64) (v1 : Int32) (hR : Rel t_length t_bytes h_rooms h_people h_things h_lifts h_prices h_hands h_wanted n_room n_bundle n_left n_day i_room i_bundle i_left i_day i_kept j_room j_bundle j_left j_day j_kept f_traced m_typed m_text m_rooms m_people m_things m_lifts m_price m_hands m_wanted m_s m_kept m_isKept m_trace) : ∃ (r : Int32) (c0 : Int32) (c1 : Nat → Int32) (k0 : Int32) (k1 : Int32) (k2 : Nat → Int32), f_X6_type v0 v1 t_length t_bytes = some (r, c0, c1) ∧ f_X7_type v0 v1 m_typed m_text = some (r, k0, k1, k2) ∧ Rel c0 c1 h_rooms h_people h_things h_lifts h_prices h_hands h_wanted n_room n_bundle n_left n_day i_room i_bundle i_left i_day i_kept j_room j_bundle j_left j_day j_kept f_traced k1 k2 m_rooms m_people m_things m_lifts m_price m_hands m_wanted m_s m_kept m_isKept m_trace := by
  obtain ⟨⟨n, bt, ⟨hn, hl, hb⟩, ht, hm⟩, hrest⟩ := id hR
  subst hl; subst ht
  rcases pk_ix v1 (n := 9) (by decide) with h | h | ⟨m, hm9, rfl⟩
  · have h1 : v1 < 1 := by rw [Int32.lt_iff_toInt_lt] at h ⊢; have e : (0 : Int32).toInt = 0 := rfl; have e2 : (1 : Int32).toInt = 1 := rfl; omega
    exact ⟨-1, nI n, t_bytes, 0, nI n, m_text, by unfold f_X6_type; rw [if_pos h1], by unfold f_X7_type; rw [e_in, if_pos h1, bd1_eq, if_pos rfl], hR⟩
  · have h1 : ¬ v1 < 1 := by rw [Int32.le_iff_toInt_le] at h; rw [Int32.lt_iff_toInt_lt]; have e : (nI 9).toInt = 9 := by decide
                             have e2 : (1 : Int32).toInt = 1 := rfl
                             omega
    have h2 : ¬ v1 ≤ 8 := by rw [Int32.le_iff_toInt_le] at h ⊢; have e : (nI 9).toInt = 9 := by decide
                             have e2 : (8 : Int32).toInt = 8 := rfl
                             omega
    have h3 : (8 : Int32) < v1 := by rw [Int32.le_iff_toInt_le] at h; rw [Int32.lt_iff_toInt_lt]; have e : (nI 9).toInt = 9 := by decide
                                     have e2 : (8 : Int32).toInt = 8 := rfl
                                     omega
    exact ⟨-1, nI n, t_bytes, 0, nI n, m_text, by unfold f_X6_type; rw [if_neg h1, if_neg h2], by unfold f_X7_type; rw [e_in, if_neg h1, if_pos h3, bd1_eq, if_pos rfl], hR⟩
  · by_cases q : m = 0
    · subst q
      exact ⟨-1, nI n, t_bytes, 0, nI n, m_text, by unfold f_X6_type; rw [if_pos (by decide)], by unfold f_X7_type; rw [e_in, if_pos (by decide), bd1_eq, if_pos rfl], hR⟩
    · have h1 : ¬ nI m < 1 := nI_nlt (a := m) (b := 1) (by omega) (by omega)
      have h2 : nI m ≤ 8 := nI_le (a := m) (b := 8) (by omega) (by decide)
      have h3 : ¬ (8 : Int32) < nI m := nI_nlt (a := 8) (b := m) (by omega) (by decide)
      have hsub : (nI m ≤ (300 : Int32) - nI n) ↔ n + m ≤ 300 := by
        rw [Int32.le_iff_toInt_le, nI_toInt (by omega), show ((300 : Int32) - nI n).toInt = (300 : Nat) - (n : Int) from pk_sub_toInt (a := 300) (b := n) (by decide) (by omega)]
        omega
      by_cases q2 : n + m ≤ 300
      · refine ⟨nI (n + m), _, _, 0, _, _, by unfold f_X6_type; rw [if_neg h1, if_pos h2, if_pos (hsub.mpr q2), e_add (by omega) (by omega) q2, bd2_eq], e_typeM (by omega) (by omega) q2 v0 m_text, ⟨n + m, fun k => if k < n then bt k else bvF v0 (m - 1 - (k - n)), ⟨q2, rfl, fun k hk => ?_⟩, rfl, fun k hk => ?_⟩, hrest⟩
        · dsimp only
          by_cases z : k < n
          · rw [if_neg (by omega), if_pos z]; exact hb k z
          · rw [if_pos ⟨by omega, hk⟩, if_neg z]
        · dsimp only
          by_cases z : k < n
          · rw [if_pos z, if_neg (by omega)]; exact hm k z
          · rw [if_neg z, if_pos ⟨by omega, hk⟩]
            exact ⟨Nat.mod_lt _ (by decide), rfl⟩
      · exact ⟨-3, nI n, t_bytes, 0, nI n, m_text, by unfold f_X6_type; rw [if_neg h1, if_pos h2, if_neg (fun w => q2 (hsub.mp w))], by unfold f_X7_type; rw [e_in, if_neg h1, if_neg h3, bd1_eq, if_neg n01, nI_add, if_neg (show ¬ nI (n + m) ≤ (300 : Int32) from nI_ge (a := 300) (b := n + m) (by omega) (by omega))], hR⟩
