
/-! PURE PART: counts of bits, sets, who has something left -/
def cnt8 (b : Nat) : Nat := sumS (fun k => b.testBit k) (fun _ => 1) 8
theorem e_bitCount : ∀ b, b < 256 → f_J6_bitCount_0f7a4 (nI b) = some (nI (cnt8 b)) := by decide +kernel
theorem e_ones {b : Nat} (hb : b < 2 ^ 31) : f_X7_ones (nI b) = some (nI (cnt8 b)) := by
  unfold f_X7_ones
  refine loop2_run (fun i => nI (sumS (fun k => b.testBit k) (fun _ => 1) i)) (fun i => nI i) 8 (fun i hi BB => ?_) (fun BB => ?_) (FU_lt (by decide)) rfl rfl
  · have hc : ¬ 8 ≤ i := by omega
    simp (maxSteps := 4000000) (disch := omega) only [hc, bit_N hb (show i < 31 by omega), sumS, bd1_eq, bd2_eq, bd3_eq, bd4_eq, bd5_eq, bd6_eq, lt_eq, jn_eq, gd_in, nI_clamp, nI_eq, nI_leI, nI_ltI, nI_add, L0, L1, L2, L3, L4, L5, L6, L8, L16, L20, L21, Nat.reduceEqDiff, Nat.reduceLeDiff, Nat.reduceLT, Nat.reduceAdd, Nat.reduceMul, reduceIte]
  · simp (maxSteps := 4000000) (disch := omega) only [Nat.le_refl, bd1_eq, bd2_eq, bd3_eq, bd4_eq, bd5_eq, bd6_eq, lt_eq, jn_eq, gd_in, nI_clamp, nI_eq, nI_leI, nI_ltI, nI_add, L0, L1, L2, L3, L4, L5, L6, L8, L16, L20, L21, Nat.reduceEqDiff, Nat.reduceLeDiff, Nat.reduceLT, Nat.reduceAdd, Nat.reduceMul, reduceIte]
    rfl
theorem e_setBundle {b : Nat} (hb : b < 2 ^ 31) (v : Int32) (bundle : Nat → Int32) : f_X1_setBundle (nI b) v bundle = some (fun k => if k < 8 ∧ b.testBit k = true then v else bundle k) := by
  unfold f_X1_setBundle
  refine loop2_run (fun i => nI i) (fun i => fun k => if k < i ∧ b.testBit k = true then v else bundle k) 8 (fun i hi BB => ?_) (fun BB => ?_) (FU_lt (by decide)) rfl (by funext k; simp)
  · have hc : ¬ 8 ≤ i := by omega
    cases q : b.testBit i
    · have e : (fun k => if k < i ∧ b.testBit k = true then v else bundle k) = (fun k => if k < i + 1 ∧ b.testBit k = true then v else bundle k) := by
        funext k
        by_cases h : k = i
        · subst h; simp [q]
        · simp [lt_succ_ne h]
      simp (maxSteps := 4000000) (disch := omega) only [has_N hb (show i < 31 by omega), q, hc, Bool.false_eq_true, bd1_eq, bd2_eq, bd3_eq, bd4_eq, bd5_eq, bd6_eq, lt_eq, jn_eq, gd_in, nI_clamp, nI_eq, nI_leI, nI_ltI, nI_add, L0, L1, L2, L3, L4, L5, L6, L8, L16, L20, L21, Nat.reduceEqDiff, Nat.reduceLeDiff, Nat.reduceLT, Nat.reduceAdd, Nat.reduceMul, reduceIte]
      rw [e]
    · have e : (upd (fun k => if k < i ∧ b.testBit k = true then v else bundle k) i v) = (fun k => if k < i + 1 ∧ b.testBit k = true then v else bundle k) := by
        funext k
        rw [upd_at]
        by_cases h : k = i
        · subst h; simp [q]
        · simp [h, lt_succ_ne h]
      simp (maxSteps := 4000000) (disch := omega) only [has_N hb (show i < 31 by omega), q, hc, Bool.false_eq_true, bd1_eq, bd2_eq, bd3_eq, bd4_eq, bd5_eq, bd6_eq, lt_eq, jn_eq, gd_in, nI_clamp, nI_eq, nI_leI, nI_ltI, nI_add, L0, L1, L2, L3, L4, L5, L6, L8, L16, L20, L21, Nat.reduceEqDiff, Nat.reduceLeDiff, Nat.reduceLT, Nat.reduceAdd, Nat.reduceMul, reduceIte]
      rw [e]
  · simp (maxSteps := 4000000) (disch := omega) only [Nat.le_refl, bd1_eq, bd2_eq, bd3_eq, bd4_eq, bd5_eq, bd6_eq, lt_eq, jn_eq, gd_in, nI_clamp, nI_eq, nI_leI, nI_ltI, nI_add, L0, L1, L2, L3, L4, L5, L6, L8, L16, L20, L21, Nat.reduceEqDiff, Nat.reduceLeDiff, Nat.reduceLT, Nat.reduceAdd, Nat.reduceMul, reduceIte]
theorem e_carry {b : Nat} (hb : b < 2 ^ 31) (v : Int32) (room : Nat → Int32) : f_X1_carry (nI b) v room = some (fun k => if k < 8 ∧ b.testBit k = true then v else room k) := e_setBundle hb v room
theorem e_least {b : Nat} (hb : b < 2 ^ 31) (h : fstI (fun k => b.testBit k) 8 < 8) : f_X6_least (nI b) = some (nI (fstI (fun k => b.testBit k) 8)) := by
  unfold f_X6_least
  have key := loop1_find (body := fun B2 (x3 : Int32) => (if (8 : Int32) ≤ x3 then some ((-9 : Int32)) else bd1 (f_X6_has (nI b) x3) (fun r4 => (if r4 = 0 then B2 (x3 + (1 : Int32)) else some (x3))))) (fun k => b.testBit k) 8 (fun i => if i = 8 then some (-9) else some (nI i)) (fun i hi q B => ?_) (fun i hi q B => ?_) (fun B => ?_) (FU_lt (n := 8) (by decide))
  · rw [if_neg (by omega)] at key
    exact key
  · have hc : ¬ 8 ≤ i := by omega
    simp (maxSteps := 4000000) (disch := omega) only [has_N hb (show i < 31 by omega), q, hc, Bool.false_eq_true, bd1_eq, bd2_eq, bd3_eq, bd4_eq, bd5_eq, bd6_eq, lt_eq, jn_eq, gd_in, nI_clamp, nI_eq, nI_leI, nI_ltI, nI_add, L0, L1, L2, L3, L4, L5, L6, L8, L16, L20, L21, Nat.reduceEqDiff, Nat.reduceLeDiff, Nat.reduceLT, Nat.reduceAdd, Nat.reduceMul, reduceIte]
  · have hc : ¬ 8 ≤ i := by omega
    have hc2 : ¬ i = 8 := by omega
    simp (maxSteps := 4000000) (disch := omega) only [has_N hb (show i < 31 by omega), q, hc, hc2, bd1_eq, bd2_eq, bd3_eq, bd4_eq, bd5_eq, bd6_eq, lt_eq, jn_eq, gd_in, nI_clamp, nI_eq, nI_leI, nI_ltI, nI_add, L0, L1, L2, L3, L4, L5, L6, L8, L16, L20, L21, Nat.reduceEqDiff, Nat.reduceLeDiff, Nat.reduceLT, Nat.reduceAdd, Nat.reduceMul, reduceIte]
  · simp (maxSteps := 4000000) (disch := omega) only [Nat.le_refl, bd1_eq, bd2_eq, bd3_eq, bd4_eq, bd5_eq, bd6_eq, lt_eq, jn_eq, gd_in, nI_clamp, nI_eq, nI_leI, nI_ltI, nI_add, L0, L1, L2, L3, L4, L5, L6, L8, L16, L20, L21, Nat.reduceEqDiff, Nat.reduceLeDiff, Nat.reduceLT, Nat.reduceAdd, Nat.reduceMul, reduceIte]
theorem e_peopleWithLeft {left : Nat → Int32} {lf : Nat → Nat} (hl : ∀ p, p < 4 → left p = nI (lf p)) (h9 : ∀ p, p < 4 → lf p ≤ 9) : f_X1_peopleWithLeft left = some (nI (bitsOf (fun p => decide (0 < lf p)) 4)) := by
  unfold f_X1_peopleWithLeft
  refine loop2_run (fun i => nI (bitsOf (fun p => decide (0 < lf p)) i)) (fun i => nI i) 4 (fun i hi BB => ?_) (fun BB => ?_) (FU_lt (by decide)) rfl rfl
  · have hc : ¬ 4 ≤ i := by omega
    have h1 := h9 i hi
    by_cases q : 0 < lf i
    · have q2 : ¬ lf i ≤ 0 := by omega
      simp (maxSteps := 4000000) (disch := omega) only [hc, hl i hi, q2, q, bitsOf, decide_true, shl_N (show i < 31 by omega), or_top, bd1_eq, bd2_eq, bd3_eq, bd4_eq, bd5_eq, bd6_eq, lt_eq, jn_eq, gd_in, nI_clamp, nI_eq, nI_leI, nI_ltI, nI_add, L0, L1, L2, L3, L4, L5, L6, L8, L16, L20, L21, Nat.reduceEqDiff, Nat.reduceLeDiff, Nat.reduceLT, Nat.reduceAdd, Nat.reduceMul, reduceIte]
    · have q2 : lf i ≤ 0 := by omega
      simp (maxSteps := 4000000) (disch := omega) only [hc, hl i hi, q2, q, bitsOf, decide_false, Bool.false_eq_true, Nat.add_zero, bd1_eq, bd2_eq, bd3_eq, bd4_eq, bd5_eq, bd6_eq, lt_eq, jn_eq, gd_in, nI_clamp, nI_eq, nI_leI, nI_ltI, nI_add, L0, L1, L2, L3, L4, L5, L6, L8, L16, L20, L21, Nat.reduceEqDiff, Nat.reduceLeDiff, Nat.reduceLT, Nat.reduceAdd, Nat.reduceMul, reduceIte]
  · simp (maxSteps := 4000000) (disch := omega) only [Nat.le_refl, bd1_eq, bd2_eq, bd3_eq, bd4_eq, bd5_eq, bd6_eq, lt_eq, jn_eq, gd_in, nI_clamp, nI_eq, nI_leI, nI_ltI, nI_add, L0, L1, L2, L3, L4, L5, L6, L8, L16, L20, L21, Nat.reduceEqDiff, Nat.reduceLeDiff, Nat.reduceLT, Nat.reduceAdd, Nat.reduceMul, reduceIte]
theorem and_not : ∀ b, b < 16 → ∀ a, a < 16 → ((nI b &&& (nI a ^^^ -1)) = 0 ↔ ∀ k, k < 4 → b.testBit k = true → a.testBit k = true) := by decide +kernel
theorem e_allHaveLeft {b : Nat} (hb : b < 16) {left : Nat → Int32} {lf : Nat → Nat} (hl : ∀ p, p < 4 → left p = nI (lf p)) (h9 : ∀ p, p < 4 → lf p ≤ 9) : f_X1_allHaveLeft (nI b) left = some (nI (if exB (fun k => b.testBit k && decide (lf k = 0)) 4 then 0 else 1)) := by
  have h1 := and_not b hb (bitsOf (fun p => decide (0 < lf p)) 4) (bitsOf_lt _ 4)
  unfold f_X1_allHaveLeft
  rw [e_peopleWithLeft hl h9, bd1_eq]
  cases q : exB (fun k => b.testBit k && decide (lf k = 0)) 4
  · have h2 : (nI b &&& (nI (bitsOf (fun p => decide (0 < lf p)) 4) ^^^ -1)) = 0 := h1.mpr (fun k hk hbk => by
      rw [bitsOf_bit]
      simp only [hk, decide_true, Bool.true_and, decide_eq_true_eq]
      cases e : lf k with
      | zero =>
        have : exB (fun k => b.testBit k && decide (lf k = 0)) 4 = true := exB_iff.mpr ⟨k, hk, by simp [hbk, e]⟩
        rw [q] at this; cases this
      | succ n => omega)
    simp only [h2, jn, if_true]; rfl
  · obtain ⟨k, hk, hk2⟩ := exB_iff.mp q
    simp only [Bool.and_eq_true, decide_eq_true_eq] at hk2
    have h2 : ¬ (nI b &&& (nI (bitsOf (fun p => decide (0 < lf p)) 4) ^^^ -1)) = 0 := fun z => by
      have h3 := h1.mp z k hk hk2.1
      rw [bitsOf_bit] at h3
      simp [hk2.2] at h3
    simp only [h2, jn, if_false, if_true]; rfl
theorem e_hasAll (x : Int32) {P : Nat} (hP : P ≤ 8) : f_X0_hasAllPeople x (nI P) = rng x (nI (2 ^ P)) := by
  have hs : ∀ P, P ≤ 8 → (((nI P).toUInt32 &&& Int32.toUInt32 31).toBitVec % 32).toNat = P := by decide
  have hp : 2 ^ P ≤ 2 ^ 8 := Nat.pow_le_pow_right (by decide) hP
  have h := pk_ushr x (nI P) P (hs P hP)
  have hpos : 0 < 2 ^ P := Nat.two_pow_pos P
  have hiff : ((x.toUInt32 >>> ((nI P).toUInt32 &&& Int32.toUInt32 31)).toInt32 = 0) ↔ x.toBitVec.toNat < 2 ^ P := by
    constructor
    · intro e
      rw [e] at h
      have h0 : (0 : Int32).toBitVec.toNat = 0 := by decide
      rw [h0] at h
      exact (Nat.div_eq_zero_iff.mp h.symm).resolve_left (by omega)
    · intro e
      apply Int32.toBitVec_inj.1
      apply BitVec.eq_of_toNat_eq
      rw [h, Nat.div_eq_of_lt e]
      decide
  unfold f_X0_hasAllPeople
  rcases pk_ix x (n := 2 ^ P) (by omega) with q | q | ⟨j, hj, rfl⟩
  · rw [rng_out (Or.inl q), if_neg]
    · rw [hiff]
      have e : x.toInt < 0 := by
        have := Int32.lt_iff_toInt_lt.mp q
        simpa using this
      have e2 : x.toInt = x.toBitVec.toInt := rfl
      rw [e2, BitVec.toInt_eq_toNat_cond] at e
      split at e
      · omega
      · omega
  · rw [rng_out (Or.inr q), if_neg]
    · rw [hiff]
      have e : (nI (2 ^ P)).toInt ≤ x.toInt := Int32.le_iff_toInt_le.mp q
      rw [nI_toInt (by omega)] at e
      have e2 : x.toInt = x.toBitVec.toInt := rfl
      rw [e2, BitVec.toInt_eq_toNat_cond] at e
      split at e <;> omega
  · rw [rng_in hj (by omega), if_pos]
    · rw [hiff, pk_tn (by omega)]
      exact hj
theorem e_hasAllT (x : Int32) {P : Nat} (hP : P ≤ 8) : f_X0_hasAllThings x (nI P) = rng x (nI (2 ^ P)) := e_hasAll x hP
theorem e_hasAllM (x : Int32) {P : Nat} (hP : P ≤ 8) : f_X7_in x (nI 0) (nI 1 <<< (nI P &&& 31) - nI 1) = rng x (nI (2 ^ P)) := by
  have hp : 2 ^ P ≤ 2 ^ 8 := Nat.pow_le_pow_right (by decide) hP
  rw [shl_N (by omega)]
  exact e_rngM x (by omega)
