
/-! PURE PART: what the small loops come to -/
theorem shl_N {i : Nat} (hi : i < 31) : nI 1 <<< (nI i &&& 31) = nI (2 ^ i) := shl_1 hi
theorem bit_N {b i : Nat} (hb : b < 2 ^ 31) (hi : i < 31) : (nI b >>> (nI i &&& 31)) &&& nI 1 = nI (if b.testBit i then 1 else 0) := bit_at hb hi
theorem has_N {b i : Nat} (hb : b < 2 ^ 31) (hi : i < 31) : f_X6_has (nI b) (nI i) = some (nI (if b.testBit i then 1 else 0)) := by
  rw [e_has hb hi]
  by_cases q : b.testBit i = true
  · simp only [q, if_true]; rfl
  · simp only [q]; rfl
theorem upd_at (f : Nat → Int32) (k : Nat) (x : Int32) (j : Nat) : upd f k x j = if j = k then x else f j := rfl
theorem ifc {α : Type} {c d : Prop} [Decidable c] [Decidable d] {a b : α} (h : c ↔ d) : (if c then a else b) = if d then a else b := by
  by_cases q : c
  · rw [if_pos q, if_pos (h.mp q)]
  · rw [if_neg q, if_neg (fun z => q (h.mpr z))]
theorem lt_succ_ne {k i : Nat} (h : ¬ k = i) : (k < i + 1) = (k < i) := by simp; omega
theorem e_spend {b : Nat} (hb : b < 2 ^ 31) (left : Nat → Int32) : f_X1_spend (nI b) left = some (fun k => if k < 4 ∧ b.testBit k = true then left k - nI 1 else left k) := by
  unfold f_X1_spend
  refine loop2_run (fun i => nI i) (fun i => fun k => if k < i ∧ b.testBit k = true then left k - nI 1 else left k) 4 (fun i hi BB => ?_) (fun BB => ?_) (FU_lt (by decide)) rfl (by funext k; simp)
  · have hc : ¬ 4 ≤ i := by omega
    cases q : b.testBit i
    · have e : (fun k => if k < i ∧ b.testBit k = true then left k - nI 1 else left k) = (fun k => if k < i + 1 ∧ b.testBit k = true then left k - nI 1 else left k) := by
        funext k
        by_cases h : k = i
        · subst h; simp [q]
        · simp [lt_succ_ne h]
      simp (maxSteps := 4000000) (disch := omega) only [has_N hb (show i < 31 by omega), q, hc, Bool.false_eq_true, bd1_eq, bd2_eq, bd3_eq, bd4_eq, bd5_eq, bd6_eq, lt_eq, jn_eq, gd_in, nI_clamp, nI_eq, nI_leI, nI_ltI, nI_add, L0, L1, L2, L3, L4, L5, L6, L8, L16, L20, L21, Nat.reduceEqDiff, Nat.reduceLeDiff, Nat.reduceLT, Nat.reduceAdd, Nat.reduceMul, reduceIte]
      rw [e]
    · have e : (upd (fun k => if k < i ∧ b.testBit k = true then left k - nI 1 else left k) i (left i - nI 1)) = (fun k => if k < i + 1 ∧ b.testBit k = true then left k - nI 1 else left k) := by
        funext k
        rw [upd_at]
        by_cases h : k = i
        · subst h; simp [q]
        · simp [h, lt_succ_ne h]
      simp (maxSteps := 4000000) (disch := omega) only [has_N hb (show i < 31 by omega), q, hc, Nat.lt_irrefl, false_and, bd1_eq, bd2_eq, bd3_eq, bd4_eq, bd5_eq, bd6_eq, lt_eq, jn_eq, gd_in, nI_clamp, nI_eq, nI_leI, nI_ltI, nI_add, L0, L1, L2, L3, L4, L5, L6, L8, L16, L20, L21, Nat.reduceEqDiff, Nat.reduceLeDiff, Nat.reduceLT, Nat.reduceAdd, Nat.reduceMul, reduceIte]
      rw [e]
  · simp (maxSteps := 4000000) (disch := omega) only [Nat.le_refl, bd1_eq, bd2_eq, bd3_eq, bd4_eq, bd5_eq, bd6_eq, lt_eq, jn_eq, gd_in, nI_clamp, nI_eq, nI_leI, nI_ltI, nI_add, L0, L1, L2, L3, L4, L5, L6, L8, L16, L20, L21, Nat.reduceEqDiff, Nat.reduceLeDiff, Nat.reduceLT, Nat.reduceAdd, Nat.reduceMul, reduceIte]
theorem e_rest {P : Nat} (hP : P ≤ 4) (left lifts : Nat → Int32) : f_X1_rest left (nI P) lifts = some (fun k => if k < 4 then (if k < P then lifts k else nI 0) else left k) := by
  unfold f_X1_rest
  refine loop2_run (fun i => nI i) (fun i => fun k => if k < i then (if k < P then lifts k else nI 0) else left k) 4 (fun i hi BB => ?_) (fun BB => ?_) (FU_lt (by decide)) rfl (by funext k; simp)
  · have hc : ¬ 4 ≤ i := by omega
    have e : upd (fun k => if k < i then (if k < P then lifts k else nI 0) else left k) i (if i < P then lifts i else nI 0) = (fun k => if k < i + 1 then (if k < P then lifts k else nI 0) else left k) := by
      funext k
      rw [upd_at]
      by_cases h : k = i
      · subst h; simp
      · simp [h, lt_succ_ne h]
    by_cases q : i < P
    · rw [if_pos q] at e
      simp (maxSteps := 4000000) (disch := omega) only [e_hasPerson, rng_in q (show P < 2 ^ 31 by omega), hc, bd1_eq, bd2_eq, bd3_eq, bd4_eq, bd5_eq, bd6_eq, lt_eq, jn_eq, gd_in, nI_clamp, nI_eq, nI_leI, nI_ltI, nI_add, L0, L1, L2, L3, L4, L5, L6, L8, L16, L20, L21, Nat.reduceEqDiff, Nat.reduceLeDiff, Nat.reduceLT, Nat.reduceAdd, Nat.reduceMul, reduceIte]
      rw [e]
    · rw [if_neg q] at e
      simp (maxSteps := 4000000) (disch := omega) only [e_hasPerson, rng_out (Or.inr (nI_le (show P ≤ i by omega) (show i < 2 ^ 31 by omega))), hc, bd1_eq, bd2_eq, bd3_eq, bd4_eq, bd5_eq, bd6_eq, lt_eq, jn_eq, gd_in, nI_clamp, nI_eq, nI_leI, nI_ltI, nI_add, L0, L1, L2, L3, L4, L5, L6, L8, L16, L20, L21, Nat.reduceEqDiff, Nat.reduceLeDiff, Nat.reduceLT, Nat.reduceAdd, Nat.reduceMul, reduceIte]
      rw [e]
  · simp (maxSteps := 4000000) (disch := omega) only [Nat.le_refl, bd1_eq, bd2_eq, bd3_eq, bd4_eq, bd5_eq, bd6_eq, lt_eq, jn_eq, gd_in, nI_clamp, nI_eq, nI_leI, nI_ltI, nI_add, L0, L1, L2, L3, L4, L5, L6, L8, L16, L20, L21, Nat.reduceEqDiff, Nat.reduceLeDiff, Nat.reduceLT, Nat.reduceAdd, Nat.reduceMul, reduceIte]
theorem e_rested {P : Nat} (hP : P ≤ 4) (lifts s : Nat → Int32) : f_X7_rested (nI P) lifts s = some (fun k => if 16 ≤ k ∧ k < 20 then (if k - 16 < P then lifts (k - 16) else nI 0) else s k) := by
  unfold f_X7_rested
  refine loop2_run (fun i => nI i) (fun i => fun k => if 16 ≤ k ∧ k < 16 + i then (if k - 16 < P then lifts (k - 16) else nI 0) else s k) 4 (fun i hi BB => ?_) (fun BB => ?_) (FU_lt (by decide)) rfl (by funext k; rw [if_neg (by omega)])
  · have hc : ¬ 4 ≤ i := by omega
    have e : upd (fun k => if 16 ≤ k ∧ k < 16 + i then (if k - 16 < P then lifts (k - 16) else nI 0) else s k) (16 + i) (if i < P then lifts i else nI 0) = (fun k => if 16 ≤ k ∧ k < 16 + (i + 1) then (if k - 16 < P then lifts (k - 16) else nI 0) else s k) := by
      funext k
      rw [upd_at]
      by_cases h : k = 16 + i
      · subst h
        rw [if_pos rfl, if_pos (⟨by omega, by omega⟩ : 16 ≤ 16 + i ∧ 16 + i < 16 + (i + 1)), show 16 + i - 16 = i by omega]
      · rw [if_neg h]
        exact ifc (by omega)
    by_cases q : i < P
    · rw [if_pos q] at e
      have q2 : ¬ P ≤ i := by omega
      simp (maxSteps := 4000000) (disch := omega) only [hc, q2, bd1_eq, bd2_eq, bd3_eq, bd4_eq, bd5_eq, bd6_eq, lt_eq, jn_eq, gd_in, nI_clamp, nI_eq, nI_leI, nI_ltI, nI_add, L0, L1, L2, L3, L4, L5, L6, L8, L16, L20, L21, Nat.reduceEqDiff, Nat.reduceLeDiff, Nat.reduceLT, Nat.reduceAdd, Nat.reduceMul, reduceIte]
      rw [e]
    · rw [if_neg q] at e
      have q2 : P ≤ i := by omega
      simp (maxSteps := 4000000) (disch := omega) only [hc, q2, bd1_eq, bd2_eq, bd3_eq, bd4_eq, bd5_eq, bd6_eq, lt_eq, jn_eq, gd_in, nI_clamp, nI_eq, nI_leI, nI_ltI, nI_add, L0, L1, L2, L3, L4, L5, L6, L8, L16, L20, L21, Nat.reduceEqDiff, Nat.reduceLeDiff, Nat.reduceLT, Nat.reduceAdd, Nat.reduceMul, reduceIte]
      rw [e]
  · simp (maxSteps := 4000000) (disch := omega) only [Nat.le_refl, bd1_eq, bd2_eq, bd3_eq, bd4_eq, bd5_eq, bd6_eq, lt_eq, jn_eq, gd_in, nI_clamp, nI_eq, nI_leI, nI_ltI, nI_add, L0, L1, L2, L3, L4, L5, L6, L8, L16, L20, L21, Nat.reduceEqDiff, Nat.reduceLeDiff, Nat.reduceLT, Nat.reduceAdd, Nat.reduceMul, reduceIte]
theorem e_tasks {T : Nat} (hT : T ≤ 8) {wanted : Nat → Int32} {Wt : Nat → Option Nat} (hw : ∀ t, t < T → wanted t = oI (Wt t)) (hb : ∀ t, t < T → ∀ n, Wt t = some n → n < 2 ^ 31) : f_X0_tasks (nI T) wanted = some (nI (sumS (fun t => (Wt t).isSome) (fun _ => 1) T)) := by
  unfold f_X0_tasks
  refine loop2_run (fun i => nI (sumS (fun t => (Wt t).isSome) (fun _ => 1) i)) (fun i => nI i) T (fun i hi BB => ?_) (fun BB => ?_) (FU_lt (by omega)) rfl rfl
  · have hc : ¬ T ≤ i := by omega
    cases q : Wt i
    · simp (maxSteps := 4000000) (disch := omega) only [hc, hw i hi, q, oI, sumS, Option.isSome_none, Bool.false_eq_true, Nat.add_zero, bd1_eq, bd2_eq, bd3_eq, bd4_eq, bd5_eq, bd6_eq, lt_eq, jn_eq, gd_in, nI_clamp, nI_eq, nI_leI, nI_ltI, nI_add, L0, L1, L2, L3, L4, L5, L6, L8, L16, L20, L21, Nat.reduceEqDiff, Nat.reduceLeDiff, Nat.reduceLT, Nat.reduceAdd, Nat.reduceMul, reduceIte]
    · rename_i z
      have hz : ¬ nI z = -9 := nI_ne9 (hb i hi z q)
      simp (maxSteps := 4000000) (disch := omega) only [hc, hw i hi, q, oI, hz, sumS, Option.isSome_some, bd1_eq, bd2_eq, bd3_eq, bd4_eq, bd5_eq, bd6_eq, lt_eq, jn_eq, gd_in, nI_clamp, nI_eq, nI_leI, nI_ltI, nI_add, L0, L1, L2, L3, L4, L5, L6, L8, L16, L20, L21, Nat.reduceEqDiff, Nat.reduceLeDiff, Nat.reduceLT, Nat.reduceAdd, Nat.reduceMul, reduceIte]
  · simp (maxSteps := 4000000) (disch := omega) only [Nat.le_refl, bd1_eq, bd2_eq, bd3_eq, bd4_eq, bd5_eq, bd6_eq, lt_eq, jn_eq, gd_in, nI_clamp, nI_eq, nI_leI, nI_ltI, nI_add, L0, L1, L2, L3, L4, L5, L6, L8, L16, L20, L21, Nat.reduceEqDiff, Nat.reduceLeDiff, Nat.reduceLT, Nat.reduceAdd, Nat.reduceMul, reduceIte]
theorem e_bundles {bundle : Nat → Int32} {B : Nat → Option Nat} (hw : ∀ t, t < 8 → bundle t = oI (B t)) (hb : ∀ t, t < 8 → ∀ n, B t = some n → n < 2 ^ 31) : f_X1_bundles bundle = some (nI (sumS (fun t => decide (B t = some t)) (fun _ => 1) 8)) := by
  unfold f_X1_bundles
  refine loop2_run (fun i => nI (sumS (fun t => decide (B t = some t)) (fun _ => 1) i)) (fun i => nI i) 8 (fun i hi BB => ?_) (fun BB => ?_) (FU_lt (by omega)) rfl rfl
  · have hc : ¬ 8 ≤ i := by omega
    by_cases q : B i = some i
    · simp (maxSteps := 4000000) (disch := omega) only [hc, hw i hi, q, oI, sumS, decide_true, bd1_eq, bd2_eq, bd3_eq, bd4_eq, bd5_eq, bd6_eq, lt_eq, jn_eq, gd_in, nI_clamp, nI_eq, nI_leI, nI_ltI, nI_add, L0, L1, L2, L3, L4, L5, L6, L8, L16, L20, L21, Nat.reduceEqDiff, Nat.reduceLeDiff, Nat.reduceLT, Nat.reduceAdd, Nat.reduceMul, reduceIte]
    · simp (maxSteps := 4000000) (disch := omega) only [hc, hw i hi, oI_nI (hb i hi) (show i < 2 ^ 31 by omega), q, sumS, decide_false, Bool.false_eq_true, Nat.add_zero, bd1_eq, bd2_eq, bd3_eq, bd4_eq, bd5_eq, bd6_eq, lt_eq, jn_eq, gd_in, nI_clamp, nI_eq, nI_leI, nI_ltI, nI_add, L0, L1, L2, L3, L4, L5, L6, L8, L16, L20, L21, Nat.reduceEqDiff, Nat.reduceLeDiff, Nat.reduceLT, Nat.reduceAdd, Nat.reduceMul, reduceIte]
  · simp (maxSteps := 4000000) (disch := omega) only [Nat.le_refl, bd1_eq, bd2_eq, bd3_eq, bd4_eq, bd5_eq, bd6_eq, lt_eq, jn_eq, gd_in, nI_clamp, nI_eq, nI_leI, nI_ltI, nI_add, L0, L1, L2, L3, L4, L5, L6, L8, L16, L20, L21, Nat.reduceEqDiff, Nat.reduceLeDiff, Nat.reduceLT, Nat.reduceAdd, Nat.reduceMul, reduceIte]
theorem e_mostLifts {P : Nat} (hP : P ≤ 4) {lifts : Nat → Int32} {L : Nat → Nat} (hl : ∀ p, p < P → lifts p = nI (L p)) (hb : ∀ p, p < P → L p ≤ 9) : f_X0_mostLifts (nI P) lifts = some (nI (maxS (fun _ => true) L P)) := by
  unfold f_X0_mostLifts
  refine loop2_run (fun i => nI (maxS (fun _ => true) L i)) (fun i => nI i) P (fun i hi BB => ?_) (fun BB => ?_) (FU_lt (by omega)) rfl rfl
  · have hc : ¬ P ≤ i := by omega
    have h1 : maxS (fun _ => true) L i ≤ 9 := maxS_le (fun j hj => hb j (by omega))
    have h2 := hb i hi
    by_cases q : maxS (fun _ => true) L i < L i
    · simp (maxSteps := 4000000) (disch := omega) only [hc, hl i hi, maxS, q, bd1_eq, bd2_eq, bd3_eq, bd4_eq, bd5_eq, bd6_eq, lt_eq, jn_eq, gd_in, nI_clamp, nI_eq, nI_leI, nI_ltI, nI_add, L0, L1, L2, L3, L4, L5, L6, L8, L16, L20, L21, Nat.reduceEqDiff, Nat.reduceLeDiff, Nat.reduceLT, Nat.reduceAdd, Nat.reduceMul, reduceIte]
    · simp (maxSteps := 4000000) (disch := omega) only [hc, hl i hi, maxS, q, bd1_eq, bd2_eq, bd3_eq, bd4_eq, bd5_eq, bd6_eq, lt_eq, jn_eq, gd_in, nI_clamp, nI_eq, nI_leI, nI_ltI, nI_add, L0, L1, L2, L3, L4, L5, L6, L8, L16, L20, L21, Nat.reduceEqDiff, Nat.reduceLeDiff, Nat.reduceLT, Nat.reduceAdd, Nat.reduceMul, reduceIte]
  · simp (maxSteps := 4000000) (disch := omega) only [Nat.le_refl, bd1_eq, bd2_eq, bd3_eq, bd4_eq, bd5_eq, bd6_eq, lt_eq, jn_eq, gd_in, nI_clamp, nI_eq, nI_leI, nI_ltI, nI_add, L0, L1, L2, L3, L4, L5, L6, L8, L16, L20, L21, Nat.reduceEqDiff, Nat.reduceLeDiff, Nat.reduceLT, Nat.reduceAdd, Nat.reduceMul, reduceIte]
theorem or_top {p : Nat → Bool} (i : Nat) : nI (bitsOf p i) ||| nI (2 ^ i) = nI (bitsOf p i + 2 ^ i) := by
  rw [fa_or]
  have h := bitsOf_lt p i
  have h2 := Nat.two_pow_add_eq_or_of_lt h 1
  rw [Nat.mul_one] at h2
  rw [Nat.add_comm, h2, Nat.or_comm]
theorem e_thingsIn {room : Nat → Int32} (r : Int32) : f_X1_thingsIn r room = some (nI (bitsOf (fun t => decide (room t = r)) 8)) := by
  unfold f_X1_thingsIn
  refine loop2_run (fun i => nI (bitsOf (fun t => decide (room t = r)) i)) (fun i => nI i) 8 (fun i hi BB => ?_) (fun BB => ?_) (FU_lt (by omega)) rfl rfl
  · have hc : ¬ 8 ≤ i := by omega
    by_cases q : room i = r
    · simp (maxSteps := 4000000) (disch := omega) only [hc, q, bitsOf, decide_true, shl_N (show i < 31 by omega), or_top, bd1_eq, bd2_eq, bd3_eq, bd4_eq, bd5_eq, bd6_eq, lt_eq, jn_eq, gd_in, nI_clamp, nI_eq, nI_leI, nI_ltI, nI_add, L0, L1, L2, L3, L4, L5, L6, L8, L16, L20, L21, Nat.reduceEqDiff, Nat.reduceLeDiff, Nat.reduceLT, Nat.reduceAdd, Nat.reduceMul, reduceIte]
    · simp (maxSteps := 4000000) (disch := omega) only [hc, q, bitsOf, decide_false, Bool.false_eq_true, Nat.add_zero, bd1_eq, bd2_eq, bd3_eq, bd4_eq, bd5_eq, bd6_eq, lt_eq, jn_eq, gd_in, nI_clamp, nI_eq, nI_leI, nI_ltI, nI_add, L0, L1, L2, L3, L4, L5, L6, L8, L16, L20, L21, Nat.reduceEqDiff, Nat.reduceLeDiff, Nat.reduceLT, Nat.reduceAdd, Nat.reduceMul, reduceIte]
  · simp (maxSteps := 4000000) (disch := omega) only [Nat.le_refl, bd1_eq, bd2_eq, bd3_eq, bd4_eq, bd5_eq, bd6_eq, lt_eq, jn_eq, gd_in, nI_clamp, nI_eq, nI_leI, nI_ltI, nI_add, L0, L1, L2, L3, L4, L5, L6, L8, L16, L20, L21, Nat.reduceEqDiff, Nat.reduceLeDiff, Nat.reduceLT, Nat.reduceAdd, Nat.reduceMul, reduceIte]
theorem e_handsTogether {b T : Nat} (hb : b < 2 ^ 31) (hT : T ≤ 8) {hands : Nat → Int32} {Hd : Nat → Nat} (hh : ∀ t, t < T → hands t = nI (Hd t)) : f_X0_handsTogether (nI b) (nI T) hands = some (nI (sumS (fun t => b.testBit t) Hd T)) := by
  unfold f_X0_handsTogether
  refine loop2_run (fun i => nI (sumS (fun t => b.testBit t) Hd i)) (fun i => nI i) T (fun i hi BB => ?_) (fun BB => ?_) (FU_lt (by omega)) rfl rfl
  · have hc : ¬ T ≤ i := by omega
    cases q : b.testBit i
    · simp (maxSteps := 4000000) (disch := omega) only [has_N hb (show i < 31 by omega), q, hc, sumS, maxS, Bool.false_eq_true, Nat.add_zero, bd1_eq, bd2_eq, bd3_eq, bd4_eq, bd5_eq, bd6_eq, lt_eq, jn_eq, gd_in, nI_clamp, nI_eq, nI_leI, nI_ltI, nI_add, L0, L1, L2, L3, L4, L5, L6, L8, L16, L20, L21, Nat.reduceEqDiff, Nat.reduceLeDiff, Nat.reduceLT, Nat.reduceAdd, Nat.reduceMul, reduceIte]
    · simp (maxSteps := 4000000) (disch := omega) only [has_N hb (show i < 31 by omega), q, hc, hh i hi, sumS, bd1_eq, bd2_eq, bd3_eq, bd4_eq, bd5_eq, bd6_eq, lt_eq, jn_eq, gd_in, nI_clamp, nI_eq, nI_leI, nI_ltI, nI_add, L0, L1, L2, L3, L4, L5, L6, L8, L16, L20, L21, Nat.reduceEqDiff, Nat.reduceLeDiff, Nat.reduceLT, Nat.reduceAdd, Nat.reduceMul, reduceIte]
  · simp (maxSteps := 4000000) (disch := omega) only [Nat.le_refl, bd1_eq, bd2_eq, bd3_eq, bd4_eq, bd5_eq, bd6_eq, lt_eq, jn_eq, gd_in, nI_clamp, nI_eq, nI_leI, nI_ltI, nI_add, L0, L1, L2, L3, L4, L5, L6, L8, L16, L20, L21, Nat.reduceEqDiff, Nat.reduceLeDiff, Nat.reduceLT, Nat.reduceAdd, Nat.reduceMul, reduceIte]
theorem e_handsOf {b T : Nat} (hb : b < 2 ^ 31) (hT : T ≤ 8) {hands : Nat → Int32} {Hd : Nat → Nat} (hh : ∀ t, t < T → hands t = nI (Hd t)) (hH : ∀ t, t < T → Hd t ≤ 3) : f_X0_handsOf (nI b) (nI T) hands = some (nI (maxS (fun t => b.testBit t) Hd T)) := by
  unfold f_X0_handsOf
  refine loop2_run (fun i => nI (maxS (fun t => b.testBit t) Hd i)) (fun i => nI i) T (fun i hi BB => ?_) (fun BB => ?_) (FU_lt (by omega)) rfl rfl
  · have hc : ¬ T ≤ i := by omega
    have h1 : maxS (fun t => b.testBit t) Hd i ≤ 3 := maxS_le (fun j hj => hH j (by omega))
    have h2 := hH i hi
    cases q : b.testBit i
    · simp (maxSteps := 4000000) (disch := omega) only [has_N hb (show i < 31 by omega), q, hc, sumS, maxS, Bool.false_eq_true, Nat.add_zero, bd1_eq, bd2_eq, bd3_eq, bd4_eq, bd5_eq, bd6_eq, lt_eq, jn_eq, gd_in, nI_clamp, nI_eq, nI_leI, nI_ltI, nI_add, L0, L1, L2, L3, L4, L5, L6, L8, L16, L20, L21, Nat.reduceEqDiff, Nat.reduceLeDiff, Nat.reduceLT, Nat.reduceAdd, Nat.reduceMul, reduceIte]
    · by_cases q2 : maxS (fun t => b.testBit t) Hd i < Hd i
      · simp (maxSteps := 4000000) (disch := omega) only [has_N hb (show i < 31 by omega), q, hc, hh i hi, maxS, q2, bd1_eq, bd2_eq, bd3_eq, bd4_eq, bd5_eq, bd6_eq, lt_eq, jn_eq, gd_in, nI_clamp, nI_eq, nI_leI, nI_ltI, nI_add, L0, L1, L2, L3, L4, L5, L6, L8, L16, L20, L21, Nat.reduceEqDiff, Nat.reduceLeDiff, Nat.reduceLT, Nat.reduceAdd, Nat.reduceMul, reduceIte]
      · simp (maxSteps := 4000000) (disch := omega) only [has_N hb (show i < 31 by omega), q, hc, hh i hi, maxS, q2, bd1_eq, bd2_eq, bd3_eq, bd4_eq, bd5_eq, bd6_eq, lt_eq, jn_eq, gd_in, nI_clamp, nI_eq, nI_leI, nI_ltI, nI_add, L0, L1, L2, L3, L4, L5, L6, L8, L16, L20, L21, Nat.reduceEqDiff, Nat.reduceLeDiff, Nat.reduceLT, Nat.reduceAdd, Nat.reduceMul, reduceIte]
  · simp (maxSteps := 4000000) (disch := omega) only [Nat.le_refl, bd1_eq, bd2_eq, bd3_eq, bd4_eq, bd5_eq, bd6_eq, lt_eq, jn_eq, gd_in, nI_clamp, nI_eq, nI_leI, nI_ltI, nI_add, L0, L1, L2, L3, L4, L5, L6, L8, L16, L20, L21, Nat.reduceEqDiff, Nat.reduceLeDiff, Nat.reduceLT, Nat.reduceAdd, Nat.reduceMul, reduceIte]
